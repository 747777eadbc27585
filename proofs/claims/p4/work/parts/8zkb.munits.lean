/-! The model's rows of units: unitNode, environment, data, procedure. -/
def fk (D : Nat → TD) (kk : Int32) (l : List Nat) : Option Nat := l.find? (fun c => decide ((D c).1 = kk))
/-- the units among the nodes, in their order -/
def uS (D : Nat → TD) (G : Fo) : List Nat := (ids G).filter (fun x => decide (kd (D x).1 = 1))
theorem uS_app (D : Nat → TD) (A B : Fo) : uS D (A ++ B) = uS D A ++ uS D B := by
  unfold uS
  rw [ids_app, List.filter_append]
theorem uS_upn (D : Nat → TD) (d : Nat) (A : Fo) : uS D (upn d A) = uS D A := by
  unfold uS ids upn
  rw [List.map_map]
  rfl
theorem uS_loc {D D' : Nat → TD} {A : Fo} (h : ∀ x, x ∈ ids A → kd (D' x).1 = kd (D x).1) : uS D' A = uS D A := by
  unfold uS
  refine List.filter_congr (fun x hx => ?_)
  rw [h x hx]
theorem uS_nil {D : Nat → TD} : ∀ {A : Fo}, cQ (tr D A) = 0 → uS D A = []
  | [], _ => rfl
  | e :: t, h => by
    have h' : kd (D e.2).1 + cQ (tr D t) = 0 := h
    have ih := uS_nil (D := D) (A := t) (by omega)
    unfold uS at ih ⊢
    show List.filter _ (e.2 :: ids t) = []
    rw [List.filter_cons_of_neg (by rw [decide_eq_true_eq]; omega)]
    exact ih
def UA (D : Nat → TD) (K : Nat → List Nat) (r : a2_A) (k x : Nat) : Prop := (r fM_unitNode).2 k = Int32.ofNat x ∧ (r fM_environment).2 k = o0 (fk D 3 (K x)) ∧ (r fM_data).2 k = o0 (fk D 7 (K x)) ∧ (r fM_procedure).2 k = o0 (fk D 20 (K x))
/-- the rows of units, and what the innermost unit has not got yet -/
def UMx (c : CU) (is : List Nat) (n : Nat) (D : Nat → TD) (K : Nat → List Nat) (un : Nat) (r : a2_A) : Prop :=
  (∃ X : List Nat, X.length = un ∧ (∀ k x, X[k]? = some x → x < n ∧ UA D K r k x) ∧ ∀ G, Dn K 0 G → uS D G = X) ∧
  (0 ≤ (oT c).toInt → ∀ t, is[oN c]? = some t → ((oT c).toInt ≤ 1 → fk D 3 (K t) = none) ∧ ((oT c).toInt ≤ 2 → fk D 7 (K t) = none) ∧ ((oT c).toInt ≤ 7 → fk D 20 (K t) = none))
/-- what was hung where -/
def Atd (n : Nat) (D : Nat → TD) (K : Nat → List Nat) (i : Nat) (is : List Nat) (dd : TD) (F : Tf) (n' : Nat) (D' : Nat → TD) (K' : Nat → List Nat) : Prop := ∃ t, is[i]? = some t ∧ t < n ∧ (∀ y, y < n → y ≠ t → K' y = K y) ∧ K' t = K t ++ [n] ∧ (∀ y, y < n → D' y = D y) ∧ Tr K' D' n n' n (nd dd F)
section
variable {n n' : Nat} {D D' : Nat → TD} {K K' : Nat → List Nat} {c c' : CU} {is : List Nat} {un i : Nat} {r r' : a2_A} {ch : List Ce} {dd : TD} {F : Tf}
theorem fk_loc {kk : Int32} : ∀ {l : List Nat}, (∀ y, y ∈ l → (D' y).1 = (D y).1 ∨ (D' y).1 ≠ kk ∧ (D y).1 ≠ kk) → fk D' kk l = fk D kk l
  | [], _ => rfl
  | y :: l, h => by
    have ih := fk_loc (l := l) (fun z hz => h z (List.mem_cons_of_mem _ hz))
    have e : decide ((D' y).1 = kk) = decide ((D y).1 = kk) := by
      rcases h y List.mem_cons_self with e | ⟨e1, e2⟩
      · rw [e]
      · rw [decide_eq_false e1, decide_eq_false e2]
    unfold fk at ih ⊢
    rw [List.find?_cons, List.find?_cons, e, ih]
theorem fk_app {kk : Int32} {l : List Nat} {v : Nat} (h : (D v).1 ≠ kk) : fk D kk (l ++ [v]) = fk D kk l := by
  unfold fk
  rw [List.find?_append]
  have : List.find? (fun c => decide ((D c).1 = kk)) [v] = none := by
    rw [List.find?_cons_of_neg (by rw [decide_eq_true_eq]; exact h)]
    rfl
  rw [this]
  cases List.find? (fun c => decide ((D c).1 = kk)) l <;> rfl
theorem fk_new {kk : Int32} {l : List Nat} {v : Nat} (h0 : fk D kk l = none) (h : (D v).1 = kk) : fk D kk (l ++ [v]) = some v := by
  unfold fk at h0 ⊢
  rw [List.find?_append, h0, List.find?_cons_of_pos (by rw [decide_eq_true_eq]; exact h)]
  rfl
/-- the same chain of rows -/
def rowsU (r r' : a2_A) : Prop := r' fM_unitNode = r fM_unitNode ∧ r' fM_environment = r fM_environment ∧ r' fM_data = r fM_data ∧ r' fM_procedure = r fM_procedure
theorem rowsU.rf : rowsU r r := ⟨rfl, rfl, rfl, rfl⟩
/-- the tree's list of nodes grows at its end -/
theorem Atd.grow (ha : Atd n D K i is dd F n' D' K') (hZ : Zc K D n is ch) (h0 : Pt is 0 0) (hn : n < 2147483648) {G : Fo} (hG : Dn K 0 G) : ∃ A, Dn K' n A ∧ tr D' A = nd dd F ∧ Dn K' 0 (G ++ upn (i + 1) A) ∧ ∀ x, x ∈ ids G → x < n := by
  obtain ⟨t, h1, h2, h3, h4, h5, A, h6, h7, h8, h9⟩ := ha
  cases is with
  | nil =>
    obtain ⟨t, e, -⟩ := h0
    cases e
  | cons v l =>
    have hv : v = 0 := by
      obtain ⟨t, e, e2⟩ := h0
      cases e
      have hv := (Zc.ge (i := 0) hZ rfl).2
      have := congrArg Int32.toInt e2
      rw [on_eq (by omega)] at this
      have h00 : (0 : Int32).toInt = 0 := rfl
      omega
    subst hv
    obtain ⟨G', g1, g2, g3, g4⟩ := hZ.tr
    have eG : G = G' := by
      obtain ⟨k, hk⟩ := hG
      obtain ⟨k', hk'⟩ := g1
      have e1 := po_le hk (Nat.le_max_left k k')
      have e2 := po_le hk' (Nat.le_max_right k k')
      rw [e1] at e2
      exact Option.some.inj e2
    subst eG
    exact ⟨A, h6, h7.symm, Zc.pre hZ h1 hG g4.1 (fun x hx => (g3 x hx).2) h3 h4 h6, fun x hx => (g3 x hx).2⟩
theorem UMx.att (hX : UMx c is n D K un r) (hZ : Zc K D n is ch) (h0 : Pt is 0 0) (hn : n < 2147483648) (hk : ∀ j y, j < n → y ∈ K j → y < n) (ha : Atd n D K i is dd F n' D' K') (hq : cQ (nd dd F) = 0) (hd : dd.1 ≠ 3 ∧ dd.1 ≠ 7 ∧ dd.1 ≠ 20) (hr : rowsU r r') (hN : oN c' = oN c) (hT : ((oT c').toInt ≤ 1 → (oT c).toInt ≤ 1) ∧ ((oT c').toInt ≤ 2 → (oT c).toInt ≤ 2) ∧ ((oT c').toInt ≤ 7 → (oT c).toInt ≤ 7)) (hT0 : 0 ≤ (oT c).toInt) (hi : oN c ≤ i) : UMx c' (attI i is n) n' D' K' un r' := by
  obtain ⟨⟨X, x1, x2, x3⟩, x4⟩ := hX
  have hgr := fun (G : Fo) (hG : Dn K 0 G) => ha.grow hZ h0 hn hG
  obtain ⟨t, h1, h2, h3, h4, h5, h6⟩ := ha
  have rv := h6.rg
  have hdn : (D' n).1 = dd.1 := by rw [h6.da]
  have hfk : ∀ kk, dd.1 ≠ kk → ∀ x, x < n → fk D' kk (K' x) = fk D kk (K x) := by
    intro kk hkk x hx
    have e1 : fk D' kk (K x) = fk D kk (K x) := fk_loc (fun y hy => Or.inl (by rw [h5 y (hk x y hx hy)]))
    by_cases e : x = t
    · rw [e, h4, fk_app (by rw [hdn]; exact hkk), ← e, e1]
    · rw [h3 x hx e, e1]
  obtain ⟨r1, r2, r3, r4⟩ := hr
  obtain ⟨G0, hG0⟩ : ∃ G, Dn K 0 G := by
    cases is with
    | nil =>
      obtain ⟨t, e, -⟩ := h0
      cases e
    | cons v l =>
      obtain ⟨G, hG, -⟩ := hZ.tr
      obtain ⟨t, e, e2⟩ := h0
      cases e
      have hv := (Zc.ge (i := 0) hZ rfl).2
      have := congrArg Int32.toInt e2
      rw [on_eq (by omega)] at this
      have h00 : (0 : Int32).toInt = 0 := rfl
      have hv0 : v = 0 := by omega
      subst hv0
      exact ⟨G, hG⟩
  refine ⟨⟨X, x1, fun k x hx => ?_, fun G hG => ?_⟩, fun _ t' ht' => ?_⟩
  · obtain ⟨y1, y2, y3, y4, y5⟩ := x2 k x hx
    refine ⟨by omega, ?_⟩
    unfold UA
    rw [r1, r2, r3, r4, hfk 3 hd.1 x y1, hfk 7 hd.2.1 x y1, hfk 20 hd.2.2 x y1]
    exact ⟨y2, y3, y4, y5⟩
  · obtain ⟨A, a1, a2, a3, a4⟩ := hgr G0 hG0
    have eG : G = G0 ++ upn (i + 1) A := by
      obtain ⟨k, hk⟩ := hG
      obtain ⟨k', hk'⟩ := a3
      have e1 := po_le hk (Nat.le_max_left k k')
      have e2 := po_le hk' (Nat.le_max_right k k')
      rw [e1] at e2
      exact Option.some.inj e2
    have eA : uS D' A = [] := uS_nil (by rw [a2]; exact hq)
    have e0 : uS D' G0 = uS D G0 := uS_loc (fun x hx => by rw [h5 x (a4 x hx)])
    rw [eG, uS_app, uS_upn, eA, List.append_nil, e0]
    exact x3 G0 hG0
  · have hlt : i < is.length := (List.getElem?_eq_some_iff.mp h1).1
    rw [hN, attI_old hi hlt] at ht'
    have htn := (Zc.ge hZ ht').2
    obtain ⟨z1, z2, z3⟩ := x4 hT0 t' ht'
    rw [hfk 3 hd.1 t' htn, hfk 7 hd.2.1 t' htn, hfk 20 hd.2.2 t' htn]
    exact ⟨fun e => z1 (hT.1 e), fun e => z2 (hT.2.1 e), fun e => z3 (hT.2.2 e)⟩
theorem UMx.no (hX : UMx c is n D K un r) (hr : rowsU r r') (h : (oT c').toInt < 0 ∨ 7 < (oT c').toInt) : UMx c' is n D K un r' := by
  obtain ⟨⟨X, x1, x2, x3⟩, x4⟩ := hX
  obtain ⟨r1, r2, r3, r4⟩ := hr
  refine ⟨⟨X, x1, fun k x hx => ?_, x3⟩, fun h0 => by omega⟩
  obtain ⟨y1, y2⟩ := x2 k x hx
  refine ⟨y1, ?_⟩
  unfold UA at y2 ⊢
  rw [r1, r2, r3, r4]
  exact y2
theorem Dn.fn {v : Nat} {G G' : Fo} (h : Dn K v G) (h' : Dn K v G') : G = G' := by
  obtain ⟨k, hk⟩ := h
  obtain ⟨k', hk'⟩ := h'
  have e1 := po_le hk (Nat.le_max_left k k')
  have e2 := po_le hk' (Nat.le_max_right k k')
  rw [e1] at e2
  exact Option.some.inj e2
theorem Zc.dn (hZ : Zc K D n is ch) (h0 : Pt is 0 0) (hn : n < 2147483648) : ∃ G, Dn K 0 G ∧ (∀ x, x ∈ ids G → x < n) ∧ (ids G).Nodup := by
  cases is with
  | nil =>
    obtain ⟨t, e, -⟩ := h0
    cases e
  | cons v l =>
    obtain ⟨G, hG, -, g1, g2⟩ := hZ.tr
    obtain ⟨t, e, e2⟩ := h0
    cases e
    have hv := (Zc.ge (i := 0) hZ rfl).2
    have := congrArg Int32.toInt e2
    rw [on_eq (by omega)] at this
    have h00 : (0 : Int32).toInt = 0 := rfl
    have hv0 : v = 0 := by omega
    subst hv0
    exact ⟨G, hG, fun x hx => (g1 x hx).2, g2.1⟩
theorem nd_ix : ∀ {l : List Nat} {i j v : Nat}, l.Nodup → l[i]? = some v → l[j]? = some v → i = j
  | [], _, _, _, _, h, _ => by cases h
  | a :: l, 0, 0, _, _, _, _ => rfl
  | a :: l, i + 1, j + 1, v, hn, h1, h2 => by
    rw [nd_ix (List.nodup_cons.mp hn).2 (show l[i]? = some v from h1) (show l[j]? = some v from h2)]
  | a :: l, 0, j + 1, v, hn, h1, h2 => by
    cases h1
    exact absurd (List.mem_of_getElem? (show l[j]? = some a from h2)) (List.nodup_cons.mp hn).1
  | a :: l, i + 1, 0, v, hn, h1, h2 => by
    cases h2
    exact absurd (List.mem_of_getElem? (show l[i]? = some a from h1)) (List.nodup_cons.mp hn).1
/-- a division's heading -/
def rowsH (kk : Int32) (k0 : Nat) (v : Int32) (r r' : a2_A) : Prop := (r' fM_unitNode).2 = (r fM_unitNode).2 ∧ (r' fM_environment).2 = (if kk = 3 then upd (r fM_environment).2 k0 v else (r fM_environment).2) ∧ (r' fM_data).2 = (if kk = 7 then upd (r fM_data).2 k0 v else (r fM_data).2) ∧ (r' fM_procedure).2 = (if kk = 20 then upd (r fM_procedure).2 k0 v else (r fM_procedure).2)
theorem UMx.hd {kk : Int32} {k0 t0 : Nat} (hX : UMx c is n D K un r) (hZ : Zc K D n is ch) (h0 : Pt is 0 0) (hn : n < 2147483648) (hk : ∀ j y, j < n → y ∈ K j → y < n) (ha : Atd n D K (oN c) is dd F n' D' K') (hq : cQ (nd dd F) = 0) (hd : dd.1 = kk) (ht0 : is[oN c]? = some t0) (hk0 : k0 < un) (hun : (r fM_unitNode).2 k0 = Int32.ofNat t0) (hr : rowsH kk k0 (Int32.ofNat n) r r') (hN : oN c' = oN c) (hT0 : 0 ≤ (oT c).toInt) (hkk : kk = 3 ∧ (oT c).toInt ≤ 1 ∧ (oT c').toInt = 2 ∨ kk = 7 ∧ (oT c).toInt ≤ 2 ∧ (oT c').toInt = 3 ∨ kk = 20 ∧ (oT c).toInt ≤ 7 ∧ (oT c').toInt = 8) : UMx c' (attI (oN c) is n) n' D' K' un r' := by
  obtain ⟨⟨X, x1, x2, x3⟩, x4⟩ := hX
  have hgr := fun (G : Fo) (hG : Dn K 0 G) => ha.grow hZ h0 hn hG
  obtain ⟨t, h1, h2, h3, h4, h5, h6⟩ := ha
  have ett : t = t0 := Option.some.inj (h1.symm.trans ht0)
  subst ett
  have rv := h6.rg
  have hdn : (D' n).1 = kk := by rw [h6.da]; exact hd
  obtain ⟨z1, z2, z3⟩ := x4 hT0 t h1
  have hnone : fk D kk (K t) = none := by
    rcases hkk with ⟨rfl, e, -⟩ | ⟨rfl, e, -⟩ | ⟨rfl, e, -⟩
    · exact z1 e
    · exact z2 e
    · exact z3 e
  have hold : ∀ k2 x, x < n → fk D' k2 (K x) = fk D k2 (K x) := fun k2 x hx => fk_loc (fun y hy => Or.inl (by rw [h5 y (hk x y hx hy)]))
  have hfk : ∀ k2, kk ≠ k2 → ∀ x, x < n → fk D' k2 (K' x) = fk D k2 (K x) := by
    intro k2 hk2 x hx
    by_cases e : x = t
    · rw [e, h4, fk_app (by rw [hdn]; exact hk2), hold k2 t h2]
    · rw [h3 x hx e, hold k2 x hx]
  have hfn : ∀ x, x < n → x ≠ t → fk D' kk (K' x) = fk D kk (K x) := fun x hx e => by rw [h3 x hx e, hold kk x hx]
  have hft : fk D' kk (K' t) = some n := by
    rw [h4]
    exact fk_new (by rw [hold kk t h2]; exact hnone) hdn
  obtain ⟨r1, r2, r3, r4⟩ := hr
  obtain ⟨G0, hG0, gl, gn⟩ := hZ.dn h0 hn
  have hXn : X.Nodup := by
    rw [← x3 G0 hG0]
    exact gn.filter _
  have hX0 : X[k0]? = some t := by
    have hl : k0 < X.length := by omega
    obtain ⟨y1, y2⟩ := x2 k0 X[k0] (List.getElem?_eq_getElem hl)
    rw [List.getElem?_eq_getElem hl]
    have e := y2.1
    rw [hun] at e
    rw [← oN_inj (by omega) (by omega) e]
  refine ⟨⟨X, x1, fun k x hx => ?_, fun G hG => ?_⟩, fun _ t' ht' => ?_⟩
  · obtain ⟨y1, y2, y3, y4, y5⟩ := x2 k x hx
    refine ⟨by omega, ?_⟩
    have hkx : x = t ↔ k = k0 := by
      refine ⟨fun e => ?_, fun e => ?_⟩
      · rw [e] at hx
        exact nd_ix hXn hx hX0
      · rw [e, hX0] at hx
        exact (Option.some.inj hx).symm
    have hrow : ∀ (k2 : Int32) (a a' : Nat → Int32), a' = (if kk = k2 then upd a k0 (Int32.ofNat n) else a) → a k = o0 (fk D k2 (K x)) → a' k = o0 (fk D' k2 (K' x)) := by
      intro k2 a a' ea eo
      rw [ea]
      by_cases c2 : kk = k2
      · rw [if_pos c2, ← c2]
        by_cases ek : k = k0
        · rw [ek, upd_eq, hkx.mpr ek, hft]
          rfl
        · rw [upd_ne ek, hfn x y1 (fun e => ek (hkx.mp e)), c2]
          exact eo
      · rw [if_neg c2, hfk k2 c2 x y1]
        exact eo
    exact ⟨by rw [r1]; exact y2, hrow 3 _ _ r2 y3, hrow 7 _ _ r3 y4, hrow 20 _ _ r4 y5⟩
  · obtain ⟨A, a1, a2, a3, a4⟩ := hgr G0 hG0
    have eA : uS D' A = [] := uS_nil (by rw [a2]; exact hq)
    have e0 : uS D' G0 = uS D G0 := uS_loc (fun x hx => by rw [h5 x (a4 x hx)])
    rw [hG.fn a3, uS_app, uS_upn, eA, List.append_nil, e0]
    exact x3 G0 hG0
  · have hlt : oN c < is.length := (List.getElem?_eq_some_iff.mp h1).1
    rw [hN, attI_old (Nat.le_refl _) hlt, h1] at ht'
    cases ht'
    rcases hkk with ⟨e1, e2, e3⟩ | ⟨e1, e2, e3⟩ | ⟨e1, e2, e3⟩
    · refine ⟨fun e => by omega, fun e => ?_, fun e => ?_⟩
      · rw [hfk 7 (by rw [e1]; decide) t h2]
        exact z2 (by omega)
      · rw [hfk 20 (by rw [e1]; decide) t h2]
        exact z3 (by omega)
    · refine ⟨fun e => by omega, fun e => by omega, fun e => ?_⟩
      rw [hfk 20 (by rw [e1]; decide) t h2]
      exact z3 (by omega)
    · exact ⟨fun e => by omega, fun e => by omega, fun e => by omega⟩
theorem DnL.nil_inv {l : List Nat} (h : DnL K l []) : l = [] := by
  obtain ⟨k, h⟩ := h
  cases l with
  | nil => rfl
  | cons x l =>
    obtain ⟨a, b, h1, -, h3⟩ := poL_cons.mp h
    obtain ⟨G, rfl⟩ := po_hd h1
    cases h3
/-- a unit begun -/
def rowsI (un : Nat) (v : Int32) (r r' : a2_A) : Prop := (r' fM_unitNode).2 = upd (r fM_unitNode).2 un v ∧ (r' fM_environment).2 = upd (r fM_environment).2 un 0 ∧ (r' fM_data).2 = upd (r fM_data).2 un 0 ∧ (r' fM_procedure).2 = upd (r fM_procedure).2 un 0
theorem UMx.id (hX : UMx c is n D K un r) (hZ : Zc K D n is ch) (h0 : Pt is 0 0) (hn : n < 2147483648) (hk : ∀ j y, j < n → y ∈ K j → y < n) (ha : Atd n D K (oN c) is dd [] n' D' K') (hd : dd.1 = 1) (hr : rowsI un (Int32.ofNat n) r r') (hN : oN c' = oN c + 1) : UMx c' (attI (oN c) is n) n' D' K' (un + 1) r' := by
  obtain ⟨⟨X, x1, x2, x3⟩, -⟩ := hX
  have hgr := fun (G : Fo) (hG : Dn K 0 G) => ha.grow hZ h0 hn hG
  obtain ⟨t, h1, h2, h3, h4, h5, h6⟩ := ha
  have rv := h6.rg
  have hdn : (D' n).1 = 1 := by rw [h6.da]; exact hd
  have hKn : K' n = [] := by
    obtain ⟨A, ⟨k, hA⟩, e2, -⟩ := h6
    cases k with
    | zero => cases hA
    | succ k =>
      obtain ⟨G, g1, rfl⟩ := po_succ.mp hA
      have : tr D' (up1 G) = [] := (List.cons.inj e2).2.symm
      have hG : G = [] := by
        unfold tr up1 at this
        rw [List.map_map] at this
        exact List.map_eq_nil_iff.mp this
      subst hG
      exact DnL.nil_inv ⟨k, g1⟩
  have hfk : ∀ k2, (1 : Int32) ≠ k2 → ∀ x, x < n → fk D' k2 (K' x) = fk D k2 (K x) := by
    intro k2 hk2 x hx
    have hold : fk D' k2 (K x) = fk D k2 (K x) := fk_loc (fun y hy => Or.inl (by rw [h5 y (hk x y hx hy)]))
    by_cases e : x = t
    · rw [e, h4, fk_app (by rw [hdn]; exact hk2), ← e, hold]
    · rw [h3 x hx e, hold]
  obtain ⟨r1, r2, r3, r4⟩ := hr
  obtain ⟨G0, hG0, gl, gn⟩ := hZ.dn h0 hn
  refine ⟨⟨X ++ [n], by rw [List.length_append, x1]; rfl, fun k x hx => ?_, fun G hG => ?_⟩, fun _ t' ht' => ?_⟩
  · by_cases hkl : k < un
    · rw [List.getElem?_append_left (by omega)] at hx
      obtain ⟨y1, y2, y3, y4, y5⟩ := x2 k x hx
      refine ⟨by omega, ?_⟩
      unfold UA
      rw [r1, r2, r3, r4, upd_ne (by omega), upd_ne (by omega), upd_ne (by omega), upd_ne (by omega), hfk 3 (by decide) x y1, hfk 7 (by decide) x y1, hfk 20 (by decide) x y1]
      exact ⟨y2, y3, y4, y5⟩
    · rw [List.getElem?_append_right (by omega)] at hx
      have hk2 : k = un := by
        have := (List.getElem?_eq_some_iff.mp hx).1
        have hl1 : [n].length = 1 := rfl
        omega
      rw [hk2, x1, Nat.sub_self] at hx
      cases hx
      refine ⟨rv.2, ?_⟩
      unfold UA
      rw [r1, r2, r3, r4, hk2, upd_eq, upd_eq, upd_eq, upd_eq, hKn]
      exact ⟨rfl, rfl, rfl, rfl⟩
  · obtain ⟨A, a1, a2, a3, a4⟩ := hgr G0 hG0
    have eA : uS D' A = [n] := by
      obtain ⟨k, hA⟩ := a1
      obtain ⟨H, rfl⟩ := po_hd hA
      have : tr D' (up1 H) = [] := (List.cons.inj a2).2
      have hu : up1 H = [] := List.map_eq_nil_iff.mp this
      rw [hu]
      unfold uS
      show List.filter _ [n] = [n]
      rw [List.filter_cons_of_pos (by rw [hdn]; rfl)]
      rfl
    have e0 : uS D' G0 = uS D G0 := uS_loc (fun x hx => by rw [h5 x (a4 x hx)])
    rw [hG.fn a3, uS_app, uS_upn, eA, e0, x3 G0 hG0]
  · have hlt : oN c < is.length := (List.getElem?_eq_some_iff.mp h1).1
    rw [hN, attI_new hlt] at ht'
    cases ht'
    rw [hKn]
    exact ⟨fun _ => rfl, fun _ => rfl, fun _ => rfl⟩
/-- a unit named -/
theorem UMx.nm {t : Nat} {d' : TD} (hX : UMx c is n D K un r) (hr : rowsU r r') (hN : oN c' = oN c) (hT : (oT c).toInt = 0) (ht : is[oN c]? = some t) (h1 : (D t).1 = 1) (h2 : d'.1 = 1 ∨ d'.1 = 2) : UMx c' is n (fD D t d') K un r' := by
  obtain ⟨⟨X, x1, x2, x3⟩, x4⟩ := hX
  obtain ⟨r1, r2, r3, r4⟩ := hr
  have hne : ∀ k2 : Int32, k2 = 3 ∨ k2 = 7 ∨ k2 = 20 → ∀ l, fk (fD D t d') k2 l = fk D k2 l := by
    intro k2 hk2 l
    refine fk_loc (fun y _ => ?_)
    by_cases e : y = t
    · right
      rw [e, fD_eq, h1]
      rcases hk2 with rfl | rfl | rfl <;> rcases h2 with e2 | e2 <;> rw [e2] <;> decide
    · left
      rw [fD_ne e]
  refine ⟨⟨X, x1, fun k x hx => ?_, fun G hG => ?_⟩, fun _ t' ht' => ?_⟩
  · obtain ⟨y1, y2⟩ := x2 k x hx
    refine ⟨y1, ?_⟩
    unfold UA at y2 ⊢
    rw [r1, r2, r3, r4, hne 3 (Or.inl rfl), hne 7 (Or.inr (Or.inl rfl)), hne 20 (Or.inr (Or.inr rfl))]
    exact y2
  · rw [← x3 G hG]
    refine uS_loc (fun x _ => ?_)
    by_cases e : x = t
    · rw [e, fD_eq, h1]
      rcases h2 with e2 | e2 <;> rw [e2] <;> rfl
    · rw [fD_ne e]
  · rw [hN] at ht'
    obtain ⟨z1, z2, z3⟩ := x4 (by omega) t' ht'
    rw [hne 3 (Or.inl rfl), hne 7 (Or.inr (Or.inl rfl)), hne 20 (Or.inr (Or.inr rfl))]
    exact ⟨fun _ => z1 (by omega), fun _ => z2 (by omega), fun _ => z3 (by omega)⟩
end
/-- the same, with what is known of all nodes -/
def UMz (c : CU) (is : List Nat) (n : Nat) (D : Nat → TD) (K : Nat → List Nat) (un : Nat) (r : a2_A) : Prop := UMx c is n D K un r ∧ (∀ j y, j < n → y ∈ K j → y < n) ∧ n ≤ 8000
theorem Gd.rows {w : Ws} {f : Gh} {p : Nat} {g : a2_G} {r : a2_A} (h : Gd w f p g r) : rowsU f.2.2 r := ⟨h.1.2.2.1.2 _ (by decide), h.1.2.2.1.2 _ (by decide), h.1.2.2.1.2 _ (by decide), h.1.2.2.1.2 _ (by decide)⟩
section
variable {n n' : Nat} {D D' : Nat → TD} {K K' : Nat → List Nat} {c c' : CU} {is : List Nat} {un i : Nat} {r r' : a2_A} {ch : List Ce} {dd : TD} {F : Tf}
theorem UMz.att (hX : UMz c is n D K un r) (hZ : Zc K D n is ch) (h0 : Pt is 0 0) (ha : Atd n D K i is dd F n' D' K') (hq : cQ (nd dd F) = 0) (hd : dd.1 ≠ 3 ∧ dd.1 ≠ 7 ∧ dd.1 ≠ 20) (hr : rowsU r r') (hN : oN c' = oN c) (hT : ((oT c').toInt ≤ 1 → (oT c).toInt ≤ 1) ∧ ((oT c').toInt ≤ 2 → (oT c).toInt ≤ 2) ∧ ((oT c').toInt ≤ 7 → (oT c).toInt ≤ 7)) (hT0 : 0 ≤ (oT c).toInt) (hi : oN c ≤ i) : UMx c' (attI i is n) n' D' K' un r' := hX.1.att hZ h0 (by have := hX.2.2; omega) hX.2.1 ha hq hd hr hN hT hT0 hi
/-- in the procedure division -/
theorem UMz.atp (hX : UMz c is n D K un r) (hZ : Zc K D n is ch) (h0 : Pt is 0 0) (ha : Atd n D K i is dd F n' D' K') (hq : cQ (nd dd F) = 0) (hd : dd.1 ≠ 3 ∧ dd.1 ≠ 7 ∧ dd.1 ≠ 20) (hr : rowsU r r') (hN : oN c ≤ i) (hT0 : 0 ≤ (oT c).toInt) (h7 : 7 < (oT c').toInt) : UMx c' (attI i is n) n' D' K' un r' := (hX.1.att (c' := c) hZ h0 (by have := hX.2.2; omega) hX.2.1 ha hq hd hr rfl ⟨id, id, id⟩ hT0 hN).no rowsU.rf (Or.inr h7)
end
