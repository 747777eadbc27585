/-! The model's clauses with their trees: units begun and named, items. -/
theorem ren_c (j : Nat) (a : Ce) (l : List Ce) (k v : Int32) : renC (j + 1) (a :: l) k v = a :: renC j l k v := by
  unfold renC
  rw [List.getElem?_cons_succ]
  cases l[j]? <;> rfl
theorem ren_att : ∀ {i : Nat} {ch : List Ce} {dd : TD} {F : Tf} {k v : Int32}, i < ch.length → renC (i + 1) (attC i ch (dd, F)) k v = attC i ch ((k, v, dd.2.2.1, dd.2.2.2), F)
  | _, [], _, _, _, _, h => absurd h (Nat.not_lt_zero _)
  | 0, a :: c, dd, F, k, v, _ => rfl
  | i + 1, a :: c, dd, F, k, v, h => by
    show renC (i + 1 + 1) (a :: attC i c (dd, F)) k v = a :: attC i c ((k, v, dd.2.2.1, dd.2.2.2), F)
    rw [ren_c, ren_att (Nat.lt_of_succ_lt_succ h)]
theorem ren_set {j : Nat} {l : List Ce} {e : Ce} (h : (renC j l 1 0)[j]? = some e) (k v : Int32) : (renC j l 1 0).set j ((k, v, e.1.2.2.1, e.1.2.2.2), e.2) = renC j l k v := by
  unfold renC at h ⊢
  cases hl : l[j]? with
  | none =>
    rw [hl] at h
    have h' : l[j]? = some e := h
    rw [hl] at h'
    cases h'
  | some e0 =>
    rw [hl] at h
    have hj := (List.getElem?_eq_some_iff.mp hl).1
    have h' : (l.set j ((1, 0, e0.1.2.2.1, e0.1.2.2.2), e0.2))[j]? = some e := h
    rw [List.getElem?_set_self hj] at h'
    cases h'
    show (l.set j _).set j _ = l.set j _
    rw [List.set_set]
theorem rz_ren {j : Nat} {a : Ce} {l : List Ce} {k v : Int32} : rz (renC (j + 1) (a :: l) k v) = ((0, 0, 0, -1), a.2) :: renC j l k v := by
  rw [ren_c]
  rfl
section
variable {L : Nat} {xs : Nat → Int32} {m d k : Nat} {w : Ws} {f : Gh} {p q : Nat} {c : CU} {x : Xs} {un : Nat} {g : a2_G} {r : a2_A} {kv : Int32 → a2_G → a2_A → Option fn_Z} {kn : a2_G → a2_A → Option fn_Z} {Q : Option Value → a2_G → a2_A → Prop} {X : Nat → a2_G → a2_A → Prop} {n : Nat} {D : Nat → TD} {K : Nat → List Nat} {N : Nat → Int32} {ids : List Nat} {ch : List Ce} {dd : TD} {F : Tf}
theorem zid_172 (x1 x2 x3 : Int32) {n0 : Nat} {r' rB : a2_A} {DB : Nat → TD} {KB : Nat → List Nat} (hX : UMz c ids n0 DB KB un rB) (hZB : Zc KB DB n0 ids (rz x.1)) (hatd : Atd n0 DB KB (oN c) ids (1, 0, Int32.ofNat p, -1) [] n D K) (hrw : rowsU rB r') (hM : Mc c g r) (hH : HM (oN c) (oT c).toInt (oI c) x.2 ids g r) (hL : ML r) (hR : Rm n D K g r') (hZ : Zc K D n (attI (oN c) ids n0) (rz (attC (oN c) x.1 ((1, 0, Int32.ofNat p, -1), [])))) (hl : oN c < x.1.length) (hi : oN c < ids.length) (hU : (g fM_units).toInt = (un : Int)) (hat : (g fM_at).toInt = (q : Int)) (e1 : r' fM_its = r fM_its) (e2 : r' fM_unitNode = r fM_unitNode) : pl (BM_identified_172 L xs (m + 1) d k x1 x2 x3 (Int32.ofNat n0) g r') (kMT f (some (q, attC (oN c) x.1 ((0, 0, Int32.ofNat p, -1), []), x.2)) (sO (sS c 12)) (un + 1)) kN := by
  unfold BM_identified_172
  refine pl_if (fun c1 => pl_if (fun _ => pl_if (fun _ => pl_if (fun _ => pl_if (fun _ => pl_if (fun _ => pl_if (fun _ => pl_if (fun _ => ?_) (fun _ => trivial)) (fun _ => trivial)) (fun _ => trivial)) (fun _ => trivial)) (fun _ => trivial)) (fun _ => trivial)) (fun _ => trivial)) (fun _ => trivial)
  rw [inr_eq, e2, hL.at 14, hU] at c1
  have eu : (g fM_units).toNatClampNeg = un := tn_at hU
  have eo : (g fM_open).toNatClampNeg = oN c := tn_at hM.1
  have hinc : (g fM_units + 1).toInt = ((un + 1 : Nat) : Int) := by
    rw [i32_inc (by omega), hU]
    rfl
  have eN : oN (sO (sS c 12)) = oN c + 1 := congrArg (· + 1) oN_ss
  have eT : oT (sO (sS c 12)) = 0 := by
    unfold oT
    rw [eN, if_neg (by omega)]
    show upd (oS (sS c 12)) (oN (sS c 12)) 0 (oN c + 1 - 1) = 0
    rw [oN_ss]
    exact upd_eq
  rw [eu, eo]
  refine ⟨rfl, Or.inr ⟨q, _, rfl, hat, hinc, n, D, K, attI (oN c) ids n0, hR.cg, ?_, ?_, ?_, fun j y hj hy => (hR.2.2.2.kid hj hy).2, hR.2.2.1⟩⟩
  · show Zc K D n _ (rz (uz (sO (sS c 12)) (attC (oN c) x.1 ((0, 0, Int32.ofNat p, -1), []))))
    unfold uz
    rw [if_pos eT, eN, ren_att hl]
    exact hZ
  · rw [eT, eN]
    refine ⟨hH.1.att (by omega) hi, ⟨?_, fun i hi2 => ?_⟩, fun e => absurd e (by decide), fun e => absurd e (by decide), fun e => absurd e (by decide), fun e => absurd e (by decide), fun e => absurd e (by decide)⟩
    · show 0 ≤ (g fM_units + 1).toInt
      omega
    · show (0 ≤ (upd (r' fM_its).2 (oN c) (g fM_units) i).toInt ∧ (upd (r' fM_its).2 (oN c) (g fM_units) i).toInt < (g fM_units + 1).toInt) ∧ Pt _ (i + 1) (upd (r' fM_unitNode).2 un (Int32.ofNat n0) (upd (r' fM_its).2 (oN c) (g fM_units) i).toNatClampNeg)
      by_cases ei : i = oN c
      · rw [ei, upd_eq, eu, upd_eq]
        exact ⟨by omega, Pt.new hi⟩
      · rw [upd_ne ei, e1, e2]
        obtain ⟨h1, h2⟩ := hH.2.1.2 i (by omega)
        rw [hU] at h1
        refine ⟨by omega, ?_⟩
        rw [upd_ne (fun e => ?_)]
        · exact h2.att (by omega) hi
        · rw [nc_eq] at e
          omega
  · refine hX.1.id hZB hH.1 (by have := hX.2.2; omega) hX.2.1 hatd rfl ⟨?_, ?_, ?_, ?_⟩ eN
    · show upd (r' fM_unitNode).2 un _ = _
      rw [hrw.1]
    · show upd (r' fM_environment).2 un _ = _
      rw [hrw.2.1]
    · show upd (r' fM_data).2 un _ = _
      rw [hrw.2.2.1]
    · show upd (r' fM_procedure).2 un _ = _
      rw [hrw.2.2.2]
theorem zid_142 (hM : Mc c f.2.1 f.2.2) (hH : HM (oN c) (oT c).toInt (oI c) x.2 ids f.2.1 f.2.2) (hZ : Zc K D n ids (rz x.1)) (hU : (f.2.1 fM_units).toInt = (un : Int)) (hX : UMz c ids n D K un f.2.2) (hn1 : 1 ≤ n) (x1 x2 x3 : Int32) {x5 : Int32} (h5 : Pt ids (oN c) x5) (h : Wn NP w f n D K N q n (nd (1, 0, Int32.ofNat p, -1) []) g r) : pl (BM_identified_142 L xs (m + 1) d k x1 x2 x3 (Int32.ofNat n) x5 g r) (kMT f (some (q, attC (oN c) x.1 ((0, 0, Int32.ofNat p, -1), []), x.2)) (sO (sS c 12)) (un + 1)) kN := by
  have hx := rz_ne hZ hH.1
  have hl : oN c < x.1.length := by
    have h1 := h5.lt
    have h2 := Zc.len hZ
    have h3 : (rz x.1).length = x.1.length := by
      cases x.1 <;> rfl
    omega
  unfold BM_identified_142
  refine ml_at hZ h5 hn1 h (fun n' D' K' r4 h4 hZ4 hr4 hatd => ?_)
  rw [← rz_att hx] at hZ4
  have hG4 := h4.1
  have hm4 := hM.gd hG4
  have hh4 := hH.gd hG4
  have h1 := hm4.1
  refine pl_il (fun e => ?_) (fun e => ?_)
  · exact zid_172 _ _ _ hX hZ hatd hG4.rows hm4 hh4 h4.ml h4.2 hZ4 hl h5.lt (h4.uns hU) hG4.2.2.2.1 rfl rfl
  · rw [i32_0] at e
    have hn : 0 < oN c := by omega
    refine pm_to (N := oN c) h1 hn ?_
    refine pl_if (fun _ => ?_) (fun _ => trivial)
    exact zid_172 _ _ _ hX hZ hatd hG4.rows hm4 hh4 h4.ml h4.2.cg hZ4 hl h5.lt (h4.uns hU) hG4.2.2.2.1 rfl rfl
theorem zM_identified (hM : Mc c f.2.1 f.2.2) (hH : HM (oN c) (oT c).toInt (oI c) x.2 ids f.2.1 f.2.2) (hZ : Zc K D n ids (rz (uz c x.1))) (hU : (f.2.1 fM_units).toInt = (un : Int)) (hX : UMz c ids n D K un f.2.2) (h : Am w f p n D K g r) (hp : p < w.2.2) : pl (ev L xs (m + 1) d nM_identified [.ref cM, .int (oT c)] g r) (kMT f (some (p + 3, attC (oN c) x.1 ((0, 0, Int32.ofNat p, -1), []), x.2)) (sO (sS c 12)) (un + 1)) kN := by
  cases d with
  | zero => trivial
  | succ d =>
    have hG := h.1
    have hm := hM.gd hG
    have h1 := hm.1
    have h61 : ∀ x1 x2, pl (BM_identified_61 L xs (m + 1) d m x1 x2 g r) (kMT f (some (p + 3, attC (oN c) x.1 ((0, 0, Int32.ofNat p, -1), []), x.2)) (sO (sS c 12)) (un + 1)) kN := by
      intro x1 x2
      unfold BM_identified_61 BM_identified_71
      exact pl_if (fun _ => pm_fa hG hG.2.2.2.1 hG.2.2.2.2 (fun g2 r2 h2 f2 => kMT.b h2)) (fun _ => pm_fa hG hG.2.2.2.1 hG.2.2.2.2 (fun g2 r2 h2 f2 => kMT.b h2))
    have h46 : ∀ x1, pl (BM_identified_46 L xs (m + 1) d m x1 g r) (kMT f (some (p + 3, attC (oN c) x.1 ((0, 0, Int32.ofNat p, -1), []), x.2)) (sO (sS c 12)) (un + 1)) kN := by
      intro x1
      unfold BM_identified_46 BM_identified_47
      exact pl_pos (by decide) (h61 _ _)
    have h42 : oT c ≠ 0 → ∀ x1, pl (BM_identified_42 L xs (m + 1) d m x1 g r) (kMT f (some (p + 3, attC (oN c) x.1 ((0, 0, Int32.ofNat p, -1), []), x.2)) (sO (sS c 12)) (un + 1)) kN := by
      intro hT x1
      rw [uz_n hT] at hZ
      unfold BM_identified_42 BM_identified_47 BM_identified_111
      rw [hG.pla]
      refine pl_neg (by decide) ?_
      refine pl_in (fun e10 => ?_) (fun e10 => h61 _ _)
      have hu := h.up hp
      rw [hG.pla] at hu
      refine ml_mu Am.lf hu (fun e g2 h2 => pl_neg (by decide) ?_) (fun e g2 r2 h2 => pl_pos (by decide) (kMT.b h2))
      refine ml_mk Am.lf h2 (fun e g3 h3 => pl_pos (by decide) ?_) (fun e g3 r3 h3 => pl_neg (by decide) (kMT.b h3))
      refine ml_nm (-1) (fun q => absurd q.1 (by decide)) h3 (fun g4 r4 h4 => ?_)
      have hG4 := h4.gd
      have hm4 := hM.gd hG4
      have hh4 := hH.gd hG4
      have h41 := hm4.1
      refine pl_in (fun e0 => ?_) (fun e0 => ?_)
      · have hn : 0 < oN c := by
          have n0 : (g4 fM_open).toInt ≠ 0 := fun e => e0 (i32e (e.trans rfl))
          omega
        refine ml_he h41 hn (pl_if (fun _ => ?_) (fun _ => trivial))
        exact zid_142 hM hH hZ hU hX h.2.2.1 _ _ _ (hh4.uno hn) h4
      · rw [Decidable.not_not] at e0
        have h0 : oN c = 0 := by
          rw [e0] at h41
          have : (0 : Int) = (oN c : Int) := h41
          omega
        refine zid_142 hM hH hZ hU hX h.2.2.1 _ _ _ ?_ h4
        rw [h0]
        exact hh4.1
    rw [qM_identified]
    refine pl_iq (fun e0 => ?_) (fun e0 => ?_)
    · refine h42 ?_ _
      rw [e0] at h1
      have h1' : (0 : Int) = (oN c : Int) := h1
      rw [oT_0 (by omega)]
      decide
    · refine pl_if (fun _ => ?_) (fun _ => trivial)
      refine pl_if (fun _ => h46 _) (fun _ => ?_)
      refine pl_u xM_in (fun e1 => pl_pos (by decide) (h42 ?_ _)) (fun e1 => pl_neg (by decide) ?_)
      · intro e
        rw [e] at e1
        exact absurd e1 (by decide)
      · refine pl_u xM_in (fun e2 => pl_neg (by decide) (h42 ?_ _)) (fun e2 => pl_pos (by decide) (h46 _))
        intro e
        rw [e] at e2
        exact absurd e2 (by decide)
theorem ren_k {j : Nat} {l : List Ce} {k v : Int32} {e : Ce} (h : (renC j l k v)[j]? = some e) : e.1.1 = k := by
  unfold renC at h
  cases hl : l[j]? with
  | none =>
    rw [hl] at h
    have h' : l[j]? = some e := h
    rw [hl] at h'
    cases h'
  | some e0 =>
    rw [hl] at h
    have h' : (l.set j ((k, v, e0.1.2.2.1, e0.1.2.2.2), e0.2))[j]? = some e := h
    rw [List.getElem?_set_self (List.getElem?_eq_some_iff.mp hl).1] at h'
    cases h'
    rfl
/-- PROGRAM-ID, FUNCTION-ID -/
theorem zun_45 (hM : Mc c f.2.1 f.2.2) (hH : HM (oN c) (oT c).toInt (oI c) x.2 ids f.2.1 f.2.2) (hT : oT c = 0) (hZ : Zc K D n ids (rz (renC (oN c) x.1 1 0))) (hU : (f.2.1 fM_units).toInt = (un : Int)) (hX : UMz c ids n D K un f.2.2) (h : Am w f q n D K g r) {kd : Int32} (hk : ¬ st38 kd) (hk12 : kd = 1 ∨ kd = 2) (x1 x2 : Int32) {t : Nat} (ht : ids[oN c]? = some t) (htu : (r fM_unitNode).2 ((r fM_its).2 (oN c - 1)).toNatClampNeg = Int32.ofNat t) : pl (BM_unitNamed_45 L xs (m + 1) d k x1 x2 kd (Int32.ofNat t) g r) (kMT f (some (q, renC (oN c) x.1 kd x2, x.2)) (sS (sI c kd x2) 1) un) kN := by
  have hn : 0 < oN c := oT_n (by rw [hT]; decide)
  have hG := h.1
  have hm := hM.gd hG
  have hh := hH.gd hG
  have h8 := h.2.2.2.1
  have hlt := (Zc.ge hZ ht).2
  have et : (Int32.ofNat t).toNatClampNeg = t := tn_at (on_eq (by omega))
  obtain ⟨e, he⟩ : ∃ e, (rz (renC (oN c) x.1 1 0))[oN c]? = some e := by
    have h1 := (List.getElem?_eq_some_iff.mp ht).1
    have h2 := Zc.len hZ
    exact ⟨_, List.getElem?_eq_getElem (by omega)⟩
  have hDt := Zc.da hZ ht he
  have he1 : (D t).1 = 1 := by
    rw [hDt]
    obtain ⟨j, hj⟩ : ∃ j, oN c = j + 1 := ⟨oN c - 1, by omega⟩
    rw [hj] at he
    cases hx : x.1 with
    | nil =>
      rw [hx] at he
      simp [renC, rz] at he
    | cons a l =>
      rw [hx, rz_ren] at he
      exact ren_k (show (renC j l 1 0)[j]? = some e from he)
  unfold BM_unitNamed_45
  refine pl_if (fun _ => ?_) (fun _ => trivial)
  refine ml_he hm.1 hn ?_
  rw [et]
  have htu' : ((a2_ua r fM_kind ((r fM_kind).1, (upd (r fM_kind).2 t kd))) fM_unitNode).2 (((a2_ua r fM_kind ((r fM_kind).1, (upd (r fM_kind).2 t kd))) fM_its).2 (oN c - 1)).toNatClampNeg = Int32.ofNat t := htu
  rw [htu', et]
  refine pl_if (fun _ => pl_if (fun _ => pl_if (fun _ => pl_if (fun _ => ?_) (fun _ => trivial)) (fun _ => trivial)) (fun _ => trivial)) (fun _ => trivial)
  refine pm_to (N := oN c) hm.1 hn ?_
  have eI : oN (sI c kd x2) = oN c := by
    unfold sI
    rw [if_neg (by omega)]
    rfl
  have eN : oN (sS (sI c kd x2) 1) = oN c := oN_ss.trans eI
  have eT : oT (sS (sI c kd x2) 1) = 1 := oT_ss (by rw [eI]; omega)
  have hMz := h.2.2.2.2.dt (r' := a2_ua (a2_ua r fM_kind ((r fM_kind).1, (upd (r fM_kind).2 t kd))) fM_value ((r fM_value).1, (upd (r fM_value).2 t x2))) (i := t) (d' := (kd, x2, e.1.2.2.1, e.1.2.2.2)) hlt (fun y => upd_if y) (fun y => upd_if y) rfl (by rw [hDt]) (fun _ _ => rfl) (fun e => absurd e hk) rfl rfl rfl rfl (Or.inr (Or.inr (by rw [he1]; decide))) (fun e => by
    have e' : kd = 53 := e
    rcases hk12 with q | q <;> (rw [q] at e'; exact absurd e' (by decide)))
  have hR : Rm n (fD D t (kd, x2, e.1.2.2.1, e.1.2.2.2)) K g (a2_ua (a2_ua r fM_kind ((r fM_kind).1, (upd (r fM_kind).2 t kd))) fM_value ((r fM_value).1, (upd (r fM_value).2 t x2))) := ⟨h.2.1, h.2.2.1, h.2.2.2.1, hMz⟩
  refine kMT.mk (n := n) (D := fD D t (kd, x2, e.1.2.2.1, e.1.2.2.2)) (K := K) (ids := ids) hR.cg (by rw [eT]; decide) ?_ ?_ (h.uns hU) hG.2.2.2.1 (hX.1.nm hG.rows eN (by rw [hT]; rfl) ht he1 hk12)
  · have hst := Zc.st (d' := (kd, x2, e.1.2.2.1, e.1.2.2.2)) hZ ht he
    have es : (rz (renC (oN c) x.1 1 0)).set (oN c) ((kd, x2, e.1.2.2.1, e.1.2.2.2), e.2) = rz (renC (oN c) x.1 kd x2) := by
      obtain ⟨j, hj⟩ : ∃ j, oN c = j + 1 := ⟨oN c - 1, by omega⟩
      rw [hj] at he ⊢
      cases hx : x.1 with
      | nil =>
        rw [hx] at he
        simp [renC, rz] at he
      | cons a l =>
        rw [hx, rz_ren] at he
        rw [rz_ren, rz_ren, List.set_cons_succ, ren_set (by simpa using he)]
    rw [es] at hst
    exact hst
  · rw [eT, eN]
    exact hh.no (Nat.le_refl _) (Or.inl (by decide))
theorem zM_unitNamed (hM : Mc c f.2.1 f.2.2) (hH : HM (oN c) (oT c).toInt (oI c) x.2 ids f.2.1 f.2.2) (hT : oT c = 0) (hZ : Zc K D n ids (rz (uz c x.1))) (hU : (f.2.1 fM_units).toInt = (un : Int)) (hX : UMz c ids n D K un f.2.2) (h : Am w f (p + 1) n D K g r) {a kd : Int32} (hk : a = 0 ∧ kd = 1 ∨ a = 1 ∧ kd = 2) : pl (ev L xs (m + 1) d nM_unitNamed [.ref cM, .int a] g r) (kMT f (some (p + 3, renC (oN c) x.1 kd (w.2.1 (p + 1)), x.2)) (sS (sI c kd (w.2.1 (p + 1))) 1) un) kN := by
  cases d with
  | zero => trivial
  | succ d =>
    have hn : 0 < oN c := oT_n (by rw [hT]; decide)
    have hZ' : Zc K D n ids (rz (renC (oN c) x.1 1 0)) := by
      have e : uz c x.1 = renC (oN c) x.1 1 0 := if_pos hT
      rw [e] at hZ
      exact hZ
    rw [qM_unitNamed]
    refine ml_mk Am.lf h (fun e g1 h1 => pl_pos (by decide) ?_) (fun e g1 r1 h1 => pl_neg (by decide) (kMT.b h1))
    refine ml_pa h1.1 ?_
    refine ml_mk Am.lf h1 (fun e3 g3 h3 => pl_pos (by decide) ?_) (fun e3 g3 r3 h3 => pl_neg (by decide) (kMT.b h3))
    have hh3 := hH.gd h3.1
    refine ml_he (hM.gd h3.1).1 hn (pl_if (fun _ => ?_) (fun _ => trivial))
    obtain ⟨t, ht, htu⟩ := hh3.uno hn
    rw [htu]
    rcases hk with ⟨rfl, rfl⟩ | ⟨rfl, rfl⟩
    · exact pl_pos (by decide) (zun_45 hM hH hT hZ' hU hX h3 (fun q => absurd q.1 (by decide)) (by decide) _ _ ht htu)
    · exact pl_neg (by decide) (zun_45 hM hH hT hZ' hU hX h3 (fun q => absurd q.1 (by decide)) (by decide) _ _ ht htu)
end
