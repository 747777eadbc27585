/-! What the model answers to child; what word keeps. -/
section
variable {L : Nat} {xs : Nat → Int32} {m d k : Nat} {n : Nat} {D : Nat → TD} {K : Nat → List Nat} {g : a2_G} {r : a2_A} {F : Fo}
/-- the model's tree, numbered -/
def TN (n : Nat) (D : Nat → TD) (K : Nat → List Nat) (F : Fo) (g : a2_G) (r : a2_A) : Prop := NX n D K r F ∧ Dn K 0 ((0, 0) :: F) ∧ NM F g r
theorem TN.id (h : TN n D K F g r) {i dd x : Nat} (e : F[i]? = some (dd, x)) : x < n ∧ i < F.length := by
  refine ⟨h.1.2.2.2.2 x (List.mem_cons_of_mem _ (List.mem_map.mpr ⟨(dd, x), List.mem_of_getElem? e, rfl⟩)), (List.getElem?_eq_some_iff.mp e).1⟩
theorem Mz.nxt (h : Mz n D K r) {x j c : Nat} (hx : x < n) (e : (K x)[j]? = some c) : (r fM_next).2 c = o0 (K x)[j + 1]? := by
  obtain ⟨hj, ej⟩ := List.getElem?_eq_some_iff.mp e
  have hs : K x = (K x).take j ++ c :: (K x).drop (j + 1) := by
    rw [← ej, ← List.drop_eq_getElem_cons hj, List.take_append_drop]
  rw [(h.2.2.1 x hx _ _ _ hs).2.2, List.head?_drop]
/-- the answer by the k-th child -/
def nb1 (b : Nat → Int32) (o : Option Nat) : Int32 := (o.map b).getD (-1)
theorem mc_61 (h : TN n D K F g r) {x : Nat} (hx : x < n) {j : Nat} {a1 a2 x4 : Int32} : pl (BM_child2_61 L xs (m + 1) d k a1 a2 (o0 (K x)[j]?) x4 g r) (kE g r (nb1 (r fM_number).2 (K x)[j]?)) kN := by
  have hn8 := h.1.2.2.1
  unfold BM_child2_61 BM_child2_75
  cases e : (K x)[j]? with
  | none => exact pl_pos (by rw [c2_le]; decide) ⟨rfl, rfl, rfl⟩
  | some c =>
    have hc := h.1.1.kid hx (List.mem_of_getElem? e)
    have ec : (Int32.ofNat c).toInt = c := on_eq (by omega)
    show pl (if am_c2 .le (Int32.ofNat c) 0 = true then _ else _) _ _
    refine pl_neg (by rw [c2_le, ec, i32_0]; omega) (pl_if (fun _ => ?_) (fun _ => trivial))
    refine ⟨?_, rfl, rfl⟩
    show some (Value.int ((r fM_number).2 (Int32.ofNat c).toNatClampNeg)) = _
    rw [on_nc (by omega)]
    rfl
theorem mc_38 (h : TN n D K F g r) {x kk : Nat} (hx : x < n) {a1 a2 : Int32} (ha : a2.toInt = kk) : ∀ (k : Nat) (x3 x4 : Int32) (j : Nat), x4.toInt = j → j ≤ kk → x3 = o0 (K x)[j]? → pl (BM_child2_38 L xs (m + 1) d k a1 a2 x3 x4 g r) (kE g r (nb1 (r fM_number).2 (K x)[kk]?)) kN
  | k, x3, x4, j, h4, hj, h3 => by
    subst h3
    have hn8 := h.1.2.2.1
    have hb := i32_hi a2
    unfold BM_child2_38
    refine pl_if (fun e => ?_) (fun e => ?_)
    · rw [c2_ge, h4, ha] at e
      have : j = kk := by omega
      subst this
      exact mc_61 h hx
    · rw [c2_ge, h4, ha] at e
      cases e2 : (K x)[j]? with
      | none =>
        have hno : (K x)[kk]? = none := List.getElem?_eq_none (by have := List.getElem?_eq_none_iff.mp e2; omega)
        refine pl_pos (by rw [c2_le]; decide) ?_
        rw [hno]
        have := mc_61 (L := L) (xs := xs) (m := m) (d := d) (k := k) (a1 := a1) (a2 := a2) (x4 := x4) h hx (j := j)
        rw [e2] at this
        exact this
      | some c =>
        have hc := h.1.1.kid hx (List.mem_of_getElem? e2)
        have ec : (Int32.ofNat c).toInt = c := on_eq (by omega)
        show pl (if am_c2 .le (Int32.ofNat c) 0 = true then _ else _) _ _
        refine pl_neg (by rw [c2_le, ec, i32_0]; omega) (pl_if (fun _ => ?_) (fun _ => trivial))
        show pl (lp L xs nM_child2 nm_m228 (m + 1) d k 38 [some (.ref cM), some (.int a1), some (.int a2), some (.int ((r fM_next).2 (Int32.ofNat c).toNatClampNeg)), some (.int (x4 + 1))] g r) _ _
        rw [on_nc (by omega), h.1.1.nxt hx e2]
        cases k with
        | zero => exact pl_l0
        | succ k =>
          rw [lM_child2_38]
          exact mc_38 h hx ha k _ _ (j + 1) (by rw [i32_inc (by omega), h4]; rfl) (by omega) rfl
theorem TN.th (h : TN n D K F g r) (x : Int32) : TN n D K F (upd g fM_thrown x) r := h
theorem xM_child2 (h : TN n D K F g r) (a1 a2 : Int32) : pl (ev L xs (m + 1) d nM_child2 [.ref cM, .int a1, .int a2] g r) (kE (upd g fM_thrown 0) r (chV (F.map Prod.fst) a1 a2)) kN := by
  have hn8 := h.1.2.2.1
  cases d with
  | zero => trivial
  | succ d =>
    rw [qM_child2]
    unfold BM_child2_21
    obtain ⟨t1, t2, cc, t3⟩ := h.2.2
    have hch : ¬ (0 ≤ a1.toInt ∧ a1.toInt < F.length ∧ 0 ≤ a2.toInt) → chV (F.map Prod.fst) a1 a2 = -1 := by
      intro ha
      unfold chV
      by_cases c : 0 ≤ a1.toInt ∧ 0 ≤ a2.toInt
      · have hno : (F.map Prod.fst)[a1.toInt.toNat]? = none := List.getElem?_eq_none (by rw [List.length_map]; omega)
        rw [if_pos c]
        unfold nK
        rw [hno]
        rfl
      · rw [if_neg c]
    refine pl_if (fun c1 => ⟨?_, rfl, rfl⟩) (fun c1 => pl_if (fun c2 => ⟨?_, rfl, rfl⟩) (fun c2 => pl_if (fun c3 => ?_) (fun c3 => ⟨?_, rfl, rfl⟩)))
    · rw [c2_lt, i32_0] at c1
      rw [hch (by omega)]
    · rw [c2_ge, t1] at c2
      rw [hch (by omega)]
    · rw [c2_lt, i32_0] at c1
      rw [c2_ge, t1] at c2
      rw [c2_ge, i32_0] at c3
      obtain ⟨i, hi⟩ : ∃ i : Nat, a1.toInt = i := ⟨a1.toInt.toNat, by omega⟩
      obtain ⟨kk, hkk⟩ : ∃ i : Nat, a2.toInt = i := ⟨a2.toInt.toNat, by omega⟩
      have hiF : i < F.length := by omega
      obtain ⟨⟨dd, x⟩, e⟩ : ∃ y, F[i]? = some y := ⟨_, List.getElem?_eq_getElem hiF⟩
      obtain ⟨hx, -⟩ := h.id e
      have hN := nK_eq h.2.1 t3 e
      have hI : a1.toInt.toNat = i := by rw [hi]; rfl
      have hK : a2.toInt.toNat = kk := by rw [hkk]; rfl
      have ei : a1.toNatClampNeg = i := tn_at hi
      have hv : chV (F.map Prod.fst) a1 a2 = nb1 (r fM_number).2 (K x)[kk]? := by
        unfold chV nb1
        rw [if_pos ⟨by omega, by omega⟩, hI, hK, ← hN, List.getElem?_map]
      rw [hv, ei, (t3 i dd x e).1, on_nc (by omega), (h.1.1.2.1 x hx).1]
      refine pl_if (fun _ => pl_if (fun _ => ?_) (fun _ => trivial)) (fun _ => trivial)
      refine mc_38 (h.th 0) hx hkk _ _ 0 0 rfl (by omega) ?_
      rw [List.head?_eq_getElem?]
    · rw [c2_ge, i32_0] at c3
      rw [hch (by omega)]
theorem xM_child20 (h0 : g fM_told = 0) (a1 a2 : Int32) : pl (ev L xs (m + 1) d nM_child2 [.ref cM, .int a1, .int a2] g r) (kE (upd g fM_thrown 0) r (-1)) kN := by
  cases d with
  | zero => trivial
  | succ d =>
    rw [qM_child2]
    unfold BM_child2_21
    refine pl_if (fun c1 => ⟨rfl, rfl, rfl⟩) (fun c1 => pl_pos ?_ ⟨rfl, rfl, rfl⟩)
    rw [c2_lt, i32_0] at c1
    rw [c2_ge, h0, i32_0]
    omega
end
/-- the same tree on both sides, numbered, or none -/
def SMF (g : a2_G) (r : a2_A) : Prop := (kz0 g ∧ g fM_told = 0 ∧ g fM_deepest = 0 ∧ g fM_units = 0) ∨ ∃ n D K F n' D' K' F', TC n D K F g r ∧ TN n' D' K' F' g r ∧ tr D F = tr D' F' ∧ (g fM_units).toInt = cQ (tr D F) ∧ UU D' K' F' (cQ (tr D F)) r ∧ (D' 0).1 = 0 ∧ Pu (tr D F) ∧ (D 0).1 ≠ 41
/-- what was counted is the same -/
def SM0 (g : a2_G) : Prop := g fT_numbered = g fM_told ∧ g fT_units = g fM_units ∧ g fT_greatestLevel = g fM_deepest
theorem SMF.zero {g : a2_G} {r : a2_A} (h : SMF g r) : SM0 g := by
  rcases h with ⟨h1, h2, h3, h4⟩ | ⟨n, D, K, F, n', D', K', F', h1, h2, h8, h9, -⟩
  · rw [← h1.1] at h2
    exact ⟨h2.symm, h1.2.1.trans h4.symm, h1.2.2.trans h3.symm⟩
  · have hl : F.length = F'.length := by
      have := congrArg List.length h8
      unfold tr at this
      rw [List.length_map, List.length_map] at this
      exact this
    have hx : mx F = mx F' := by
      rw [← mT_tr D F, h8, mT_tr D' F']
    have h4 := h1.2.2.2
    have h7 := h2.2.2
    refine ⟨Int32.toInt_inj.mp ?_, Int32.toInt_inj.mp ?_, Int32.toInt_inj.mp ?_⟩
    · rw [h4.1, h7.1, hl]
    · rw [h4.2.1, h9]
    · rw [h4.2.2.1, h7.2.1, hx]
