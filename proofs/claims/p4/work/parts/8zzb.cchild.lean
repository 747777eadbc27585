/-! What the class answers to child. -/
section
variable {L : Nat} {xs : Nat → Int32} {m d k : Nat} {n : Nat} {D : Nat → TD} {K : Nat → List Nat} {g : a2_G} {r : a2_A} {F : Fo}
/-- the class's tree, numbered -/
def TC (n : Nat) (D : Nat → TD) (K : Nat → List Nat) (F : Fo) (g : a2_G) (r : a2_A) : Prop := Rc n D K g r ∧ NZ n F ∧ Dn K 0 ((0, 0) :: F) ∧ NC D F g r
theorem TC.len (h : TC n D K F g r) : F.length + 1 ≤ n := ids_len h.2.1.1.1 h.2.1.2
theorem TC.id (h : TC n D K F g r) {i dd x : Nat} (e : F[i]? = some (dd, x)) : x < n ∧ i < F.length := by
  refine ⟨h.2.1.2 x (List.mem_cons_of_mem _ (List.mem_map.mpr ⟨(dd, x), List.mem_of_getElem? e, rfl⟩)), (List.getElem?_eq_some_iff.mp e).1⟩
theorem yT_handleOf (h : TC n D K F g r) {a : Int32} {i dd x : Nat} (ha : a.toInt = i) (e : F[i]? = some (dd, x)) : pl (ev L xs (m + 1) d nT_handleOf [.ref cT, .int a] g r) (kE g r (Int32.ofNat x)) kN := by
  obtain ⟨hx, hi⟩ := h.id e
  have hl := h.len
  have hn := h.2.2.2.1
  cases d with
  | zero => trivial
  | succ d =>
    rw [qT_handleOf]
    unfold BT_handleOf_22 BT_handleOf_23
    refine pl_neg (by rw [c2_lt, ha, i32_0]; omega) (pl_neg (by rw [c2_ge, ha, hn]; omega) ?_)
    refine pl_e (yT_get L xs h.1 (i := i) (j := 11) (by omega) (by omega) ha rfl) ?_
    have e11 : (r fT_cells).2 (12 * i + 11) = Int32.ofNat x := (h.2.2.2.2.2.2 i dd x e).1
    rw [e11]
    exact ⟨rfl, rfl, rfl⟩
theorem yT_handleOfN (hn : (g fT_numbered).toInt = F.length) {a : Int32} (ha : ¬ (0 ≤ a.toInt ∧ a.toInt < F.length)) : pl (ev L xs (m + 1) d nT_handleOf [.ref cT, .int a] g r) (kE g r (-1)) kN := by
  cases d with
  | zero => trivial
  | succ d =>
    rw [qT_handleOf]
    unfold BT_handleOf_22 BT_handleOf_23
    refine pl_if (fun _ => ⟨rfl, rfl, rfl⟩) (fun c1 => pl_if (fun _ => ⟨rfl, rfl, rfl⟩) (fun c2 => ?_))
    rw [c2_lt, i32_0] at c1
    rw [c2_ge, hn] at c2
    exact absurd ⟨by omega, by omega⟩ ha
theorem yT_numberOf (h : TC n D K F g r) {c : Nat} (hc : c < n) : pl (ev L xs (m + 1) d nT_numberOf [.ref cT, .int (Int32.ofNat c)] g r) (kE g r ((r fT_cells).2 (12 * c + 10))) kN := by
  have hlt := h.1.lt
  cases d with
  | zero => trivial
  | succ d =>
    rw [qT_numberOf]
    refine pl_e (yT_get L xs h.1 (i := c) (j := 10) hc (by omega) (on_eq (by omega)) rfl) ?_
    exact ⟨rfl, rfl, rfl⟩
/-- the next sibling -/
theorem Cz.nxt {C : Nat → Int32} (h : Cz n D K C) {x j c c' : Nat} (hx : x < n) (e : (K x)[j]? = some c) (e' : (K x)[j + 1]? = some c') : C (12 * c + 7) = Int32.ofNat c' := by
  obtain ⟨hj, ej⟩ := List.getElem?_eq_some_iff.mp e
  have hs : K x = (K x).take j ++ c :: (K x).drop (j + 1) := by
    rw [← ej, ← List.drop_eq_getElem_cons hj, List.take_append_drop]
  rw [(h.2.2.1 x hx _ _ _ hs).2.2, List.head?_drop, e']
  rfl
theorem ch_34 (h : TC n D K F g r) {x kk : Nat} (hx : x < n) {a1 a2 x3 : Int32} (ha : a2.toInt = kk) (hk : kk < (K x).length) : ∀ (k : Nat) (x4 x5 : Int32) (j c : Nat), x5.toInt = j → j ≤ kk → (K x)[j]? = some c → x4 = Int32.ofNat c → pl (BT_childOf_34 L xs (m + 1) d k a1 a2 x3 x4 x5 g r) (fun o g' r' => ∃ c', (K x)[kk]? = some c' ∧ kE g r ((r fT_cells).2 (12 * c' + 10)) o g' r') kN
  | k, x4, x5, j, c, h5, hj, hc, h4 => by
    subst h4
    have hlt := h.1.lt
    have hcn : c < n := h.1.kid x c hx (List.mem_of_getElem? hc)
    unfold BT_childOf_34
    refine pl_if (fun e => ?_) (fun e => ?_)
    · rw [c2_ge, h5, ha] at e
      have : j = kk := by omega
      subst this
      refine pl_e (yT_numberOf h hcn) ?_
      exact ⟨c, hc, rfl, rfl, rfl⟩
    · rw [c2_ge, h5, ha] at e
      refine pl_e (yT_get L xs h.1 (i := c) (j := 7) hcn (by omega) (on_eq (by omega)) rfl) ?_
      have hj1 : j + 1 < (K x).length := by omega
      have hb := i32_hi a2
      rw [h.1.2.2.2.2.nxt hx hc (List.getElem?_eq_getElem hj1)]
      cases k with
      | zero => exact pl_l0
      | succ k =>
        rw [lT_childOf_34]
        exact ch_34 h hx ha hk k _ (x5 + 1) (j + 1) _ (by rw [i32_inc (by omega), h5]; rfl) (by omega) (List.getElem?_eq_getElem hj1) rfl
theorem yT_childOf (h : TC n D K F g r) (a1 a2 : Int32) : pl (ev L xs (m + 1) d nT_childOf [.ref cT, .int a1, .int a2] g r) (kE g r (chV (F.map Prod.fst) a1 a2)) kN := by
  have hlt := h.1.lt
  cases d with
  | zero => trivial
  | succ d =>
    rw [qT_childOf]
    unfold BT_childOf_21
    by_cases ha : 0 ≤ a1.toInt ∧ a1.toInt < F.length
    · obtain ⟨i, hi⟩ : ∃ i : Nat, a1.toInt = i := ⟨a1.toInt.toNat, by omega⟩
      have hiF : i < F.length := by omega
      obtain ⟨⟨dd, x⟩, e⟩ : ∃ y, F[i]? = some y := ⟨_, List.getElem?_eq_getElem hiF⟩
      obtain ⟨hx, -⟩ := h.id e
      have ex : (Int32.ofNat x).toInt = x := on_eq (by omega)
      have hN := nK_eq h.2.2.1 h.2.2.2.2.2.2 e
      have hI : a1.toInt.toNat = i := by rw [hi]; rfl
      have hc8 := (h.1.2.2.2.2.2.1 x hx).2.2
      refine pl_e (yT_handleOf h hi e) ?_
      refine pl_if (fun c1 => ?_) (fun c1 => ?_)
      · rw [c2_lt, i32_0] at c1
        refine ⟨?_, rfl, rfl⟩
        unfold chV
        rw [if_neg (by omega)]
      · rw [c2_lt, i32_0] at c1
        obtain ⟨kk, hkk⟩ : ∃ i : Nat, a2.toInt = i := ⟨a2.toInt.toNat, by omega⟩
        have hK : a2.toInt.toNat = kk := by rw [hkk]; rfl
        have hch : chV (F.map Prod.fst) a1 a2 = (((K x).map (fun y => (r fT_cells).2 (12 * y + 10)))[kk]?).getD (-1) := by
          unfold chV
          rw [if_pos ⟨ha.1, by omega⟩, hI, hK, ← hN]
        rw [hch, List.getElem?_map]
        refine pl_e (yT_get L xs h.1 (i := x) (j := 8) hx (by omega) ex rfl) ?_
        refine pl_if (fun c2 => ?_) (fun c2 => ?_)
        · rw [c2_lt, hc8, hkk] at c2
          have hkl : kk < (K x).length := by omega
          refine pl_e (yT_get L xs h.1 (i := x) (j := 5) hx (by omega) ex rfl) ?_
          have h0 : 0 < (K x).length := by omega
          have e5 : (r fT_cells).2 (12 * x + 5) = Int32.ofNat (K x)[0] := by
            rw [(h.1.2.2.2.2.2.1 x hx).1, List.head?_eq_getElem?, List.getElem?_eq_getElem h0]
            rfl
          refine pl_mono (ch_34 h hx hkk hkl _ _ 0 0 _ rfl (by omega) (List.getElem?_eq_getElem h0) e5) (fun o g' r' q => ?_) (fun _ _ _ e => e)
          obtain ⟨c', q1, q2⟩ := q
          rw [q1]
          exact q2
        · rw [c2_lt, hc8, hkk] at c2
          rw [List.getElem?_eq_none (by omega)]
          exact ⟨rfl, rfl, rfl⟩
    · have hn := h.2.2.2.1
      have hch : chV (F.map Prod.fst) a1 a2 = -1 := by
        unfold chV
        by_cases c : 0 ≤ a1.toInt ∧ 0 ≤ a2.toInt
        · rw [if_pos c]
          have hno : (F.map Prod.fst)[a1.toInt.toNat]? = none := List.getElem?_eq_none (by rw [List.length_map]; omega)
          unfold nK
          rw [hno]
          rfl
        · rw [if_neg c]
      rw [hch]
      refine pl_e (yT_handleOfN hn ha) ?_
      refine pl_if (fun c1 => ⟨rfl, rfl, rfl⟩) (fun c1 => ?_)
      refine pl_e yT_getN (pl_if (fun c2 => ?_) (fun c2 => ⟨rfl, rfl, rfl⟩))
      rw [c2_lt, i32_0] at c1
      rw [c2_lt] at c2
      have h1 : (-1 : Int32).toInt = -1 := rfl
      omega
theorem xP_child (h : TC n D K F g r) (a1 a2 : Int32) : pl (ev L xs (m + 1) d nP_child [.ref cP, .int a1, .int a2] g r) (kE g r (chV (F.map Prod.fst) a1 a2)) kN := by
  cases d with
  | zero => trivial
  | succ d =>
    rw [qP_child]
    exact pl_e (yT_childOf h a1 a2) ⟨rfl, rfl, rfl⟩
/-- where nothing is numbered -/
theorem xP_child0 (h0 : g fT_numbered = 0) (a1 a2 : Int32) : pl (ev L xs (m + 1) d nP_child [.ref cP, .int a1, .int a2] g r) (kE g r (-1)) kN := by
  cases d with
  | zero => trivial
  | succ d =>
    rw [qP_child]
    cases d with
    | zero => trivial
    | succ d =>
      rw [qT_childOf]
      unfold BT_childOf_21
      refine pl_v (Q1 := kE g r (-1)) (X1 := kN) ?_ (fun _ _ _ e => e) (fun v g' r' e => ?_)
      · refine pl_e (yT_handleOfN (F := []) (by rw [h0]; rfl) (by intro q; have := q.2; have h1 := q.1; exact absurd this (by show ¬ a1.toInt < 0; omega))) ?_
        refine pl_if (fun c1 => ⟨rfl, rfl, rfl⟩) (fun c1 => ?_)
        refine pl_e yT_getN (pl_if (fun c2 => ?_) (fun c2 => ⟨rfl, rfl, rfl⟩))
        rw [c2_lt, i32_0] at c1
        rw [c2_lt] at c2
        have h1 : (-1 : Int32).toInt = -1 := rfl
        omega
      · exact e
end
