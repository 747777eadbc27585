/-! What the class answers to division. -/
theorem kid_kiG {β : Type} {f h : Nat → β} (d : Nat) : ∀ (R : Fo) (j : Nat), (∀ m e, R[m]? = some e → f e.2 = h (j + m)) → (kid d R).map f = (ki d (R.map Prod.fst) j).map h
  | [], _, _ => rfl
  | e :: t, j, hh => by
    have ih := kid_kiG (f := f) (h := h) d t (j + 1) (fun m e' he => by
      have := hh (m + 1) e' he
      rw [this, show j + 1 + m = j + (m + 1) by omega])
    have h0 := hh 0 e rfl
    show (if e.1 ≤ d then [] else if e.1 = d + 1 then e.2 :: kid d t else kid d t).map f = (if e.1 ≤ d then [] else if e.1 = d + 1 then j :: ki d (t.map Prod.fst) (j + 1) else ki d (t.map Prod.fst) (j + 1)).map h
    by_cases c1 : e.1 ≤ d
    · rw [if_pos c1, if_pos c1]
      rfl
    · rw [if_neg c1, if_neg c1]
      by_cases c2 : e.1 = d + 1
      · rw [if_pos c2, if_pos c2, List.map_cons, List.map_cons, ih, h0]
        rfl
      · rw [if_neg c2, if_neg c2, ih]
/-- a node's kind, by its number -/
def kyT (T : Tf) (j : Nat) : Int32 := match T[j]? with
  | none => -1
  | some e => e.2.1
/-- a node's children: numbers and kinds -/
def nKK (T : Tf) (i : Nat) : List (Int32 × Int32) := match T[i]? with
  | none => []
  | some e => (ki e.1 ((T.drop (i + 1)).map Prod.fst) (i + 1)).map (fun j => (Int32.ofNat j, kyT T j))
theorem nKK_eq {K : Nat → List Nat} {D : Nat → TD} {F : Fo} {a b c : Nat → Int32} (hD : Dn K 0 ((0, 0) :: F)) (hT : Tb F a b c) {i d x : Nat} (h : F[i]? = some (d, x)) : (K x).map (fun y => (b y, (D y).1)) = nKK (tr D F) i := by
  have e1 : (tr D F)[i]? = some (d, D x) := by
    unfold tr
    rw [List.getElem?_map, h]
    rfl
  unfold nKK
  rw [e1, F_kid hD h, kid_kiG (f := fun y => (b y, (D y).1)) (h := fun j => (Int32.ofNat j, kyT (tr D F) j)) d (F.drop (i + 1)) (i + 1) (fun m e he => ?_)]
  · show _ = (ki d (((tr D F).drop (i + 1)).map Prod.fst) (i + 1)).map _
    have e2 : ((tr D F).drop (i + 1)).map Prod.fst = (F.drop (i + 1)).map Prod.fst := by
      rw [List.map_drop, tr_ds, List.map_drop]
    rw [e2]
  · rw [List.getElem?_drop] at he
    have e3 : kyT (tr D F) (i + 1 + m) = (D e.2).1 := by
      unfold kyT tr
      rw [List.getElem?_map, he]
      rfl
    show (b e.2, (D e.2).1) = _
    rw [(hT _ _ _ he).2.1, e3]
/-- the first child of a kind -/
def ckV (T : Tf) (a : Int32) (kd : Int32) : Int32 := if 0 ≤ a.toInt then (((nKK T a.toInt.toNat).find? (fun y => decide (y.2 = kd))).map Prod.fst).getD (-1) else -1
/-- the units' numbers -/
def uI : Tf → Nat → List Nat
  | [], _ => []
  | e :: t, j => if kd e.2.1 = 1 then j :: uI t (j + 1) else uI t (j + 1)
def uV (T : Tf) (a : Int32) : Int32 := if 0 ≤ a.toInt then ((uI T 0)[a.toInt.toNat]?.map Int32.ofNat).getD (-1) else -1
section
variable {L : Nat} {xs : Nat → Int32} {m d k : Nat} {n : Nat} {D : Nat → TD} {K : Nat → List Nat} {g : a2_G} {r : a2_A} {F : Fo}
/-- what is left of the search -/
def uW (T : Tf) (a : Int32) (ps i : Nat) : Int32 := if (ps : Int) ≤ a.toInt then ((uI (T.drop i) i)[(a.toInt - ps).toNat]?.map Int32.ofNat).getD (-1) else -1
theorem ua_4 (h : TC n D K F g r) {a1 : Int32} : ∀ (k : Nat) (x2 x3 : Int32) (ps i : Nat), x2.toInt = ps → x3.toInt = i → i ≤ F.length → ps ≤ i → pl (BT_unitAt_4 L xs (m + 1) d k a1 x2 x3 g r) (kE g r (uW (tr D F) a1 ps i)) kN
  | k, x2, x3, ps, i, h2, h3, hi, hp => by
    have hlt := h.1.lt
    have hlen := h.len
    have hn := h.2.2.2.1
    have hb := i32_hi a1
    have hrec : ∀ (x2' : Int32) (ps' : Nat), x2'.toInt = ps' → ps' ≤ i + 1 → i < F.length → pl (BT_unitAt_34 L xs (m + 1) d k a1 x2' x3 g r) (kE g r (uW (tr D F) a1 ps' (i + 1))) kN := by
      intro x2' ps' h2' hp' hi'
      unfold BT_unitAt_34
      cases k with
      | zero => exact pl_l0
      | succ k =>
        rw [lT_unitAt_4]
        exact ua_4 h k x2' (x3 + 1) ps' (i + 1) h2' (by rw [i32_inc (by omega), h3]; rfl) (by omega) hp'
    unfold BT_unitAt_4
    refine pl_if (fun e => ?_) (fun e => ?_)
    · rw [c2_ge, h3, hn] at e
      have hd : (tr D F).drop i = [] := List.drop_eq_nil_of_le (by unfold tr; rw [List.length_map]; omega)
      refine ⟨?_, rfl, rfl⟩
      unfold uW
      rw [hd]
      split
      · rfl
      · rfl
    · rw [c2_ge, h3, hn] at e
      have hi' : i < F.length := by omega
      obtain ⟨⟨dd, x⟩, ex⟩ : ∃ y, F[i]? = some y := ⟨_, List.getElem?_eq_getElem hi'⟩
      obtain ⟨hx, -⟩ := h.id ex
      refine pl_e (yT_handleOf h h3 ex) (pl_e (yT_isUnit h.1 hx) ?_)
      have et : (tr D F)[i]? = some (dd, D x) := by
        unfold tr
        rw [List.getElem?_map, ex]
        rfl
      have hd : (tr D F).drop i = (dd, D x) :: (tr D F).drop (i + 1) := by
        obtain ⟨h1, h4⟩ := List.getElem?_eq_some_iff.mp et
        rw [List.drop_eq_getElem_cons h1, h4]
      have hk1 : kd (D x).1 = 0 ∨ kd (D x).1 = 1 := by
        unfold kd
        split
        · exact Or.inr rfl
        · exact Or.inl rfl
      rcases hk1 with hk | hk
      · rw [hk]
        refine pl_pos (by decide) ?_
        have ew : uW (tr D F) a1 ps i = uW (tr D F) a1 ps (i + 1) := by
          unfold uW
          rw [hd]
          show (if (ps : Int) ≤ a1.toInt then ((if kd (D x).1 = 1 then i :: uI ((tr D F).drop (i + 1)) (i + 1) else uI ((tr D F).drop (i + 1)) (i + 1))[(a1.toInt - ps).toNat]?.map Int32.ofNat).getD (-1) else -1) = _
          rw [if_neg (show ¬ kd (D x).1 = 1 by rw [hk]; decide)]
        rw [ew]
        exact hrec x2 ps h2 (by omega) hi'
      · rw [hk]
        refine pl_neg (by decide) ?_
        have ew : uW (tr D F) a1 ps i = if (ps : Int) ≤ a1.toInt then ((i :: uI ((tr D F).drop (i + 1)) (i + 1))[(a1.toInt - ps).toNat]?.map Int32.ofNat).getD (-1) else -1 := by
          unfold uW
          rw [hd]
          show (if (ps : Int) ≤ a1.toInt then ((if kd (D x).1 = 1 then i :: uI ((tr D F).drop (i + 1)) (i + 1) else uI ((tr D F).drop (i + 1)) (i + 1))[(a1.toInt - ps).toNat]?.map Int32.ofNat).getD (-1) else -1) = _
          rw [if_pos hk]
        refine pl_in (fun e2 => ?_) (fun e2 => ?_)
        · have hne : (ps : Int) ≠ a1.toInt := fun q => e2 (i32e (by rw [h2, q]))
          have ew2 : uW (tr D F) a1 ps i = uW (tr D F) a1 (ps + 1) (i + 1) := by
            rw [ew]
            unfold uW
            by_cases c : (ps : Int) ≤ a1.toInt
            · have c' : ((ps + 1 : Nat) : Int) ≤ a1.toInt := by omega
              rw [if_pos c, if_pos c', show (a1.toInt - ps).toNat = (a1.toInt - ((ps + 1 : Nat) : Int)).toNat + 1 by omega]
              rfl
            · rw [if_neg c, if_neg (by omega)]
          rw [ew2]
          exact hrec (x2 + 1) (ps + 1) (by rw [i32_inc (by omega), h2]; rfl) (by omega) hi'
        · rw [Decidable.not_not] at e2
          have hq : (ps : Int) = a1.toInt := by rw [← h2, e2]
          refine ⟨?_, rfl, rfl⟩
          rw [ew, if_pos (by omega), show (a1.toInt - ps).toNat = 0 by omega]
          show some (Value.int x3) = some (Value.int (Int32.ofNat i))
          rw [show x3 = Int32.ofNat i from i32e (by rw [h3, on_eq (by omega)])]
theorem yT_unitAt (h : TC n D K F g r) (a1 : Int32) : pl (ev L xs (m + 1) d nT_unitAt [.ref cT, .int a1] g r) (kE g r (uV (tr D F) a1)) kN := by
  cases d with
  | zero => trivial
  | succ d =>
    rw [qT_unitAt]
    have := ua_4 (L := L) (xs := xs) (m := m) (d := d) h (a1 := a1) m 0 0 0 0 rfl rfl (Nat.zero_le _) (Nat.zero_le _)
    have e : uW (tr D F) a1 0 0 = uV (tr D F) a1 := by
      unfold uW uV
      rw [List.drop_zero]
      show (if (0 : Int) ≤ a1.toInt then ((uI (tr D F) 0)[(a1.toInt - 0).toNat]?.map Int32.ofNat).getD (-1) else -1) = _
      rw [Int.sub_zero]
    rw [e] at this
    exact this
theorem ck_17 (h : TC n D K F g r) {x : Nat} (hx : x < n) {a1 kk : Int32} : ∀ (k : Nat) (x4 x5 : Int32) (j : Nat), x5.toInt = j → j ≤ (K x).length → (∀ c, (K x)[j]? = some c → x4 = Int32.ofNat c) → pl (BT_childOfKind_17 L xs (m + 1) d k a1 kk (Int32.ofNat x) x4 x5 g r) (kE g r ((((((K x).drop j).map (fun y => ((r fT_cells).2 (12 * y + 10), (D y).1))).find? (fun y => decide (y.2 = kk))).map Prod.fst).getD (-1))) kN
  | k, x4, x5, j, h5, hj, h4 => by
    have hlt := h.1.lt
    have ex : (Int32.ofNat x).toInt = x := on_eq (by omega)
    have hc8 := (h.1.2.2.2.2.2.1 x hx).2.2
    have hkl : (K x).length ≤ n := by
      have hsub : ∀ y, y ∈ K x → y ∈ List.range n := fun y hy => List.mem_range.mpr (h.1.kid x y hx hy)
      have q := List.Nodup.length_le_of_subset (h.1.2.2.2.2.2.2.2.2.1 x hx) hsub
      rw [List.length_range] at q
      exact q
    unfold BT_childOfKind_17
    refine pl_e (yT_get L xs h.1 (i := x) (j := 8) hx (by omega) ex rfl) ?_
    refine pl_if (fun e => ?_) (fun e => ?_)
    · rw [c2_ge, h5, hc8] at e
      rw [List.drop_eq_nil_of_le (by omega)]
      exact ⟨rfl, rfl, rfl⟩
    · rw [c2_ge, h5, hc8] at e
      have hj' : j < (K x).length := by omega
      have hcj : (K x)[j]? = some (K x)[j] := List.getElem?_eq_getElem hj'
      have hcn : (K x)[j] < n := h.1.kid x _ hx (List.mem_of_getElem? hcj)
      have e4 := h4 _ hcj
      subst e4
      have ec : (Int32.ofNat (K x)[j]).toInt = ((K x)[j] : Nat) := on_eq (by omega)
      refine pl_e (yT_get L xs h.1 (i := (K x)[j]) (j := 0) hcn (by omega) ec rfl) ?_
      have ed : (r fT_cells).2 (12 * (K x)[j] + 0) = (D (K x)[j]).1 := congrArg (fun y => y.1) (h.1.2.2.2.2.1 _ hcn)
      rw [ed, List.drop_eq_getElem_cons hj', List.map_cons]
      refine pl_in (fun e2 => ?_) (fun e2 => ?_)
      · have hf : List.find? (fun y : Int32 × Int32 => decide (y.2 = kk)) (((r fT_cells).2 (12 * (K x)[j] + 10), (D (K x)[j]).1) :: ((K x).drop (j + 1)).map (fun y => ((r fT_cells).2 (12 * y + 10), (D y).1))) = List.find? (fun y : Int32 × Int32 => decide (y.2 = kk)) (((K x).drop (j + 1)).map (fun y => ((r fT_cells).2 (12 * y + 10), (D y).1))) := by
          rw [List.find?_cons_of_neg]
          show ¬ decide ((D (K x)[j]).1 = kk) = true
          rw [decide_eq_true_eq]
          exact e2
        rw [hf]
        refine pl_e (yT_get L xs h.1 (i := (K x)[j]) (j := 7) hcn (by omega) ec rfl) ?_
        cases k with
        | zero => exact pl_l0
        | succ k =>
          rw [lT_childOfKind_17]
          exact ck_17 h hx k _ (x5 + 1) (j + 1) (by rw [i32_inc (by omega), h5]; rfl) (by omega) (fun c hc => h.1.2.2.2.2.nxt hx hcj hc)
      · rw [Decidable.not_not] at e2
        have hf : List.find? (fun y : Int32 × Int32 => decide (y.2 = kk)) (((r fT_cells).2 (12 * (K x)[j] + 10), (D (K x)[j]).1) :: ((K x).drop (j + 1)).map (fun y => ((r fT_cells).2 (12 * y + 10), (D y).1))) = some ((r fT_cells).2 (12 * (K x)[j] + 10), (D (K x)[j]).1) := by
          rw [List.find?_cons_of_pos]
          show decide ((D (K x)[j]).1 = kk) = true
          rw [decide_eq_true_eq]
          exact e2
        rw [hf]
        exact pl_e (yT_numberOf h hcn) ⟨rfl, rfl, rfl⟩
theorem yT_childOfKind (h : TC n D K F g r) (a1 kk : Int32) : pl (ev L xs (m + 1) d nT_childOfKind [.ref cT, .int a1, .int kk] g r) (kE g r (ckV (tr D F) a1 kk)) kN := by
  have hlt := h.1.lt
  cases d with
  | zero => trivial
  | succ d =>
    rw [qT_childOfKind]
    by_cases ha : 0 ≤ a1.toInt ∧ a1.toInt < F.length
    · obtain ⟨i, hi⟩ : ∃ i : Nat, a1.toInt = i := ⟨a1.toInt.toNat, by omega⟩
      have hiF : i < F.length := by omega
      obtain ⟨⟨dd, x⟩, e⟩ : ∃ y, F[i]? = some y := ⟨_, List.getElem?_eq_getElem hiF⟩
      obtain ⟨hx, -⟩ := h.id e
      have ex : (Int32.ofNat x).toInt = x := on_eq (by omega)
      have hI : a1.toInt.toNat = i := by rw [hi]; rfl
      have hN := nKK_eq (D := D) h.2.2.1 h.2.2.2.2.2.2 e
      have hv : ckV (tr D F) a1 kk = (((((K x).drop 0).map (fun y => ((r fT_cells).2 (12 * y + 10), (D y).1))).find? (fun y => decide (y.2 = kk))).map Prod.fst).getD (-1) := by
        unfold ckV
        rw [if_pos ha.1, hI, ← hN, List.drop_zero]
      rw [hv]
      refine pl_e (yT_handleOf h hi e) ?_
      refine pl_e (yT_get L xs h.1 (i := x) (j := 5) hx (by omega) ex rfl) ?_
      refine ck_17 h hx _ _ 0 0 rfl (Nat.zero_le _) (fun c hc => ?_)
      rw [(h.1.2.2.2.2.2.1 x hx).1, List.head?_eq_getElem?, hc]
      rfl
    · have hn := h.2.2.2.1
      have hv : ckV (tr D F) a1 kk = -1 := by
        unfold ckV
        by_cases c : 0 ≤ a1.toInt
        · have hno : (tr D F)[a1.toInt.toNat]? = none := List.getElem?_eq_none (by unfold tr; rw [List.length_map]; omega)
          rw [if_pos c]
          unfold nKK
          rw [hno]
          rfl
        · rw [if_neg c]
      rw [hv]
      refine pl_e (yT_handleOfN hn ha) (pl_e yT_getN ?_)
      unfold BT_childOfKind_17
      exact pl_e yT_getN (pl_pos (by decide) ⟨rfl, rfl, rfl⟩)
/-- what is answered to division -/
def dvV (T : Tf) (a b : Int32) : Int32 := if b = 0 then uV T a else if b = 1 then ckV T (uV T a) 3 else if b = 2 then ckV T (uV T a) 7 else if b = 3 then ckV T (uV T a) 20 else -1
theorem xP_division (h : TC n D K F g r) (a1 a2 : Int32) : pl (ev L xs (m + 1) d nP_division [.ref cP, .int a1, .int a2] g r) (kE g r (dvV (tr D F) a1 a2)) kN := by
  cases d with
  | zero => trivial
  | succ d =>
    rw [qP_division]
    have e0 : a2.toInt = 0 ↔ a2 = 0 := ⟨fun e => i32e (e.trans rfl), fun e => by rw [e]; rfl⟩
    have e1 : a2.toInt = 1 ↔ a2 = 1 := ⟨fun e => i32e (e.trans rfl), fun e => by rw [e]; rfl⟩
    have e2 : a2.toInt = 2 ↔ a2 = 2 := ⟨fun e => i32e (e.trans rfl), fun e => by rw [e]; rfl⟩
    have e3 : a2.toInt = 3 ↔ a2 = 3 := ⟨fun e => i32e (e.trans rfl), fun e => by rw [e]; rfl⟩
    refine pl_e (yT_unitAt h a1) ?_
    refine pl_if (fun c0 => ?_) (fun c0 => pl_if (fun c1 => ?_) (fun c1 => pl_if (fun c2 => ?_) (fun c2 => pl_if (fun c3 => ?_) (fun c3 => ?_))))
    · refine ⟨?_, rfl, rfl⟩
      unfold dvV
      rw [if_pos (e0.mp c0)]
    · have hv : dvV (tr D F) a1 a2 = ckV (tr D F) (uV (tr D F) a1) 3 := by
        unfold dvV
        rw [if_neg (fun q => c0 (e0.mpr q)), if_pos (e1.mp c1)]
      rw [hv]
      exact pl_e (yT_childOfKind h _ 3) ⟨rfl, rfl, rfl⟩
    · have hv : dvV (tr D F) a1 a2 = ckV (tr D F) (uV (tr D F) a1) 7 := by
        unfold dvV
        rw [if_neg (fun q => c0 (e0.mpr q)), if_neg (fun q => c1 (e1.mpr q)), if_pos (e2.mp c2)]
      rw [hv]
      exact pl_e (yT_childOfKind h _ 7) ⟨rfl, rfl, rfl⟩
    · have hv : dvV (tr D F) a1 a2 = ckV (tr D F) (uV (tr D F) a1) 20 := by
        unfold dvV
        rw [if_neg (fun q => c0 (e0.mpr q)), if_neg (fun q => c1 (e1.mpr q)), if_neg (fun q => c2 (e2.mpr q)), if_pos (e3.mp c3)]
      rw [hv]
      exact pl_e (yT_childOfKind h _ 20) ⟨rfl, rfl, rfl⟩
    · refine ⟨?_, rfl, rfl⟩
      unfold dvV
      rw [if_neg (fun q => c0 (e0.mpr q)), if_neg (fun q => c1 (e1.mpr q)), if_neg (fun q => c2 (e2.mpr q)), if_neg (fun q => c3 (e3.mpr q))]
end
