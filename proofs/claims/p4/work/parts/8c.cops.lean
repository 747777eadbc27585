/-! The class's tree: what make, append, set and get do to it. -/
def Rc (n : Nat) (D : Nat → TD) (K : Nat → List Nat) (g : a2_G) (r : a2_A) : Prop := (g fT_made).toInt = n ∧ 12 * n ≤ (r fT_cells).1 ∧ 1 ≤ n ∧ (r fT_cells).1 ≤ 60000000 ∧ Cz n D K (r fT_cells).2
theorem Rc.lt {n : Nat} {D : Nat → TD} {K : Nat → List Nat} {g : a2_G} {r : a2_A} (h : Rc n D K g r) : n ≤ 5000000 := by
  have := h.2.1
  have := h.2.2.2.1
  omega
theorem tn_at {x : Int32} {n : Nat} (h : x.toInt = n) : x.toNatClampNeg = n := by
  rw [nc_eq, h]
  rfl
theorem x12 {x : Int32} {n t : Nat} (h : x.toInt = 12 * n) (hn : n ≤ 5000000) (ht : t < 12) {y : Int32} (hy : y.toInt = t) : (x + y).toInt = ((12 * n + t : Nat) : Int) := by
  rw [ad_eq (by omega) (by omega), h, hy]
  omega
theorem xT_make43c (L : Nat) (xs : Nat → Int32) {m d n : Nat} (x1 x2 x3 x4 : Int32) {g : a2_G} {C0 : Nat → Int32} (h0 : (g fT_made).toInt = n) (hn : n ≤ 5000000) (h4 : x4.toInt = 12 * n) : ∀ (k : Nat) (x5 : Int32) (j : Nat) (r : a2_A), x5.toInt = j → j ≤ 12 → 12 * n + 12 ≤ (r fT_cells).1 → (r fT_cells).1 ≤ 60000000 → (∀ x, x < 12 * n → (r fT_cells).2 x = C0 x) → (∀ t, t < j → (r fT_cells).2 (12 * n + t) = -1) → pl (BT_make_43 L xs m d k x1 x2 x3 x4 x5 g r) (fun o g' r' => o = some (.int (Int32.ofNat n)) ∧ (g' fT_made).toInt = (n + 1 : Nat) ∧ 12 * n + 12 ≤ (r' fT_cells).1 ∧ (r' fT_cells).1 ≤ 60000000 ∧ (∀ x, x < 12 * n → (r' fT_cells).2 x = C0 x) ∧ (r' fT_cells).2 (12 * n) = x1 ∧ (r' fT_cells).2 (12 * n + 1) = x2 ∧ (r' fT_cells).2 (12 * n + 2) = x3 ∧ (r' fT_cells).2 (12 * n + 8) = 0 ∧ (r' fT_cells).2 (12 * n + 9) = 0 ∧ ∀ t, 3 ≤ t → (t < 8 ∨ t = 10) → (r' fT_cells).2 (12 * n + t) = -1) kN := by
  have hend : ∀ (k : Nat) (x5 : Int32) (r : a2_A), 12 * n + 12 ≤ (r fT_cells).1 → (r fT_cells).1 ≤ 60000000 → (∀ x, x < 12 * n → (r fT_cells).2 x = C0 x) → (∀ t, t < 12 → (r fT_cells).2 (12 * n + t) = -1) → am_c2 .ge x5 12 = true → pl (BT_make_43 L xs m d k x1 x2 x3 x4 x5 g r) (fun o g' r' => o = some (.int (Int32.ofNat n)) ∧ (g' fT_made).toInt = (n + 1 : Nat) ∧ 12 * n + 12 ≤ (r' fT_cells).1 ∧ (r' fT_cells).1 ≤ 60000000 ∧ (∀ x, x < 12 * n → (r' fT_cells).2 x = C0 x) ∧ (r' fT_cells).2 (12 * n) = x1 ∧ (r' fT_cells).2 (12 * n + 1) = x2 ∧ (r' fT_cells).2 (12 * n + 2) = x3 ∧ (r' fT_cells).2 (12 * n + 8) = 0 ∧ (r' fT_cells).2 (12 * n + 9) = 0 ∧ ∀ t, 3 ≤ t → (t < 8 ∨ t = 10) → (r' fT_cells).2 (12 * n + t) = -1) kN := by
    intro k x5 r h1 h2 hC hm hc
    unfold BT_make_43
    refine pl_pos hc ?_
    refine pl_if (fun _ => ?_) (fun _ => trivial)
    refine pl_if (fun _ => ?_) (fun _ => trivial)
    refine pl_if (fun _ => ?_) (fun _ => trivial)
    refine pl_if (fun _ => ?_) (fun _ => trivial)
    refine pl_if (fun _ => ?_) (fun _ => trivial)
    have e0 : (x4 + 0).toNatClampNeg = 12 * n := tn_at (x12 h4 hn (t := 0) (by omega) rfl)
    have e1 : (x4 + 1).toNatClampNeg = 12 * n + 1 := tn_at (x12 h4 hn (t := 1) (by omega) rfl)
    have e2 : (x4 + 2).toNatClampNeg = 12 * n + 2 := tn_at (x12 h4 hn (t := 2) (by omega) rfl)
    have e8 : (x4 + 8).toNatClampNeg = 12 * n + 8 := tn_at (x12 h4 hn (t := 8) (by omega) rfl)
    have e9 : (x4 + 9).toNatClampNeg = 12 * n + 9 := tn_at (x12 h4 hn (t := 9) (by omega) rfl)
    rw [e0, e1, e2, e8, e9]
    have e := i32_inc (x := g fT_made) (by omega)
    have ev : g fT_made + 1 - 1 = Int32.ofNat n := by
      rw [i32_as]
      exact Int32.toInt_inj.mp (by rw [h0, on_eq (by omega)])
    have hu : ∀ x, upd (upd (upd (upd (upd (r fT_cells).2 (12 * n) x1) (12 * n + 1) x2) (12 * n + 2) x3) (12 * n + 8) 0) (12 * n + 9) 0 x = if x = 12 * n + 9 then 0 else if x = 12 * n + 8 then 0 else if x = 12 * n + 2 then x3 else if x = 12 * n + 1 then x2 else if x = 12 * n then x1 else (r fT_cells).2 x := fun x => rfl
    refine ⟨by rw [ev], ?_, h1, h2, fun x hx => ?_, ?_, ?_, ?_, ?_, ?_, fun t ht1 ht2 => ?_⟩
    · show (g fT_made + 1).toInt = _
      rw [e, h0]
      rfl
    · refine (hu x).trans ?_
      rw [if_neg (by omega), if_neg (by omega), if_neg (by omega), if_neg (by omega), if_neg (by omega)]
      exact hC x hx
    · refine (hu _).trans ?_
      rw [if_neg (by omega), if_neg (by omega), if_neg (by omega), if_neg (by omega), if_pos rfl]
    · refine (hu _).trans ?_
      rw [if_neg (by omega), if_neg (by omega), if_neg (by omega), if_pos rfl]
    · refine (hu _).trans ?_
      rw [if_neg (by omega), if_neg (by omega), if_pos rfl]
    · refine (hu _).trans ?_
      rw [if_neg (by omega), if_pos rfl]
    · refine (hu _).trans ?_
      rw [if_pos rfl]
    · refine (hu _).trans ?_
      rw [if_neg (by omega), if_neg (by omega), if_neg (by omega), if_neg (by omega), if_neg (by omega)]
      exact hm t (by omega)
  have h12 : (12 : Int32).toInt = 12 := rfl
  intro k
  induction k with
  | zero =>
    intro x5 j r h5 hj h1 h2 hC hm
    by_cases hc : am_c2 .ge x5 12 = true
    · rw [c2_ge, h5, h12] at hc
      exact hend 0 x5 r h1 h2 hC (fun t ht => hm t (by omega)) (by rw [c2_ge, h5, h12]; exact hc)
    · unfold BT_make_43
      refine pl_neg hc ?_
      exact pl_if (fun _ => pl_l0) (fun _ => trivial)
  | succ k ih =>
    intro x5 j r h5 hj h1 h2 hC hm
    by_cases hc : am_c2 .ge x5 12 = true
    · rw [c2_ge, h5, h12] at hc
      exact hend (k + 1) x5 r h1 h2 hC (fun t ht => hm t (by omega)) (by rw [c2_ge, h5, h12]; exact hc)
    · unfold BT_make_43
      refine pl_neg hc ?_
      rw [c2_ge, h5, h12] at hc
      refine pl_if (fun _ => ?_) (fun _ => trivial)
      rw [lT_make_43]
      have e5 : (x4 + x5).toNatClampNeg = 12 * n + j := tn_at (x12 h4 hn (t := j) (by omega) h5)
      have e6 := i32_inc (x := x5) (by omega)
      rw [e5]
      refine ih (x5 + 1) (j + 1) _ (by omega) (by omega) h1 h2 (fun x hx => ?_) (fun t ht => ?_)
      · show upd (r fT_cells).2 (12 * n + j) (-1) x = _
        rw [upd_ne (by omega)]
        exact hC x hx
      · show upd (r fT_cells).2 (12 * n + j) (-1) (12 * n + t) = _
        by_cases e : t = j
        · rw [e, upd_eq]
        · rw [upd_ne (by omega)]
          exact hm t (by omega)
section
variable {n : Nat} {D : Nat → TD} {K : Nat → List Nat} {g : a2_G} {r : a2_A}
theorem yT_make (L : Nat) (xs : Nat → Int32) {m d : Nat} (a1 a2 a3 : Int32) (h : Rc n D K g r) {e0 : Int32} (he : False ∨ e0 = -1) : pl (ev L xs (m + 1) d nT_make [.ref cT, .int a1, .int a2, .int a3] g r) (fun o g' r' => (o = some (.int (Int32.ofNat n)) ∧ Rc (n + 1) (fD D n (a1, a2, a3, e0)) (fK K n []) g' r') ∧ cpF cpTT g r g' r') (fun x g' r' => False ∧ cpF cpTT g r g' r') := by
  refine pl_cp cp_T (cpS.int (by decide) rfl ai3) ?_
  cases d with
  | zero => trivial
  | succ d =>
    have hn := h.lt
    obtain ⟨c1, c2, c3, c4, c5⟩ := h
    have e1 : (g fT_made * 12).toInt = 12 * n := by
      rw [i32_m12b (x := g fT_made) (by omega) (by omega), c1]
    have e2 : (g fT_made * 12 + 12).toInt = (g fT_made * 12).toInt + 12 := ad_eq (by rw [i32_12]; omega) (by rw [i32_12]; omega)
    have e3 : (Int32.ofNat (r fT_cells).1).toInt = (r fT_cells).1 := on_eq (by omega)
    have fin : ∀ (o : Option Value) (g' : a2_G) (r' : a2_A), (o = some (Value.int (Int32.ofNat n)) ∧ (g' fT_made).toInt = (n + 1 : Nat) ∧ 12 * n + 12 ≤ (r' fT_cells).1 ∧ (r' fT_cells).1 ≤ 60000000 ∧ (∀ x, x < 12 * n → (r' fT_cells).2 x = (r fT_cells).2 x) ∧ (r' fT_cells).2 (12 * n) = a1 ∧ (r' fT_cells).2 (12 * n + 1) = a2 ∧ (r' fT_cells).2 (12 * n + 2) = a3 ∧ (r' fT_cells).2 (12 * n + 8) = 0 ∧ (r' fT_cells).2 (12 * n + 9) = 0 ∧ ∀ t, 3 ≤ t → (t < 8 ∨ t = 10) → (r' fT_cells).2 (12 * n + t) = -1) → (o = some (.int (Int32.ofNat n)) ∧ Rc (n + 1) (fD D n (a1, a2, a3, e0)) (fK K n []) g' r') := by
      intro o g' r' ⟨q1, q2, q3, q4, q5, q6, q7, q8, q9, q10, q11⟩
      exact ⟨q1, q2, by omega, by omega, q4, c5.mk q5 q6 q7 q8 (q11 3 (by omega) (by omega)) (q11 4 (by omega) (by omega)) (q11 5 (by omega) (by omega)) (q11 6 (by omega) (by omega)) (q11 7 (by omega) (by omega)) q9 q10 (q11 10 (by omega) (by omega)) he⟩
    rw [qT_make]
    unfold BT_make_40
    refine pl_if (fun hc => ?_) (fun _ => ?_)
    · rw [c2_le] at hc
      exact pl_mono (xT_make43c L xs a1 a2 a3 _ c1 hn e1 _ 0 0 r rfl (by omega) (by omega) c4 (fun _ _ => rfl) (fun t ht => by omega)) fin (fun _ _ _ e => e)
    · refine pl_if (fun hc => ?_) (fun _ => trivial)
      obtain ⟨-, h2, -, -, -, h6⟩ := hc
      refine pl_mono (xT_make43c L xs a1 a2 a3 _ c1 hn e1 _ 0 0 _ rfl (by omega) ?_ ?_ (C0 := (r fT_cells).2) (fun x hx => ?_) (fun t ht => by omega)) fin (fun _ _ _ e => e)
      · show 12 * n + 12 ≤ (2 * Int32.ofNat (r fT_cells).1).toNatClampNeg
        omega
      · exact h2
      · exact cp_same (by omega) (by omega)
theorem yT_set (L : Nat) (xs : Nat → Int32) {m d : Nat} {a1 a2 : Int32} (a3 : Int32) (h : Rc n D K g r) {i j : Nat} (hi : i < n) (hj : j < 4) (e1 : a1.toInt = i) (e2 : a2.toInt = j) {d' : TD} (hk : ((D i).1 ≠ 53 ∧ (D i).1 ≠ 41)) (hk' : (d'.1 ≠ 53 ∧ d'.1 ≠ 41)) (hd : ((if j = 0 then a3 else (D i).1), (if j = 1 then a3 else (D i).2.1), (if j = 2 then a3 else (D i).2.2.1), (if j = 3 then a3 else (D i).2.2.2)) = d') : pl (ev L xs (m + 1) d nT_set [.ref cT, .int a1, .int a2, .int a3] g r) (fun o g' r' => (o = none ∧ Rc n (fD D i d') K g' r') ∧ cpF cpTT g r g' r') (fun x g' r' => False ∧ cpF cpTT g r g' r') := by
  refine pl_cp cp_T (cpS.int (by decide) rfl ai3) ?_
  cases d with
  | zero => trivial
  | succ d =>
    have hn := h.lt
    obtain ⟨c1, c2, c3, c4, c5⟩ := h
    have e3 : (a1 * 12).toInt = 12 * i := by
      rw [i32_m12b (x := a1) (by omega) (by omega), e1]
    have e4 : (a1 * 12 + a2).toNatClampNeg = 12 * i + j := tn_at (x12 e3 (by omega) (by omega) e2)
    rw [qT_set]
    simp only [BT_set_34, c2_lt, c2_ge, e1, e2, c1, i32_0, i32_12]
    refine pl_neg (by omega) (pl_neg (by omega) (pl_neg (by omega) (pl_neg (by omega) ?_)))
    refine pl_if (fun _ => ?_) (fun _ => trivial)
    refine ⟨rfl, c1, c2, c3, c4, ?_⟩
    show Cz n (fD D i d') K (upd (r fT_cells).2 (a1 * 12 + a2).toNatClampNeg a3)
    rw [e4]
    exact c5.st hi hj hk hk' hd
/-- a relation's subject -/
theorem yT_set3 (L : Nat) (xs : Nat → Int32) {m d : Nat} {a1 : Int32} (h : Rc n D K g r) {i s : Nat} {e : Int32} (hi : i < n) (e1 : a1.toInt = i) (hk : (D i).1 = 53) (hs : s < i) (h41 : (D s).1 = 41) (hp : (D s).2.2.1 = e) : pl (ev L xs (m + 1) d nT_set [.ref cT, .int a1, .int 3, .int (Int32.ofNat s)] g r) (fun o g' r' => (o = none ∧ Rc n (fD D i ((D i).1, (D i).2.1, (D i).2.2.1, e)) K g' r') ∧ cpF cpTT g r g' r') (fun x g' r' => False ∧ cpF cpTT g r g' r') := by
  refine pl_cp cp_T (cpS.int (by decide) rfl ai3) ?_
  cases d with
  | zero => trivial
  | succ d =>
    have hn := h.lt
    obtain ⟨c1, c2, c3, c4, c5⟩ := h
    have e3 : (a1 * 12).toInt = 12 * i := by
      rw [i32_m12b (x := a1) (by omega) (by omega), e1]
    have e4 : (a1 * 12 + 3).toNatClampNeg = 12 * i + 3 := tn_at (x12 e3 (by omega) (t := 3) (by omega) rfl)
    rw [qT_set]
    simp only [BT_set_34, c2_lt, c2_ge, e1, c1, i32_0, i32_12, show (3 : Int32).toInt = 3 from rfl]
    refine pl_neg (by omega) (pl_neg (by omega) (pl_neg (by omega) (pl_neg (by omega) ?_)))
    refine pl_if (fun _ => ?_) (fun _ => trivial)
    refine ⟨rfl, c1, c2, c3, c4, ?_⟩
    show Cz n _ K (upd (r fT_cells).2 (a1 * 12 + 3).toNatClampNeg (Int32.ofNat s))
    rw [e4]
    exact c5.st3 hi hk hs h41 hp
theorem yT_append (L : Nat) (xs : Nat → Int32) {m d : Nat} {a1 a2 : Int32} (h : Rc n D K g r) {i c : Nat} (hi : i < n) (hc : c < n) (hc0 : 0 < c) (e1 : a1 = Int32.ofNat i) (e2 : a2 = Int32.ofNat c) (hd : ∀ j, j < n → c ∉ K j) : pl (ev L xs (m + 1) d nT_append [.ref cT, .int a1, .int a2] g r) (fun o g' r' => (o = none ∧ Rc n D (fK K i (K i ++ [c])) g' r') ∧ cpF cpTT g r g' r') (fun x g' r' => False ∧ cpF cpTT g r g' r') := by
  refine pl_cp cp_T (cpS.int (by decide) rfl ai2) ?_
  cases d with
  | zero => trivial
  | succ d =>
    have hn := h.lt
    obtain ⟨c1, c2, c3, c4, c5⟩ := h
    subst e1
    subst e2
    have ei : (Int32.ofNat i).toInt = i := on_eq (by omega)
    have ec : (Int32.ofNat c).toInt = c := on_eq (by omega)
    have ei12 : (Int32.ofNat i * 12).toInt = 12 * i := by
      rw [i32_m12b (by omega) (by omega), ei]
    have ec12 : (Int32.ofNat c * 12).toInt = 12 * c := by
      rw [i32_m12b (by omega) (by omega), ec]
    have e5 : (Int32.ofNat i * 12 + 5).toNatClampNeg = 12 * i + 5 := tn_at (x12 ei12 (by omega) (t := 5) (by omega) rfl)
    have e6 : (Int32.ofNat i * 12 + 6).toNatClampNeg = 12 * i + 6 := tn_at (x12 ei12 (by omega) (t := 6) (by omega) rfl)
    have e8 : (Int32.ofNat i * 12 + 8).toNatClampNeg = 12 * i + 8 := tn_at (x12 ei12 (by omega) (t := 8) (by omega) rfl)
    have e4 : (Int32.ofNat c * 12 + 4).toNatClampNeg = 12 * c + 4 := tn_at (x12 ec12 (by omega) (t := 4) (by omega) rfl)
    obtain ⟨b1, b2, b3⟩ := c5.2.1 i hi
    have hlen : (K i).length ≤ n := by
      have hsub : ∀ x, x ∈ K i → x ∈ List.range n := fun x hx => List.mem_range.mpr (c5.kid hi hx)
      have := (List.nodup_iff_count.mp (c5.2.2.2.2.1 i hi))
      have q := List.Nodup.length_le_of_subset (c5.2.2.2.2.1 i hi) hsub
      rw [List.length_range] at q
      exact q
    have fin : ∀ (C1 : Nat → Int32), ((K i = [] ∧ C1 = upd (r fT_cells).2 (12 * i + 5) (Int32.ofNat c)) ∨ ∃ l y, K i = l ++ [y] ∧ C1 = upd (r fT_cells).2 (12 * y + 7) (Int32.ofNat c)) → ∀ (x4 : Int32) (r1 : a2_A), r1 fT_cells = ((r fT_cells).1, C1) → pl (BT_append_81 L xs (m + 1) d m (Int32.ofNat i) (Int32.ofNat c) (Int32.ofNat i * 12) x4 g r1) (fun o g' r' => o = none ∧ Rc n D (fK K i (K i ++ [c])) g' r') (fun _ _ _ => False) := by
      intro C1 hC1 x4 r1 hr1
      unfold BT_append_81
      rw [e6, e8, e4]
      refine pl_if (fun _ => ?_) (fun _ => trivial)
      refine pl_if (fun _ => ?_) (fun _ => trivial)
      refine pl_if (fun _ => ?_) (fun _ => trivial)
      refine pl_if (fun _ => ?_) (fun _ => trivial)
      have hz : (upd (r1 fT_cells).2 (12 * i + 6) (Int32.ofNat c) (12 * i + 8) + 1).toInt = ((K i).length : Int) + 1 := by
        rw [upd_ne (by omega), hr1]
        have e : C1 (12 * i + 8) = (r fT_cells).2 (12 * i + 8) := by
          rcases hC1 with ⟨-, e⟩ | ⟨l, y, -, e⟩
          · rw [e, upd_ne (by omega)]
          · rw [e, upd_ne (by omega)]
        show (C1 (12 * i + 8) + 1).toInt = _
        rw [e, i32_inc (by omega), b3]
      refine ⟨rfl, c1, ?_, ?_, ?_, ?_⟩
      · show 12 * n ≤ (r1 fT_cells).1
        rw [hr1]
        exact c2
      · exact c3
      · show (r1 fT_cells).1 ≤ 60000000
        rw [hr1]
        exact c4
      · have q := c5.ap (by omega) hi hc hc0 hd hC1 hz
        rw [hr1] at q
        show Cz n D _ (upd (upd (upd (r1 fT_cells).2 (12 * i + 6) (Int32.ofNat c)) (12 * i + 8) (upd (r1 fT_cells).2 (12 * i + 6) (Int32.ofNat c) (12 * i + 8) + 1)) (12 * c + 4) (Int32.ofNat i))
        rw [hr1]
        exact q
    rw [qT_append]
    refine pl_neg (by rw [c2_lt, ei, i32_0]; omega) (pl_neg (by rw [c2_ge, ei, c1]; omega) (pl_neg (by rw [c2_lt, ec, i32_0]; omega) (pl_pos (by rw [c2_lt, ec, c1]; omega) ?_)))
    refine pl_if (fun _ => ?_) (fun _ => trivial)
    rw [e6]
    cases hK : (K i).getLast? with
    | none =>
      have hK' : K i = [] := List.getLast?_eq_none_iff.mp hK
      rw [hK] at b2
      refine pl_pos (by rw [b2]; decide) ?_
      unfold BT_append_72
      refine pl_if (fun _ => ?_) (fun _ => trivial)
      rw [e5]
      exact fin _ (Or.inl ⟨hK', rfl⟩) _ _ rfl
    | some y =>
      obtain ⟨l, hl⟩ := List.getLast?_eq_some_iff.mp hK
      have hy : y < n := c5.kid hi (by rw [hl]; exact List.mem_append_right _ List.mem_cons_self)
      rw [hK] at b2
      have b2' : (r fT_cells).2 (12 * i + 6) = Int32.ofNat y := b2
      have ey : (Int32.ofNat y).toInt = y := on_eq (by omega)
      have ey12 : (Int32.ofNat y * 12).toInt = 12 * y := by
        rw [i32_m12b (by omega) (by omega), ey]
      have e7 : (Int32.ofNat y * 12 + 7).toNatClampNeg = 12 * y + 7 := tn_at (x12 ey12 (by omega) (t := 7) (by omega) rfl)
      rw [b2']
      refine pl_neg (by rw [c2_lt, ey, i32_0]; omega) (pl_neg (by rw [c2_ge, ey, c1]; omega) ?_)
      refine pl_if (fun _ => ?_) (fun _ => trivial)
      rw [e7]
      exact fin _ (Or.inr ⟨l, y, hl, rfl⟩) _ _ rfl
theorem yT_get (L : Nat) (xs : Nat → Int32) {m d : Nat} {a1 a2 : Int32} {i j : Nat} (h : Rc n D K g r) (hi : i < n) (hj : j < 12) (e1 : a1.toInt = i) (e2 : a2.toInt = j) : pl (ev L xs (m + 1) d nT_get [.ref cT, .int a1, .int a2] g r) (kE g r ((r fT_cells).2 (12 * i + j))) kN := by
  cases d with
  | zero => trivial
  | succ d =>
    have hn := h.lt
    obtain ⟨c1, c2, c3, c4, c5⟩ := h
    have e3 : (a1 * 12).toInt = 12 * i := by
      rw [i32_m12b (x := a1) (by omega) (by omega), e1]
    have e4 : (a1 * 12 + a2).toNatClampNeg = 12 * i + j := tn_at (x12 e3 (by omega) (by omega) e2)
    rw [qT_get]
    simp only [BT_get_36, BT_get_37, c2_lt, c2_ge, e1, e2, c1, i32_0, i32_12]
    refine pl_neg (by omega) (pl_neg (by omega) (pl_neg (by omega) (pl_neg (by omega) ?_)))
    refine pl_if (fun _ => ?_) (fun _ => trivial)
    rw [e4]
    exact ⟨rfl, rfl, rfl⟩
end
