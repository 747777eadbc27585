/-! What the class answers to node. -/
def ndA (a2 v0 v1 v2 v3 v4 v5 : Int32) : Int32 := if a2.toInt = 0 then v0 else if a2.toInt = 1 then v1 else if a2.toInt = 2 then v2 else if a2.toInt = 3 then v3 else if a2.toInt = 4 then v4 else if a2.toInt = 5 then v5 else -1
section
variable {L : Nat} {xs : Nat → Int32} {m d k : Nat} {n : Nat} {D : Nat → TD} {K : Nat → List Nat} {g : a2_G} {r : a2_A} {F : Fo}
theorem xP_node {a1 a2 v0 v1 v2 v3 v4 v5 : Int32} (h0 : ∀ d, pl (ev L xs (m + 1) d nT_kindOf [.ref cT, .int a1] g r) (kE g r v0) kN) (h1 : ∀ d, pl (ev L xs (m + 1) d nT_valueOf [.ref cT, .int a1] g r) (kE g r v1) kN) (h2 : ∀ d, pl (ev L xs (m + 1) d nT_placeOf [.ref cT, .int a1] g r) (kE g r v2) kN) (h3 : ∀ d, pl (ev L xs (m + 1) d nT_childrenOf [.ref cT, .int a1] g r) (kE g r v3) kN) (h4 : ∀ d, pl (ev L xs (m + 1) d nT_parentOf [.ref cT, .int a1] g r) (kE g r v4) kN) (h5 : ∀ d, pl (ev L xs (m + 1) d nT_extraOf [.ref cT, .int a1] g r) (kE g r v5) kN) : pl (ev L xs (m + 1) d nP_node [.ref cP, .int a1, .int a2] g r) (kE g r (ndA a2 v0 v1 v2 v3 v4 v5)) kN := by
  cases d with
  | zero => trivial
  | succ d =>
    rw [qP_node]
    unfold ndA
    by_cases c0 : a2.toInt = 0
    · rw [if_pos c0, if_pos c0]
      exact pl_e (h0 d) ⟨rfl, rfl, rfl⟩
    rw [if_neg c0, if_neg c0]
    by_cases c1 : a2.toInt = 1
    · rw [if_pos c1, if_pos c1]
      exact pl_e (h1 d) ⟨rfl, rfl, rfl⟩
    rw [if_neg c1, if_neg c1]
    by_cases c2 : a2.toInt = 2
    · rw [if_pos c2, if_pos c2]
      exact pl_e (h2 d) ⟨rfl, rfl, rfl⟩
    rw [if_neg c2, if_neg c2]
    by_cases c3 : a2.toInt = 3
    · rw [if_pos c3, if_pos c3]
      exact pl_e (h3 d) ⟨rfl, rfl, rfl⟩
    rw [if_neg c3, if_neg c3]
    by_cases c4 : a2.toInt = 4
    · rw [if_pos c4, if_pos c4]
      exact pl_e (h4 d) ⟨rfl, rfl, rfl⟩
    rw [if_neg c4, if_neg c4]
    by_cases c5 : a2.toInt = 5
    · rw [if_pos c5, if_pos c5]
      exact pl_e (h5 d) ⟨rfl, rfl, rfl⟩
    rw [if_neg c5, if_neg c5]
    exact ⟨rfl, rfl, rfl⟩
/-- no such node -/
theorem xP_nodeN (hn : (g fT_numbered).toInt = F.length) {a1 a2 : Int32} (ha : ¬ (0 ≤ a1.toInt ∧ a1.toInt < F.length)) : pl (ev L xs (m + 1) d nP_node [.ref cP, .int a1, .int a2] g r) (kE g r (ndA a2 (-1) (-1) (-1) (-1) (-1) (-1))) kN := by
  have hk : ∀ d, pl (ev L xs (m + 1) d nT_kindOf [.ref cT, .int a1] g r) (kE g r (-1)) kN := fun d => by
    cases d with
    | zero => trivial
    | succ d =>
      rw [qT_kindOf]
      exact pl_e (yT_handleOfN hn ha) (pl_e yT_getN ⟨rfl, rfl, rfl⟩)
  refine xP_node hk (fun d => ?_) (fun d => ?_) (fun d => ?_) (fun d => ?_) (fun d => ?_)
  · cases d with
    | zero => trivial
    | succ d =>
      rw [qT_valueOf]
      exact pl_e (yT_handleOfN hn ha) (pl_e yT_getN ⟨rfl, rfl, rfl⟩)
  · cases d with
    | zero => trivial
    | succ d =>
      rw [qT_placeOf]
      exact pl_e (yT_handleOfN hn ha) (pl_e yT_getN ⟨rfl, rfl, rfl⟩)
  · cases d with
    | zero => trivial
    | succ d =>
      rw [qT_childrenOf]
      exact pl_e (yT_handleOfN hn ha) (pl_e yT_getN ⟨rfl, rfl, rfl⟩)
  · cases d with
    | zero => trivial
    | succ d =>
      rw [qT_parentOf]
      refine pl_e (yT_handleOfN hn ha) (pl_e yT_getN ?_)
      refine pl_e (v := -1) ?_ ⟨rfl, rfl, rfl⟩
      cases d with
      | zero => trivial
      | succ d =>
        rw [qT_numberOf]
        exact pl_e yT_getN ⟨rfl, rfl, rfl⟩
  · cases d with
    | zero => trivial
    | succ d =>
      rw [qT_extraOf]
      refine pl_e (yT_handleOfN hn ha) (pl_e yT_getN (pl_e (hk d) ?_))
      exact pl_pos (by decide) ⟨rfl, rfl, rfl⟩
/-- the class's parent's number -/
def pnC (x : Nat) (r : a2_A) : Int32 := (r fT_cells).2 (12 * ((r fT_cells).2 (12 * x + 4)).toNatClampNeg + 10)
def exC (x : Nat) (D : Nat → TD) (r : a2_A) : Int32 := if (D x).1 = 53 then (r fT_cells).2 (12 * ((r fT_cells).2 (12 * x + 3)).toNatClampNeg + 10) else (D x).2.2.2
theorem xP_nodeI (h : TC n D K F g r) {a1 a2 : Int32} {i dd x u : Nat} (ha : a1.toInt = i) (e : F[i]? = some (dd, x)) (hu : u < n) (hx4 : x ∈ K u) (h53 : (D x).1 = 53 → ∃ s, s < n ∧ (r fT_cells).2 (12 * x + 3) = Int32.ofNat s) : pl (ev L xs (m + 1) d nP_node [.ref cP, .int a1, .int a2] g r) (kE g r (ndA a2 (D x).1 (D x).2.1 (D x).2.2.1 (Int32.ofNat (K x).length) ((r fT_cells).2 (12 * u + 10)) (exC x D r))) kN := by
  obtain ⟨hx, hi⟩ := h.id e
  have hlt := h.1.lt
  have hox : (Int32.ofNat x).toInt = x := on_eq (by omega)
  have hD := h.1.2.2.2.2.1 x hx
  have hk : ∀ d, pl (ev L xs (m + 1) d nT_kindOf [.ref cT, .int a1] g r) (kE g r (D x).1) kN := fun d => by
    cases d with
    | zero => trivial
    | succ d =>
      rw [qT_kindOf]
      refine pl_e (yT_handleOf h ha e) (pl_e (yT_get L xs h.1 (i := x) (j := 0) hx (by omega) hox rfl) ?_)
      rw [show (r fT_cells).2 (12 * x + 0) = (D x).1 from congrArg (fun y => y.1) hD]
      exact ⟨rfl, rfl, rfl⟩
  refine xP_node hk (fun d => ?_) (fun d => ?_) (fun d => ?_) (fun d => ?_) (fun d => ?_)
  · cases d with
    | zero => trivial
    | succ d =>
      rw [qT_valueOf]
      refine pl_e (yT_handleOf h ha e) (pl_e (yT_get L xs h.1 (i := x) (j := 1) hx (by omega) hox rfl) ?_)
      rw [show (r fT_cells).2 (12 * x + 1) = (D x).2.1 from congrArg (fun y => y.2.1) hD]
      exact ⟨rfl, rfl, rfl⟩
  · cases d with
    | zero => trivial
    | succ d =>
      rw [qT_placeOf]
      refine pl_e (yT_handleOf h ha e) (pl_e (yT_get L xs h.1 (i := x) (j := 2) hx (by omega) hox rfl) ?_)
      rw [show (r fT_cells).2 (12 * x + 2) = (D x).2.2.1 from congrArg (fun y => y.2.2.1) hD]
      exact ⟨rfl, rfl, rfl⟩
  · cases d with
    | zero => trivial
    | succ d =>
      rw [qT_childrenOf]
      refine pl_e (yT_handleOf h ha e) (pl_e (yT_get L xs h.1 (i := x) (j := 8) hx (by omega) hox rfl) ?_)
      have h8 := (h.1.2.2.2.2.2.1 x hx).2.2
      have hll : (K x).length ≤ n := by
        have hsub : ∀ y, y ∈ K x → y ∈ List.range n := fun y hy => List.mem_range.mpr (h.1.kid x y hx hy)
        have q := List.Nodup.length_le_of_subset (h.1.2.2.2.2.2.2.2.2.1 x hx) hsub
        rw [List.length_range] at q
        exact q
      rw [show (r fT_cells).2 (12 * x + 8) = Int32.ofNat (K x).length from i32e (by rw [h8, on_eq (by omega)])]
      exact ⟨rfl, rfl, rfl⟩
  · cases d with
    | zero => trivial
    | succ d =>
      rw [qT_parentOf]
      refine pl_e (yT_handleOf h ha e) (pl_e (yT_get L xs h.1 (i := x) (j := 4) hx (by omega) hox rfl) ?_)
      obtain ⟨l1, l2, el⟩ := List.append_of_mem hx4
      rw [(h.1.2.2.2.2.2.2.1 u hu l1 x l2 el).2.1]
      exact pl_e (yT_numberOf h hu) ⟨rfl, rfl, rfl⟩
  · cases d with
    | zero => trivial
    | succ d =>
      rw [qT_extraOf]
      refine pl_e (yT_handleOf h ha e) (pl_e (yT_get L xs h.1 (i := x) (j := 3) hx (by omega) hox rfl) (pl_e (hk d) ?_))
      unfold exC
      by_cases c : (D x).1 = 53
      · rw [if_pos c]
        obtain ⟨s, hs, es⟩ := h53 c
        refine pl_neg (by rw [c2_ne, c]; decide) ?_
        rw [es]
        refine pl_e (yT_numberOf h hs) ?_
        rw [on_nc (by omega)]
        exact ⟨rfl, rfl, rfl⟩
      · rw [if_neg c]
        refine pl_pos (by rw [c2_ne]; exact c) ?_
        have hD' := hD
        rw [if_neg c] at hD'
        rw [show (r fT_cells).2 (12 * x + 3) = (D x).2.2.2 from congrArg (fun y => y.2.2.2) hD']
        exact ⟨rfl, rfl, rfl⟩
end
