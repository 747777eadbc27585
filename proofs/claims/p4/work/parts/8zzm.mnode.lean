/-! What the model answers to node. -/
section
variable {L : Nat} {xs : Nat → Int32} {m d k : Nat} {n : Nat} {D : Nat → TD} {K : Nat → List Nat} {g : a2_G} {r : a2_A} {F : Fo}
theorem xM_hasValue {a : Int32} : pl (ev L xs (m + 1) d nM_hasValue [.int a] g r) (kE g r (b2i (hv a))) kN := by
  cases d with
  | zero => trivial
  | succ d =>
    have hT : hv a = true → pl (BM_hasValue_113 L xs (m + 1) d m a g r) (kE g r (b2i (hv a))) kN := fun e => by
      unfold BM_hasValue_113 BM_hasValue_118
      exact pl_pos (Or.inr rfl) ⟨by rw [e]; rfl, rfl, rfl⟩
    have hE : ∀ z : Int32, hv z = true → am_c2 .eq a z = true → pl (BM_hasValue_113 L xs (m + 1) d m a g r) (kE g r (b2i (hv a))) kN := fun z hz e => hT (by rw [c2_eq] at e; rw [e]; exact hz)
    rw [qM_hasValue]
    refine pl_if (hE 1 (by decide)) (fun n1 => ?_)
    refine pl_if (hE 2 (by decide)) (fun n2 => ?_)
    refine pl_u xM_in (fun e => pl_pos (by decide) (hT ?_)) (fun e4 => pl_neg (by decide) ?_)
    · have e' : (decide (4 ≤ a.toInt) && decide (a.toInt ≤ 6)) = true := e
      unfold hv
      rw [e']
      simp
    refine pl_if (hE 11 (by decide)) (fun n11 => ?_)
    refine pl_u xM_in (fun e => pl_pos (by decide) (hT ?_)) (fun e12 => pl_neg (by decide) ?_)
    · have e' : (decide (12 ≤ a.toInt) && decide (a.toInt ≤ 13)) = true := e
      unfold hv
      rw [e']
      simp
    refine pl_u xM_in (fun e => pl_pos (by decide) (hT ?_)) (fun e15 => pl_neg (by decide) ?_)
    · have e' : (decide (15 ≤ a.toInt) && decide (a.toInt ≤ 19)) = true := e
      unfold hv
      rw [e']
      simp
    refine pl_if (hE 21 (by decide)) (fun n21 => ?_)
    refine pl_if (hE 23 (by decide)) (fun n23 => ?_)
    refine pl_if (hE 24 (by decide)) (fun n24 => ?_)
    refine pl_if (hE 27 (by decide)) (fun n27 => ?_)
    refine pl_if (hE 29 (by decide)) (fun n29 => ?_)
    refine pl_if (hE 31 (by decide)) (fun n31 => ?_)
    refine pl_if (hE 34 (by decide)) (fun n34 => ?_)
    refine pl_if (hE 38 (by decide)) (fun n38 => ?_)
    refine pl_if (hE 41 (by decide)) (fun n41 => ?_)
    refine pl_u xM_in (fun e => pl_neg (by decide) (hT ?_)) (fun e53 => pl_pos (by decide) ?_)
    · have e' : (decide (53 ≤ a.toInt) && decide (a.toInt ≤ 55)) = true := e
      unfold hv
      rw [e']
      simp
    · have f4 : (decide (4 ≤ a.toInt) && decide (a.toInt ≤ 6)) = false := e4
      have f12 : (decide (12 ≤ a.toInt) && decide (a.toInt ≤ 13)) = false := e12
      have f15 : (decide (15 ≤ a.toInt) && decide (a.toInt ≤ 19)) = false := e15
      have f53 : (decide (53 ≤ a.toInt) && decide (a.toInt ≤ 55)) = false := e53
      rw [c2_eq] at n1 n2 n11 n21 n23 n24 n27 n29 n31 n34 n38 n41
      have hf : hv a = false := by
        unfold hv
        rw [f4, f12, f15, f53, decide_eq_false n1, decide_eq_false n2, decide_eq_false n11, decide_eq_false n21, decide_eq_false n23, decide_eq_false n24, decide_eq_false n27, decide_eq_false n29, decide_eq_false n31, decide_eq_false n34, decide_eq_false n38, decide_eq_false n41]
        rfl
      unfold BM_hasValue_118
      exact pl_pos (Or.inl rfl) ⟨by rw [hf]; rfl, rfl, rfl⟩
theorem mn_112 (h : TN n D K F g r) {x : Nat} (hx : x < n) {a1 a2 x3 x4 : Int32} : ∀ (k : Nat) (x5 x6 : Int32) (j : Nat), x5 = Int32.ofNat j → j ≤ (K x).length → x6 = o0 (K x)[j]? → pl (BM_node_112 L xs (m + 1) d k a1 a2 x3 x4 x5 x6 g r) (kE g r (Int32.ofNat (K x).length)) kN
  | k, x5, x6, j, h5, hj, h6 => by
    subst h5
    subst h6
    have hn8 := h.1.2.2.1
    unfold BM_node_112
    cases e : (K x)[j]? with
    | none =>
      have hj2 : j = (K x).length := by have := List.getElem?_eq_none_iff.mp e; omega
      refine pl_pos (by rw [c2_le]; decide) ?_
      rw [hj2]
      exact ⟨rfl, rfl, rfl⟩
    | some c =>
      have hc := h.1.1.kid hx (List.mem_of_getElem? e)
      have ec : (Int32.ofNat c).toInt = c := on_eq (by omega)
      have hjl := (List.getElem?_eq_some_iff.mp e).1
      have hll : (K x).length ≤ n := by
        have hsub : ∀ y, y ∈ K x → y ∈ List.range n := fun y hy => List.mem_range.mpr (h.1.1.kid hx hy).2
        have q := List.Nodup.length_le_of_subset (h.1.1.2.2.2.1 x hx) hsub
        rw [List.length_range] at q
        exact q
      show pl (if am_c2 .le (Int32.ofNat c) 0 = true then _ else _) _ _
      refine pl_neg (by rw [c2_le, ec, i32_0]; omega) (pl_if (fun _ => ?_) (fun _ => trivial))
      show pl (lp L xs nM_node nm_m226 (m + 1) d k 112 [some (.ref cM), some (.int a1), some (.int a2), some (.int x3), some (.int x4), some (.int (Int32.ofNat j + 1)), some (.int ((r fM_next).2 (Int32.ofNat c).toNatClampNeg))] g r) _ _
      rw [on_nc (by omega), h.1.1.nxt hx e]
      cases k with
      | zero => exact pl_l0
      | succ k =>
        rw [lM_node_112]
        exact mn_112 h hx k _ _ (j + 1) (i32e (by rw [i32_inc (by rw [on_eq (by omega)]; omega), on_eq (by omega), on_eq (by omega)]; omega)) (by omega) rfl
def pnM (u : Nat) (r : a2_A) : Int32 := if u = 0 then -1 else (r fM_number).2 u
def exM (x : Nat) (D : Nat → TD) (r : a2_A) : Int32 := if (D x).1 = 53 then (r fM_number).2 ((r fM_extra).2 x).toNatClampNeg else if 26 ≤ (D x).1.toInt ∧ (D x).1.toInt ≤ 38 then (D x).2.2.2 else -1
theorem xM_nodeI (h : TN n D K F g r) {a1 a2 : Int32} {i dd x u : Nat} (ha : a1.toInt = i) (e : F[i]? = some (dd, x)) (hu : u < n) (hx4 : x ∈ K u) (hbv : bv (D x) = 0) : pl (ev L xs (m + 1) d nM_node [.ref cM, .int a1, .int a2] g r) (kE (upd g fM_thrown 0) r (ndA a2 (D x).1 (D x).2.1 (D x).2.2.1 (Int32.ofNat (K x).length) (pnM u r) (exM x D r))) kN := by
  have hn8 := h.1.2.2.1
  obtain ⟨hx, hi⟩ := h.id e
  obtain ⟨t1, t2, cc, t3⟩ := h.2.2
  have ei : a1.toNatClampNeg = i := tn_at ha
  obtain ⟨d1, d2, d3, d4⟩ := h.1.1.1 x hx
  cases d with
  | zero => trivial
  | succ d =>
    rw [qM_node]
    refine pl_neg (by rw [c2_lt, ha, i32_0]; omega) (pl_pos (by rw [c2_lt, ha, t1]; omega) ?_)
    rw [ei, (t3 i dd x e).1, on_nc (by omega)]
    refine pl_if (fun _ => pl_if (fun _ => ?_) (fun _ => trivial)) (fun _ => trivial)
    unfold ndA
    by_cases c0 : a2.toInt = 0
    · rw [if_pos c0, if_pos c0, d1]
      exact ⟨rfl, rfl, rfl⟩
    rw [if_neg c0, if_neg c0]
    by_cases c1 : a2.toInt = 1
    · rw [if_pos c1, if_pos c1, d1]
      refine pl_u xM_hasValue (fun ev => pl_neg (by decide) (pl_if (fun _ => ?_) (fun _ => trivial))) (fun ev => pl_pos (by decide) ?_)
      · unfold BM_node_93
        rw [d2]
        exact ⟨rfl, rfl, rfl⟩
      · unfold BM_node_93
        have hv0 : (D x).2.1 = 0 := by
          unfold bv at hbv
          by_cases q : hv (D x).1 = true ∨ (D x).2.1 = 0
          · rcases q with q | q
            · rw [ev] at q
              cases q
            · exact q
          · rw [if_neg q] at hbv
            cases hbv
        rw [hv0]
        exact ⟨rfl, rfl, rfl⟩
    rw [if_neg c1, if_neg c1]
    by_cases c2 : a2.toInt = 2
    · rw [if_pos c2, if_pos c2, d3]
      exact pl_if (fun _ => ⟨rfl, rfl, rfl⟩) (fun _ => trivial)
    rw [if_neg c2, if_neg c2]
    by_cases c3 : a2.toInt = 3
    · rw [if_pos c3, if_pos c3]
      refine pl_if (fun _ => ?_) (fun _ => trivial)
      rw [(h.1.1.2.1 x hx).1]
      exact mn_112 (h.th 0) hx _ _ _ 0 rfl (Nat.zero_le _) (by rw [List.head?_eq_getElem?])
    rw [if_neg c3, if_neg c3]
    by_cases c4 : a2.toInt = 4
    · rw [if_pos c4, if_pos c4]
      obtain ⟨l1, l2, el⟩ := List.append_of_mem hx4
      rw [(h.1.1.2.2.1 u hu l1 x l2 el).2.1]
      have eu : (Int32.ofNat u).toInt = u := on_eq (by omega)
      unfold pnM BM_node_159
      refine pl_if (fun _ => ?_) (fun _ => trivial)
      by_cases c : u = 0
      · rw [if_pos c]
        refine pl_neg (by rw [c2_ne, c]; decide) ⟨rfl, rfl, rfl⟩
      · rw [if_neg c]
        refine pl_pos (by rw [c2_ne]; exact fun q => by rw [q, i32_0] at eu; omega) (pl_if (fun _ => pl_if (fun _ => ?_) (fun _ => trivial)) (fun _ => trivial))
        rw [on_nc (by omega)]
        exact ⟨rfl, rfl, rfl⟩
    rw [if_neg c4, if_neg c4]
    by_cases c5 : a2.toInt = 5
    · rw [if_pos c5, if_pos c5, d1]
      unfold exM BM_node_203
      by_cases c : (D x).1 = 53
      · rw [if_pos c]
        refine pl_neg (by rw [c2_ne, c]; decide) (pl_if (fun _ => pl_if (fun _ => ⟨rfl, rfl, rfl⟩) (fun _ => trivial)) (fun _ => trivial))
      · rw [if_neg c]
        refine pl_pos (by rw [c2_ne]; exact c) ?_
        refine pl_u xM_in (fun ev => pl_neg (by decide) (pl_if (fun _ => ?_) (fun _ => trivial))) (fun ev => pl_pos (by decide) ?_)
        · have ev' : (decide (26 ≤ (D x).1.toInt) && decide ((D x).1.toInt ≤ 38)) = true := ev
          rw [Bool.and_eq_true, decide_eq_true_eq, decide_eq_true_eq] at ev'
          rw [if_pos ev', d4 ev']
          exact ⟨rfl, rfl, rfl⟩
        · have ev' : (decide (26 ≤ (D x).1.toInt) && decide ((D x).1.toInt ≤ 38)) = false := ev
          rw [if_neg (fun q => by rw [decide_eq_true q.1, decide_eq_true q.2] at ev'; cases ev')]
          exact ⟨rfl, rfl, rfl⟩
    rw [if_neg c5, if_neg c5]
    exact ⟨rfl, rfl, rfl⟩
theorem xM_nodeN {N : Nat} (hn : (g fM_told).toInt = N) {a1 a2 : Int32} (ha : ¬ (0 ≤ a1.toInt ∧ a1.toInt < N)) : pl (ev L xs (m + 1) d nM_node [.ref cM, .int a1, .int a2] g r) (kE (upd g fM_thrown 0) r (ndA a2 (-1) (-1) (-1) (-1) (-1) (-1))) kN := by
  have hA : ndA a2 (-1) (-1) (-1) (-1) (-1) (-1) = -1 := by
    unfold ndA
    repeat' split
    all_goals rfl
  cases d with
  | zero => trivial
  | succ d =>
    rw [qM_node, hA]
    unfold BM_node_17
    refine pl_if (fun _ => ⟨rfl, rfl, rfl⟩) (fun c1 => pl_neg ?_ ⟨rfl, rfl, rfl⟩)
    rw [c2_lt, i32_0] at c1
    rw [c2_lt, hn]
    omega
end
