/-! The model's tree in its rows. -/
def o0 (o : Option Nat) : Int32 := match o with
  | none => 0
  | some x => Int32.ofNat x
def st38 (k : Int32) : Prop := 26 ≤ k.toInt ∧ k.toInt ≤ 38
/-- a relation's subject: an operand made before it -/
def Sz (n : Nat) (D : Nat → TD) (r : a2_A) : Prop := ∀ v, v < n → (D v).1 = 53 → (D v).2.2.2 = -1 ∨ ∃ s, s < v ∧ (r fM_extra).2 v = Int32.ofNat s ∧ (D s).1 = 41 ∧ (D s).2.2.1 = (D v).2.2.2
def Mz (n : Nat) (D : Nat → TD) (K : Nat → List Nat) (r : a2_A) : Prop :=
  (∀ i, i < n → (r fM_kind).2 i = (D i).1 ∧ (r fM_value).2 i = (D i).2.1 ∧ (r fM_place).2 i = (D i).2.2.1 ∧ (st38 (D i).1 → (r fM_extra).2 i = (D i).2.2.2)) ∧
  (∀ i, i < n → (r fM_first).2 i = o0 (K i).head? ∧ ∀ x, (K i).getLast? = some x → (r fM_last).2 i = Int32.ofNat x) ∧
  (∀ i, i < n → ∀ l1 c l2, K i = l1 ++ c :: l2 → (0 < c ∧ c < n) ∧ (r fM_above).2 c = Int32.ofNat i ∧ (r fM_next).2 c = o0 l2.head?) ∧
  (∀ i, i < n → (K i).Nodup) ∧ Sz n D r
def Rm (n : Nat) (D : Nat → TD) (K : Nat → List Nat) (g : a2_G) (r : a2_A) : Prop := (g fM_nodes).toInt = n ∧ 1 ≤ n ∧ n ≤ 8000 ∧ Mz n D K r
section
variable {n : Nat} {D : Nat → TD} {K : Nat → List Nat} {r r' : a2_A}
theorem Mz.kid (h : Mz n D K r) {i c : Nat} (hi : i < n) (hc : c ∈ K i) : 0 < c ∧ c < n := by
  obtain ⟨l1, l2, e⟩ := List.append_of_mem hc
  exact (h.2.2.1 i hi l1 c l2 e).1
theorem Mz.un (h : Mz n D K r) (hn : n ≤ 8000) {i j c : Nat} (hi : i < n) (hj : j < n) (h1 : c ∈ K i) (h2 : c ∈ K j) : i = j := by
  obtain ⟨l1, l2, e⟩ := List.append_of_mem h1
  obtain ⟨l3, l4, e'⟩ := List.append_of_mem h2
  have a := (h.2.2.1 i hi l1 c l2 e).2.1
  have b := (h.2.2.1 j hj l3 c l4 e').2.1
  exact oN_inj (by omega) (by omega) (a.symm.trans b)
theorem Mz.mk (h : Mz n D K r) {a1 a2 a3 e0 : Int32} (h1 : (r' fM_kind).2 = upd (r fM_kind).2 n a1) (h2 : (r' fM_value).2 = upd (r fM_value).2 n a2) (h3 : (r' fM_place).2 = upd (r fM_place).2 n a3) (h4 : (r' fM_extra).2 = upd (r fM_extra).2 n 0) (h5 : (r' fM_first).2 = upd (r fM_first).2 n 0) (h6 : (r' fM_last).2 = upd (r fM_last).2 n 0) (h7 : (r' fM_next).2 = upd (r fM_next).2 n 0) (h8 : (r' fM_above).2 = upd (r fM_above).2 n 0) (he : st38 a1 → e0 = 0) (he53 : a1 = 53 → e0 = -1) : Mz (n + 1) (fD D n (a1, a2, a3, e0)) (fK K n []) r' := by
  obtain ⟨b1, b2, b3, b4, b5⟩ := h
  refine ⟨fun i hi => ?_, fun i hi => ?_, fun i hi l1 c l2 e => ?_, fun i hi => ?_, fun v hv h53 => ?_⟩
  · rw [h1, h2, h3, h4]
    by_cases e : i = n
    · subst e
      rw [fD_eq, upd_eq, upd_eq, upd_eq, upd_eq]
      exact ⟨rfl, rfl, rfl, fun q => (he q).symm⟩
    · rw [fD_ne e, upd_ne e, upd_ne e, upd_ne e, upd_ne e]
      exact b1 i (by omega)
  · rw [h5, h6]
    by_cases e : i = n
    · subst e
      rw [fK_eq, upd_eq]
      exact ⟨rfl, fun x hx => nomatch hx⟩
    · rw [fK_ne e, upd_ne e, upd_ne e]
      exact b2 i (by omega)
  · by_cases e2 : i = n
    · subst e2
      rw [fK_eq] at e
      exact absurd e (by simp)
    · rw [fK_ne e2] at e
      obtain ⟨c1, c2, c3⟩ := b3 i (by omega) l1 c l2 e
      rw [h7, h8, upd_ne (by omega), upd_ne (by omega)]
      exact ⟨by omega, c2, c3⟩
  · by_cases e : i = n
    · subst e
      rw [fK_eq]
      exact List.nodup_nil
    · rw [fK_ne e]
      exact b4 i (by omega)
  · by_cases e : v = n
    · subst e
      rw [fD_eq] at h53 ⊢
      exact Or.inl (he53 h53)
    · rw [fD_ne e] at h53 ⊢
      rcases b5 v (by omega) h53 with q | ⟨s, s1, s2, s3, s4⟩
      · exact Or.inl q
      · refine Or.inr ⟨s, s1, ?_, ?_, ?_⟩
        · rw [h4, upd_ne e]
          exact s2
        · rw [fD_ne (by omega)]
          exact s3
        · rw [fD_ne (by omega)]
          exact s4
theorem o0_nz {o : Option Nat} (ho : ∀ x, o = some x → 0 < x ∧ x < 2147483648) : o0 o = 0 ↔ o = none := by
  cases o with
  | none => exact ⟨fun _ => rfl, fun _ => rfl⟩
  | some x =>
    refine ⟨fun e => ?_, fun e => by cases e⟩
    have e1 : Int32.ofNat x = 0 := e
    have := congrArg Int32.toInt e1
    rw [on_eq (ho x rfl).2, i32_0] at this
    have := (ho x rfl).1
    omega
/-- a node hung below another -/
theorem Mz.at (h : Mz n D K r) (hn : n ≤ 8000) {i c : Nat} (hi : i < n) (hc0 : 0 < c) (hc : c < n) (hd : ∀ j, j < n → c ∉ K j) {N1 F1 : Nat → Int32} (h1 : (K i = [] ∧ F1 = upd (r fM_first).2 i (Int32.ofNat c) ∧ N1 = upd (r fM_next).2 c 0) ∨ ∃ l y, K i = l ++ [y] ∧ F1 = (r fM_first).2 ∧ N1 = upd (upd (r fM_next).2 c 0) y (Int32.ofNat c)) (e1 : (r' fM_kind).2 = (r fM_kind).2) (e2 : (r' fM_value).2 = (r fM_value).2) (e3 : (r' fM_place).2 = (r fM_place).2) (e4 : (r' fM_extra).2 = (r fM_extra).2) (e5 : (r' fM_first).2 = F1) (e6 : (r' fM_last).2 = upd (r fM_last).2 i (Int32.ofNat c)) (e7 : (r' fM_next).2 = N1) (e8 : (r' fM_above).2 = upd (r fM_above).2 c (Int32.ofNat i)) : Mz n D (fK K i (K i ++ [c])) r' := by
  have hun := fun {a b x : Nat} => Mz.un (i := a) (j := b) (c := x) h hn
  obtain ⟨b1, b2, b3, b4, b5⟩ := h
  have hN : ∀ y, y ≠ c → (∀ l, K i ≠ l ++ [y]) → N1 y = (r fM_next).2 y := by
    intro y hy hl
    rcases h1 with ⟨-, -, rfl⟩ | ⟨l, x, q, -, rfl⟩
    · exact upd_ne hy
    · rw [upd_ne (fun e => hl l (by rw [e]; exact q)), upd_ne hy]
  have hNc : N1 c = 0 := by
    rcases h1 with ⟨-, -, rfl⟩ | ⟨l, x, q, -, rfl⟩
    · exact upd_eq
    · rw [upd_ne (fun e => hd i hi (by rw [q, e]; exact List.mem_append_right _ List.mem_cons_self)), upd_eq]
  refine ⟨fun y hy => ?_, fun y hy => ?_, fun y hy l1 x l2 e => ?_, fun y hy => ?_, by unfold Sz; rw [e4]; exact b5⟩
  · rw [e1, e2, e3, e4]
    exact b1 y hy
  · rw [e5, e6]
    by_cases e : y = i
    · subst e
      rw [fK_eq, List.getLast?_append, List.head?_append, upd_eq]
      refine ⟨?_, fun x hx => ?_⟩
      · rcases h1 with ⟨q, rfl, -⟩ | ⟨l, x, q, rfl, -⟩
        · rw [upd_eq, q]
          rfl
        · rw [(b2 y hy).1, q]
          cases l <;> rfl
      · have : some c = some x := hx
        cases this
        rfl
    · rw [fK_ne e, upd_ne e]
      refine ⟨?_, (b2 y hy).2⟩
      rcases h1 with ⟨q, rfl, -⟩ | ⟨l, x, q, rfl, -⟩
      · rw [upd_ne e]
        exact (b2 y hy).1
      · exact (b2 y hy).1
  · rw [e7, e8]
    by_cases ey : y = i
    · subst ey
      rw [fK_eq] at e
      have hcase : (l1 = K y ∧ x = c ∧ l2 = []) ∨ ∃ m', K y = l1 ++ x :: m' ∧ l2 = m' ++ [c] := by
        rcases List.append_eq_append_iff.mp e with ⟨m', q1, q2⟩ | ⟨m', q1, q2⟩
        · cases m' with
          | nil =>
            rw [List.nil_append] at q2
            injection q2 with q3 q4
            exact Or.inl ⟨by rw [q1, List.append_nil], q3.symm, q4.symm⟩
          | cons b m' =>
            exfalso
            have := congrArg List.length q2
            simp at this
        · cases m' with
          | nil =>
            rw [List.nil_append] at q2
            injection q2 with q3 q4
            exact Or.inl ⟨by rw [q1, List.append_nil], q3, q4⟩
          | cons b m' =>
            rw [List.cons_append] at q2
            injection q2 with q3 q4
            exact Or.inr ⟨m', by rw [q1, q3], q4⟩
      rcases hcase with ⟨-, rfl, rfl⟩ | ⟨m', q1, rfl⟩
      · exact ⟨⟨hc0, hc⟩, upd_eq, hNc⟩
      · obtain ⟨c1, c2, c3⟩ := b3 y hy l1 x m' q1
        have hxc : x ≠ c := fun q => hd y hy (by rw [← q, q1]; exact List.mem_append_right _ List.mem_cons_self)
        refine ⟨c1, by rw [upd_ne hxc]; exact c2, ?_⟩
        cases m' with
        | nil =>
          rcases h1 with ⟨q, -, -⟩ | ⟨l, u, q, -, rfl⟩
          · rw [q] at q1
            exact absurd q1.symm (by simp)
          · have hu : u = x := by
              rw [q1] at q
              have := congrArg List.getLast? q
              simp at this
              exact this.symm
            subst hu
            rw [upd_eq]
            rfl
        | cons b m' =>
          have hne : ∀ l, K y ≠ l ++ [x] := fun l q => by
            have hnd := b4 y hy
            rw [q1] at hnd q
            have q2 := congrArg List.getLast? q
            rw [List.getLast?_append, List.getLast?_append] at q2
            have q4 : (x :: b :: m').getLast? = some x := by
              cases hz : (x :: b :: m').getLast? with
              | none => exact absurd (List.getLast?_eq_none_iff.mp hz) (by simp)
              | some u =>
                rw [hz] at q2
                have q5 : some u = some x := q2
                exact q5
            rw [List.getLast?_cons_cons] at q4
            have q3 : x ∈ b :: m' := List.mem_of_getLast? q4
            exact (List.nodup_cons.mp (List.nodup_append.mp hnd).2.1).1 q3
          rw [hN x hxc hne]
          exact c3
    · rw [fK_ne ey] at e
      obtain ⟨c1, c2, c3⟩ := b3 y hy l1 x l2 e
      have hxy : x ∈ K y := by rw [e]; exact List.mem_append_right _ List.mem_cons_self
      have hxc : x ≠ c := fun q => hd y hy (q ▸ hxy)
      have hne : ∀ l, K i ≠ l ++ [x] := fun l q => ey (hun hy hi hxy (by rw [q]; exact List.mem_append_right _ List.mem_cons_self))
      exact ⟨c1, by rw [upd_ne hxc]; exact c2, by rw [hN x hxc hne]; exact c3⟩
  · by_cases e : y = i
    · subst e
      rw [fK_eq]
      refine List.nodup_append.mpr ⟨b4 y hy, List.nodup_cons.mpr ⟨(fun q => nomatch q), List.nodup_nil⟩, fun a ha b hb q => ?_⟩
      rw [List.mem_singleton.mp hb] at q
      exact hd y hy (q ▸ ha)
    · rw [fK_ne e]
      exact b4 y hy
end
