/-! Nodes that are neither statements nor relations have no extra. -/
def bx (d : TD) : Nat := if (26 ≤ d.1.toInt ∧ d.1.toInt ≤ 38) ∨ d.1 = 53 ∨ d.2.2.2 = -1 then 0 else 1
theorem bx_m (k v p : Int32) : bx (k, v, p, -1) = 0 := if_pos (Or.inr (Or.inr rfl))
theorem bx_x {d : TD} (h : d.2.2.2 = -1) : bx d = 0 := if_pos (Or.inr (Or.inr h))
theorem bx_od (w : Ws) (p : Nat) : bx (od w p) = 0 := bx_m _ _ _
theorem bx_nm (w : Ws) (k : Int32) (p : Nat) : bx (nm w k p) = 0 := bx_m _ _ _
theorem bx_k {d : TD} (h : st38 d.1) : bx d = 0 := if_pos (Or.inl h)
theorem bx_lit (v p e : Int32) : bx (26, v, p, e) = 0 ∧ bx (27, v, p, e) = 0 ∧ bx (28, v, p, e) = 0 ∧ bx (29, v, p, e) = 0 ∧ bx (30, v, p, e) = 0 ∧ bx (31, v, p, e) = 0 ∧ bx (32, v, p, e) = 0 ∧ bx (33, v, p, e) = 0 ∧ bx (34, v, p, e) = 0 ∧ bx (35, v, p, e) = 0 ∧ bx (36, v, p, e) = 0 ∧ bx (37, v, p, e) = 0 ∧ bx (38, v, p, e) = 0 :=
  ⟨bx_k (show st38 26 by unfold st38; decide), bx_k (show st38 27 by unfold st38; decide), bx_k (show st38 28 by unfold st38; decide), bx_k (show st38 29 by unfold st38; decide), bx_k (show st38 30 by unfold st38; decide), bx_k (show st38 31 by unfold st38; decide), bx_k (show st38 32 by unfold st38; decide), bx_k (show st38 33 by unfold st38; decide), bx_k (show st38 34 by unfold st38; decide), bx_k (show st38 35 by unfold st38; decide), bx_k (show st38 36 by unfold st38; decide), bx_k (show st38 37 by unfold st38; decide), bx_k (show st38 38 by unfold st38; decide)⟩
def xk2 (x : Option R2) : Prop := ∀ r, x = some r → wMs bx r.2.2 = 0
theorem xk_o {q : Nat} {a : Tf} (h : wMs bx a = 0) : xk2 (o2 q a) := fun r e => by
  cases e
  exact h
theorem xk_s {q : Nat} {s : Sjt} {a : Tf} (h : wMs bx a = 0) : xk2 (some (q, s, a)) := fun r e => by
  cases e
  exact h
theorem xk_n : xk2 none := fun r e => by cases e
theorem xk_i {c : Prop} [Decidable c] {a b : Option R2} (ha : xk2 a) (hb : xk2 b) : xk2 (if c then a else b) := by
  by_cases h : c
  · rw [if_pos h]; exact ha
  · rw [if_neg h]; exact hb
theorem xk_b {X : Option R2} {K : Nat → Sjt → Tf → Option R2} (hx : xk2 X) (hk : ∀ q s a, wMs bx a = 0 → xk2 (K q s a)) : xk2 (b2 X K) := fun r e => by
  cases hX : X with
  | none => rw [hX] at e; cases e
  | some y =>
    rw [hX] at e
    exact hk _ _ _ (hx y hX) r e
theorem xk_rl (w : Ws) (p : Nat) (s : Sjt) : xk2 (some (rl w p s)) := fun r e => by
  cases e
  have h53 : ∀ x y z, bx ((53, x, y, z) : TD) = 0 := fun _ _ _ => if_pos (Or.inr (Or.inl rfl))
  unfold rl
  split
  · show wMs bx (nd _ (l1 _ ++ l1 _)) = 0
    rw [wMs_nd, wMs_app, wMs_l1, wMs_l1, bx_od, bx_od, h53]
  · split
    · split
      · show wMs bx (nd _ (l1 _)) = 0
        rw [wMs_nd, wMs_l1, bx_od, h53]
      · show wMs bx (nd _ (l1 _)) = 0
        rw [wMs_nd, wMs_l1, bx_od, h53]
    · show wMs bx (l1 _) = 0
      rw [wMs_l1, bx_m]
theorem st2_xk {w : Ws} {F : F2} (hF : ∀ t p s a, wMs bx a = 0 → xk2 (F t p s a)) (t p : Nat) (s : Sjt) (a : Tf) (ha : wMs bx a = 0) : xk2 (st2 w F t p s a) := by
  unfold st2
  split
  all_goals
    repeat' first
      | exact xk_n
      | exact xk_rl _ _ _
      | refine xk_i ?_ ?_
      | refine hF _ _ _ _ ?_
      | refine xk_o ?_
      | refine xk_s ?_
      | refine xk_b ?_ (fun _ _ _ _ => ?_)
  all_goals first
    | rfl
    | assumption
    | (simp only [wMs_nd, wMs_app, wMs_l1, bx_od, bx_nm, bx_lit, bx_m, *]; done)
    | (simp only [wMs_nd, wMs_app, wMs_l1, bx_od, bx_nm, bx_lit, bx_m, *]; first | rfl | decide)
    | (split <;> simp only [wMs_nd, wMs_app, wMs_l1, bx_od, bx_nm, bx_lit, bx_m, *] <;> rfl)
theorem it2_xk (w : Ws) : ∀ k t p s a, wMs bx a = 0 → xk2 (it2 w k t p s a)
  | 0 => fun _ _ _ _ _ => xk_n
  | k + 1 => st2_xk (it2_xk w k)
theorem tv_xk {w : Ws} {t p q : Nat} {s s' : Sjt} {a T : Tf} (ha : wMs bx a = 0) (e : tv w t p s a = some (q, s', T)) : wMs bx T = 0 := by
  obtain ⟨n, hn⟩ := tv_ex e
  exact it2_xk w n t p s a ha _ hn
theorem slc_xk (w : Ws) (p : Nat) : wMs bx (slc w p).2 = 0 := by
  have h2 : ∀ q a, wMs bx a = 0 → wMs bx (sl2 w q a).2 = 0 := fun q a ha => by
    unfold sl2
    split
    · show wMs bx (a ++ l1 _) = 0
      rw [wMs_app, ha, wMs_l1, bx_m]
    · exact ha
  unfold slc sl1
  split
  · exact h2 _ _ (by rw [wMs_app, wMs_l1, bx_od, wMs_l1, bx_m])
  · exact h2 _ _ (by rw [wMs_l1, bx_od])
/-- the open nodes have none -/
def x1n (ch : List Ce) : Prop := ∀ e, e ∈ ch → e.1.2.2.2 = -1 ∧ e.1.1 ≠ 41
theorem x1n.att : ∀ {i : Nat} {ch : List Ce} {e : Ce}, x1n ch → e.1.2.2.2 = -1 ∧ e.1.1 ≠ 41 → x1n (attC i ch e)
  | 0, [], e, _, he => fun y hy => by
    rw [List.mem_singleton.mp hy]
    exact he
  | i + 1, [], e, _, he => fun y hy => by
    rw [List.mem_singleton.mp hy]
    exact he
  | 0, a :: l, e, h, he => fun y hy => by
    rcases List.mem_cons.mp hy with rfl | hy
    · exact h a List.mem_cons_self
    · rw [List.mem_singleton.mp hy]
      exact he
  | i + 1, a :: l, e, h, he => fun y hy => by
    rcases List.mem_cons.mp hy with rfl | hy
    · exact h _ List.mem_cons_self
    · exact x1n.att (i := i) (fun z hz => h z (List.mem_cons_of_mem _ hz)) he y hy
theorem yC_xk {w : Ws} {c : CU} {x x' : Xs} {p q : Nat} (h : yC w c x p = some (q, x')) (h1 : x1n x.1) (h0 : wMs bx (clp x.1) = 0) : x1n x'.1 ∧ wMs bx (clp x'.1) = 0 := by
  obtain ⟨-, e | ⟨i, k, v, e, hk⟩ | ⟨i, d, F, e, hd, hF⟩⟩ := yC_sh h
  · rw [e]
    exact ⟨h1, h0⟩
  · rw [e]
    have hk41 : k ≠ 41 := by rcases hk with rfl | rfl <;> decide
    unfold renC
    cases he : x.1[i]? with
    | none => exact ⟨h1, h0⟩
    | some y =>
      have hy : y.1.2.2.2 = -1 := (h1 y (List.mem_of_getElem? he)).1
      refine ⟨fun u hu => ?_, ?_⟩
      · rcases List.mem_or_eq_of_mem_set hu with hu | hu
        · exact h1 u hu
        · rw [hu]
          exact ⟨hy, hk41⟩
      · have := wMs_set (b := bx) i x.1 y (k, v, y.1.2.2.1, y.1.2.2.2) he (bx_x hy)
        show wMs bx (clp (x.1.set i ((k, v, y.1.2.2.1, y.1.2.2.2), y.2))) = 0
        omega
  · rw [e]
    refine ⟨h1.att ⟨hd.2.2, hd.2.1⟩, ?_⟩
    rw [wMs_att, h0]
    show 0 + (bx d + wMs bx F) = 0
    rw [bx_x hd.2.2]
    rcases hF with rfl | ⟨rfl, -⟩ | ⟨t, p', q', s', -, ht, -⟩
    · rfl
    · rw [slc_xk]
    · rw [tv_xk rfl ht]
theorem Rn.xk {w : Ws} {b : Bool} : ∀ {k : Nat} {c : CU} {x : Xs} {p un : Nat} {y : CU × Xs × Nat}, Rn w b k c x p un y → x1n x.1 → wMs bx (clp x.1) = 0 → x1n y.2.1.1 ∧ wMs bx (clp y.2.1.1) = 0
  | 0, _, _, _, _, _, h, _, _ => h.elim
  | k + 1, c, x, p, un, y, h, h1, h0 => by
    rcases h with ⟨h2, rfl⟩ | ⟨h2, q, s, x', hz, hy, hb, h⟩
    · exact ⟨h1, h0⟩
    · obtain ⟨a1, a2⟩ := yC_xk hy h1 h0
      exact Rn.xk h a1 a2
/-- what is known of a tree that was read without a fault: no value where none may be, each relation with its subject's place, no two operands at one place, no extra where none may be -/
def Pu (T : Tf) : Prop := cV T = 0 ∧ wMs bg T = 0 ∧ (∀ z, wMs (bo z) T ≤ 1) ∧ wMs bx T = 0
theorem Pu.tl {a : Nat × TD} {T : Tf} (h : Pu (a :: T)) : Pu T := by
  obtain ⟨h1, h2, h3, h4⟩ := h
  have e1 : bv a.2 + cV T = 0 := h1
  have e2 : bg a.2 + wMs bg T = 0 := h2
  have e4 : bx a.2 + wMs bx T = 0 := h4
  refine ⟨by omega, by omega, fun z => ?_, by omega⟩
  have e3 : bo z a.2 + wMs (bo z) T ≤ 1 := h3 z
  omega
theorem Rx.pu {w : Ws} {c0 : CU} {y : CU × Xs × Nat} (hw : w.2.2 ≤ 1500) (h : Rx w true c0 x0 0 0 y) : Pu (clp y.2.1.1) ∧ x1n y.2.1.1 := by
  obtain ⟨k, h⟩ := h
  have hx := h.xk (fun e he => by rw [List.mem_singleton.mp he]; exact ⟨rfl, show (-1 : Int32) ≠ 41 by decide⟩) rfl
  refine ⟨⟨h.vk rfl, h.gk hw rfl, fun z => ?_, hx.2⟩, hx.1⟩
  have h1 := Rn.op (z := z) h (Nat.zero_le _)
  have h2 : wMs (bo z) (clp x0.1) = 0 := by
    show bo z (-1, 0, -1, -1) + 0 = 0
    rw [bo_k (show (-1 : Int32) ≠ 41 by decide)]
  have h3 := pz_1 z w.2.2 (by omega)
  omega
theorem wMs_mem {b : TD → Nat} : ∀ {T : Tf} {e : Nat × TD}, e ∈ T → b e.2 ≤ wMs b T
  | [], _, h => by cases h
  | a :: T, e, h => by
    show b e.2 ≤ b a.2 + wMs b T
    rcases List.mem_cons.mp h with rfl | h
    · omega
    · have := wMs_mem (b := b) h
      omega
/-- of two nodes that count, one is the other -/
theorem wMs_un {b : TD → Nat} : ∀ {T : Tf} {i j : Nat} {x y : Nat × TD}, wMs b T ≤ 1 → T[i]? = some x → T[j]? = some y → 1 ≤ b x.2 → 1 ≤ b y.2 → i = j
  | [], _, _, _, _, _, h, _, _, _ => by cases h
  | a :: T, 0, 0, _, _, _, _, _, _, _ => rfl
  | a :: T, 0, j + 1, x, y, hT, h1, h2, b1, b2 => by
    exfalso
    cases h1
    have hT' : b a.2 + wMs b T ≤ 1 := hT
    have := wMs_mem (b := b) (List.mem_of_getElem? (show T[j]? = some y from h2))
    omega
  | a :: T, i + 1, 0, x, y, hT, h1, h2, b1, b2 => by
    exfalso
    cases h2
    have hT' : b a.2 + wMs b T ≤ 1 := hT
    have := wMs_mem (b := b) (List.mem_of_getElem? (show T[i]? = some x from h1))
    omega
  | a :: T, i + 1, j + 1, x, y, hT, h1, h2, b1, b2 => by
    have hT' : b a.2 + wMs b T ≤ 1 := hT
    exact congrArg (· + 1) (wMs_un (T := T) (by omega) (show T[i]? = some x from h1) (show T[j]? = some y from h2) b1 b2)
