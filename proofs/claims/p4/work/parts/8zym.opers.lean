/-! No two operands of a tree stand at one place. -/
/-- an operand that stands at z -/
def bo (z : Int32) (d : TD) : Nat := if d.1 = 41 ∧ d.2.2.1 = z then 1 else 0
def ez (z : Int32) (p : Nat) : Nat := if Int32.ofNat p = z then 1 else 0
/-- how often z is met below a place -/
def pz (z : Int32) : Nat → Nat
  | 0 => 0
  | p + 1 => pz z p + ez z p
def bz (b : Bool) (x : Nat) : Nat := if b then x else 0
theorem pz_s (z : Int32) (p : Nat) : pz z (p + 1) = pz z p + ez z p := rfl
theorem pz_k (z : Int32) (b : Bool) (p : Nat) : pz z (sk b p) = pz z p + bz b (ez z p) := by
  cases b with
  | false => rfl
  | true => rfl
theorem pz_le (z : Int32) {p q : Nat} (h : p ≤ q) : pz z p ≤ pz z q := by
  induction h with
  | refl => exact Nat.le_refl _
  | step _ ih => exact Nat.le_trans ih (Nat.le_add_right _ _)
theorem pz_0 (z : Int32) : ∀ q : Nat, (∀ i, i < q → Int32.ofNat i ≠ z) → pz z q = 0
  | 0, _ => rfl
  | q + 1, h => by
    rw [pz_s, pz_0 z q (fun i hi => h i (by omega))]
    unfold ez
    rw [if_neg (h q (by omega))]
theorem pz_1 (z : Int32) : ∀ q : Nat, q ≤ 100000 → pz z q ≤ 1
  | 0, _ => Nat.zero_le _
  | q + 1, hq => by
    rw [pz_s]
    unfold ez
    by_cases e : Int32.ofNat q = z
    · rw [if_pos e, pz_0 z q (fun i hi e2 => by
        have := oN_inj (by omega) (by omega) (e2.trans e.symm)
        omega)]
      exact Nat.le_refl _
    · rw [if_neg e]
      exact pz_1 z q (by omega)
section
variable {z : Int32}
theorem bo_k {d : TD} (h : d.1 ≠ 41) : bo z d = 0 := if_neg (fun e => h e.1)
theorem bo_41 (v p e : Int32) : bo z (41, v, p, e) = if p = z then 1 else 0 := by
  unfold bo
  by_cases h : p = z
  · rw [if_pos h, if_pos ⟨rfl, h⟩]
  · rw [if_neg h, if_neg (fun e => h e.2)]
theorem bo_od (w : Ws) (p : Nat) : bo z (od w p) = ez z p := bo_41 _ _ _
theorem bo_nms (w : Ws) (p : Nat) : bo z (nm w 41 p) = ez z p ∧ bo z (nm w 16 p) = 0 ∧ bo z (nm w 17 p) = 0 ∧ bo z (nm w 21 p) = 0 := ⟨bo_41 _ _ _, bo_k (show (16 : Int32) ≠ 41 by decide), bo_k (show (17 : Int32) ≠ 41 by decide), bo_k (show (21 : Int32) ≠ 41 by decide)⟩
theorem bo_lit (v p e : Int32) : bo z (55, v, p, e) = 0 ∧ bo z (50, v, p, e) = 0 ∧ bo z (51, v, p, e) = 0 ∧ bo z (52, v, p, e) = 0 ∧ bo z (40, v, p, e) = 0 ∧ bo z (42, v, p, e) = 0 ∧ bo z (46, v, p, e) = 0 ∧ bo z (47, v, p, e) = 0 ∧ bo z (43, v, p, e) = 0 ∧ bo z (44, v, p, e) = 0 ∧ bo z (45, v, p, e) = 0 ∧ bo z (13, v, p, e) = 0 ∧ bo z (14, v, p, e) = 0 ∧ bo z (15, v, p, e) = 0 ∧ bo z (16, v, p, e) = 0 ∧ bo z (17, v, p, e) = 0 ∧ bo z (18, v, p, e) = 0 ∧ bo z (19, v, p, e) = 0 ∧ bo z (21, v, p, e) = 0 ∧ bo z (26, v, p, e) = 0 ∧ bo z (27, v, p, e) = 0 ∧ bo z (28, v, p, e) = 0 ∧ bo z (29, v, p, e) = 0 ∧ bo z (30, v, p, e) = 0 ∧ bo z (31, v, p, e) = 0 ∧ bo z (32, v, p, e) = 0 ∧ bo z (33, v, p, e) = 0 ∧ bo z (34, v, p, e) = 0 ∧ bo z (35, v, p, e) = 0 ∧ bo z (36, v, p, e) = 0 ∧ bo z (37, v, p, e) = 0 ∧ bo z (38, v, p, e) = 0 ∧ bo z (53, v, p, e) = 0 ∧ bo z (54, v, p, e) = 0 :=
  ⟨bo_k (show (55 : Int32) ≠ 41 by decide), bo_k (show (50 : Int32) ≠ 41 by decide), bo_k (show (51 : Int32) ≠ 41 by decide), bo_k (show (52 : Int32) ≠ 41 by decide), bo_k (show (40 : Int32) ≠ 41 by decide), bo_k (show (42 : Int32) ≠ 41 by decide), bo_k (show (46 : Int32) ≠ 41 by decide), bo_k (show (47 : Int32) ≠ 41 by decide), bo_k (show (43 : Int32) ≠ 41 by decide), bo_k (show (44 : Int32) ≠ 41 by decide), bo_k (show (45 : Int32) ≠ 41 by decide), bo_k (show (13 : Int32) ≠ 41 by decide), bo_k (show (14 : Int32) ≠ 41 by decide), bo_k (show (15 : Int32) ≠ 41 by decide), bo_k (show (16 : Int32) ≠ 41 by decide), bo_k (show (17 : Int32) ≠ 41 by decide), bo_k (show (18 : Int32) ≠ 41 by decide), bo_k (show (19 : Int32) ≠ 41 by decide), bo_k (show (21 : Int32) ≠ 41 by decide), bo_k (show (26 : Int32) ≠ 41 by decide), bo_k (show (27 : Int32) ≠ 41 by decide), bo_k (show (28 : Int32) ≠ 41 by decide), bo_k (show (29 : Int32) ≠ 41 by decide), bo_k (show (30 : Int32) ≠ 41 by decide), bo_k (show (31 : Int32) ≠ 41 by decide), bo_k (show (32 : Int32) ≠ 41 by decide), bo_k (show (33 : Int32) ≠ 41 by decide), bo_k (show (34 : Int32) ≠ 41 by decide), bo_k (show (35 : Int32) ≠ 41 by decide), bo_k (show (36 : Int32) ≠ 41 by decide), bo_k (show (37 : Int32) ≠ 41 by decide), bo_k (show (38 : Int32) ≠ 41 by decide), bo_k (show (53 : Int32) ≠ 41 by decide), bo_k (show (54 : Int32) ≠ 41 by decide)⟩
def op2 (z : Int32) (p : Nat) (a : Tf) (x : Option R2) : Prop := ∀ r, x = some r → p ≤ r.1 ∧ wMs (bo z) r.2.2 + pz z p ≤ wMs (bo z) a + pz z r.1
theorem oq_o {p q : Nat} {a b : Tf} (h0 : p ≤ q) (h : wMs (bo z) b + pz z p ≤ wMs (bo z) a + pz z q) : op2 z p a (o2 q b) := fun r e => by
  cases e
  exact ⟨h0, h⟩
theorem oq_s {p q : Nat} {s : Sjt} {a b : Tf} (h0 : p ≤ q) (h : wMs (bo z) b + pz z p ≤ wMs (bo z) a + pz z q) : op2 z p a (some (q, s, b)) := fun r e => by
  cases e
  exact ⟨h0, h⟩
theorem oq_n {p : Nat} {a : Tf} : op2 z p a none := fun r e => by cases e
theorem oq_i {c : Prop} [Decidable c] {p : Nat} {a : Tf} {x y : Option R2} (ha : op2 z p a x) (hb : op2 z p a y) : op2 z p a (if c then x else y) := by
  by_cases h : c
  · rw [if_pos h]; exact ha
  · rw [if_neg h]; exact hb
theorem oq_b {p p' : Nat} {a a' : Tf} {X : Option R2} {K : Nat → Sjt → Tf → Option R2} (hx : op2 z p' a' X) (hk : ∀ q s b, p' ≤ q → wMs (bo z) b + pz z p' ≤ wMs (bo z) a' + pz z q → op2 z p a (K q s b)) : op2 z p a (b2 X K) := fun r e => by
  cases hX : X with
  | none => rw [hX] at e; cases e
  | some y =>
    rw [hX] at e
    exact hk _ _ _ (hx y hX).1 (hx y hX).2 r e
theorem oq_bb {p : Nat} {a : Tf} {X : Option R2} {K : Nat → Sjt → Tf → Option R2} (hx : op2 z p [] X) (hk : ∀ q s b, p ≤ q → wMs (bo z) b + pz z p ≤ wMs (bo z) [] + pz z q → op2 z p a (K q s b)) : op2 z p a (b2 X K) := oq_b hx hk
theorem oq_f {p p' : Nat} {a a' : Tf} {X : Option R2} (hx : op2 z p' a' X) (h0 : p ≤ p') (h : wMs (bo z) a' + pz z p ≤ wMs (bo z) a + pz z p') : op2 z p a X := fun r e => by
  have := hx r e
  exact ⟨by omega, by omega⟩
theorem oq_rl {w : Ws} {p : Nat} {s : Sjt} {a : Tf} : op2 z p a (some (rl w p s)) := fun r e => by
  cases e
  have h1 := cm_le w p
  have h2 := cm_le w (p + 1)
  have h3 := pz_le z h1
  have h4 := pz_le z h2
  have h0 := wMs (bo z) a
  unfold rl
  split
  · refine ⟨by dsimp only; omega, ?_⟩
    show wMs (bo z) (nd _ (l1 _ ++ l1 _)) + _ ≤ _ + pz z ((cmp w (p + 1)).2 + 1)
    rw [wMs_nd, wMs_app, wMs_l1, wMs_l1, bo_od, bo_od, (bo_k (show (53 : Int32) ≠ 41 by decide) : bo z (53, _, _, _) = 0), pz_s]
    rw [pz_s, pz_s] at h4
    omega
  · cases s with
    | some y =>
      obtain ⟨h, u⟩ := y
      dsimp only
      split
      · refine ⟨by dsimp only; omega, ?_⟩
        show wMs (bo z) (nd _ (l1 _)) + _ ≤ _ + pz z ((cmp w p).2 + 1)
        rw [wMs_nd, wMs_l1, bo_od, (bo_k (show (53 : Int32) ≠ 41 by decide) : bo z (53, _, _, _) = 0), pz_s]
        rw [pz_s] at h3
        omega
      · refine ⟨by dsimp only; omega, ?_⟩
        show wMs (bo z) (nd _ (l1 _)) + _ ≤ _ + pz z (p + 1)
        rw [wMs_nd, wMs_l1, bo_od, (bo_k (show (53 : Int32) ≠ 41 by decide) : bo z (53, _, _, _) = 0), pz_s]
        omega
    | none =>
      refine ⟨by dsimp only; omega, ?_⟩
      show wMs (bo z) (l1 _) + _ ≤ _ + pz z (p + 1)
      rw [wMs_l1, (bo_k (show (54 : Int32) ≠ 41 by decide) : bo z (54, _, _, _) = 0), pz_s]
      omega
def bn (b : Bool) : Nat := if b then 1 else 0
theorem sk_eq (b : Bool) (p : Nat) : sk b p = p + bn b := by
  cases b with
  | false => rfl
  | true => rfl
theorem skl (b : Bool) (p : Nat) : p ≤ sk b p ∧ sk b p ≤ p + 1 := by
  cases b with
  | false => exact ⟨Nat.le_refl _, Nat.le_succ _⟩
  | true => exact ⟨Nat.le_succ _, Nat.le_refl _⟩
set_option maxHeartbeats 4000000 in
theorem st2_op {w : Ws} {F : F2} (hF : ∀ t p s a, op2 z p a (F t p s a)) (t p : Nat) (s : Sjt) (a : Tf) : op2 z p a (st2 w F t p s a) := by
  unfold st2
  split
  all_goals
    repeat' first
      | exact oq_n
      | exact oq_rl
      | refine oq_i ?_ ?_
      | refine oq_f (hF _ _ _ _) ?_ ?_
      | refine oq_o ?_ ?_
      | refine oq_s ?_ ?_
      | refine oq_b (hF _ _ _ _) (fun _ _ _ _ _ => ?_)
      | refine oq_bb ?_ (fun _ _ _ _ _ => ?_)
  all_goals first
    | omega
    | (exact Nat.le_trans (by omega) (skl _ _).1)
    | (have := skl; omega)
    | skip
  all_goals try simp only [wMs_nil, wMs_nd, wMs_app, wMs_l1, bo_od, bo_nms, bo_lit, pz_s, pz_k, Nat.zero_add, Nat.add_zero] at *
  all_goals first
    | omega
    | (simp only [sk_eq] at *; omega)
    | (split <;> (simp only [wMs_l1, bo_od, bo_lit]; omega))
    | skip
theorem it2_op (w : Ws) : ∀ k t p s a, op2 z p a (it2 w k t p s a)
  | 0 => fun _ _ _ _ => oq_n
  | k + 1 => st2_op (it2_op w k)
theorem tv_op {w : Ws} {t p q : Nat} {s s' : Sjt} {a T : Tf} (e : tv w t p s a = some (q, s', T)) : wMs (bo z) T + pz z p ≤ wMs (bo z) a + pz z q := by
  obtain ⟨n, hn⟩ := tv_ex e
  exact (it2_op w n t p s a _ hn).2
theorem slc_op (w : Ws) (p : Nat) : wMs (bo z) (slc w p).2 + pz z p ≤ pz z (slc w p).1 := by
  have h6 : ∀ x y e, bo z (6, x, y, e) = 0 := fun _ _ _ => bo_k (show (6 : Int32) ≠ 41 by decide)
  have h5 : ∀ x y e, bo z (5, x, y, e) = 0 := fun _ _ _ => bo_k (show (5 : Int32) ≠ 41 by decide)
  have h2 : ∀ q a, wMs (bo z) (sl2 w q a).2 + pz z q ≤ wMs (bo z) a + pz z (sl2 w q a).1 := fun q a => by
    unfold sl2
    split
    · show wMs (bo z) (a ++ l1 _) + _ ≤ _ + pz z (sk _ _ + 1)
      rw [wMs_app, wMs_l1, h6, pz_s, pz_k, pz_s]
      omega
    · exact Nat.le_refl _
  have h3 : ∀ q a, wMs (bo z) (sl1 w q a).2 + pz z q ≤ wMs (bo z) a + pz z (sl1 w q a).1 := fun q a => by
    unfold sl1
    split
    · have h := h2 (sk (ww w (q + 1) 67) (q + 1) + 1) (a ++ l1 (5, w.2.1 (sk (ww w (q + 1) 67) (q + 1)) - 8, Int32.ofNat q, -1))
      rw [wMs_app, wMs_l1, h5, pz_s, pz_k, pz_s] at h
      omega
    · exact h2 q a
  have h := h3 (sk (ww w (p + 3) 48) (p + 3) + 1) (l1 (od w (sk (ww w (p + 3) 48) (p + 3))))
  rw [wMs_l1, bo_od, pz_s, pz_k, pz_s, pz_s, pz_s] at h
  unfold slc
  omega
theorem yC_op {w : Ws} {c : CU} {x x' : Xs} {p q : Nat} (h : yC w c x p = some (q, x')) : wMs (bo z) (clp x'.1) + pz z p ≤ wMs (bo z) (clp x.1) + pz z q := by
  obtain ⟨hp, e | ⟨i, k, v, e, hk⟩ | ⟨i, d, F, e, hd, hF⟩⟩ := yC_sh h
  · rw [e]
    have := pz_le z hp
    omega
  · rw [e]
    have hk' : k ≠ 41 := by rcases hk with rfl | rfl <;> decide
    have h1 := wMs_ren (b := bo z) (i := i) (ch := x.1) (k := k) (v := v) (fun _ _ _ => bo_k hk')
    have := pz_le z hp
    omega
  · rw [e, wMs_att]
    show wMs (bo z) (clp x.1) + (bo z d + wMs (bo z) F) + _ ≤ _
    rw [bo_k hd.2.1]
    have h9 := pz_le z hp
    rcases hF with rfl | ⟨rfl, hq⟩ | ⟨t, p', q', s', h1, ht, h2⟩
    · rw [wMs_nil]
      omega
    · have := slc_op (z := z) w p
      have := pz_le z hq
      omega
    · have h3 := tv_op (z := z) ht
      rw [wMs_nil] at h3
      have := pz_le z h1
      have := pz_le z h2
      omega
theorem Rn.op {w : Ws} : ∀ {k : Nat} {c : CU} {x : Xs} {p un : Nat} {y : CU × Xs × Nat}, Rn w true k c x p un y → p ≤ w.2.2 → wMs (bo z) (clp y.2.1.1) + pz z p ≤ wMs (bo z) (clp x.1) + pz z w.2.2
  | 0, _, _, _, _, _, h, _ => h.elim
  | k + 1, c, x, p, un, y, h, h0 => by
    rcases h with ⟨h1, rfl⟩ | ⟨h1, q, s, x', hz, hy, hb, h⟩
    · have := pz_le z h0
      show wMs (bo z) (clp x.1) + _ ≤ _
      omega
    · have h2 := Rn.op h (hb rfl).1
      have h3 := yC_op (z := z) hy
      omega
end
