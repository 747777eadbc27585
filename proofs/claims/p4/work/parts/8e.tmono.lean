/-! The reader of trees never goes back. -/
def mp2 (p : Nat) (x : Option R2) : Prop := ∀ r, x = some r → p ≤ r.1
theorem mp2_in {p : Nat} {r : R2} (h : p ≤ r.1) : mp2 p (some r) := fun r' e => by cases e; exact h
theorem mp2_o {p q : Nat} {a : Tf} (h : p ≤ q) : mp2 p (o2 q a) := fun r' e => by cases e; exact h
theorem mp2_none {p : Nat} : mp2 p none := fun r e => by cases e
theorem mp2_ite {c : Prop} [Decidable c] {p : Nat} {a b : Option R2} (ha : mp2 p a) (hb : mp2 p b) : mp2 p (if c then a else b) := by
  by_cases h : c
  · rw [if_pos h]; exact ha
  · rw [if_neg h]; exact hb
theorem mp2_bd {p : Nat} {x : Option R2} {k : Nat → Sjt → Tf → Option R2} (hx : mp2 p x) (hk : ∀ q s a, p ≤ q → mp2 p (k q s a)) : mp2 p (b2 x k) := by
  intro r e
  cases hz : x with
  | none => rw [hz] at e; cases e
  | some y =>
    rw [hz] at e
    exact hk y.1 y.2.1 y.2.2 (hx y hz) r e
def gs (t : Nat) : Nat := if 100 ≤ t ∨ t = 25 then 1 else 0
def mo2 (F : F2) : Prop := ∀ t p s a, mp2 (p + gs t) (F t p s a)
theorem mo2.at {F : F2} (h : mo2 F) {p p' : Nat} (t : Nat) (s : Sjt) (a : Tf) (hp : p ≤ p') : mp2 p (F t p' s a) := fun r e => Nat.le_trans hp (Nat.le_trans (Nat.le_add_right _ _) (h t p' s a r e))
theorem cm_le (w : Ws) (p : Nat) : p + 1 ≤ (cmp w p).2 := by
  unfold cmp cm1 cm2
  have h1 := sk_le (ww w p 67) p
  have h2 := sk_le (ww w (sk (ww w p 67) p) 64) (sk (ww w p 67) p)
  generalize sk (ww w (sk (ww w p 67) p) 64) (sk (ww w p 67) p) = q at *
  have h3 := sk_le (ww w (q + 1) 48) (q + 1)
  have h4 := sk_le (ww w (q + 1) 71) (q + 1)
  repeat' split
  all_goals
    dsimp only
    omega
theorem mp2_rl {w : Ws} {p : Nat} {s : Sjt} : mp2 p (some (rl w p s)) := by
  have h1 := cm_le w p
  have h2 := cm_le w (p + 1)
  refine mp2_in ?_
  unfold rl
  repeat' split
  all_goals
    dsimp only
    omega
theorem gs0 {t : Nat} (h : t < 100) (h' : t ≠ 25) : gs t = 0 := if_neg (by omega)
theorem gs1 {t : Nat} (h : 100 ≤ t) : gs t = 1 := if_pos (Or.inl h)
theorem mo2_st {w : Ws} {F : F2} (h : mo2 F) : mo2 (st2 w F) := by
  intro t p s a
  unfold st2
  split
  all_goals
    simp only [gs, Nat.reduceLeDiff, Nat.reduceEqDiff, or_false, or_true, false_or, if_true, if_false, or_self, Nat.add_zero]
  all_goals
    repeat' first
      | exact mp2_none
      | exact mp2_rl
      | exact mp2_o (by omega)
      | exact mp2_o (sk_le' _ (by omega))
      | exact mp2_o (Nat.le_succ_of_le (sk_le' _ (by omega)))
      | exact mp2_o (Nat.le_trans (sk_le' _ (by omega)) (Nat.le_add_right _ 3))
      | exact mp2_in (by dsimp only; omega)
      | exact h.at _ _ _ (by omega)
      | exact h.at _ _ _ (sk_le' _ (by omega))
      | refine mp2_bd ?_ (fun _ _ _ _ => ?_)
      | refine mp2_ite ?_ ?_
theorem it2_mo (w : Ws) : ∀ n, mo2 (it2 w n)
  | 0 => fun _ _ _ _ => mp2_none
  | n + 1 => mo2_st (it2_mo w n)
theorem tv_mo (w : Ws) : mo2 (tv w) := fun t p s a r e => by
  obtain ⟨n, hn⟩ := tv_ex e
  exact it2_mo w n t p s a r hn
theorem tv_le {w : Ws} {t p q : Nat} {s s' : Sjt} {a b : Tf} (h : tv w t p s a = some (q, s', b)) : p ≤ q := Nat.le_trans (Nat.le_add_right _ _) (tv_mo w t p s a _ h)
theorem tv_lt {w : Ws} {t p q : Nat} {s s' : Sjt} {a b : Tf} (h : tv w t p s a = some (q, s', b)) (ht : 100 ≤ t) : p < q := by
  have := tv_mo w t p s a _ h
  rw [gs1 ht] at this
  exact this
theorem tv_lt25 {w : Ws} {p q : Nat} {s s' : Sjt} {a b : Tf} (h : tv w 25 p s a = some (q, s', b)) : p < q := tv_mo w 25 p s a _ h
