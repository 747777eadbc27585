/-! Words behind the last one say nothing to the reader of trees. -/
def agr (n : Nat) (x x' : Option R2) : Prop := ∀ r, x = some r → r.1 ≤ n → x' = some r
theorem agr_o {n q : Nat} {a a' : Tf} (h : q ≤ n → a = a') : agr n (o2 q a) (o2 q a') := fun r e hr => by
  cases e
  rw [h hr]
  rfl
theorem agr_o' {n q : Nat} {b : Bool} {a a' : Tf} (h : q ≤ n → a = a') : agr n (o2 (sk b q) a) (o2 (sk b q) a') := agr_o (fun hr => h (Nat.le_trans (sk_le b q) hr))
theorem agr_s {n q : Nat} {s : Sjt} {a a' : Tf} (h : q ≤ n → a = a') : agr n (some (q, s, a)) (some (q, s, a')) := fun r e hr => by
  cases e
  rw [h hr]
theorem agr_n {n : Nat} {x : Option R2} : agr n none x := fun r e => by cases e
theorem agr_i {n : Nat} {c : Prop} [Decidable c] {a b a' b' : Option R2} (ha : agr n a a') (hb : agr n b b') : agr n (if c then a else b) (if c then a' else b') := by
  by_cases h : c
  · rw [if_pos h, if_pos h]; exact ha
  · rw [if_neg h, if_neg h]; exact hb
theorem agr_c {n : Nat} {F F' : F2} (hF : ∀ t p s a, agr n (F t p s a) (F' t p s a)) (hm : mo2 F) {t p : Nat} {s : Sjt} {a a' : Tf} (h : p ≤ n → a = a') : agr n (F t p s a) (F' t p s a') := fun r e hr => by
  have hp := hm t p s a r e
  rw [← h (by omega)]
  exact hF t p s a r e hr
theorem agr_b {n p' : Nat} {X X' : Option R2} {K K' : Nat → Sjt → Tf → Option R2} (hx : agr n X X') (hm : mp2 p' X) (hk : ∀ q s a, p' ≤ q → agr n (K q s a) (K' q s a)) (hmk : ∀ q s a, mp2 q (K q s a)) : agr n (b2 X K) (b2 X' K') := fun r e hr => by
  cases hX : X with
  | none => rw [hX] at e; cases e
  | some y =>
    rw [hX] at e
    have e' : K y.1 y.2.1 y.2.2 = some r := e
    have hy := hmk _ _ _ r e'
    rw [hx y hX (by omega)]
    exact hk _ _ _ (hm y hX) r e' hr
section
variable {w w' : Ws}
theorem va_ag (h : Ag w w') {p : Nat} (hp : p < w.2.2) : w.2.1 p = w'.2.1 p := (h.2 p hp).2
theorem od_ag (h : Ag w w') {p : Nat} (hp : p < w.2.2) : od w p = od w' p := by
  unfold od
  rw [(h.2 p hp).1, (h.2 p hp).2]
theorem nm_ag (h : Ag w w') {k : Int32} {p : Nat} (hp : p < w.2.2) : nm w k p = nm w' k p := by
  unfold nm
  rw [(h.2 p hp).2]
theorem cm2_ag (h : Ag w w') {k : Int32} {q : Nat} (hq : (cm2 w k q).2 ≤ w.2.2) : cm2 w k q = cm2 w' k q := by
  unfold cm2 at hq ⊢
  simp only [ww_ag h] at hq ⊢
  by_cases c1 : ww w' q 68 = true
  · rw [if_pos c1, if_pos c1]
  rw [if_neg c1] at hq ⊢
  rw [if_neg c1]
  by_cases c2 : ww w' q 70 = true
  · rw [if_pos c2, if_pos c2]
  rw [if_neg c2] at hq ⊢
  rw [if_neg c2]
  by_cases c3 : ww w' q 69 = true
  · rw [if_pos c3, if_pos c3]
  rw [if_neg c3] at hq ⊢
  rw [if_neg c3]
  have hq' : q + 1 ≤ w.2.2 := hq
  rw [va_ag h (by omega)]
theorem cmp_ag (h : Ag w w') {q : Nat} (hq : (cmp w q).2 ≤ w.2.2) : cmp w q = cmp w' q := by
  unfold cmp cm1 at hq ⊢
  rw [cm2_ag h hq]
  simp only [ww_ag h]
theorem rl_ag (h : Ag w w') {p : Nat} {s : Sjt} (hq : (rl w p s).1 ≤ w.2.2) : rl w p s = rl w' p s := by
  have k1 := cm_le w p
  have k2 := cm_le w (p + 1)
  unfold rl at hq ⊢
  simp only [wo_ag h, wm_ag h] at hq ⊢
  by_cases c1 : (wo w' p && wm w' (p + 1)) = true
  · rw [if_pos c1] at hq ⊢
    rw [if_pos c1]
    have hq' : (cmp w (p + 1)).2 + 1 ≤ w.2.2 := hq
    rw [od_ag h (show p < w.2.2 by omega), od_ag h (show (cmp w (p + 1)).2 < w.2.2 by omega), cmp_ag h (show (cmp w (p + 1)).2 ≤ w.2.2 by omega)]
  rw [if_neg c1] at hq ⊢
  rw [if_neg c1]
  cases s with
  | none =>
    have hq' : p + 1 ≤ w.2.2 := hq
    show (p + 1, none, l1 (54, w.2.1 p, Int32.ofNat p, -1)) = (p + 1, none, l1 (54, w'.2.1 p, Int32.ofNat p, -1))
    rw [va_ag h (by omega)]
  | some y =>
    obtain ⟨hh, u⟩ := y
    dsimp only at hq ⊢
    by_cases c2 : wm w' p = true
    · rw [if_pos c2] at hq ⊢
      rw [if_pos c2]
      have hq' : (cmp w p).2 + 1 ≤ w.2.2 := hq
      rw [od_ag h (show (cmp w p).2 < w.2.2 by omega), cmp_ag h (show (cmp w p).2 ≤ w.2.2 by omega)]
    · rw [if_neg c2] at hq ⊢
      rw [if_neg c2]
      have hq' : p + 1 ≤ w.2.2 := hq
      rw [od_ag h (by omega)]
theorem agr_r (h : Ag w w') {p : Nat} {s : Sjt} : agr w.2.2 (some (rl w p s)) (some (rl w' p s)) := fun r e hr => by
  cases e
  rw [rl_ag h hr]
theorem st2_ag (h : Ag w w') {F F' : F2} (hF : ∀ t p s a, agr w.2.2 (F t p s a) (F' t p s a)) (hm : mo2 F) (t p : Nat) (s : Sjt) (a : Tf) : agr w.2.2 (st2 w F t p s a) (st2 w' F' t p s a) := by
  have h11 : agr w.2.2 (if wb w p then b2 (F (100 + (w.2.1 p).toInt.toNat) p none []) (fun q _ b => F 11 q none (a ++ b)) else o2 p a) (if wb w' p then b2 (F' (100 + (w'.2.1 p).toInt.toNat) p none []) (fun q _ b => F' 11 q none (a ++ b)) else o2 p a) := by
    rw [← wb_ag h]
    by_cases c : wb w p = true
    · rw [if_pos c, if_pos c, ← va_ag h (wb_iff.mp c).1]
      exact agr_b (agr_c hF hm (fun _ => rfl)) (hm.at _ _ _ (Nat.le_refl _)) (fun q _ b hq => agr_c hF hm (fun _ => rfl)) (fun q _ b => hm.at _ _ _ (Nat.le_refl _))
    · rw [if_neg c, if_neg c]
      exact agr_o (fun _ => rfl)
  unfold st2
  split
  all_goals try exact h11
  all_goals try simp only [wk_ag h, ww_ag h, wg_ag h, wo_ag h, wc_ag h, wb_ag h]
  all_goals
    repeat' first
      | exact agr_n
      | exact agr_r h
      | refine agr_i ?_ ?_
      | refine agr_c hF hm (fun hq => ?_)
      | refine agr_o' (fun hq => ?_)
      | refine agr_o (fun hq => ?_)
      | refine agr_s (fun hq => ?_)
      | refine agr_b (p' := _) ?_ (hm.at _ _ _ (sk_le' _ (Nat.le_refl _))) (fun _ _ _ _ => ?_) (fun _ _ _ => ?_)
      | refine agr_b (p' := _) ?_ (hm.at _ _ _ (Nat.le_refl _)) (fun _ _ _ _ => ?_) (fun _ _ _ => ?_)
      | refine agr_b (p' := p + 2) ?_ (mp2_ite (hm.at _ _ _ (by omega)) (mp2_o (Nat.le_refl _))) (fun _ _ _ _ => ?_) (fun _ _ _ => ?_)
      | exact mp2_o (by omega)
      | exact mp2_o (sk_le' _ (by omega))
      | exact mp2_o (Nat.le_succ_of_le (sk_le' _ (by omega)))
      | exact mp2_in (by dsimp only; omega)
      | exact hm.at _ _ _ (by omega)
      | exact hm.at _ _ _ (sk_le' _ (by omega))
      | refine mp2_bd ?_ (fun _ _ _ _ => ?_)
      | refine mp2_ite ?_ ?_
  all_goals first
    | rfl
    | (simp (disch := omega) only [od_ag h, nm_ag h, va_ag h])
theorem it2_ag (h : Ag w w') : ∀ k t p s a, agr w.2.2 (it2 w k t p s a) (it2 w' k t p s a)
  | 0 => fun _ _ _ _ => agr_n
  | k + 1 => st2_ag h (it2_ag h k) (it2_mo w k)
theorem tv_ag (h : Ag w w') {t p : Nat} {s : Sjt} {a : Tf} {r : R2} (e : tv w t p s a = some r) (hr : r.1 ≤ w.2.2) : tv w' t p s a = some r := by
  obtain ⟨n, hn⟩ := tv_ex e
  exact tv_of (it2_ag h n t p s a r hn hr)
theorem itn_ag (h : Ag w w') (q : Nat) : itn w q = itn w' q := by
  unfold itn
  rw [wk_ag h, ww_ag h]
  by_cases c : wk w' q 1 = true
  · rw [if_pos c, if_pos c]
    rw [← wk_ag h] at c
    rw [va_ag h (wk_iff.mp c).1]
  · rw [if_neg c, if_neg c]
theorem sl2_le (w : Ws) (q : Nat) (a : Tf) : q ≤ (sl2 w q a).1 := by
  unfold sl2
  have := sk_le (ww w (q + 1) 67) (q + 1)
  split
  · show q ≤ sk (ww w (q + 1) 67) (q + 1) + 1
    omega
  · exact Nat.le_refl _
theorem sl1_le (w : Ws) (q : Nat) (a : Tf) : q ≤ (sl1 w q a).1 := by
  unfold sl1
  have h1 := sk_le (ww w (q + 1) 67) (q + 1)
  split
  · have := sl2_le w (sk (ww w (q + 1) 67) (q + 1) + 1) (a ++ l1 (5, w.2.1 (sk (ww w (q + 1) 67) (q + 1)) - 8, Int32.ofNat q, -1))
    omega
  · exact sl2_le w q a
theorem sl2_ag (h : Ag w w') {q : Nat} {a : Tf} (hq : (sl2 w q a).1 ≤ w.2.2) : sl2 w q a = sl2 w' q a := by
  unfold sl2 at hq ⊢
  simp only [ww_ag h] at hq ⊢
  by_cases c : ww w' q 11 = true
  · rw [if_pos c] at hq ⊢
    rw [if_pos c]
    have hq' : sk (ww w' (q + 1) 67) (q + 1) + 1 ≤ w.2.2 := hq
    rw [va_ag h (by omega)]
  · rw [if_neg c, if_neg c]
theorem sl1_ag (h : Ag w w') {q : Nat} {a : Tf} (hq : (sl1 w q a).1 ≤ w.2.2) : sl1 w q a = sl1 w' q a := by
  unfold sl1 at hq ⊢
  by_cases c : ww w q 7 = true
  · rw [if_pos c] at hq ⊢
    rw [if_pos (show ww w' q 7 = true by rw [← ww_ag h]; exact c)]
    have hq' := sl2_le w (sk (ww w (q + 1) 67) (q + 1) + 1) (a ++ l1 (5, w.2.1 (sk (ww w (q + 1) 67) (q + 1)) - 8, Int32.ofNat q, -1))
    rw [sl2_ag h hq, va_ag h (show sk (ww w (q + 1) 67) (q + 1) < w.2.2 by omega)]
    simp only [ww_ag h]
  · rw [if_neg c] at hq ⊢
    rw [if_neg (show ¬ ww w' q 7 = true by rw [← ww_ag h]; exact c)]
    exact sl2_ag h hq
theorem slc_ag (h : Ag w w') {p : Nat} (hq : (slc w p).1 ≤ w.2.2) : slc w p = slc w' p := by
  unfold slc at hq ⊢
  have hq' := sl1_le w (sk (ww w (p + 3) 48) (p + 3) + 1) (l1 (od w (sk (ww w (p + 3) 48) (p + 3))))
  rw [sl1_ag h hq, od_ag h (show sk (ww w (p + 3) 48) (p + 3) < w.2.2 by omega)]
  simp only [ww_ag h]
theorem slc_le (w : Ws) (p : Nat) : p + 4 ≤ (slc w p).1 := by
  unfold slc
  have h1 := sl1_le w (sk (ww w (p + 3) 48) (p + 3) + 1) (l1 (od w (sk (ww w (p + 3) 48) (p + 3))))
  have h2 := sk_le (ww w (p + 3) 48) (p + 3)
  omega
theorem yC_ag (h : Ag w w') {c : CU} {x x' : Xs} {p q : Nat} (hp : p < w.2.2) (e : yC w c x p = some (q, x')) (hq : q ≤ w.2.2) : yC w' c x p = some (q, x') := by
  have hv := va_ag h hp
  unfold yC at e ⊢
  simp only [wk_ag h, ww_ag h, wb_ag h, hv, itn_ag h] at e
  by_cases c1 : wk w' p 1 = true
  · rw [if_pos c1] at e ⊢
    exact e
  rw [if_neg c1] at e ⊢
  by_cases c2 : wk w' p 2 = true
  · rw [if_pos c2] at e ⊢
    cases ho : oP c (w'.2.1 p) with
    | none =>
      rw [ho] at e
      cases e
    | some j =>
      rw [ho] at e
      cases ht : tv w 24 (itn w' (p + 1)).2 none [] with
      | none =>
        rw [ht] at e
        cases e
      | some y =>
        obtain ⟨q1, s1, F1⟩ := y
        rw [ht] at e
        have e' : q1 = q := (congrArg Prod.fst (Option.some.inj e))
        rw [tv_ag h ht (by show q1 ≤ w.2.2; omega)]
        exact e
  rw [if_neg c2] at e ⊢
  by_cases c3 : wb w' p = true
  · rw [if_pos c3] at e ⊢
    cases ht : tv w 11 p none [] with
    | none =>
      rw [ht] at e
      cases e
    | some y =>
      obtain ⟨q1, s1, F1⟩ := y
      rw [ht] at e
      have e' : q1 + 1 = q := (congrArg Prod.fst (Option.some.inj e))
      rw [tv_ag h ht (by show q1 ≤ w.2.2; omega)]
      exact e
  rw [if_neg c3] at e ⊢
  by_cases e0 : (w'.2.1 p).toInt = 0
  · rw [if_pos e0] at e ⊢
    exact e
  rw [if_neg e0] at e ⊢
  by_cases e2 : (w'.2.1 p).toInt = 2
  · rw [if_pos e2] at e ⊢
    have e' : p + 3 = q := (congrArg Prod.fst (Option.some.inj e))
    rw [← va_ag h (show p + 1 < w.2.2 by omega)]
    exact e
  rw [if_neg e2] at e ⊢
  by_cases e3 : (w'.2.1 p).toInt = 3
  · rw [if_pos e3] at e ⊢
    have e' : p + 3 = q := (congrArg Prod.fst (Option.some.inj e))
    rw [← va_ag h (show p + 1 < w.2.2 by omega)]
    exact e
  rw [if_neg e3] at e ⊢
  by_cases e4 : (w'.2.1 p).toInt = 4
  · rw [if_pos e4] at e ⊢
    exact e
  rw [if_neg e4] at e ⊢
  by_cases e5 : (w'.2.1 p).toInt = 5
  · rw [if_pos e5] at e ⊢
    have e' : (slc w p).1 + 1 = q := (congrArg Prod.fst (Option.some.inj e))
    have := slc_le w p
    rw [← va_ag h (show p + 1 < w.2.2 by omega), ← slc_ag h (show (slc w p).1 ≤ w.2.2 by omega)]
    exact e
  rw [if_neg e5] at e ⊢
  by_cases e12 : (w'.2.1 p).toInt = 12
  · rw [if_pos e12] at e ⊢
    exact e
  rw [if_neg e12] at e ⊢
  by_cases e13 : (w'.2.1 p).toInt = 13
  · rw [if_pos e13] at e ⊢
    exact e
  rw [if_neg e13] at e ⊢
  by_cases e14 : (w'.2.1 p).toInt = 14
  · rw [if_pos e14] at e ⊢
    exact e
  rw [if_neg e14] at e ⊢
  by_cases e15 : (w'.2.1 p).toInt = 15
  · rw [if_pos e15] at e ⊢
    exact e
  rw [if_neg e15] at e ⊢
  by_cases e17 : (w'.2.1 p).toInt = 17
  · rw [if_pos e17] at e ⊢
    have e' : p + 3 = q := (congrArg Prod.fst (Option.some.inj e))
    rw [← va_ag h (show p + 1 < w.2.2 by omega)]
    exact e
  rw [if_neg e17] at e ⊢
  by_cases e30 : (w'.2.1 p).toInt = 30
  · rw [if_pos e30] at e ⊢
    by_cases b1 : ww w' (p + 2) 31 = true
    · rw [if_pos b1] at e ⊢
      cases ht : tv w 38 (p + 3) none [] with
      | none =>
        rw [ht] at e
        cases e
      | some y =>
        obtain ⟨q1, s1, F1⟩ := y
        rw [ht] at e
        have e' : q1 + 1 = q := (congrArg Prod.fst (Option.some.inj e))
        rw [tv_ag h ht (by show q1 ≤ w.2.2; omega)]
        exact e
    · rw [if_neg b1] at e ⊢
      exact e
  rw [if_neg e30] at e ⊢
  exact e
theorem uN_ag (h : Ag w w') {p : Nat} (hp : p < w.2.2) : uN w p = uN w' p := by
  unfold uN
  rw [(h.2 p hp).1, (h.2 p hp).2]
end
