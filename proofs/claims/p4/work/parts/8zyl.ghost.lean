/-! What one clause does to the chain; every relation of a tree names its subject's place. -/
theorem yC_sh {w : Ws} {c : CU} {x x' : Xs} {p q : Nat} (h : yC w c x p = some (q, x')) : p ≤ q ∧ (x'.1 = x.1 ∨ (∃ i k v, x'.1 = renC i x.1 k v ∧ (k = 1 ∨ k = 2)) ∨ ∃ i d F, x'.1 = attC i x.1 (d, F) ∧ (d.1 ≠ 53 ∧ d.1 ≠ 41 ∧ d.2.2.2 = -1) ∧ (F = [] ∨ (F = (slc w p).2 ∧ (slc w p).1 ≤ q) ∨ ∃ t p' q' s', p ≤ p' ∧ tv w t p' none [] = some (q', s', F) ∧ q' ≤ q)) := by
  have att : ∀ {i : Nat} {k v pp : Int32} {F : Tf}, p ≤ q → x'.1 = attC i x.1 ((k, v, pp, -1), F) → (k ≠ 53 ∧ k ≠ 41) → (F = [] ∨ (F = (slc w p).2 ∧ (slc w p).1 ≤ q) ∨ ∃ t p' q' s', p ≤ p' ∧ tv w t p' none [] = some (q', s', F) ∧ q' ≤ q) → p ≤ q ∧ (x'.1 = x.1 ∨ (∃ i k v, x'.1 = renC i x.1 k v ∧ (k = 1 ∨ k = 2)) ∨ ∃ i d F, x'.1 = attC i x.1 (d, F) ∧ (d.1 ≠ 53 ∧ d.1 ≠ 41 ∧ d.2.2.2 = -1) ∧ (F = [] ∨ (F = (slc w p).2 ∧ (slc w p).1 ≤ q) ∨ ∃ t p' q' s', p ≤ p' ∧ tv w t p' none [] = some (q', s', F) ∧ q' ≤ q)) := fun hp e h1 h2 => ⟨hp, Or.inr (Or.inr ⟨_, _, _, e, ⟨h1.1, h1.2, rfl⟩, h2⟩)⟩
  have hit : ∀ q, q ≤ (itn w q).2 := fun q => by
    unfold itn
    split
    · exact Nat.le_succ _
    · exact sk_le _ _
  unfold yC at h
  by_cases c1 : wk w p 1 = true
  · rw [if_pos c1] at h
    by_cases b : ww w (p + 1) 16 = true
    · rw [if_pos b] at h
      cases h
      exact att (by omega) rfl (by decide) (Or.inl rfl)
    · rw [if_neg b] at h
      cases h
      exact att (by omega) rfl (by decide) (Or.inl rfl)
  rw [if_neg c1] at h
  by_cases c2 : wk w p 2 = true
  · rw [if_pos c2] at h
    cases ho : oP c (w.2.1 p) with
    | none =>
      rw [ho] at h
      cases h
    | some j =>
      rw [ho] at h
      cases ht : tv w 24 (itn w (p + 1)).2 none [] with
      | none =>
        rw [ht] at h
        cases h
      | some y =>
        obtain ⟨q1, s1, F1⟩ := y
        rw [ht] at h
        cases h
        have h1 := tv_le ht
        have h2 := hit (p + 1)
        exact att (by omega) rfl (by decide) (Or.inr (Or.inr ⟨_, _, _, _, by omega, ht, Nat.le_refl _⟩))
  rw [if_neg c2] at h
  by_cases c3 : wb w p = true
  · rw [if_pos c3] at h
    cases ht : tv w 11 p none [] with
    | none =>
      rw [ht] at h
      cases h
    | some y =>
      obtain ⟨q1, s1, F1⟩ := y
      rw [ht] at h
      cases h
      have h1 := tv_le ht
      exact att (by omega) rfl (by decide) (Or.inr (Or.inr ⟨_, _, _, _, Nat.le_refl _, ht, Nat.le_succ _⟩))
  rw [if_neg c3] at h
  by_cases e0 : (w.2.1 p).toInt = 0
  · rw [if_pos e0] at h
    cases h
    exact att (by omega) rfl (by decide) (Or.inl rfl)
  rw [if_neg e0] at h
  by_cases e2 : (w.2.1 p).toInt = 2
  · rw [if_pos e2] at h
    cases h
    exact ⟨by omega, Or.inr (Or.inl ⟨_, _, _, rfl, Or.inl rfl⟩)⟩
  rw [if_neg e2] at h
  by_cases e3 : (w.2.1 p).toInt = 3
  · rw [if_pos e3] at h
    cases h
    exact ⟨by omega, Or.inr (Or.inl ⟨_, _, _, rfl, Or.inr rfl⟩)⟩
  rw [if_neg e3] at h
  by_cases e4 : (w.2.1 p).toInt = 4
  · rw [if_pos e4] at h
    cases h
    exact att (by omega) rfl (by decide) (Or.inl rfl)
  rw [if_neg e4] at h
  by_cases e5 : (w.2.1 p).toInt = 5
  · rw [if_pos e5] at h
    cases h
    have h1 : p ≤ (slc w p).1 := by
      have h2 : ∀ q a, q ≤ (sl2 w q a).1 := fun q a => by
        unfold sl2
        split
        · have := sk_le (ww w (q + 1) 67) (q + 1)
          dsimp only
          omega
        · exact Nat.le_refl _
      have h3 : ∀ q a, q ≤ (sl1 w q a).1 := fun q a => by
        unfold sl1
        split
        · have := sk_le (ww w (q + 1) 67) (q + 1)
          have := h2 (sk (ww w (q + 1) 67) (q + 1) + 1) (a ++ l1 (5, w.2.1 (sk (ww w (q + 1) 67) (q + 1)) - 8, Int32.ofNat q, -1))
          omega
        · exact h2 q a
      unfold slc
      have := sk_le (ww w (p + 3) 48) (p + 3)
      have := h3 (sk (ww w (p + 3) 48) (p + 3) + 1) (l1 (od w (sk (ww w (p + 3) 48) (p + 3))))
      omega
    exact att (by omega) rfl (by decide) (Or.inr (Or.inl ⟨rfl, Nat.le_succ _⟩))
  rw [if_neg e5] at h
  by_cases e12 : (w.2.1 p).toInt = 12
  · rw [if_pos e12] at h
    cases h
    exact att (by omega) rfl (by decide) (Or.inl rfl)
  rw [if_neg e12] at h
  by_cases e13 : (w.2.1 p).toInt = 13
  · rw [if_pos e13] at h
    cases h
    exact att (by omega) rfl (by decide) (Or.inl rfl)
  rw [if_neg e13] at h
  by_cases e14 : (w.2.1 p).toInt = 14
  · rw [if_pos e14] at h
    cases h
    exact att (by omega) rfl (by decide) (Or.inl rfl)
  rw [if_neg e14] at h
  by_cases e15 : (w.2.1 p).toInt = 15
  · rw [if_pos e15] at h
    cases h
    exact att (by omega) rfl (by decide) (Or.inl rfl)
  rw [if_neg e15] at h
  by_cases e17 : (w.2.1 p).toInt = 17
  · rw [if_pos e17] at h
    cases h
    exact att (by omega) rfl (by decide) (Or.inl rfl)
  rw [if_neg e17] at h
  by_cases e30 : (w.2.1 p).toInt = 30
  · rw [if_pos e30] at h
    by_cases b1 : ww w (p + 2) 31 = true
    · rw [if_pos b1] at h
      cases ht : tv w 38 (p + 3) none [] with
      | none =>
        rw [ht] at h
        cases h
      | some y =>
        obtain ⟨q1, s1, F1⟩ := y
        rw [ht] at h
        cases h
        have h1 := tv_le ht
        exact att (by omega) rfl (by decide) (Or.inr (Or.inr ⟨_, _, _, _, by omega, ht, Nat.le_succ _⟩))
    · rw [if_neg b1] at h
      cases h
      exact att (by omega) rfl (by decide) (Or.inl rfl)
  rw [if_neg e30] at h
  by_cases e32 : (w.2.1 p).toInt = 32
  · rw [if_pos e32] at h
    cases h
    exact att (by omega) rfl (by decide) (Or.inl rfl)
  rw [if_neg e32] at h
  by_cases e33 : (w.2.1 p).toInt = 33
  · rw [if_pos e33] at h
    by_cases b1 : ww w (p + 1) 32 = true
    · rw [if_pos b1] at h
      cases h
      exact ⟨by omega, Or.inl rfl⟩
    · rw [if_neg b1] at h
      cases h
      exact ⟨by omega, Or.inl rfl⟩
  rw [if_neg e33] at h
  cases h
/-- the sum of a measure over a tree's nodes -/
def wMs (b : TD → Nat) : Tf → Nat
  | [] => 0
  | x :: T => b x.2 + wMs b T
section
variable {b : TD → Nat}
theorem wMs_nil : wMs b [] = 0 := rfl
theorem wMs_app : ∀ (A B : Tf), wMs b (A ++ B) = wMs b A + wMs b B
  | [], B => (Nat.zero_add _).symm
  | x :: A, B => by
    show b x.2 + wMs b (A ++ B) = b x.2 + wMs b A + wMs b B
    rw [wMs_app A B]
    omega
theorem wMs_up : ∀ (A : Tf), wMs b (upT A) = wMs b A
  | [] => rfl
  | x :: A => by
    show b x.2 + wMs b (upT A) = b x.2 + wMs b A
    rw [wMs_up A]
theorem wMs_nd (d : TD) (A : Tf) : wMs b (nd d A) = b d + wMs b A := by
  show b d + wMs b (upT A) = _
  rw [wMs_up]
theorem wMs_l1 (d : TD) : wMs b (l1 d) = b d := by
  show b d + 0 = b d
  exact Nat.add_zero _
theorem clp_wMs (e : Ce) (l : List Ce) : wMs b (clp (e :: l)) = b e.1 + (wMs b e.2 + wMs b (clp l)) := by
  show wMs b (nd e.1 (e.2 ++ clp l)) = _
  rw [wMs_nd, wMs_app]
theorem wMs_att : ∀ (i : Nat) (ch : List Ce) (e : Ce), wMs b (clp (attC i ch e)) = wMs b (clp ch) + (b e.1 + wMs b e.2)
  | 0, [], e => by
    show wMs b (clp [e]) = _
    rw [clp_wMs]
    show b e.1 + (wMs b e.2 + 0) = 0 + _
    omega
  | i + 1, [], e => by
    show wMs b (clp [e]) = _
    rw [clp_wMs]
    show b e.1 + (wMs b e.2 + 0) = 0 + _
    omega
  | 0, a :: l, e => by
    show wMs b (clp [(a.1, a.2 ++ clp l), e]) = _
    rw [clp_wMs, clp_wMs, clp_wMs]
    show b a.1 + (wMs b (a.2 ++ clp l) + (b e.1 + (wMs b e.2 + 0))) = _
    rw [wMs_app]
    omega
  | i + 1, a :: l, e => by
    show wMs b (clp (a :: attC i l e)) = _
    rw [clp_wMs, clp_wMs, wMs_att i l e]
    omega
theorem wMs_set : ∀ (i : Nat) (ch : List Ce) (e : Ce) (d : TD), ch[i]? = some e → b d = 0 → wMs b (clp (ch.set i (d, e.2))) ≤ wMs b (clp ch)
  | _, [], _, _, h, _ => by cases h
  | 0, a :: l, e, d, h, hd => by
    cases h
    show wMs b (clp ((d, a.2) :: l)) ≤ _
    rw [clp_wMs, clp_wMs]
    show b d + (wMs b a.2 + wMs b (clp l)) ≤ _
    omega
  | i + 1, a :: l, e, d, h, hd => by
    show wMs b (clp (a :: l.set i (d, e.2))) ≤ _
    rw [clp_wMs, clp_wMs]
    have := wMs_set i l e d h hd
    omega
theorem wMs_ren {i : Nat} {ch : List Ce} {k v : Int32} (h : ∀ x y z, b (k, x, y, z) = 0) : wMs b (clp (renC i ch k v)) ≤ wMs b (clp ch) := by
  unfold renC
  cases he : ch[i]? with
  | none => exact Nat.le_refl _
  | some e => exact wMs_set i ch e _ he (h _ _ _)
end
/-- a relation whose subject's place is wanting -/
def bg (d : TD) : Nat := if d.1 = 53 ∧ d.2.2.2 = -1 then 1 else 0
theorem bg_k {d : TD} (h : d.1 ≠ 53) : bg d = 0 := if_neg (fun e => h e.1)
theorem bg_od (w : Ws) (p : Nat) : bg (od w p) = 0 := bg_k (show (41 : Int32) ≠ 53 by decide)
theorem bg_nms (w : Ws) (p : Nat) : bg (nm w 41 p) = 0 ∧ bg (nm w 16 p) = 0 ∧ bg (nm w 17 p) = 0 ∧ bg (nm w 21 p) = 0 := ⟨bg_k (show (41 : Int32) ≠ 53 by decide), bg_k (show (16 : Int32) ≠ 53 by decide), bg_k (show (17 : Int32) ≠ 53 by decide), bg_k (show (21 : Int32) ≠ 53 by decide)⟩
theorem bg_lit (v p e : Int32) : bg (55, v, p, e) = 0 ∧ bg (50, v, p, e) = 0 ∧ bg (51, v, p, e) = 0 ∧ bg (52, v, p, e) = 0 ∧ bg (40, v, p, e) = 0 ∧ bg (42, v, p, e) = 0 ∧ bg (46, v, p, e) = 0 ∧ bg (47, v, p, e) = 0 ∧ bg (43, v, p, e) = 0 ∧ bg (44, v, p, e) = 0 ∧ bg (45, v, p, e) = 0 ∧ bg (13, v, p, e) = 0 ∧ bg (14, v, p, e) = 0 ∧ bg (15, v, p, e) = 0 ∧ bg (16, v, p, e) = 0 ∧ bg (17, v, p, e) = 0 ∧ bg (18, v, p, e) = 0 ∧ bg (19, v, p, e) = 0 ∧ bg (21, v, p, e) = 0 ∧ bg (26, v, p, e) = 0 ∧ bg (27, v, p, e) = 0 ∧ bg (28, v, p, e) = 0 ∧ bg (29, v, p, e) = 0 ∧ bg (30, v, p, e) = 0 ∧ bg (31, v, p, e) = 0 ∧ bg (32, v, p, e) = 0 ∧ bg (33, v, p, e) = 0 ∧ bg (34, v, p, e) = 0 ∧ bg (35, v, p, e) = 0 ∧ bg (36, v, p, e) = 0 ∧ bg (37, v, p, e) = 0 ∧ bg (38, v, p, e) = 0 :=
  ⟨bg_k (show (55 : Int32) ≠ 53 by decide), bg_k (show (50 : Int32) ≠ 53 by decide), bg_k (show (51 : Int32) ≠ 53 by decide), bg_k (show (52 : Int32) ≠ 53 by decide), bg_k (show (40 : Int32) ≠ 53 by decide), bg_k (show (42 : Int32) ≠ 53 by decide), bg_k (show (46 : Int32) ≠ 53 by decide), bg_k (show (47 : Int32) ≠ 53 by decide), bg_k (show (43 : Int32) ≠ 53 by decide), bg_k (show (44 : Int32) ≠ 53 by decide), bg_k (show (45 : Int32) ≠ 53 by decide), bg_k (show (13 : Int32) ≠ 53 by decide), bg_k (show (14 : Int32) ≠ 53 by decide), bg_k (show (15 : Int32) ≠ 53 by decide), bg_k (show (16 : Int32) ≠ 53 by decide), bg_k (show (17 : Int32) ≠ 53 by decide), bg_k (show (18 : Int32) ≠ 53 by decide), bg_k (show (19 : Int32) ≠ 53 by decide), bg_k (show (21 : Int32) ≠ 53 by decide), bg_k (show (26 : Int32) ≠ 53 by decide), bg_k (show (27 : Int32) ≠ 53 by decide), bg_k (show (28 : Int32) ≠ 53 by decide), bg_k (show (29 : Int32) ≠ 53 by decide), bg_k (show (30 : Int32) ≠ 53 by decide), bg_k (show (31 : Int32) ≠ 53 by decide), bg_k (show (32 : Int32) ≠ 53 by decide), bg_k (show (33 : Int32) ≠ 53 by decide), bg_k (show (34 : Int32) ≠ 53 by decide), bg_k (show (35 : Int32) ≠ 53 by decide), bg_k (show (36 : Int32) ≠ 53 by decide), bg_k (show (37 : Int32) ≠ 53 by decide), bg_k (show (38 : Int32) ≠ 53 by decide)⟩
def sOk (s : Sjt) : Prop := ∀ y, s = some y → y.2 ≤ 1500
theorem sOk_n : sOk none := fun y e => by cases e
def gk2 (x : Option R2) : Prop := ∀ r, x = some r → wMs bg r.2.2 = 0 ∧ sOk r.2.1
theorem gk_o {q : Nat} {a : Tf} (h : wMs bg a = 0) : gk2 (o2 q a) := fun r e => by
  cases e
  exact ⟨h, sOk_n⟩
theorem gk_s {q : Nat} {s : Sjt} {a : Tf} (hs : sOk s) (h : wMs bg a = 0) : gk2 (some (q, s, a)) := fun r e => by
  cases e
  exact ⟨h, hs⟩
theorem gk_n : gk2 none := fun r e => by cases e
theorem gk_i {c : Prop} [Decidable c] {a b : Option R2} (ha : gk2 a) (hb : gk2 b) : gk2 (if c then a else b) := by
  by_cases h : c
  · rw [if_pos h]; exact ha
  · rw [if_neg h]; exact hb
theorem gk_b {X : Option R2} {K : Nat → Sjt → Tf → Option R2} (hx : gk2 X) (hk : ∀ q s a, wMs bg a = 0 → sOk s → gk2 (K q s a)) : gk2 (b2 X K) := fun r e => by
  cases hX : X with
  | none => rw [hX] at e; cases e
  | some y =>
    rw [hX] at e
    exact hk _ _ _ (hx y hX).1 (hx y hX).2 r e
theorem bg_53 {u : Nat} (h : u ≤ 1500) (x y : Int32) : bg (53, x, y, Int32.ofNat u) = 0 := if_neg (fun e => by
  have e1 : Int32.ofNat u = -1 := e.2
  have e2 := congrArg Int32.toInt e1
  rw [on_eq (by omega)] at e2
  have e3 : (u : Int) = -1 := e2
  omega)
theorem gk_rl {w : Ws} (hw : w.2.2 ≤ 1500) (p : Nat) {s : Sjt} (hs : sOk s) : gk2 (some (rl w p s)) := fun r e => by
  cases e
  unfold rl
  split
  · rename_i c
    have hp : p ≤ 1500 := by
      have := (wo_iff.mp ((Bool.and_eq_true _ _).mp c).1).1
      omega
    refine ⟨?_, fun y e => by cases e; exact hp⟩
    show wMs bg (nd _ (l1 _ ++ l1 _)) = 0
    rw [wMs_nd, wMs_app, wMs_l1, wMs_l1, bg_od, bg_od, bg_53 hp]
  · cases s with
    | some y =>
      obtain ⟨h, u⟩ := y
      have hu : u ≤ 1500 := hs (h, u) rfl
      dsimp only
      split
      · refine ⟨?_, fun y e => by cases e; exact hu⟩
        show wMs bg (nd _ (l1 _)) = 0
        rw [wMs_nd, wMs_l1, bg_od, bg_53 hu]
      · refine ⟨?_, fun y e => by cases e; exact hu⟩
        show wMs bg (nd _ (l1 _)) = 0
        rw [wMs_nd, wMs_l1, bg_od, bg_53 hu]
    | none =>
      refine ⟨?_, sOk_n⟩
      show wMs bg (l1 _) = 0
      rw [wMs_l1, bg_k (show (54 : Int32) ≠ 53 by decide)]
theorem st2_gk {w : Ws} (hw : w.2.2 ≤ 1500) {F : F2} (hF : ∀ t p s a, sOk s → wMs bg a = 0 → gk2 (F t p s a)) (t p : Nat) (s : Sjt) (a : Tf) (hs : sOk s) (ha : wMs bg a = 0) : gk2 (st2 w F t p s a) := by
  unfold st2
  split
  all_goals
    repeat' first
      | exact gk_n
      | exact gk_rl hw _ (by assumption)
      | refine gk_i ?_ ?_
      | refine hF _ _ _ _ (by first | exact sOk_n | assumption) ?_
      | refine gk_o ?_
      | refine gk_s (by first | exact sOk_n | assumption) ?_
      | refine gk_b ?_ (fun _ _ _ _ _ => ?_)
  all_goals first
    | rfl
    | assumption
    | (simp only [wMs_nd, wMs_app, wMs_l1, bg_od, bg_nms, bg_lit, *]; done)
    | (simp only [wMs_nd, wMs_app, wMs_l1, bg_od, bg_nms, bg_lit, *]; first | rfl | decide)
    | (split <;> simp only [wMs_nd, wMs_app, wMs_l1, bg_od, bg_nms, bg_lit, *] <;> rfl)
theorem it2_gk {w : Ws} (hw : w.2.2 ≤ 1500) : ∀ k t p s a, sOk s → wMs bg a = 0 → gk2 (it2 w k t p s a)
  | 0 => fun _ _ _ _ _ _ => gk_n
  | k + 1 => st2_gk hw (it2_gk hw k)
theorem tv_gk {w : Ws} (hw : w.2.2 ≤ 1500) {t p q : Nat} {s s' : Sjt} {a T : Tf} (hs : sOk s) (ha : wMs bg a = 0) (e : tv w t p s a = some (q, s', T)) : wMs bg T = 0 := by
  obtain ⟨n, hn⟩ := tv_ex e
  exact (it2_gk hw n t p s a hs ha _ hn).1
theorem slc_gk (w : Ws) (p : Nat) : wMs bg (slc w p).2 = 0 := by
  have h2 : ∀ q a, wMs bg a = 0 → wMs bg (sl2 w q a).2 = 0 := fun q a ha => by
    unfold sl2
    split
    · show wMs bg (a ++ l1 _) = 0
      rw [wMs_app, ha, wMs_l1, bg_k (show (6 : Int32) ≠ 53 by decide)]
    · exact ha
  unfold slc sl1
  split
  · exact h2 _ _ (by rw [wMs_app, wMs_l1, bg_od, wMs_l1, bg_k (show (5 : Int32) ≠ 53 by decide)])
  · exact h2 _ _ (by rw [wMs_l1, bg_od])
theorem yC_gk {w : Ws} (hw : w.2.2 ≤ 1500) {c : CU} {x x' : Xs} {p q : Nat} (h : yC w c x p = some (q, x')) (h0 : wMs bg (clp x.1) = 0) : wMs bg (clp x'.1) = 0 := by
  obtain ⟨-, e | ⟨i, k, v, e, hk⟩ | ⟨i, d, F, e, hd, hF⟩⟩ := yC_sh h
  · rw [e]
    exact h0
  · rw [e]
    have hk' : k ≠ 53 := by rcases hk with rfl | rfl <;> decide
    have := wMs_ren (b := bg) (i := i) (ch := x.1) (k := k) (v := v) (fun _ _ _ => bg_k hk')
    omega
  · rw [e, wMs_att, h0]
    show 0 + (bg d + wMs bg F) = 0
    rw [bg_k hd.1]
    rcases hF with rfl | ⟨rfl, -⟩ | ⟨t, p', q', s', -, ht, -⟩
    · rfl
    · rw [slc_gk]
    · rw [tv_gk hw sOk_n rfl ht]
theorem Rn.gk {w : Ws} (hw : w.2.2 ≤ 1500) {b : Bool} : ∀ {k : Nat} {c : CU} {x : Xs} {p un : Nat} {y : CU × Xs × Nat}, Rn w b k c x p un y → wMs bg (clp x.1) = 0 → wMs bg (clp y.2.1.1) = 0
  | 0, _, _, _, _, _, h, _ => h.elim
  | k + 1, c, x, p, un, y, h, h0 => by
    rcases h with ⟨h1, rfl⟩ | ⟨h1, q, s, x', hz, hy, hb, h⟩
    · exact h0
    · exact Rn.gk hw h (yC_gk hw hy h0)
