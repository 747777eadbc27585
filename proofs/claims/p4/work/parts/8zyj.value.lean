/-! Nodes whose kind has no value have the value 0. -/
def hv (k : Int32) : Bool := decide (k = 1) || decide (k = 2) || (decide (4 ≤ k.toInt) && decide (k.toInt ≤ 6)) || decide (k = 11) || (decide (12 ≤ k.toInt) && decide (k.toInt ≤ 13)) || (decide (15 ≤ k.toInt) && decide (k.toInt ≤ 19)) || decide (k = 21) || decide (k = 23) || decide (k = 24) || decide (k = 27) || decide (k = 29) || decide (k = 31) || decide (k = 34) || decide (k = 38) || decide (k = 41) || (decide (53 ≤ k.toInt) && decide (k.toInt ≤ 55))
def bv (d : TD) : Nat := if hv d.1 = true ∨ d.2.1 = 0 then 0 else 1
/-- how many nodes have a value that they may not have -/
def cV : Tf → Nat
  | [] => 0
  | x :: T => bv x.2 + cV T
theorem cV_app : ∀ (A B : Tf), cV (A ++ B) = cV A + cV B
  | [], B => (Nat.zero_add _).symm
  | x :: A, B => by
    show bv x.2 + cV (A ++ B) = bv x.2 + cV A + cV B
    rw [cV_app A B]
    omega
theorem cV_up : ∀ (A : Tf), cV (upT A) = cV A
  | [] => rfl
  | x :: A => by
    show bv x.2 + cV (upT A) = bv x.2 + cV A
    rw [cV_up A]
theorem cV_nd (d : TD) (A : Tf) : cV (nd d A) = bv d + cV A := by
  show bv d + cV (upT A) = _
  rw [cV_up]
theorem cV_l1 (d : TD) : cV (l1 d) = bv d := by
  show bv d + 0 = bv d
  exact Nat.add_zero _
theorem bv_t {d : TD} (h : hv d.1 = true) : bv d = 0 := if_pos (Or.inl h)
theorem bv_z {d : TD} (h : d.2.1 = 0) : bv d = 0 := if_pos (Or.inr h)
theorem bv_od (w : Ws) (p : Nat) : bv (od w p) = 0 := bv_t (show hv 41 = true by decide)
theorem bv_nm (w : Ws) (k : Int32) (p : Nat) (h : hv k = true) : bv (nm w k p) = 0 := bv_t h
def vk2 (x : Option R2) : Prop := ∀ r, x = some r → cV r.2.2 = 0
theorem vk_o {q : Nat} {a : Tf} (h : cV a = 0) : vk2 (o2 q a) := fun r e => by
  cases e
  exact h
theorem vk_s {q : Nat} {s : Sjt} {a : Tf} (h : cV a = 0) : vk2 (some (q, s, a)) := fun r e => by
  cases e
  exact h
theorem vk_n : vk2 none := fun r e => by cases e
theorem vk_i {c : Prop} [Decidable c] {a b : Option R2} (ha : vk2 a) (hb : vk2 b) : vk2 (if c then a else b) := by
  by_cases h : c
  · rw [if_pos h]; exact ha
  · rw [if_neg h]; exact hb
theorem vk_b {X : Option R2} {K : Nat → Sjt → Tf → Option R2} (hx : vk2 X) (hk : ∀ q s a, cV a = 0 → vk2 (K q s a)) : vk2 (b2 X K) := fun r e => by
  cases hX : X with
  | none => rw [hX] at e; cases e
  | some y =>
    rw [hX] at e
    exact hk _ _ _ (hx y hX) r e
theorem vk_rl (w : Ws) (p : Nat) (s : Sjt) : vk2 (some (rl w p s)) := fun r e => by
  cases e
  have h53 : ∀ x y z, bv ((53, x, y, z) : TD) = 0 := fun _ _ _ => bv_t (show hv 53 = true by decide)
  have h54 : ∀ x y z, bv ((54, x, y, z) : TD) = 0 := fun _ _ _ => bv_t (show hv 54 = true by decide)
  unfold rl
  split
  · show cV (nd _ (l1 _ ++ l1 _)) = 0
    rw [cV_nd, cV_app, cV_l1, cV_l1, bv_od, bv_od, h53]
  · split
    · split
      · show cV (nd _ (l1 _)) = 0
        rw [cV_nd, cV_l1, bv_od, h53]
      · show cV (nd _ (l1 _)) = 0
        rw [cV_nd, cV_l1, bv_od, h53]
    · show cV (l1 _) = 0
      rw [cV_l1, h54]
theorem bv_lit (v p e : Int32) : bv (55, v, p, e) = 0 ∧ bv (13, v, p, e) = 0 ∧ bv (15, v, p, e) = 0 ∧ bv (16, v, p, e) = 0 ∧ bv (17, v, p, e) = 0 ∧ bv (18, v, p, e) = 0 ∧ bv (19, v, p, e) = 0 ∧ bv (27, v, p, e) = 0 ∧ bv (29, v, p, e) = 0 ∧ bv (31, v, p, e) = 0 ∧ bv (34, v, p, e) = 0 ∧ bv (38, v, p, e) = 0 := by
  refine ⟨?_, ?_, ?_, ?_, ?_, ?_, ?_, ?_, ?_, ?_, ?_, ?_⟩
  · exact bv_t (show hv 55 = true by decide)
  · exact bv_t (show hv 13 = true by decide)
  · exact bv_t (show hv 15 = true by decide)
  · exact bv_t (show hv 16 = true by decide)
  · exact bv_t (show hv 17 = true by decide)
  · exact bv_t (show hv 18 = true by decide)
  · exact bv_t (show hv 19 = true by decide)
  · exact bv_t (show hv 27 = true by decide)
  · exact bv_t (show hv 29 = true by decide)
  · exact bv_t (show hv 31 = true by decide)
  · exact bv_t (show hv 34 = true by decide)
  · exact bv_t (show hv 38 = true by decide)
theorem bv_0 (k p e : Int32) : bv (k, 0, p, e) = 0 := bv_z rfl
theorem bv_nms (w : Ws) (p : Nat) : bv (nm w 41 p) = 0 ∧ bv (nm w 16 p) = 0 ∧ bv (nm w 17 p) = 0 ∧ bv (nm w 21 p) = 0 := ⟨bv_nm w 41 p (by decide), bv_nm w 16 p (by decide), bv_nm w 17 p (by decide), bv_nm w 21 p (by decide)⟩
theorem st2_vk {w : Ws} {F : F2} (hF : ∀ t p s a, cV a = 0 → vk2 (F t p s a)) (t p : Nat) (s : Sjt) (a : Tf) (ha : cV a = 0) : vk2 (st2 w F t p s a) := by
  unfold st2
  split
  all_goals
    repeat' first
      | exact vk_n
      | exact vk_rl _ _ _
      | refine vk_i ?_ ?_
      | refine hF _ _ _ _ ?_
      | refine vk_o ?_
      | refine vk_s ?_
      | refine vk_b ?_ (fun _ _ _ _ => ?_)
  all_goals first
    | rfl
    | assumption
    | (simp only [cV_nd, cV_app, cV_l1, bv_od, bv_nms, bv_lit, bv_0, *]; done)
    | (simp only [cV_nd, cV_app, cV_l1, bv_od, bv_nms, bv_lit, bv_0, *]; first | rfl | decide)
    | (split <;> simp only [cV_nd, cV_app, cV_l1, bv_od, bv_nms, bv_lit, bv_0, *] <;> rfl)
theorem it2_vk (w : Ws) : ∀ k t p s a, cV a = 0 → vk2 (it2 w k t p s a)
  | 0 => fun _ _ _ _ _ => vk_n
  | k + 1 => st2_vk (it2_vk w k)
theorem tv_vk {w : Ws} {t p q : Nat} {s s' : Sjt} {a T : Tf} (ha : cV a = 0) (e : tv w t p s a = some (q, s', T)) : cV T = 0 := by
  obtain ⟨n, hn⟩ := tv_ex e
  exact it2_vk w n t p s a ha _ hn
theorem clp_cV (e : Ce) (l : List Ce) : cV (clp (e :: l)) = bv e.1 + (cV e.2 + cV (clp l)) := by
  show cV (nd e.1 (e.2 ++ clp l)) = _
  rw [cV_nd, cV_app]
theorem cV_att : ∀ (i : Nat) (ch : List Ce) (e : Ce), cV (clp (attC i ch e)) = cV (clp ch) + (bv e.1 + cV e.2)
  | 0, [], e => by
    show cV (clp [e]) = _
    rw [clp_cV]
    show bv e.1 + (cV e.2 + 0) = 0 + _
    omega
  | i + 1, [], e => by
    show cV (clp [e]) = _
    rw [clp_cV]
    show bv e.1 + (cV e.2 + 0) = 0 + _
    omega
  | 0, a :: l, e => by
    show cV (clp [(a.1, a.2 ++ clp l), e]) = _
    rw [clp_cV, clp_cV, clp_cV]
    show bv a.1 + (cV (a.2 ++ clp l) + (bv e.1 + (cV e.2 + 0))) = _
    rw [cV_app]
    omega
  | i + 1, a :: l, e => by
    show cV (clp (a :: attC i l e)) = _
    rw [clp_cV, clp_cV, cV_att i l e]
    omega
theorem cV_set : ∀ (i : Nat) (ch : List Ce) (e : Ce) (d : TD), ch[i]? = some e → bv d = 0 → cV (clp ch) = 0 → cV (clp (ch.set i (d, e.2))) = 0
  | _, [], _, _, h, _, _ => by cases h
  | 0, a :: l, e, d, h, hd, h0 => by
    cases h
    show cV (clp ((d, a.2) :: l)) = 0
    rw [clp_cV] at h0 ⊢
    show bv d + (cV a.2 + cV (clp l)) = 0
    omega
  | i + 1, a :: l, e, d, h, hd, h0 => by
    show cV (clp (a :: l.set i (d, e.2))) = 0
    rw [clp_cV] at h0 ⊢
    rw [cV_set i l e d h hd (by omega)]
    omega
theorem cV_ren {i : Nat} {ch : List Ce} {k v : Int32} (h : hv k = true) (h0 : cV (clp ch) = 0) : cV (clp (renC i ch k v)) = 0 := by
  unfold renC
  cases he : ch[i]? with
  | none => exact h0
  | some e => exact cV_set i ch e _ he (bv_t h) h0
theorem slc_vk (w : Ws) (p : Nat) : cV (slc w p).2 = 0 := by
  have h2 : ∀ q a, cV a = 0 → cV (sl2 w q a).2 = 0 := fun q a ha => by
    unfold sl2
    split
    · show cV (a ++ l1 _) = 0
      rw [cV_app, ha, cV_l1, bv_t (show hv 6 = true by decide)]
    · exact ha
  unfold slc sl1
  split
  · exact h2 _ _ (by rw [cV_app, cV_l1, bv_od, cV_l1, bv_t (show hv 5 = true by decide)])
  · exact h2 _ _ (by rw [cV_l1, bv_od])
theorem yC_vk {w : Ws} {c : CU} {x x' : Xs} {p q : Nat} (h : yC w c x p = some (q, x')) (h0 : cV (clp x.1) = 0) : cV (clp x'.1) = 0 := by
  have att : ∀ {i : Nat} {d : TD} {F : Tf}, x'.1 = attC i x.1 (d, F) → bv d = 0 → cV F = 0 → cV (clp x'.1) = 0 := by
    intro i d F e h1 h2
    rw [e, cV_att, h0]
    show 0 + (bv d + cV F) = 0
    rw [h1, h2]
  have ren : ∀ {i : Nat} {k v : Int32}, x'.1 = renC i x.1 k v → hv k = true → cV (clp x'.1) = 0 := by
    intro i k v e h1
    rw [e]
    exact cV_ren h1 h0
  unfold yC at h
  by_cases c1 : wk w p 1 = true
  · rw [if_pos c1] at h
    by_cases b : ww w (p + 1) 16 = true
    · rw [if_pos b] at h
      cases h
      exact att rfl (bv_t (show hv 23 = true by decide)) rfl
    · rw [if_neg b] at h
      cases h
      exact att rfl (bv_t (show hv 24 = true by decide)) rfl
  rw [if_neg c1] at h
  by_cases c2 : wk w p 2 = true
  · rw [if_pos c2] at h
    cases ho : oP c (w.2.1 p) with
    | none =>
      rw [ho] at h
      cases h
    | some j =>
      rw [ho] at h
      cases ht : tv w 24 (itn w (p + 1)).2 none [] with
      | none =>
        rw [ht] at h
        cases h
      | some y =>
        obtain ⟨q1, s1, F1⟩ := y
        rw [ht] at h
        cases h
        exact att rfl (bv_t (show hv 12 = true by decide)) (tv_vk rfl ht)
  rw [if_neg c2] at h
  by_cases c3 : wb w p = true
  · rw [if_pos c3] at h
    cases ht : tv w 11 p none [] with
    | none =>
      rw [ht] at h
      cases h
    | some y =>
      obtain ⟨q1, s1, F1⟩ := y
      rw [ht] at h
      cases h
      exact att rfl (bv_z rfl) (tv_vk rfl ht)
  rw [if_neg c3] at h
  by_cases e0 : (w.2.1 p).toInt = 0
  · rw [if_pos e0] at h
    cases h
    exact att rfl (bv_z rfl) rfl
  rw [if_neg e0] at h
  by_cases e2 : (w.2.1 p).toInt = 2
  · rw [if_pos e2] at h
    cases h
    exact ren rfl (by decide)
  rw [if_neg e2] at h
  by_cases e3 : (w.2.1 p).toInt = 3
  · rw [if_pos e3] at h
    cases h
    exact ren rfl (by decide)
  rw [if_neg e3] at h
  by_cases e4 : (w.2.1 p).toInt = 4
  · rw [if_pos e4] at h
    cases h
    exact att rfl (bv_z rfl) rfl
  rw [if_neg e4] at h
  by_cases e5 : (w.2.1 p).toInt = 5
  · rw [if_pos e5] at h
    cases h
    exact att rfl (bv_t (show hv 4 = true by decide)) (slc_vk w p)
  rw [if_neg e5] at h
  by_cases e12 : (w.2.1 p).toInt = 12
  · rw [if_pos e12] at h
    cases h
    exact att rfl (bv_z rfl) rfl
  rw [if_neg e12] at h
  by_cases e13 : (w.2.1 p).toInt = 13
  · rw [if_pos e13] at h
    cases h
    exact att rfl (bv_z rfl) rfl
  rw [if_neg e13] at h
  by_cases e14 : (w.2.1 p).toInt = 14
  · rw [if_pos e14] at h
    cases h
    exact att rfl (bv_z rfl) rfl
  rw [if_neg e14] at h
  by_cases e15 : (w.2.1 p).toInt = 15
  · rw [if_pos e15] at h
    cases h
    exact att rfl (bv_z rfl) rfl
  rw [if_neg e15] at h
  by_cases e17 : (w.2.1 p).toInt = 17
  · rw [if_pos e17] at h
    cases h
    exact att rfl (bv_t (show hv 11 = true by decide)) rfl
  rw [if_neg e17] at h
  by_cases e30 : (w.2.1 p).toInt = 30
  · rw [if_pos e30] at h
    by_cases b1 : ww w (p + 2) 31 = true
    · rw [if_pos b1] at h
      cases ht : tv w 38 (p + 3) none [] with
      | none =>
        rw [ht] at h
        cases h
      | some y =>
        obtain ⟨q1, s1, F1⟩ := y
        rw [ht] at h
        cases h
        exact att rfl (bv_z rfl) (tv_vk rfl ht)
    · rw [if_neg b1] at h
      cases h
      exact att rfl (bv_z rfl) rfl
  rw [if_neg e30] at h
  by_cases e32 : (w.2.1 p).toInt = 32
  · rw [if_pos e32] at h
    cases h
    exact att rfl (bv_z rfl) rfl
  rw [if_neg e32] at h
  by_cases e33 : (w.2.1 p).toInt = 33
  · rw [if_pos e33] at h
    by_cases b1 : ww w (p + 1) 32 = true
    · rw [if_pos b1] at h
      cases h
      exact h0
    · rw [if_neg b1] at h
      cases h
      exact h0
  rw [if_neg e33] at h
  cases h
theorem Rn.vk {w : Ws} {b : Bool} : ∀ {k : Nat} {c : CU} {x : Xs} {p un : Nat} {y : CU × Xs × Nat}, Rn w b k c x p un y → cV (clp x.1) = 0 → cV (clp y.2.1.1) = 0
  | 0, _, _, _, _, _, h, _ => h.elim
  | k + 1, c, x, p, un, y, h, h0 => by
    rcases h with ⟨h1, rfl⟩ | ⟨h1, q, s, x', hz, hy, hb, h⟩
    · exact h0
    · exact Rn.vk h (yC_vk hy h0)
