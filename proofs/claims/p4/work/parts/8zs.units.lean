/-! How many units a run's tree holds. -/
theorem cQ_rzren {i : Nat} {ch : List Ce} {k k' v v' : Int32} (h : kd k = kd k') : cQ (clp (rz (renC i ch k v))) = cQ (clp (rz (renC i ch k' v'))) := by
  cases ch with
  | nil => rfl
  | cons a l =>
    cases i with
    | zero => rfl
    | succ j =>
      rw [rz_ren, rz_ren, clp_c, clp_c, cQ_ren (v := v) (v' := v') h]
theorem ok_if {b : Bool} {X : Option RR} {p : Nat} {y : Nat × Bool} (h : (if b = true then X else no p) = some (.inl y)) : b = true ∧ X = some (.inl y) := by
  cases b with
  | true => exact ⟨rfl, h⟩
  | false => cases h
theorem oN_sI {c : CU} {a v : Int32} : oN (sI c a v) = oN c := by
  unfold sI
  split
  · rfl
  · rfl
theorem oT_s {c : CU} {a : Int32} (h : 0 ≤ (oT c).toInt) : oT (sS c a) = a := oT_ss (by have := oT_n h; omega)
theorem oT_eB {c : CU} (h : 0 ≤ (oT c).toInt) : oT (eB c) ≠ 0 := by
  unfold eB
  by_cases e : oT c = 9
  · rw [if_pos e, e]
    decide
  · rw [if_neg e, oT_s h]
    decide
theorem oT_sP {c : CU} {v : Int32} {k : Nat} : oT (sP c v k) = oT c := by
  unfold sP
  split
  · rfl
  · rfl
theorem yC_un {w : Ws} {c : CU} {x x' : Xs} {p q un : Nat} {s : Bool} (hp : p < w.2.2) (hz : (zC w c p).1 = some (.inl (q, s))) (hy : yC w c x p = some (q, x')) (hl : oN c < x.1.length) (h12 : ∀ i, i + 1 < oN c → oS c i = 12) (hU : cQ (clp (rz (uz c x.1))) = un) : cQ (clp (rz (uz (zC w c p).2.1 x'.1))) = un + uN w p := by
  have hx : x.1 ≠ [] := fun e => by
    rw [e] at hl
    exact absurd hl (Nat.not_lt_zero _)
  have gen : ∀ {c' : CU}, 0 ≤ (oT c).toInt → oT c ≠ 0 → oT c' ≠ 0 → cQ (clp (rz x'.1)) = cQ (clp (rz x.1)) → uN w p = 0 → cQ (clp (rz (uz c' x'.1))) = un + uN w p := by
    intro c' _ h1 h2 h3 h4
    rw [uz_n h1] at hU
    rw [uz_n h2, h3, h4]
    exact hU
  have nz : ∀ {lo hi : Int}, oB c lo hi = true → 0 < lo → 0 ≤ (oT c).toInt ∧ oT c ≠ 0 := by
    intro lo hi h h0
    have := (oB_t.mp h).1
    exact ⟨by omega, fun e => by rw [e] at this; have : lo ≤ 0 := this; omega⟩
  have att : ∀ {i : Nat} {d : TD} {F : Tf}, x'.1 = attC i x.1 (d, F) → kd d.1 = 0 → cQ F = 0 → cQ (clp (rz x'.1)) = cQ (clp (rz x.1)) := by
    intro i d F e h1 h2
    rw [e, rz_att hx, cQ_att]
    show cQ (clp (rz x.1)) + (kd d.1 + cQ F) = _
    rw [h1, h2]
    rfl
  unfold zC at hz ⊢
  unfold yC at hy
  by_cases c1 : wk w p 1 = true
  · have hun : uN w p = 0 := if_neg (fun e => by rw [(wk_iff.mp c1).2] at e; exact absurd e.1 (by decide))
    rw [if_pos c1] at hz hy ⊢
    obtain ⟨z1, z2⟩ := nz (ok_if hz).1 (by omega)
    refine gen z1 z2 ?_ ?_ hun
    · by_cases b : ww w (p + 1) 16 = true
      · rw [if_pos b]
        exact oT_eB (c := sC c true) z1
      · rw [if_neg b]
        exact oT_eB z1
    · by_cases b : ww w (p + 1) 16 = true
      · rw [if_pos b] at hy
        cases hy
        exact att rfl rfl rfl
      · rw [if_neg b] at hy
        cases hy
        exact att rfl rfl rfl
  rw [if_neg c1] at hz hy ⊢
  by_cases c2 : wk w p 2 = true
  · have hun : uN w p = 0 := if_neg (fun e => by rw [(wk_iff.mp c2).2] at e; exact absurd e.1 (by decide))
    rw [if_pos c2] at hz hy ⊢
    obtain ⟨z1, z2⟩ := nz (ok_if hz).1 (by omega)
    cases ho : oP c (w.2.1 p) with
    | none =>
      rw [ho] at hy
      cases hy
    | some j =>
      rw [ho] at hy
      cases ht : tv w 24 (itn w (p + 1)).2 none [] with
      | none =>
        rw [ht] at hy
        cases hy
      | some y =>
        obtain ⟨q1, s1, F1⟩ := y
        rw [ht] at hy
        cases hy
        refine gen z1 z2 ?_ (att rfl rfl (tv_nk rfl ht)) hun
        unfold zIt
        rw [ho]
        show oT (sP c (w.2.1 p) j) ≠ 0
        rw [oT_sP]
        exact z2
  rw [if_neg c2] at hz hy ⊢
  by_cases c3 : wb w p = true
  · have hun : uN w p = 0 := if_neg (fun e => by
      have hv := (wb_iff.mp c3).2.2
      rw [e.2] at hv
      exact absurd hv (by decide))
    rw [if_pos c3] at hz hy ⊢
    obtain ⟨z1, z2⟩ := nz (ok_if hz).1 (by omega)
    cases ht : tv w 11 p none [] with
    | none =>
      rw [ht] at hy
      cases hy
    | some y =>
      obtain ⟨q1, s1, F1⟩ := y
      rw [ht] at hy
      cases hy
      exact gen z1 z2 (oT_eB z1) (att rfl rfl (tv_nk rfl ht)) hun
  rw [if_neg c3] at hz hy ⊢
  by_cases c4 : ¬ wk w p 0 = true
  · rw [if_neg c4] at hz
    cases hz
  rw [Decidable.not_not] at c4
  rw [if_pos c4] at hz ⊢
  have hw0 : w.1 p = 0 := (wk_iff.mp c4).2
  unfold zR at hz ⊢
  by_cases e0 : (w.2.1 p).toInt = 0
  · rw [if_pos e0] at hz hy ⊢
    have hun : uN w p = 1 := if_pos ⟨hw0, i32e (e0.trans rfl)⟩
    cases hy
    have hg := (ok_if hz).1
    have z2 : oT c ≠ 0 := by
      unfold oG at hg
      intro e
      rw [e] at hg
      by_cases e1 : oN c = 0
      · rw [oT_0 e1] at e
        exact absurd e (by decide)
      · rw [decide_eq_false e1] at hg
        rw [show decide ((1 : Int) ≤ (0 : Int32).toInt) = false from rfl] at hg
        simp at hg
    rw [uz_n z2] at hU
    have eN : oN (sO (sS c 12)) = oN c + 1 := by
      show oN (sS c 12) + 1 = _
      rw [oN_ss]
    have eT : oT (sO (sS c 12)) = 0 := by
      rw [oT_pos (by omega), eN]
      show upd (oS (sS c 12)) (oN (sS c 12)) 0 (oN c + 1 - 1) = 0
      rw [oN_ss]
      exact upd_eq
    show cQ (clp (rz (uz (sO (sS c 12)) (attC (oN c) x.1 ((0, 0, Int32.ofNat p, -1), []))))) = un + uN w p
    rw [hun]
    unfold uz
    rw [if_pos eT, eN, ren_att hl, rz_att hx, cQ_att, hU]
    rfl
  rw [if_neg e0] at hz hy ⊢
  have hun : uN w p = 0 := if_neg (fun e => e0 (by rw [e.2]; rfl))
  by_cases e2 : (w.2.1 p).toInt = 2
  · rw [if_pos e2] at hz hy ⊢
    cases hy
    have hb := oB_t.mp (ok_if hz).1
    have hT : oT c = 0 := i32e (by show (oT c).toInt = 0; omega)
    have e : uz c x.1 = renC (oN c) x.1 1 0 := if_pos hT
    rw [e] at hU
    rw [hun, uz_n (show oT (sS (sI c 1 (w.2.1 (p + 1))) 1) ≠ 0 by
      rw [oT_ss (c := sI c 1 (w.2.1 (p + 1))) (by have := oT_n (c := c) (by omega); rw [oN_sI]; omega)]
      decide)]
    show cQ (clp (rz (renC (oN c) x.1 1 (w.2.1 (p + 1))))) = un
    rw [← hU]
    exact cQ_rzren rfl
  rw [if_neg e2] at hz hy ⊢
  by_cases e3 : (w.2.1 p).toInt = 3
  · rw [if_pos e3] at hz hy ⊢
    cases hy
    have hb := oB_t.mp (ok_if hz).1
    have hT : oT c = 0 := i32e (by show (oT c).toInt = 0; omega)
    have e : uz c x.1 = renC (oN c) x.1 1 0 := if_pos hT
    rw [e] at hU
    rw [hun, uz_n (show oT (sS (sI c 2 (w.2.1 (p + 1))) 1) ≠ 0 by
      rw [oT_ss (c := sI c 2 (w.2.1 (p + 1))) (by have := oT_n (c := c) (by omega); rw [oN_sI]; omega)]
      decide)]
    show cQ (clp (rz (renC (oN c) x.1 2 (w.2.1 (p + 1))))) = un
    rw [← hU]
    exact cQ_rzren rfl
  rw [if_neg e3] at hz hy ⊢
  by_cases e4 : (w.2.1 p).toInt = 4
  · rw [if_pos e4] at hz hy ⊢
    cases hy
    obtain ⟨z1, z2⟩ := nz (ok_if hz).1 (by omega)
    exact gen z1 z2 (by rw [oT_s z1]; decide) (att rfl rfl rfl) hun
  rw [if_neg e4] at hz hy ⊢
  by_cases e5 : (w.2.1 p).toInt = 5
  · rw [if_pos e5] at hz hy ⊢
    cases hy
    obtain ⟨z1, z2⟩ := nz (ok_if hz).1 (by omega)
    exact gen z1 z2 z2 (att rfl rfl (slc_nk w p)) hun
  rw [if_neg e5] at hz hy ⊢
  by_cases e30 : (w.2.1 p).toInt = 30
  · rw [if_pos e30] at hz ⊢
    rw [if_neg (by omega), if_neg (by omega), if_neg (by omega), if_neg (by omega), if_neg (by omega), if_pos e30] at hy
    obtain ⟨z1, z2⟩ := nz (ok_if hz).1 (by omega)
    refine gen z1 z2 (by rw [oT_s (c := sC c false) z1]; decide) ?_ hun
    by_cases b1 : ww w (p + 2) 31 = true
    · rw [if_pos b1] at hy
      cases ht : tv w 38 (p + 3) none [] with
      | none =>
        rw [ht] at hy
        cases hy
      | some y =>
        obtain ⟨q1, s1, F1⟩ := y
        rw [ht] at hy
        cases hy
        exact att rfl rfl (tv_nk rfl ht)
    · rw [if_neg b1] at hy
      cases hy
      exact att rfl rfl rfl
  rw [if_neg e30] at hz ⊢
  by_cases e32 : (w.2.1 p).toInt = 32
  · rw [if_pos e32] at hz ⊢
    rw [if_neg (by omega), if_neg (by omega), if_neg (by omega), if_neg (by omega), if_neg (by omega), if_neg e30, if_pos e32] at hy
    cases hy
    obtain ⟨z1, z2⟩ := nz (ok_if hz).1 (by omega)
    exact gen z1 z2 (by rw [oT_s z1]; decide) (att rfl rfl rfl) hun
  rw [if_neg e32] at hz ⊢
  by_cases e33 : (w.2.1 p).toInt = 33
  · rw [if_pos e33] at hz ⊢
    rw [if_neg (by omega), if_neg (by omega), if_neg (by omega), if_neg (by omega), if_neg (by omega), if_neg e30, if_neg e32, if_pos e33] at hy
    unfold zE at hz ⊢
    by_cases b1 : ww w (p + 1) 32 = true
    · rw [if_pos b1] at hz hy ⊢
      cases hy
      obtain ⟨z1, z2⟩ := nz (ok_if hz).1 (by omega)
      exact gen z1 z2 (by rw [oT_s (c := sC c false) z1]; decide) rfl hun
    rw [if_neg b1] at hz hy ⊢
    cases hy
    by_cases b2 : (ww w (p + 1) 34 || ww w (p + 1) 35) = true
    · rw [if_pos b2] at hz ⊢
      have hY := (ok_if hz).1
      unfold oY at hY
      rw [Bool.and_eq_true, decide_eq_true_eq] at hY
      exact gen (by omega) (fun e => by rw [e] at hY; exact absurd hY.1 (by decide)) (oT_sX0 h12) rfl hun
    · rw [if_neg b2] at hz
      have := ok_if hz
      cases this.2
  rw [if_neg e33] at hz ⊢
  unfold zD at hz ⊢
  by_cases e12 : (w.2.1 p).toInt = 12
  · rw [if_pos e12] at hz hy ⊢
    cases hy
    obtain ⟨z1, z2⟩ := nz (ok_if hz).1 (by omega)
    exact gen z1 z2 (by rw [oT_s z1]; decide) (att rfl rfl rfl) hun
  rw [if_neg e12] at hz hy ⊢
  by_cases e13 : (w.2.1 p).toInt = 13
  · rw [if_pos e13] at hz hy ⊢
    cases hy
    obtain ⟨z1, z2⟩ := nz (ok_if hz).1 (by omega)
    exact gen z1 z2 (by show oT (sS (sC c true) 4) ≠ 0; rw [oT_s (c := sC c true) z1]; decide) (att rfl rfl rfl) hun
  rw [if_neg e13] at hz hy ⊢
  by_cases e14 : (w.2.1 p).toInt = 14
  · rw [if_pos e14] at hz hy ⊢
    cases hy
    obtain ⟨z1, z2⟩ := nz (ok_if hz).1 (by omega)
    exact gen z1 z2 (by show oT (sS (sC c true) 6) ≠ 0; rw [oT_s (c := sC c true) z1]; decide) (att rfl rfl rfl) hun
  rw [if_neg e14] at hz hy ⊢
  by_cases e15 : (w.2.1 p).toInt = 15
  · rw [if_pos e15] at hz hy ⊢
    cases hy
    obtain ⟨z1, z2⟩ := nz (ok_if hz).1 (by omega)
    exact gen z1 z2 (by show oT (sS (sC c true) 7) ≠ 0; rw [oT_s (c := sC c true) z1]; decide) (att rfl rfl rfl) hun
  rw [if_neg e15] at hz hy ⊢
  by_cases e17 : (w.2.1 p).toInt = 17
  · rw [if_pos e17] at hz hy ⊢
    cases hy
    obtain ⟨z1, z2⟩ := nz (ok_if hz).1 (by omega)
    exact gen z1 z2 (by show oT (sS c 5) ≠ 0; rw [oT_s z1]; decide) (att rfl rfl rfl) hun
  rw [if_neg e17] at hz
  cases hz
theorem Rn.un {w : Ws} : ∀ {k : Nat} {c : CU} {x : Xs} {p un : Nat} {y : CU × Xs × Nat}, Rn w true k c x p un y → cQ (clp (rz (uz c x.1))) = un → cQ (clp (rz (uz y.1 y.2.1.1))) = y.2.2
  | 0, _, _, _, _, _, h, _ => h.elim
  | k + 1, c, x, p, un, y, h, hU => by
    rcases h with ⟨h1, rfl⟩ | ⟨h1, q, s, x', hz, hy, hb, h⟩
    · exact hU
    · obtain ⟨-, hl, h12⟩ := hb rfl
      exact Rn.un h (yC_un h1 hz hy hl h12 hU)
theorem oE_f {c : CU} (h : oE c = false) : oT c ≠ 0 := by
  unfold oE at h
  intro e
  by_cases e0 : oN c = 0
  · rw [oT_0 e0] at e
    exact absurd e (by decide)
  · rw [e] at h
    by_cases e1 : 1 < oN c
    · rw [decide_eq_true e1] at h
      cases h
    · rw [decide_eq_true (show oN c = 1 by omega)] at h
      simp at h
/-- at the end: as many units as were counted -/
theorem Rx.un {w : Ws} {c : CU} {x : Xs} {p un : Nat} {y : CU × Xs × Nat} (h : Rx w true c x p un y) (hU : cQ (clp (rz (uz c x.1))) = un) (hE : oE y.1 = false) : cQ (clp (rz y.2.1.1)) = y.2.2 := by
  obtain ⟨k, h⟩ := h
  have := h.un hU
  rw [uz_n (oE_f hE)] at this
  exact this
