/-! A run of clauses without a fault; how many units its tree holds. -/
/-- from (c, x, p) on with un units so far, to the end of the words; b: with what is known of the class's state -/
def Rn (w : Ws) (b : Bool) : Nat → CU → Xs → Nat → Nat → CU × Xs × Nat → Prop
  | 0, _, _, _, _, _ => False
  | k + 1, c, x, p, un, y => (¬ p < w.2.2 ∧ y = (c, x, un)) ∨ (p < w.2.2 ∧ ∃ q s x', (zC w c p).1 = some (.inl (q, s)) ∧ yC w c x p = some (q, x') ∧ (b = true → q ≤ w.2.2 ∧ oN c < x.1.length ∧ ∀ i, i + 1 < oN c → oS c i = 12) ∧ Rn w b k (zC w c p).2.1 x' q (un + uN w p) y)
def Rx (w : Ws) (b : Bool) (c : CU) (x : Xs) (p un : Nat) (y : CU × Xs × Nat) : Prop := ∃ k, Rn w b k c x p un y
theorem Rx.fin {w : Ws} {b : Bool} {c : CU} {x : Xs} {p un : Nat} (h : ¬ p < w.2.2) : Rx w b c x p un (c, x, un) := ⟨1, Or.inl ⟨h, rfl⟩⟩
theorem Rx.go {w : Ws} {b : Bool} {c : CU} {x x' : Xs} {p q un : Nat} {s : Bool} {y : CU × Xs × Nat} (hp : p < w.2.2) (hz : (zC w c p).1 = some (.inl (q, s))) (hy : yC w c x p = some (q, x')) (hb : b = true → q ≤ w.2.2 ∧ oN c < x.1.length ∧ ∀ i, i + 1 < oN c → oS c i = 12) (h : Rx w b (zC w c p).2.1 x' q (un + uN w p) y) : Rx w b c x p un y := by
  obtain ⟨k, h⟩ := h
  exact ⟨k + 1, Or.inr ⟨hp, q, s, x', hz, hy, hb, h⟩⟩
theorem Rn.det {w w' : Ws} (ha : Ag w w') : ∀ {k k' : Nat} {c : CU} {x : Xs} {p un : Nat} {y y' : CU × Xs × Nat}, Rn w true k c x p un y → Rn w' false k' c x p un y' → y = y'
  | 0, _, _, _, _, _, _, _, h, _ => h.elim
  | _ + 1, 0, _, _, _, _, _, _, _, h => h.elim
  | k + 1, k' + 1, c, x, p, un, y, y', h, h' => by
    have hn := ha.1
    rcases h with ⟨h1, rfl⟩ | ⟨h1, q, s, x', hz, hy, hq, h⟩
    · rcases h' with ⟨h1', rfl⟩ | ⟨h1', -⟩
      · rfl
      · exact absurd h1' (by omega)
    · rcases h' with ⟨h1', -⟩ | ⟨h1', q', s', x'', hz', hy', hq', h'⟩
      · exact absurd h1 (by omega)
      · rw [yC_ag ha h1 hy (hq rfl).1] at hy'
        cases hy'
        rw [← zC_ag2 ha c h1 hz, ← uN_ag ha h1] at h'
        exact Rn.det ha h h'
theorem Rx.det {w w' : Ws} (ha : Ag w w') {c : CU} {x : Xs} {p un : Nat} {y y' : CU × Xs × Nat} (h : Rx w true c x p un y) (h' : Rx w' false c x p un y') : y = y' := by
  obtain ⟨k, h⟩ := h
  obtain ⟨k', h'⟩ := h'
  exact Rn.det ha h h'
def kd (k : Int32) : Nat := if k = 1 ∨ k = 2 then 1 else 0
/-- how many units -/
def cQ : Tf → Nat
  | [] => 0
  | x :: T => kd x.2.1 + cQ T
theorem cQ_app : ∀ (A B : Tf), cQ (A ++ B) = cQ A + cQ B
  | [], B => (Nat.zero_add _).symm
  | x :: A, B => by
    show kd x.2.1 + cQ (A ++ B) = kd x.2.1 + cQ A + cQ B
    rw [cQ_app A B]
    omega
theorem cQ_up : ∀ (A : Tf), cQ (upT A) = cQ A
  | [] => rfl
  | x :: A => by
    show kd x.2.1 + cQ (upT A) = kd x.2.1 + cQ A
    rw [cQ_up A]
theorem cQ_nd (d : TD) (A : Tf) : cQ (nd d A) = kd d.1 + cQ A := by
  show kd d.1 + cQ (upT A) = _
  rw [cQ_up]
theorem cQ_l1 (d : TD) : cQ (l1 d) = kd d.1 := rfl
theorem clp_c (e : Ce) (l : List Ce) : cQ (clp (e :: l)) = kd e.1.1 + (cQ e.2 + cQ (clp l)) := by
  show cQ (nd e.1 (e.2 ++ clp l)) = _
  rw [cQ_nd, cQ_app]
theorem cQ_att : ∀ (i : Nat) (ch : List Ce) (e : Ce), cQ (clp (attC i ch e)) = cQ (clp ch) + (kd e.1.1 + cQ e.2)
  | 0, [], e => by
    show cQ (clp [e]) = _
    rw [clp_c]
    show kd e.1.1 + (cQ e.2 + 0) = 0 + _
    omega
  | i + 1, [], e => by
    show cQ (clp [e]) = _
    rw [clp_c]
    show kd e.1.1 + (cQ e.2 + 0) = 0 + _
    omega
  | 0, a :: l, e => by
    show cQ (clp [(a.1, a.2 ++ clp l), e]) = _
    rw [clp_c, clp_c, clp_c]
    show kd a.1.1 + (cQ (a.2 ++ clp l) + (kd e.1.1 + (cQ e.2 + 0))) = _
    rw [cQ_app]
    omega
  | i + 1, a :: l, e => by
    show cQ (clp (a :: attC i l e)) = _
    rw [clp_c, clp_c, cQ_att i l e]
    omega
theorem cQ_set : ∀ (i : Nat) (ch : List Ce) (e e' : Ce), kd e.1.1 = kd e'.1.1 → cQ e.2 = cQ e'.2 → cQ (clp (ch.set i e)) = cQ (clp (ch.set i e'))
  | _, [], _, _, _, _ => rfl
  | 0, a :: l, e, e', h1, h2 => by
    show cQ (clp (e :: l)) = cQ (clp (e' :: l))
    rw [clp_c, clp_c, h1, h2]
  | i + 1, a :: l, e, e', h1, h2 => by
    show cQ (clp (a :: l.set i e)) = cQ (clp (a :: l.set i e'))
    rw [clp_c, clp_c, cQ_set i l e e' h1 h2]
theorem cQ_ren {i : Nat} {ch : List Ce} {k k' v v' : Int32} (h : kd k = kd k') : cQ (clp (renC i ch k v)) = cQ (clp (renC i ch k' v')) := by
  unfold renC
  cases ch[i]? with
  | none => rfl
  | some e => exact cQ_set _ _ _ _ h rfl
/-- what is read holds no unit -/
def nk2 (x : Option R2) : Prop := ∀ r, x = some r → cQ r.2.2 = 0
theorem nk_o {q : Nat} {a : Tf} (h : cQ a = 0) : nk2 (o2 q a) := fun r e => by
  cases e
  exact h
theorem nk_s {q : Nat} {s : Sjt} {a : Tf} (h : cQ a = 0) : nk2 (some (q, s, a)) := fun r e => by
  cases e
  exact h
theorem nk_n : nk2 none := fun r e => by cases e
theorem nk_i {c : Prop} [Decidable c] {a b : Option R2} (ha : nk2 a) (hb : nk2 b) : nk2 (if c then a else b) := by
  by_cases h : c
  · rw [if_pos h]; exact ha
  · rw [if_neg h]; exact hb
theorem nk_b {X : Option R2} {K : Nat → Sjt → Tf → Option R2} (hx : nk2 X) (hk : ∀ q s a, cQ a = 0 → nk2 (K q s a)) : nk2 (b2 X K) := fun r e => by
  cases hX : X with
  | none => rw [hX] at e; cases e
  | some y =>
    rw [hX] at e
    exact hk _ _ _ (hx y hX) r e
theorem kd_0 {k : Int32} (h1 : k ≠ 1) (h2 : k ≠ 2) : kd k = 0 := if_neg (fun e => e.elim h1 h2)
theorem kd_od (w : Ws) (p : Nat) : kd (od w p).1 = 0 := kd_0 (k := 41) (by decide) (by decide)
theorem kd_nm (w : Ws) (k : Int32) (p : Nat) : kd (nm w k p).1 = kd k := rfl
theorem nk_rl (w : Ws) (p : Nat) (s : Sjt) : nk2 (some (rl w p s)) := fun r e => by
  cases e
  have h53 : ∀ x y z, kd ((53, x, y, z) : TD).1 = 0 := fun _ _ _ => kd_0 (k := 53) (by decide) (by decide)
  have h54 : ∀ x y z, kd ((54, x, y, z) : TD).1 = 0 := fun _ _ _ => kd_0 (k := 54) (by decide) (by decide)
  unfold rl
  split
  · show cQ (nd _ (l1 _ ++ l1 _)) = 0
    rw [cQ_nd, cQ_app, cQ_l1, cQ_l1, kd_od, kd_od, h53]
  · split
    · split
      · show cQ (nd _ (l1 _)) = 0
        rw [cQ_nd, cQ_l1, kd_od, h53]
      · show cQ (nd _ (l1 _)) = 0
        rw [cQ_nd, cQ_l1, kd_od, h53]
    · show cQ (l1 _) = 0
      rw [cQ_l1, h54]
theorem kd_lit : kd 55 = 0 ∧ kd 50 = 0 ∧ kd 51 = 0 ∧ kd 52 = 0 ∧ kd 40 = 0 ∧ kd 42 = 0 ∧ kd 46 = 0 ∧ kd 47 = 0 ∧ kd 43 = 0 ∧ kd 44 = 0 ∧ kd 45 = 0 ∧ kd 13 = 0 ∧ kd 14 = 0 ∧ kd 15 = 0 ∧ kd 16 = 0 ∧ kd 17 = 0 ∧ kd 18 = 0 ∧ kd 19 = 0 ∧ kd 21 = 0 ∧ kd 41 = 0 ∧ kd 26 = 0 ∧ kd 27 = 0 ∧ kd 28 = 0 ∧ kd 29 = 0 ∧ kd 30 = 0 ∧ kd 31 = 0 ∧ kd 32 = 0 ∧ kd 33 = 0 ∧ kd 34 = 0 ∧ kd 35 = 0 ∧ kd 36 = 0 ∧ kd 37 = 0 ∧ kd 38 = 0 := by decide
theorem st2_nk {w : Ws} {F : F2} (hF : ∀ t p s a, cQ a = 0 → nk2 (F t p s a)) (t p : Nat) (s : Sjt) (a : Tf) (ha : cQ a = 0) : nk2 (st2 w F t p s a) := by
  unfold st2
  split
  all_goals
    repeat' first
      | exact nk_n
      | exact nk_rl _ _ _
      | refine nk_i ?_ ?_
      | refine hF _ _ _ _ ?_
      | refine nk_o ?_
      | refine nk_s ?_
      | refine nk_b ?_ (fun _ _ _ _ => ?_)
  all_goals first
    | rfl
    | assumption
    | (simp only [cQ_nd, cQ_app, cQ_l1, kd_od, kd_nm, kd_lit, *]; done)
    | (simp only [cQ_nd, cQ_app, cQ_l1, kd_od, kd_nm, kd_lit, *]; first | rfl | decide)
    | (split <;> simp only [cQ_nd, cQ_app, cQ_l1, kd_od, kd_nm, kd_lit, *] <;> rfl)
theorem it2_nk (w : Ws) : ∀ k t p s a, cQ a = 0 → nk2 (it2 w k t p s a)
  | 0 => fun _ _ _ _ _ => nk_n
  | k + 1 => st2_nk (it2_nk w k)
theorem tv_nk {w : Ws} {t p q : Nat} {s s' : Sjt} {a T : Tf} (ha : cQ a = 0) (e : tv w t p s a = some (q, s', T)) : cQ T = 0 := by
  obtain ⟨n, hn⟩ := tv_ex e
  exact it2_nk w n t p s a ha _ hn
theorem slc_nk (w : Ws) (p : Nat) : cQ (slc w p).2 = 0 := by
  have h2 : ∀ q a, cQ a = 0 → cQ (sl2 w q a).2 = 0 := fun q a ha => by
    unfold sl2
    split
    · show cQ (a ++ l1 _) = 0
      rw [cQ_app, ha, cQ_l1]
      rfl
    · exact ha
  unfold slc sl1
  split
  · exact h2 _ _ (by rw [cQ_app, cQ_l1, kd_od, cQ_l1]; rfl)
  · exact h2 _ _ (by rw [cQ_l1, kd_od])
