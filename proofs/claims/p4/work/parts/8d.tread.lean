/-! A reader of trees: what class and model are held against where no word is bad. Words that must stand somewhere are passed unseen. -/
/-- how the latest relation compares, and where its subject stands -/
abbrev Sjt : Type := Option (Int32 × Nat)
abbrev R2 : Type := Nat × Sjt × Tf
abbrev F2 : Type := Nat → Nat → Sjt → Tf → Option R2
def o2 (p : Nat) (a : Tf) : Option R2 := some (p, none, a)
def b2 (x : Option R2) (k : Nat → Sjt → Tf → Option R2) : Option R2 := match x with
  | none => none
  | some q => k q.1 q.2.1 q.2.2
/-- an operand's node, a name's node -/
def od (w : Ws) (p : Nat) : TD := (41, 100000 * w.1 p + w.2.1 p, Int32.ofNat p, -1)
def nmv (k v : Int32) : Int32 := if k = 41 then 100000 + v else v
def nm (w : Ws) (k : Int32) (p : Nat) : TD := (k, nmv k (w.2.1 p), Int32.ofNat p, -1)
def l1 (d : TD) : Tf := [(0, d)]
/-- where a tree stands -/
def pT (a : Tf) : Int32 := match a with
  | [] => -1
  | x :: _ => x.2.2.2.1
def sc (t : Bool) : Int32 := if t then 1 else 0
def cm2 (w : Ws) (n : Int32) (q : Nat) : Int32 × Nat := if ww w q 68 then (n + 0, sk (ww w (q + 1) 48) (q + 1)) else if ww w q 70 then (n + 1, sk (ww w (q + 1) 71) (q + 1)) else if ww w q 69 then (n + 2, sk (ww w (q + 1) 71) (q + 1)) else (n + (w.2.1 q - 2), q + 1)
def cm1 (w : Ws) (q : Nat) : Int32 × Nat := cm2 w (if ww w q 64 then 3 else 0) (sk (ww w q 64) q)
/-- how it compares, and where the operand behind it stands -/
def cmp (w : Ws) (q : Nat) : Int32 × Nat := cm1 w (sk (ww w q 67) q)
def rl (w : Ws) (p : Nat) (s : Sjt) : R2 :=
  if wo w p && wm w (p + 1) then ((cmp w (p + 1)).2 + 1, some ((cmp w (p + 1)).1, p), nd (53, (cmp w (p + 1)).1, Int32.ofNat p, Int32.ofNat p) (l1 (od w p) ++ l1 (od w (cmp w (p + 1)).2)))
  else match s with
    | some (h, u) => if wm w p then ((cmp w p).2 + 1, some ((cmp w p).1, u), nd (53, (cmp w p).1, Int32.ofNat p, Int32.ofNat u) (l1 (od w (cmp w p).2))) else (p + 1, s, nd (53, h, Int32.ofNat p, Int32.ofNat u) (l1 (od w p)))
    | none => (p + 1, none, l1 (54, w.2.1 p, Int32.ofNat p, -1))
def st2 (w : Ws) (F : F2) (t p : Nat) (s : Sjt) (a : Tf) : Option R2 := match t with
  | 0 => b2 (F 2 p none []) fun q _ a => F 1 q none a
  | 1 => if wg w p 5 || wg w p 6 then b2 (F 2 (p + 1) none []) (fun q _ b => F 1 q none (nd (55, w.2.1 p, pT a, -1) (a ++ b))) else o2 p a
  | 2 => b2 (F 4 p none []) fun q _ a => F 3 q none a
  | 3 => if wg w p 7 || wg w p 8 then b2 (F 4 (p + 1) none []) (fun q _ b => F 3 q none (nd (55, w.2.1 p, pT a, -1) (a ++ b))) else o2 p a
  | 4 => if wg w p 0 then b2 (F 0 (p + 1) none []) (fun q _ b => o2 (q + 1) b) else o2 (p + 1) (l1 (od w p))
  | 5 => b2 (F 7 p none []) fun q s b => if ww w q 66 then b2 (F 6 q s b) (fun q s c => some (q, s, nd (50, 0, pT b, -1) c)) else some (q, s, b)
  | 6 => if ww w p 66 then b2 (F 7 (p + 1) s []) (fun q s b => F 6 q s (a ++ b)) else some (p, s, a)
  | 7 => b2 (F 9 p s []) fun q s b => if ww w q 65 then b2 (F 8 q s b) (fun q s c => some (q, s, nd (51, 0, pT b, -1) c)) else some (q, s, b)
  | 8 => if ww w p 65 then b2 (F 9 (p + 1) s []) (fun q s b => F 8 q s (a ++ b)) else some (p, s, a)
  | 9 => if ww w p 64 && !wc w (p + 1) then b2 (F 9 (p + 1) s []) (fun q s b => some (q, s, nd (52, 0, Int32.ofNat p, -1) b)) else if wg w p 0 then b2 (F 5 (p + 1) none []) (fun q _ b => o2 (q + 1) b) else some (rl w p s)
  | 10 => b2 (F 11 p none []) fun q _ b => o2 q (nd (40, 0, Int32.ofNat p, -1) b)
  | 11 => if wb w p then b2 (F (100 + (w.2.1 p).toInt.toNat) p none []) (fun q _ b => F 11 q none (a ++ b)) else o2 p a
  | 13 => if ww w p 54 then o2 (p + 2) (l1 (42, 0, Int32.ofNat p, -1)) else F 10 p none []
  | 14 => if ww w p 59 then b2 (F 15 p none []) (fun q _ b => F 14 q none (a ++ b)) else o2 p a
  | 15 => b2 (F 16 p none []) fun q _ b => b2 (F 10 q none []) fun q _ c => o2 q (nd (46, 0, Int32.ofNat p, -1) (b ++ c))
  | 16 => if ww w p 59 then F 16 (p + 2) none (a ++ (if ww w (p + 1) 60 then l1 (47, 0, Int32.ofNat (p + 1), -1) else l1 (od w (p + 1)))) else o2 p a
  | 18 => if wk w p 1 then F 18 (p + 1) none (a ++ l1 (nm w 41 p)) else o2 p a
  | 19 => if wo w p then F 19 (p + 1) none (a ++ l1 (od w p)) else o2 p a
  | 22 => if wk w p 2 || wk w p 1 && ww w (p + 1) 23 then o2 (p + 2) (nd (43, 0, Int32.ofNat p, -1) (l1 (od w p))) else if ww w p 56 then b2 (F 5 (p + 1) none []) (fun q _ b => o2 q (nd (44, 0, Int32.ofNat p, -1) b)) else if ww w p 57 then b2 (F 5 (p + 7) none []) (fun q _ b => o2 q (nd (45, 0, Int32.ofNat p, -1) (l1 (nm w 41 (p + 1)) ++ l1 (od w (p + 3)) ++ l1 (od w (p + 5)) ++ b))) else o2 p []
  | 24 => if wk w p 4 then o2 (p + 1) a else b2 (F 25 p none []) (fun q _ b => F 24 q none (a ++ b))
  | 25 => if ww w p 19 then o2 ((sk (ww w (p + 1) 67) (p + 1)) + 1) (l1 (13, w.2.1 (sk (ww w (p + 1) 67) (p + 1)), Int32.ofNat p, -1)) else if ww w p 20 then (if ww w ((sk (ww w (p + 1) 67) (p + 1)) + 1) 21 then o2 ((sk (ww w (p + 1) 67) (p + 1)) + 3) (nd (14, 0, Int32.ofNat p, -1) (l1 (od w (sk (ww w (p + 1) 67) (p + 1))) ++ l1 (od w ((sk (ww w (p + 1) 67) (p + 1)) + 2)))) else o2 ((sk (ww w (p + 1) 67) (p + 1)) + 1) (nd (14, 0, Int32.ofNat p, -1) (l1 (od w (sk (ww w (p + 1) 67) (p + 1)))))) else if ww w p 22 then b2 (F 26 (sk (ww w (p + 2) 23) (p + 2)) none []) (fun q _ b => o2 q (nd (15, w.2.1 (p + 1), Int32.ofNat p, -1) b)) else if ww w p 26 then o2 (p + 2) (l1 (18, w.2.1 (p + 1), Int32.ofNat p, -1)) else o2 ((sk (ww w (p + 1) 67) (p + 1)) + 1) (l1 (19, sc (ww w (sk (ww w (p + 1) 67) (p + 1)) 29), Int32.ofNat p, -1))
  | 26 => if ww w p 24 then F 27 (p + 2) none (l1 (nm w 16 (p + 1))) else F 27 p none []
  | 27 => if ww w p 10 then F 39 (sk (ww w (p + 1) 25) (p + 1)) none a else o2 p a
  | 38 => if wk w p 1 then F 38 (p + 1) none (a ++ l1 (nm w 21 p)) else o2 p a
  | 39 => if wk w p 1 then F 39 (p + 1) none (a ++ l1 (nm w 17 p)) else o2 p a
  | 129 => b2 (F 19 (p + 1) none []) fun q _ b => o2 q (nd (33, 0, Int32.ofNat p, 0) b)
  | 136 => b2 (F 18 (p + 3) none (l1 (od w (p + 1)))) fun q _ b => o2 q (nd (26, 0, Int32.ofNat p, 0) b)
  | 137 => b2 (F 19 (p + 1) none []) fun q _ b => if ww w q 49 then (if ww w (q + 2) 50 then b2 (F 10 (q + 4) none []) (fun q' _ c => o2 (sk (ww w q' 72) q') (nd (27, 1, Int32.ofNat p, sc (ww w q' 72)) (b ++ l1 (nm w 41 (q + 1)) ++ c))) else o2 (sk (ww w (q + 2) 72) (q + 2)) (nd (27, 1, Int32.ofNat p, sc (ww w (q + 2) 72)) (b ++ l1 (nm w 41 (q + 1))))) else b2 (F 18 (q + 1) none b) (fun q _ b => if ww w q 50 then b2 (F 10 (q + 2) none []) (fun q' _ c => o2 (sk (ww w q' 72) q') (nd (27, 0, Int32.ofNat p, sc (ww w q' 72)) (b ++ c))) else o2 (sk (ww w q 72) q) (nd (27, 0, Int32.ofNat p, sc (ww w q 72)) b))
  | 138 => b2 (F 5 (p + 1) none []) fun q _ a => b2 (F 13 (sk (ww w q 52) q) none []) fun q _ b => if ww w q 53 then b2 (F 13 (q + 1) none []) (fun q _ c => o2 (sk (ww w q 73) q) (nd (28, 0, Int32.ofNat p, sc (ww w q 73)) (a ++ b ++ c))) else o2 (sk (ww w q 73) q) (nd (28, 0, Int32.ofNat p, sc (ww w q 73)) (a ++ b))
  | 139 => if wk w (p + 1) 1 && !ww w (p + 2) 23 then (if ww w (p + 2) 21 then b2 (F 22 (p + 4) none []) (fun q _ b => o2 q (nd (29, 0, Int32.ofNat p, 0) (l1 (nm w 41 (p + 1)) ++ l1 (nm w 41 (p + 3)) ++ b))) else b2 (F 22 (p + 2) none []) (fun q _ b => o2 q (nd (29, 0, Int32.ofNat p, 0) (l1 (nm w 41 (p + 1)) ++ b)))) else b2 (F 22 (p + 1) none []) fun q _ b => b2 (F 10 q none []) fun q _ c => o2 (q + 1) (nd (29, 1, Int32.ofNat p, 1) (b ++ c))
  | 140 => b2 (F 14 (p + 2) none (l1 (od w (p + 1)))) fun q _ b => o2 (sk (ww w q 75) q) (nd (30, 0, Int32.ofNat p, sc (ww w q 75)) b)
  | 141 => if ww w (p + 2) 61 then b2 (F 10 (p + 4) none []) (fun q _ b => o2 (sk (ww w q 76) q) (nd (31, w.2.1 (p + 1), Int32.ofNat p, sc (ww w q 76)) b)) else o2 (sk (ww w (p + 2) 76) (p + 2)) (nd (31, w.2.1 (p + 1), Int32.ofNat p, sc (ww w (p + 2) 76)) [])
  | 142 => b2 (if ww w (p + 2) 31 then F 38 (p + 3) none (l1 (od w (p + 1))) else o2 (p + 2) (l1 (od w (p + 1)))) fun q _ b => if ww w q 62 then b2 (F 10 (q + 1) none []) (fun q _ c => o2 (sk (ww w q 77) q) (nd (32, 0, Int32.ofNat p, sc (ww w q 77)) (b ++ c))) else o2 (sk (ww w q 77) q) (nd (32, 0, Int32.ofNat p, sc (ww w q 77)) b)
  | 143 => o2 ((sk (ww w (p + 1) 48) (p + 1)) + 1) (nd (34, w.2.1 (sk (ww w (p + 1) 48) (p + 1)), Int32.ofNat p, 0) [])
  | 144 => o2 (p + 2) (nd (35, 0, Int32.ofNat p, 0) [])
  | 145 => o2 (p + 1) (nd (36, 0, Int32.ofNat p, 0) [])
  | 146 => o2 (p + 1) (nd (37, 0, Int32.ofNat p, 0) [])
  | 147 => b2 (F 0 (p + 3) none []) fun q _ b => o2 (sk (ww w q 78) q) (nd (38, w.2.1 (p + 1), Int32.ofNat p, sc (ww w q 78)) b)
  | _ => none
def fl2 (F G : F2) : Prop := ∀ t p s a r, F t p s a = some r → G t p s a = some r
def c2t (H : F2 → Option R2) : Prop := (∀ F G, fl2 F G → ∀ r, H F = some r → H G = some r) ∧ ∀ (a : Nat → F2) (U : F2), (∀ n, fl2 (a n) (a (n + 1))) → (∀ t p s b r, U t p s b = some r → ∃ n, a n t p s b = some r) → ∀ r, H U = some r → ∃ n, H (a n) = some r
theorem fl2.chain {a : Nat → F2} (h : ∀ n, fl2 (a n) (a (n + 1))) {n m : Nat} (hm : n ≤ m) : fl2 (a n) (a m) := by
  induction hm with
  | refl => exact fun _ _ _ _ _ e => e
  | step _ ih => exact fun t p s b r e => h _ t p s b r (ih t p s b r e)
theorem c2t_const (x : Option R2) : c2t (fun _ => x) := ⟨fun _ _ _ _ e => e, fun _ _ _ _ _ e => ⟨0, e⟩⟩
theorem c2t_call (t p : Nat) (s : Sjt) (b : Tf) : c2t (fun F => F t p s b) := ⟨fun _ _ h r e => h t p s b r e, fun _ _ _ h r e => h t p s b r e⟩
theorem c2t_ite {c : Prop} [Decidable c] {A B : F2 → Option R2} (hA : c2t A) (hB : c2t B) : c2t (fun F => if c then A F else B F) := by
  by_cases hc : c
  · simp only [if_pos hc]
    exact hA
  · simp only [if_neg hc]
    exact hB
theorem c2t_bd {A : F2 → Option R2} {K : F2 → Nat → Sjt → Tf → Option R2} (hA : c2t A) (hK : ∀ q s b, c2t (fun F => K F q s b)) : c2t (fun F => b2 (A F) (K F)) := by
  refine ⟨fun F G h r e => ?_, fun a U h1 h2 r e => ?_⟩
  · dsimp only at e ⊢
    cases hx : A F with
    | none => rw [hx] at e; cases e
    | some q =>
      rw [hx] at e
      rw [hA.1 F G h _ hx]
      exact (hK q.1 q.2.1 q.2.2).1 F G h r e
  · dsimp only at e ⊢
    cases hx : A U with
    | none => rw [hx] at e; cases e
    | some q =>
      rw [hx] at e
      obtain ⟨n, hn⟩ := hA.2 a U h1 h2 _ hx
      obtain ⟨m, hm⟩ := (hK q.1 q.2.1 q.2.2).2 a U h1 h2 r e
      refine ⟨max n m, ?_⟩
      rw [hA.1 _ _ (fl2.chain h1 (Nat.le_max_left n m)) _ hn]
      exact (hK q.1 q.2.1 q.2.2).1 _ _ (fl2.chain h1 (Nat.le_max_right n m)) r hm
theorem c2t_st (w : Ws) (t p : Nat) (s : Sjt) (a : Tf) : c2t (fun F => st2 w F t p s a) := by
  unfold st2
  split
  all_goals
    repeat' first
      | exact c2t_call _ _ _ _
      | exact c2t_const _
      | refine c2t_bd ?_ (fun _ _ _ => ?_)
      | refine c2t_ite ?_ ?_
def it2 (w : Ws) : Nat → F2
  | 0 => fun _ _ _ _ => none
  | n + 1 => st2 w (it2 w n)
theorem it2_up (w : Ws) : ∀ n, fl2 (it2 w n) (it2 w (n + 1))
  | 0 => fun _ _ _ _ _ e => by cases e
  | n + 1 => fun t p s a r e => (c2t_st w t p s a).1 _ _ (it2_up w n) r e
theorem it2_det {w : Ws} {n m t p : Nat} {s : Sjt} {a : Tf} {x y : R2} (h1 : it2 w n t p s a = some x) (h2 : it2 w m t p s a = some y) : x = y := by
  have e1 := fl2.chain (it2_up w) (Nat.le_max_left n m) t p s a x h1
  have e2 := fl2.chain (it2_up w) (Nat.le_max_right n m) t p s a y h2
  rw [e1] at e2
  exact Option.some.inj e2
/-- THE READER OF TREES -/
noncomputable def tv (w : Ws) : F2 := fun t p s a => @dite _ (∃ n r, it2 w n t p s a = some r) (Classical.propDecidable _) (fun h => some (Classical.choose (Classical.choose_spec h))) (fun _ => none)
theorem tv_of {w : Ws} {n t p : Nat} {s : Sjt} {a : Tf} {r : R2} (h : it2 w n t p s a = some r) : tv w t p s a = some r := by
  have h1 : ∃ n r, it2 w n t p s a = some r := ⟨n, r, h⟩
  unfold tv
  rw [dif_pos h1]
  exact congrArg some (it2_det (Classical.choose_spec (Classical.choose_spec h1)) h)
theorem tv_ex {w : Ws} {t p : Nat} {s : Sjt} {a : Tf} {r : R2} (h : tv w t p s a = some r) : ∃ n, it2 w n t p s a = some r := by
  unfold tv at h
  split at h
  · rename_i h1
    have h2 := Classical.choose_spec (Classical.choose_spec h1)
    rw [Option.some.inj h] at h2
    exact ⟨_, h2⟩
  · cases h
theorem tv_eq (w : Ws) (t p : Nat) (s : Sjt) (a : Tf) : tv w t p s a = st2 w (tv w) t p s a := by
  have hc := c2t_st w t p s a
  cases h : tv w t p s a with
  | some r =>
    obtain ⟨n, hn⟩ := tv_ex h
    cases n with
    | zero => cases hn
    | succ n => exact (hc.1 (it2 w n) (tv w) (fun t p s a r e => tv_of e) r hn).symm
  | none =>
    cases h2 : st2 w (tv w) t p s a with
    | none => rfl
    | some r =>
      obtain ⟨n, hn⟩ := hc.2 (it2 w) (tv w) (it2_up w) (fun t p s a r e => tv_ex e) r h2
      rw [tv_of (n := n + 1) hn] at h
      cases h
theorem tv_0 (w : Ws) (p : Nat) (s : Sjt) (a : Tf) : tv w 0 p s a = (b2 (tv w 2 p none []) fun q _ a => tv w 1 q none a) := tv_eq w 0 p s a
theorem tv_1 (w : Ws) (p : Nat) (s : Sjt) (a : Tf) : tv w 1 p s a = (if wg w p 5 || wg w p 6 then b2 (tv w 2 (p + 1) none []) (fun q _ b => tv w 1 q none (nd (55, w.2.1 p, pT a, -1) (a ++ b))) else o2 p a) := tv_eq w 1 p s a
theorem tv_2 (w : Ws) (p : Nat) (s : Sjt) (a : Tf) : tv w 2 p s a = (b2 (tv w 4 p none []) fun q _ a => tv w 3 q none a) := tv_eq w 2 p s a
theorem tv_3 (w : Ws) (p : Nat) (s : Sjt) (a : Tf) : tv w 3 p s a = (if wg w p 7 || wg w p 8 then b2 (tv w 4 (p + 1) none []) (fun q _ b => tv w 3 q none (nd (55, w.2.1 p, pT a, -1) (a ++ b))) else o2 p a) := tv_eq w 3 p s a
theorem tv_4 (w : Ws) (p : Nat) (s : Sjt) (a : Tf) : tv w 4 p s a = (if wg w p 0 then b2 (tv w 0 (p + 1) none []) (fun q _ b => o2 (q + 1) b) else o2 (p + 1) (l1 (od w p))) := tv_eq w 4 p s a
theorem tv_5 (w : Ws) (p : Nat) (s : Sjt) (a : Tf) : tv w 5 p s a = (b2 (tv w 7 p none []) fun q s b => if ww w q 66 then b2 (tv w 6 q s b) (fun q s c => some (q, s, nd (50, 0, pT b, -1) c)) else some (q, s, b)) := tv_eq w 5 p s a
theorem tv_6 (w : Ws) (p : Nat) (s : Sjt) (a : Tf) : tv w 6 p s a = (if ww w p 66 then b2 (tv w 7 (p + 1) s []) (fun q s b => tv w 6 q s (a ++ b)) else some (p, s, a)) := tv_eq w 6 p s a
theorem tv_7 (w : Ws) (p : Nat) (s : Sjt) (a : Tf) : tv w 7 p s a = (b2 (tv w 9 p s []) fun q s b => if ww w q 65 then b2 (tv w 8 q s b) (fun q s c => some (q, s, nd (51, 0, pT b, -1) c)) else some (q, s, b)) := tv_eq w 7 p s a
theorem tv_8 (w : Ws) (p : Nat) (s : Sjt) (a : Tf) : tv w 8 p s a = (if ww w p 65 then b2 (tv w 9 (p + 1) s []) (fun q s b => tv w 8 q s (a ++ b)) else some (p, s, a)) := tv_eq w 8 p s a
theorem tv_9 (w : Ws) (p : Nat) (s : Sjt) (a : Tf) : tv w 9 p s a = (if ww w p 64 && !wc w (p + 1) then b2 (tv w 9 (p + 1) s []) (fun q s b => some (q, s, nd (52, 0, Int32.ofNat p, -1) b)) else if wg w p 0 then b2 (tv w 5 (p + 1) none []) (fun q _ b => o2 (q + 1) b) else some (rl w p s)) := tv_eq w 9 p s a
theorem tv_10 (w : Ws) (p : Nat) (s : Sjt) (a : Tf) : tv w 10 p s a = (b2 (tv w 11 p none []) fun q _ b => o2 q (nd (40, 0, Int32.ofNat p, -1) b)) := tv_eq w 10 p s a
theorem tv_11 (w : Ws) (p : Nat) (s : Sjt) (a : Tf) : tv w 11 p s a = (if wb w p then b2 (tv w (100 + (w.2.1 p).toInt.toNat) p none []) (fun q _ b => tv w 11 q none (a ++ b)) else o2 p a) := tv_eq w 11 p s a
theorem tv_13 (w : Ws) (p : Nat) (s : Sjt) (a : Tf) : tv w 13 p s a = (if ww w p 54 then o2 (p + 2) (l1 (42, 0, Int32.ofNat p, -1)) else tv w 10 p none []) := tv_eq w 13 p s a
theorem tv_14 (w : Ws) (p : Nat) (s : Sjt) (a : Tf) : tv w 14 p s a = (if ww w p 59 then b2 (tv w 15 p none []) (fun q _ b => tv w 14 q none (a ++ b)) else o2 p a) := tv_eq w 14 p s a
theorem tv_15 (w : Ws) (p : Nat) (s : Sjt) (a : Tf) : tv w 15 p s a = (b2 (tv w 16 p none []) fun q _ b => b2 (tv w 10 q none []) fun q _ c => o2 q (nd (46, 0, Int32.ofNat p, -1) (b ++ c))) := tv_eq w 15 p s a
theorem tv_16 (w : Ws) (p : Nat) (s : Sjt) (a : Tf) : tv w 16 p s a = (if ww w p 59 then tv w 16 (p + 2) none (a ++ (if ww w (p + 1) 60 then l1 (47, 0, Int32.ofNat (p + 1), -1) else l1 (od w (p + 1)))) else o2 p a) := tv_eq w 16 p s a
theorem tv_18 (w : Ws) (p : Nat) (s : Sjt) (a : Tf) : tv w 18 p s a = (if wk w p 1 then tv w 18 (p + 1) none (a ++ l1 (nm w 41 p)) else o2 p a) := tv_eq w 18 p s a
theorem tv_19 (w : Ws) (p : Nat) (s : Sjt) (a : Tf) : tv w 19 p s a = (if wo w p then tv w 19 (p + 1) none (a ++ l1 (od w p)) else o2 p a) := tv_eq w 19 p s a
theorem tv_22 (w : Ws) (p : Nat) (s : Sjt) (a : Tf) : tv w 22 p s a = (if wk w p 2 || wk w p 1 && ww w (p + 1) 23 then o2 (p + 2) (nd (43, 0, Int32.ofNat p, -1) (l1 (od w p))) else if ww w p 56 then b2 (tv w 5 (p + 1) none []) (fun q _ b => o2 q (nd (44, 0, Int32.ofNat p, -1) b)) else if ww w p 57 then b2 (tv w 5 (p + 7) none []) (fun q _ b => o2 q (nd (45, 0, Int32.ofNat p, -1) (l1 (nm w 41 (p + 1)) ++ l1 (od w (p + 3)) ++ l1 (od w (p + 5)) ++ b))) else o2 p []) := tv_eq w 22 p s a
theorem tv_24 (w : Ws) (p : Nat) (s : Sjt) (a : Tf) : tv w 24 p s a = (if wk w p 4 then o2 (p + 1) a else b2 (tv w 25 p none []) (fun q _ b => tv w 24 q none (a ++ b))) := tv_eq w 24 p s a
theorem tv_25 (w : Ws) (p : Nat) (s : Sjt) (a : Tf) : tv w 25 p s a = (if ww w p 19 then o2 ((sk (ww w (p + 1) 67) (p + 1)) + 1) (l1 (13, w.2.1 (sk (ww w (p + 1) 67) (p + 1)), Int32.ofNat p, -1)) else if ww w p 20 then (if ww w ((sk (ww w (p + 1) 67) (p + 1)) + 1) 21 then o2 ((sk (ww w (p + 1) 67) (p + 1)) + 3) (nd (14, 0, Int32.ofNat p, -1) (l1 (od w (sk (ww w (p + 1) 67) (p + 1))) ++ l1 (od w ((sk (ww w (p + 1) 67) (p + 1)) + 2)))) else o2 ((sk (ww w (p + 1) 67) (p + 1)) + 1) (nd (14, 0, Int32.ofNat p, -1) (l1 (od w (sk (ww w (p + 1) 67) (p + 1)))))) else if ww w p 22 then b2 (tv w 26 (sk (ww w (p + 2) 23) (p + 2)) none []) (fun q _ b => o2 q (nd (15, w.2.1 (p + 1), Int32.ofNat p, -1) b)) else if ww w p 26 then o2 (p + 2) (l1 (18, w.2.1 (p + 1), Int32.ofNat p, -1)) else o2 ((sk (ww w (p + 1) 67) (p + 1)) + 1) (l1 (19, sc (ww w (sk (ww w (p + 1) 67) (p + 1)) 29), Int32.ofNat p, -1))) := tv_eq w 25 p s a
theorem tv_26 (w : Ws) (p : Nat) (s : Sjt) (a : Tf) : tv w 26 p s a = (if ww w p 24 then tv w 27 (p + 2) none (l1 (nm w 16 (p + 1))) else tv w 27 p none []) := tv_eq w 26 p s a
theorem tv_27 (w : Ws) (p : Nat) (s : Sjt) (a : Tf) : tv w 27 p s a = (if ww w p 10 then tv w 39 (sk (ww w (p + 1) 25) (p + 1)) none a else o2 p a) := tv_eq w 27 p s a
theorem tv_38 (w : Ws) (p : Nat) (s : Sjt) (a : Tf) : tv w 38 p s a = (if wk w p 1 then tv w 38 (p + 1) none (a ++ l1 (nm w 21 p)) else o2 p a) := tv_eq w 38 p s a
theorem tv_39 (w : Ws) (p : Nat) (s : Sjt) (a : Tf) : tv w 39 p s a = (if wk w p 1 then tv w 39 (p + 1) none (a ++ l1 (nm w 17 p)) else o2 p a) := tv_eq w 39 p s a
theorem tv_129 (w : Ws) (p : Nat) (s : Sjt) (a : Tf) : tv w 129 p s a = (b2 (tv w 19 (p + 1) none []) fun q _ b => o2 q (nd (33, 0, Int32.ofNat p, 0) b)) := tv_eq w 129 p s a
theorem tv_136 (w : Ws) (p : Nat) (s : Sjt) (a : Tf) : tv w 136 p s a = (b2 (tv w 18 (p + 3) none (l1 (od w (p + 1)))) fun q _ b => o2 q (nd (26, 0, Int32.ofNat p, 0) b)) := tv_eq w 136 p s a
theorem tv_137 (w : Ws) (p : Nat) (s : Sjt) (a : Tf) : tv w 137 p s a = (b2 (tv w 19 (p + 1) none []) fun q _ b => if ww w q 49 then (if ww w (q + 2) 50 then b2 (tv w 10 (q + 4) none []) (fun q' _ c => o2 (sk (ww w q' 72) q') (nd (27, 1, Int32.ofNat p, sc (ww w q' 72)) (b ++ l1 (nm w 41 (q + 1)) ++ c))) else o2 (sk (ww w (q + 2) 72) (q + 2)) (nd (27, 1, Int32.ofNat p, sc (ww w (q + 2) 72)) (b ++ l1 (nm w 41 (q + 1))))) else b2 (tv w 18 (q + 1) none b) (fun q _ b => if ww w q 50 then b2 (tv w 10 (q + 2) none []) (fun q' _ c => o2 (sk (ww w q' 72) q') (nd (27, 0, Int32.ofNat p, sc (ww w q' 72)) (b ++ c))) else o2 (sk (ww w q 72) q) (nd (27, 0, Int32.ofNat p, sc (ww w q 72)) b))) := tv_eq w 137 p s a
theorem tv_138 (w : Ws) (p : Nat) (s : Sjt) (a : Tf) : tv w 138 p s a = (b2 (tv w 5 (p + 1) none []) fun q _ a => b2 (tv w 13 (sk (ww w q 52) q) none []) fun q _ b => if ww w q 53 then b2 (tv w 13 (q + 1) none []) (fun q _ c => o2 (sk (ww w q 73) q) (nd (28, 0, Int32.ofNat p, sc (ww w q 73)) (a ++ b ++ c))) else o2 (sk (ww w q 73) q) (nd (28, 0, Int32.ofNat p, sc (ww w q 73)) (a ++ b))) := tv_eq w 138 p s a
theorem tv_139 (w : Ws) (p : Nat) (s : Sjt) (a : Tf) : tv w 139 p s a = (if wk w (p + 1) 1 && !ww w (p + 2) 23 then (if ww w (p + 2) 21 then b2 (tv w 22 (p + 4) none []) (fun q _ b => o2 q (nd (29, 0, Int32.ofNat p, 0) (l1 (nm w 41 (p + 1)) ++ l1 (nm w 41 (p + 3)) ++ b))) else b2 (tv w 22 (p + 2) none []) (fun q _ b => o2 q (nd (29, 0, Int32.ofNat p, 0) (l1 (nm w 41 (p + 1)) ++ b)))) else b2 (tv w 22 (p + 1) none []) fun q _ b => b2 (tv w 10 q none []) fun q _ c => o2 (q + 1) (nd (29, 1, Int32.ofNat p, 1) (b ++ c))) := tv_eq w 139 p s a
theorem tv_140 (w : Ws) (p : Nat) (s : Sjt) (a : Tf) : tv w 140 p s a = (b2 (tv w 14 (p + 2) none (l1 (od w (p + 1)))) fun q _ b => o2 (sk (ww w q 75) q) (nd (30, 0, Int32.ofNat p, sc (ww w q 75)) b)) := tv_eq w 140 p s a
theorem tv_141 (w : Ws) (p : Nat) (s : Sjt) (a : Tf) : tv w 141 p s a = (if ww w (p + 2) 61 then b2 (tv w 10 (p + 4) none []) (fun q _ b => o2 (sk (ww w q 76) q) (nd (31, w.2.1 (p + 1), Int32.ofNat p, sc (ww w q 76)) b)) else o2 (sk (ww w (p + 2) 76) (p + 2)) (nd (31, w.2.1 (p + 1), Int32.ofNat p, sc (ww w (p + 2) 76)) [])) := tv_eq w 141 p s a
theorem tv_142 (w : Ws) (p : Nat) (s : Sjt) (a : Tf) : tv w 142 p s a = (b2 (if ww w (p + 2) 31 then tv w 38 (p + 3) none (l1 (od w (p + 1))) else o2 (p + 2) (l1 (od w (p + 1)))) fun q _ b => if ww w q 62 then b2 (tv w 10 (q + 1) none []) (fun q _ c => o2 (sk (ww w q 77) q) (nd (32, 0, Int32.ofNat p, sc (ww w q 77)) (b ++ c))) else o2 (sk (ww w q 77) q) (nd (32, 0, Int32.ofNat p, sc (ww w q 77)) b)) := tv_eq w 142 p s a
theorem tv_143 (w : Ws) (p : Nat) (s : Sjt) (a : Tf) : tv w 143 p s a = (o2 ((sk (ww w (p + 1) 48) (p + 1)) + 1) (nd (34, w.2.1 (sk (ww w (p + 1) 48) (p + 1)), Int32.ofNat p, 0) [])) := tv_eq w 143 p s a
theorem tv_144 (w : Ws) (p : Nat) (s : Sjt) (a : Tf) : tv w 144 p s a = (o2 (p + 2) (nd (35, 0, Int32.ofNat p, 0) [])) := tv_eq w 144 p s a
theorem tv_145 (w : Ws) (p : Nat) (s : Sjt) (a : Tf) : tv w 145 p s a = (o2 (p + 1) (nd (36, 0, Int32.ofNat p, 0) [])) := tv_eq w 145 p s a
theorem tv_146 (w : Ws) (p : Nat) (s : Sjt) (a : Tf) : tv w 146 p s a = (o2 (p + 1) (nd (37, 0, Int32.ofNat p, 0) [])) := tv_eq w 146 p s a
theorem tv_147 (w : Ws) (p : Nat) (s : Sjt) (a : Tf) : tv w 147 p s a = (b2 (tv w 0 (p + 3) none []) fun q _ b => o2 (sk (ww w q 78) q) (nd (38, w.2.1 (p + 1), Int32.ofNat p, sc (ww w q 78)) b)) := tv_eq w 147 p s a
