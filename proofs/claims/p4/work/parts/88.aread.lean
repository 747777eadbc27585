/-! A reader of words: what class and model are both held against. Places are numbers, words are w. -/
abbrev Ws : Type := (Nat → Int32) × (Nat → Int32) × Nat
abbrev RR : Type := Sum (Nat × Bool) Nat
abbrev FT : Type := Nat → Nat → Nat → Bool → Option RR
def wk (w : Ws) (p : Nat) (k : Int32) : Bool := decide (p < w.2.2) && decide (w.1 p = k)
def ww (w : Ws) (p : Nat) (v : Int32) : Bool := wk w p 0 && decide (w.2.1 p = v)
def wg (w : Ws) (p : Nat) (v : Int32) : Bool := wk w p 5 && decide (w.2.1 p = v)
def wo (w : Ws) (p : Nat) : Bool := wk w p 1 || wk w p 2 || wk w p 3
/-- a word that compares -/
def wc (w : Ws) (p : Nat) : Bool := wk w p 5 && (decide (2 ≤ (w.2.1 p).toInt) && decide ((w.2.1 p).toInt ≤ 4)) || wk w p 0 && (decide (68 ≤ (w.2.1 p).toInt) && decide ((w.2.1 p).toInt ≤ 70))
/-- a comparison may begin here -/
def wm (w : Ws) (p : Nat) : Bool := ww w p 67 || wc w p || ww w p 64 && wc w (p + 1)
/-- a statement begins here -/
def wb (w : Ws) (p : Nat) : Bool := wk w p 0 && (decide (36 ≤ (w.2.1 p).toInt) && decide ((w.2.1 p).toInt ≤ 47) || decide (w.2.1 p = 29))
def sk (t : Bool) (p : Nat) : Nat := if t then p + 1 else p
def ok (p : Nat) : Option RR := some (.inl (p, false))
def no (p : Nat) : Option RR := some (.inr p)
def bd (x : Option RR) (k : Nat → Bool → Option RR) : Option RR := match x with
  | none => none
  | some (.inl q) => k q.1 q.2
  | some (.inr b) => some (.inr b)
def ropd (w : Ws) (p : Nat) : RR := if wo w p then .inl (p + 1, true) else .inr p
def rcmp2 (w : Ws) (q : Nat) : RR := if ww w q 68 then ropd w (sk (ww w (q + 1) 48) (q + 1)) else if ww w q 70 then ropd w (sk (ww w (q + 1) 71) (q + 1)) else if ww w q 69 then ropd w (sk (ww w (q + 1) 71) (q + 1)) else if wk w q 5 && (decide (2 ≤ (w.2.1 q).toInt) && decide ((w.2.1 q).toInt ≤ 4)) then ropd w (q + 1) else .inr q
def rcmp1 (w : Ws) (q : Nat) : RR := rcmp2 w (sk (ww w q 64) q)
def rcmp (w : Ws) (q : Nat) : RR := rcmp1 w (sk (ww w q 67) q)
def rel (w : Ws) (p : Nat) (s : Bool) : RR :=
  if wo w p && wm w (p + 1) then rcmp w (p + 1)
  else if s then (if wm w p then rcmp w p else ropd w p)
  else if wk w p 1 then .inl (p + 1, false) else if wo w p then .inr (p + 1) else .inr p
def stp (w : Ws) (F : FT) (t p l : Nat) (s : Bool) : Option RR := match t with
  | 0 => bd (F 2 p l false) fun q _ => F 1 q l false
  | 1 => if wg w p 5 || wg w p 6 then bd (F 2 (p + 1) l false) (fun q _ => F 1 q l false) else ok p
  | 2 => bd (F 4 p l false) fun q _ => F 3 q l false
  | 3 => if wg w p 7 || wg w p 8 then bd (F 4 (p + 1) l false) (fun q _ => F 3 q l false) else ok p
  | 4 => if wg w p 0 then (if 40 ≤ l then no p else bd (F 0 (p + 1) (l + 1) false) fun q _ => if wg w q 1 then ok (q + 1) else no q) else if wk w p 1 || wk w p 2 then ok (p + 1) else no p
  | 5 => bd (F 7 p l false) fun q s => F 6 q l s
  | 6 => if ww w p 66 then bd (F 7 (p + 1) l s) (fun q s => F 6 q l s) else some (.inl (p, s))
  | 7 => bd (F 9 p l s) fun q s => F 8 q l s
  | 8 => if ww w p 65 then bd (F 9 (p + 1) l s) (fun q s => F 8 q l s) else some (.inl (p, s))
  | 9 => if ww w p 64 && !wc w (p + 1) then (if 40 ≤ l then no p else F 9 (p + 1) (l + 1) s) else if wg w p 0 then (if 40 ≤ l then no p else bd (F 5 (p + 1) (l + 1) false) fun q _ => if wg w q 1 then ok (q + 1) else no q) else some (rel w p s)
  | 10 => if wb w p then (if 40 < l then no p else F 11 p l false) else no p
  | 11 => if wb w p then bd (F (100 + (w.2.1 p).toInt.toNat) p l false) (fun q _ => F 11 q l false) else ok p
  | 13 => if ww w p 54 then (if ww w (p + 1) 55 then ok (p + 2) else no (p + 1)) else F 10 p (l + 1) false
  | 14 => if ww w p 59 then bd (F 15 p l false) (fun q _ => F 14 q l false) else ok p
  | 15 => bd (F 16 p l false) fun q _ => F 10 q (l + 1) false
  | 16 => if ww w p 59 then (if ww w (p + 1) 60 then F 16 (p + 2) l false else if wo w (p + 1) then F 16 (p + 2) l false else no (p + 1)) else ok p
  | 17 => if wk w p 1 then F 18 (p + 1) l false else no p
  | 18 => if wk w p 1 then F 18 (p + 1) l false else ok p
  | 19 => if wo w p then F 19 (p + 1) l false else ok p
  | 21 => if ww w p 50 then (if ww w (p + 1) 51 then bd (F 10 (p + 2) (l + 1) false) (fun q _ => ok (sk (ww w q 72) q)) else no (p + 1)) else ok (sk (ww w p 72) p)
  | 22 => if wk w p 2 || wk w p 1 && ww w (p + 1) 23 then (if ww w (p + 1) 23 then ok (p + 2) else no (p + 1)) else if ww w p 56 then bd (F 5 (p + 1) l false) (fun q _ => ok q) else if ww w p 57 then (if wk w (p + 1) 1 then (if ww w (p + 2) 58 then (if wo w (p + 3) then (if ww w (p + 4) 25 then (if wo w (p + 5) then (if ww w (p + 6) 56 then bd (F 5 (p + 7) l false) (fun q _ => ok q) else no (p + 6)) else no (p + 5)) else no (p + 4)) else no (p + 3)) else no (p + 2)) else no (p + 1)) else ok p
  | 23 => if ww w p 62 then bd (F 10 (p + 1) (l + 1) false) (fun q _ => ok (sk (ww w q 77) q)) else ok (sk (ww w p 77) p)
  | 24 => if wk w p 4 then ok (p + 1) else bd (F 25 p l false) (fun q _ => F 24 q l false)
  | 25 => if ww w p 19 then (if wk w (sk (ww w (p + 1) 67) (p + 1)) 3 then ok (sk (ww w (p + 1) 67) (p + 1) + 1) else no (sk (ww w (p + 1) 67) (p + 1))) else if ww w p 20 then F 33 (sk (ww w (p + 1) 67) (p + 1)) l false else if ww w p 22 then (if wk w (p + 1) 2 then F 26 (sk (ww w (p + 2) 23) (p + 2)) l false else no (p + 1)) else if ww w p 26 then (if wk w (p + 1) 1 then ok (p + 2) else no (p + 1)) else if ww w p 27 then F 34 (sk (ww w (p + 1) 67) (p + 1)) l false else no p
  | 26 => if ww w p 24 then (if wk w (p + 1) 1 then F 27 (p + 2) l false else no (p + 1)) else F 27 p l false
  | 27 => if ww w p 10 then F 17 (sk (ww w (p + 1) 25) (p + 1)) l false else ok p
  | 28 => if wk w (p + 1) 1 then (if ww w (p + 2) 6 then F 35 (sk (ww w (p + 3) 48) (p + 3)) l false else no (p + 2)) else no (p + 1)
  | 29 => if ww w p 7 then F 36 (sk (ww w (p + 1) 67) (p + 1)) l false else F 30 p l false
  | 30 => if ww w p 11 then F 37 (sk (ww w (p + 1) 67) (p + 1)) l false else F 31 p l false
  | 31 => if wk w p 4 then ok (p + 1) else no p
  | 32 => if ww w (p + 1) 1 then (if ww w (p + 2) 31 then bd (F 17 (p + 3) l false) (fun q _ => F 31 q l false) else F 31 (p + 2) l false) else no (p + 1)
  | 33 => if wk w p 2 || wk w p 3 then (if ww w (p + 1) 21 then (if wk w (p + 2) 2 || wk w (p + 2) 3 then ok (p + 3) else no (p + 2)) else ok (p + 1)) else no p
  | 34 => if ww w p 29 then ok (p + 1) else if ww w p 28 then ok (p + 1) else no p
  | 35 => if wk w p 1 || wk w p 3 then F 29 (p + 1) l false else no p
  | 36 => if wk w p 0 && (decide (8 ≤ (w.2.1 p).toInt) && decide ((w.2.1 p).toInt ≤ 10)) then F 30 (p + 1) l false else no p
  | 37 => if wk w p 1 then F 31 (p + 1) l false else no p
  | 129 => if wo w (p + 1) then F 19 (p + 2) l false else no (p + 1)
  | 136 => if wo w (p + 1) then (if ww w (p + 2) 48 then F 17 (p + 3) l false else no (p + 2)) else no (p + 1)
  | 137 => if wo w (p + 1) then bd (F 19 (p + 2) l false) (fun q _ => if ww w q 49 then (if wk w (q + 1) 1 then F 21 (q + 2) l false else no (q + 1)) else if ww w q 48 then bd (F 17 (q + 1) l false) (fun q _ => F 21 q l false) else no q) else no (p + 1)
  | 138 => bd (F 5 (p + 1) l false) fun q _ => bd (F 13 (sk (ww w q 52) q) l false) fun q _ => if ww w q 53 then bd (F 13 (q + 1) l false) (fun q _ => ok (sk (ww w q 73) q)) else ok (sk (ww w q 73) q)
  | 139 => if wk w (p + 1) 1 && !ww w (p + 2) 23 then (if ww w (p + 2) 21 then (if wk w (p + 3) 1 then bd (F 22 (p + 4) l false) (fun q _ => ok q) else no (p + 3)) else bd (F 22 (p + 2) l false) (fun q _ => ok q)) else bd (F 22 (p + 1) l false) fun q _ => bd (F 10 q (l + 1) false) fun q _ => if ww w q 74 then ok (q + 1) else no q
  | 140 => if wo w (p + 1) then (if ww w (p + 2) 59 then bd (F 14 (p + 2) l false) (fun q _ => ok (sk (ww w q 75) q)) else no (p + 2)) else no (p + 1)
  | 141 => if wk w (p + 1) 1 then (if ww w (p + 2) 61 then (if ww w (p + 3) 33 then bd (F 10 (p + 4) (l + 1) false) (fun q _ => ok (sk (ww w q 76) q)) else no (p + 3)) else ok (sk (ww w (p + 2) 76) (p + 2))) else no (p + 1)
  | 142 => if wk w (p + 1) 1 || wk w (p + 1) 3 then (if ww w (p + 2) 31 then bd (F 17 (p + 3) l false) (fun q _ => F 23 q l false) else F 23 (p + 2) l false) else no (p + 1)
  | 143 => if wk w (sk (ww w (p + 1) 48) (p + 1)) 1 then ok (sk (ww w (p + 1) 48) (p + 1) + 1) else no (sk (ww w (p + 1) 48) (p + 1))
  | 144 => if ww w (p + 1) 63 then ok (p + 2) else no (p + 1)
  | 145 => ok (p + 1)
  | 146 => ok (p + 1)
  | 147 => if wk w (p + 1) 1 then (if wg w (p + 2) 2 then bd (F 0 (p + 3) l false) (fun q _ => ok (sk (ww w q 78) q)) else no (p + 2)) else no (p + 1)
  | _ => none
def fle (F G : FT) : Prop := ∀ t p l s r, F t p l s = some r → G t p l s = some r
/-- what uses a reader finitely often -/
def ct (H : FT → Option RR) : Prop := (∀ F G, fle F G → ∀ r, H F = some r → H G = some r) ∧ ∀ (a : Nat → FT) (U : FT), (∀ n, fle (a n) (a (n + 1))) → (∀ t p l s r, U t p l s = some r → ∃ n, a n t p l s = some r) → ∀ r, H U = some r → ∃ n, H (a n) = some r
theorem fle.chain {a : Nat → FT} (h : ∀ n, fle (a n) (a (n + 1))) {n m : Nat} (hm : n ≤ m) : fle (a n) (a m) := by
  induction hm with
  | refl => exact fun _ _ _ _ _ e => e
  | step _ ih => exact fun t p l s r e => h _ t p l s r (ih t p l s r e)
theorem ct_const (x : Option RR) : ct (fun _ => x) := ⟨fun _ _ _ _ e => e, fun _ _ _ _ _ e => ⟨0, e⟩⟩
theorem ct_call (t p l : Nat) (s : Bool) : ct (fun F => F t p l s) := ⟨fun _ _ h r e => h t p l s r e, fun _ _ _ h r e => h t p l s r e⟩
theorem ct_ite {c : Prop} [Decidable c] {A B : FT → Option RR} (hA : ct A) (hB : ct B) : ct (fun F => if c then A F else B F) := by
  by_cases hc : c
  · simp only [if_pos hc]
    exact hA
  · simp only [if_neg hc]
    exact hB
theorem ct_bd {A : FT → Option RR} {K : FT → Nat → Bool → Option RR} (hA : ct A) (hK : ∀ q s, ct (fun F => K F q s)) : ct (fun F => bd (A F) (K F)) := by
  refine ⟨fun F G h r e => ?_, fun a U h1 h2 r e => ?_⟩
  · dsimp only at e ⊢
    cases hx : A F with
    | none => rw [hx] at e; cases e
    | some x =>
      rw [hx] at e
      rw [hA.1 F G h _ hx]
      cases x with
      | inl q => exact (hK q.1 q.2).1 F G h r e
      | inr b => exact e
  · dsimp only at e ⊢
    cases hx : A U with
    | none => rw [hx] at e; cases e
    | some x =>
      rw [hx] at e
      obtain ⟨n, hn⟩ := hA.2 a U h1 h2 _ hx
      cases x with
      | inl q =>
        obtain ⟨m, hm⟩ := (hK q.1 q.2).2 a U h1 h2 r e
        refine ⟨max n m, ?_⟩
        rw [hA.1 _ _ (fle.chain h1 (Nat.le_max_left n m)) _ hn]
        exact (hK q.1 q.2).1 _ _ (fle.chain h1 (Nat.le_max_right n m)) r hm
      | inr b =>
        refine ⟨n, ?_⟩
        rw [hn]
        exact e
theorem ct_stp (w : Ws) (t p l : Nat) (s : Bool) : ct (fun F => stp w F t p l s) := by
  unfold stp
  split
  all_goals
    repeat' first
      | exact ct_call _ _ _ _
      | exact ct_const _
      | refine ct_bd ?_ (fun _ _ => ?_)
      | refine ct_ite ?_ ?_
def rit (w : Ws) : Nat → FT
  | 0 => fun _ _ _ _ => none
  | n + 1 => stp w (rit w n)
theorem rit_up (w : Ws) : ∀ n, fle (rit w n) (rit w (n + 1))
  | 0 => fun _ _ _ _ _ e => by cases e
  | n + 1 => fun t p l s r e => (ct_stp w t p l s).1 _ _ (rit_up w n) r e
theorem rit_det {w : Ws} {n m t p l : Nat} {s : Bool} {a b : RR} (h1 : rit w n t p l s = some a) (h2 : rit w m t p l s = some b) : a = b := by
  have e1 := fle.chain (rit_up w) (Nat.le_max_left n m) t p l s a h1
  have e2 := fle.chain (rit_up w) (Nat.le_max_right n m) t p l s b h2
  rw [e1] at e2
  exact Option.some.inj e2
/-- THE READER -/
noncomputable def rv (w : Ws) : FT := fun t p l s => @dite _ (∃ n r, rit w n t p l s = some r) (Classical.propDecidable _) (fun h => some (Classical.choose (Classical.choose_spec h))) (fun _ => none)
theorem rv_of {w : Ws} {n t p l : Nat} {s : Bool} {r : RR} (h : rit w n t p l s = some r) : rv w t p l s = some r := by
  have h1 : ∃ n r, rit w n t p l s = some r := ⟨n, r, h⟩
  unfold rv
  rw [dif_pos h1]
  exact congrArg some (rit_det (Classical.choose_spec (Classical.choose_spec h1)) h)
theorem rv_ex {w : Ws} {t p l : Nat} {s : Bool} {r : RR} (h : rv w t p l s = some r) : ∃ n, rit w n t p l s = some r := by
  unfold rv at h
  split at h
  · rename_i h1
    have h2 := Classical.choose_spec (Classical.choose_spec h1)
    rw [Option.some.inj h] at h2
    exact ⟨_, h2⟩
  · cases h
theorem rv_eq (w : Ws) (t p l : Nat) (s : Bool) : rv w t p l s = stp w (rv w) t p l s := by
  have hc := ct_stp w t p l s
  cases h : rv w t p l s with
  | some r =>
    obtain ⟨n, hn⟩ := rv_ex h
    cases n with
    | zero => cases hn
    | succ n => exact (hc.1 (rit w n) (rv w) (fun t p l s r e => rv_of e) r hn).symm
  | none =>
    cases h2 : stp w (rv w) t p l s with
    | none => rfl
    | some r =>
      obtain ⟨n, hn⟩ := hc.2 (rit w) (rv w) (rit_up w) (fun t p l s r e => rv_ex e) r h2
      rw [rv_of (n := n + 1) hn] at h
      cases h
theorem rv_t0 (w : Ws) (p l : Nat) (s : Bool) : rv w 0 p l s = (bd (rv w 2 p l false) fun q _ => rv w 1 q l false) := rv_eq w 0 p l s
theorem rv_t1 (w : Ws) (p l : Nat) (s : Bool) : rv w 1 p l s = (if wg w p 5 || wg w p 6 then bd (rv w 2 (p + 1) l false) (fun q _ => rv w 1 q l false) else ok p) := rv_eq w 1 p l s
theorem rv_t2 (w : Ws) (p l : Nat) (s : Bool) : rv w 2 p l s = (bd (rv w 4 p l false) fun q _ => rv w 3 q l false) := rv_eq w 2 p l s
theorem rv_t3 (w : Ws) (p l : Nat) (s : Bool) : rv w 3 p l s = (if wg w p 7 || wg w p 8 then bd (rv w 4 (p + 1) l false) (fun q _ => rv w 3 q l false) else ok p) := rv_eq w 3 p l s
theorem rv_t4 (w : Ws) (p l : Nat) (s : Bool) : rv w 4 p l s = (if wg w p 0 then (if 40 ≤ l then no p else bd (rv w 0 (p + 1) (l + 1) false) fun q _ => if wg w q 1 then ok (q + 1) else no q) else if wk w p 1 || wk w p 2 then ok (p + 1) else no p) := rv_eq w 4 p l s
theorem rv_t5 (w : Ws) (p l : Nat) (s : Bool) : rv w 5 p l s = (bd (rv w 7 p l false) fun q s => rv w 6 q l s) := rv_eq w 5 p l s
theorem rv_t6 (w : Ws) (p l : Nat) (s : Bool) : rv w 6 p l s = (if ww w p 66 then bd (rv w 7 (p + 1) l s) (fun q s => rv w 6 q l s) else some (.inl (p, s))) := rv_eq w 6 p l s
theorem rv_t7 (w : Ws) (p l : Nat) (s : Bool) : rv w 7 p l s = (bd (rv w 9 p l s) fun q s => rv w 8 q l s) := rv_eq w 7 p l s
theorem rv_t8 (w : Ws) (p l : Nat) (s : Bool) : rv w 8 p l s = (if ww w p 65 then bd (rv w 9 (p + 1) l s) (fun q s => rv w 8 q l s) else some (.inl (p, s))) := rv_eq w 8 p l s
theorem rv_t9 (w : Ws) (p l : Nat) (s : Bool) : rv w 9 p l s = (if ww w p 64 && !wc w (p + 1) then (if 40 ≤ l then no p else rv w 9 (p + 1) (l + 1) s) else if wg w p 0 then (if 40 ≤ l then no p else bd (rv w 5 (p + 1) (l + 1) false) fun q _ => if wg w q 1 then ok (q + 1) else no q) else some (rel w p s)) := rv_eq w 9 p l s
theorem rv_t10 (w : Ws) (p l : Nat) (s : Bool) : rv w 10 p l s = (if wb w p then (if 40 < l then no p else rv w 11 p l false) else no p) := rv_eq w 10 p l s
theorem rv_t11 (w : Ws) (p l : Nat) (s : Bool) : rv w 11 p l s = (if wb w p then bd (rv w (100 + (w.2.1 p).toInt.toNat) p l false) (fun q _ => rv w 11 q l false) else ok p) := rv_eq w 11 p l s
theorem rv_t13 (w : Ws) (p l : Nat) (s : Bool) : rv w 13 p l s = (if ww w p 54 then (if ww w (p + 1) 55 then ok (p + 2) else no (p + 1)) else rv w 10 p (l + 1) false) := rv_eq w 13 p l s
theorem rv_t14 (w : Ws) (p l : Nat) (s : Bool) : rv w 14 p l s = (if ww w p 59 then bd (rv w 15 p l false) (fun q _ => rv w 14 q l false) else ok p) := rv_eq w 14 p l s
theorem rv_t15 (w : Ws) (p l : Nat) (s : Bool) : rv w 15 p l s = (bd (rv w 16 p l false) fun q _ => rv w 10 q (l + 1) false) := rv_eq w 15 p l s
theorem rv_t16 (w : Ws) (p l : Nat) (s : Bool) : rv w 16 p l s = (if ww w p 59 then (if ww w (p + 1) 60 then rv w 16 (p + 2) l false else if wo w (p + 1) then rv w 16 (p + 2) l false else no (p + 1)) else ok p) := rv_eq w 16 p l s
theorem rv_t17 (w : Ws) (p l : Nat) (s : Bool) : rv w 17 p l s = (if wk w p 1 then rv w 18 (p + 1) l false else no p) := rv_eq w 17 p l s
theorem rv_t18 (w : Ws) (p l : Nat) (s : Bool) : rv w 18 p l s = (if wk w p 1 then rv w 18 (p + 1) l false else ok p) := rv_eq w 18 p l s
theorem rv_t19 (w : Ws) (p l : Nat) (s : Bool) : rv w 19 p l s = (if wo w p then rv w 19 (p + 1) l false else ok p) := rv_eq w 19 p l s
theorem rv_t21 (w : Ws) (p l : Nat) (s : Bool) : rv w 21 p l s = (if ww w p 50 then (if ww w (p + 1) 51 then bd (rv w 10 (p + 2) (l + 1) false) (fun q _ => ok (sk (ww w q 72) q)) else no (p + 1)) else ok (sk (ww w p 72) p)) := rv_eq w 21 p l s
theorem rv_t22 (w : Ws) (p l : Nat) (s : Bool) : rv w 22 p l s = (if wk w p 2 || wk w p 1 && ww w (p + 1) 23 then (if ww w (p + 1) 23 then ok (p + 2) else no (p + 1)) else if ww w p 56 then bd (rv w 5 (p + 1) l false) (fun q _ => ok q) else if ww w p 57 then (if wk w (p + 1) 1 then (if ww w (p + 2) 58 then (if wo w (p + 3) then (if ww w (p + 4) 25 then (if wo w (p + 5) then (if ww w (p + 6) 56 then bd (rv w 5 (p + 7) l false) (fun q _ => ok q) else no (p + 6)) else no (p + 5)) else no (p + 4)) else no (p + 3)) else no (p + 2)) else no (p + 1)) else ok p) := rv_eq w 22 p l s
theorem rv_t23 (w : Ws) (p l : Nat) (s : Bool) : rv w 23 p l s = (if ww w p 62 then bd (rv w 10 (p + 1) (l + 1) false) (fun q _ => ok (sk (ww w q 77) q)) else ok (sk (ww w p 77) p)) := rv_eq w 23 p l s
theorem rv_t24 (w : Ws) (p l : Nat) (s : Bool) : rv w 24 p l s = (if wk w p 4 then ok (p + 1) else bd (rv w 25 p l false) (fun q _ => rv w 24 q l false)) := rv_eq w 24 p l s
theorem rv_t25 (w : Ws) (p l : Nat) (s : Bool) : rv w 25 p l s = (if ww w p 19 then (if wk w (sk (ww w (p + 1) 67) (p + 1)) 3 then ok (sk (ww w (p + 1) 67) (p + 1) + 1) else no (sk (ww w (p + 1) 67) (p + 1))) else if ww w p 20 then rv w 33 (sk (ww w (p + 1) 67) (p + 1)) l false else if ww w p 22 then (if wk w (p + 1) 2 then rv w 26 (sk (ww w (p + 2) 23) (p + 2)) l false else no (p + 1)) else if ww w p 26 then (if wk w (p + 1) 1 then ok (p + 2) else no (p + 1)) else if ww w p 27 then rv w 34 (sk (ww w (p + 1) 67) (p + 1)) l false else no p) := rv_eq w 25 p l s
theorem rv_t26 (w : Ws) (p l : Nat) (s : Bool) : rv w 26 p l s = (if ww w p 24 then (if wk w (p + 1) 1 then rv w 27 (p + 2) l false else no (p + 1)) else rv w 27 p l false) := rv_eq w 26 p l s
theorem rv_t27 (w : Ws) (p l : Nat) (s : Bool) : rv w 27 p l s = (if ww w p 10 then rv w 17 (sk (ww w (p + 1) 25) (p + 1)) l false else ok p) := rv_eq w 27 p l s
theorem rv_t28 (w : Ws) (p l : Nat) (s : Bool) : rv w 28 p l s = (if wk w (p + 1) 1 then (if ww w (p + 2) 6 then rv w 35 (sk (ww w (p + 3) 48) (p + 3)) l false else no (p + 2)) else no (p + 1)) := rv_eq w 28 p l s
theorem rv_t29 (w : Ws) (p l : Nat) (s : Bool) : rv w 29 p l s = (if ww w p 7 then rv w 36 (sk (ww w (p + 1) 67) (p + 1)) l false else rv w 30 p l false) := rv_eq w 29 p l s
theorem rv_t30 (w : Ws) (p l : Nat) (s : Bool) : rv w 30 p l s = (if ww w p 11 then rv w 37 (sk (ww w (p + 1) 67) (p + 1)) l false else rv w 31 p l false) := rv_eq w 30 p l s
theorem rv_t31 (w : Ws) (p l : Nat) (s : Bool) : rv w 31 p l s = (if wk w p 4 then ok (p + 1) else no p) := rv_eq w 31 p l s
theorem rv_t32 (w : Ws) (p l : Nat) (s : Bool) : rv w 32 p l s = (if ww w (p + 1) 1 then (if ww w (p + 2) 31 then bd (rv w 17 (p + 3) l false) (fun q _ => rv w 31 q l false) else rv w 31 (p + 2) l false) else no (p + 1)) := rv_eq w 32 p l s
theorem rv_t33 (w : Ws) (p l : Nat) (s : Bool) : rv w 33 p l s = (if wk w p 2 || wk w p 3 then (if ww w (p + 1) 21 then (if wk w (p + 2) 2 || wk w (p + 2) 3 then ok (p + 3) else no (p + 2)) else ok (p + 1)) else no p) := rv_eq w 33 p l s
theorem rv_t34 (w : Ws) (p l : Nat) (s : Bool) : rv w 34 p l s = (if ww w p 29 then ok (p + 1) else if ww w p 28 then ok (p + 1) else no p) := rv_eq w 34 p l s
theorem rv_t35 (w : Ws) (p l : Nat) (s : Bool) : rv w 35 p l s = (if wk w p 1 || wk w p 3 then rv w 29 (p + 1) l false else no p) := rv_eq w 35 p l s
theorem rv_t36 (w : Ws) (p l : Nat) (s : Bool) : rv w 36 p l s = (if wk w p 0 && (decide (8 ≤ (w.2.1 p).toInt) && decide ((w.2.1 p).toInt ≤ 10)) then rv w 30 (p + 1) l false else no p) := rv_eq w 36 p l s
theorem rv_t37 (w : Ws) (p l : Nat) (s : Bool) : rv w 37 p l s = (if wk w p 1 then rv w 31 (p + 1) l false else no p) := rv_eq w 37 p l s
theorem rv_t129 (w : Ws) (p l : Nat) (s : Bool) : rv w 129 p l s = (if wo w (p + 1) then rv w 19 (p + 2) l false else no (p + 1)) := rv_eq w 129 p l s
theorem rv_t136 (w : Ws) (p l : Nat) (s : Bool) : rv w 136 p l s = (if wo w (p + 1) then (if ww w (p + 2) 48 then rv w 17 (p + 3) l false else no (p + 2)) else no (p + 1)) := rv_eq w 136 p l s
theorem rv_t137 (w : Ws) (p l : Nat) (s : Bool) : rv w 137 p l s = (if wo w (p + 1) then bd (rv w 19 (p + 2) l false) (fun q _ => if ww w q 49 then (if wk w (q + 1) 1 then rv w 21 (q + 2) l false else no (q + 1)) else if ww w q 48 then bd (rv w 17 (q + 1) l false) (fun q _ => rv w 21 q l false) else no q) else no (p + 1)) := rv_eq w 137 p l s
theorem rv_t138 (w : Ws) (p l : Nat) (s : Bool) : rv w 138 p l s = (bd (rv w 5 (p + 1) l false) fun q _ => bd (rv w 13 (sk (ww w q 52) q) l false) fun q _ => if ww w q 53 then bd (rv w 13 (q + 1) l false) (fun q _ => ok (sk (ww w q 73) q)) else ok (sk (ww w q 73) q)) := rv_eq w 138 p l s
theorem rv_t139 (w : Ws) (p l : Nat) (s : Bool) : rv w 139 p l s = (if wk w (p + 1) 1 && !ww w (p + 2) 23 then (if ww w (p + 2) 21 then (if wk w (p + 3) 1 then bd (rv w 22 (p + 4) l false) (fun q _ => ok q) else no (p + 3)) else bd (rv w 22 (p + 2) l false) (fun q _ => ok q)) else bd (rv w 22 (p + 1) l false) fun q _ => bd (rv w 10 q (l + 1) false) fun q _ => if ww w q 74 then ok (q + 1) else no q) := rv_eq w 139 p l s
theorem rv_t140 (w : Ws) (p l : Nat) (s : Bool) : rv w 140 p l s = (if wo w (p + 1) then (if ww w (p + 2) 59 then bd (rv w 14 (p + 2) l false) (fun q _ => ok (sk (ww w q 75) q)) else no (p + 2)) else no (p + 1)) := rv_eq w 140 p l s
theorem rv_t141 (w : Ws) (p l : Nat) (s : Bool) : rv w 141 p l s = (if wk w (p + 1) 1 then (if ww w (p + 2) 61 then (if ww w (p + 3) 33 then bd (rv w 10 (p + 4) (l + 1) false) (fun q _ => ok (sk (ww w q 76) q)) else no (p + 3)) else ok (sk (ww w (p + 2) 76) (p + 2))) else no (p + 1)) := rv_eq w 141 p l s
theorem rv_t142 (w : Ws) (p l : Nat) (s : Bool) : rv w 142 p l s = (if wk w (p + 1) 1 || wk w (p + 1) 3 then (if ww w (p + 2) 31 then bd (rv w 17 (p + 3) l false) (fun q _ => rv w 23 q l false) else rv w 23 (p + 2) l false) else no (p + 1)) := rv_eq w 142 p l s
theorem rv_t143 (w : Ws) (p l : Nat) (s : Bool) : rv w 143 p l s = (if wk w (sk (ww w (p + 1) 48) (p + 1)) 1 then ok (sk (ww w (p + 1) 48) (p + 1) + 1) else no (sk (ww w (p + 1) 48) (p + 1))) := rv_eq w 143 p l s
theorem rv_t144 (w : Ws) (p l : Nat) (s : Bool) : rv w 144 p l s = (if ww w (p + 1) 63 then ok (p + 2) else no (p + 1)) := rv_eq w 144 p l s
theorem rv_t145 (w : Ws) (p l : Nat) (s : Bool) : rv w 145 p l s = (ok (p + 1)) := rv_eq w 145 p l s
theorem rv_t146 (w : Ws) (p l : Nat) (s : Bool) : rv w 146 p l s = (ok (p + 1)) := rv_eq w 146 p l s
theorem rv_t147 (w : Ws) (p l : Nat) (s : Bool) : rv w 147 p l s = (if wk w (p + 1) 1 then (if wg w (p + 2) 2 then bd (rv w 0 (p + 3) l false) (fun q _ => ok (sk (ww w q 78) q)) else no (p + 2)) else no (p + 1)) := rv_eq w 147 p l s
