/-! The second machine's runs are the first one's. -/
abbrev a2_O : Type := Option Value ⊕ Nat
abbrev a2_S : Type := Option Nat × Nat × am_L × List Value × a2_G × a2_A
abbrev a2_T : Type := Nat → List Value → a2_G → a2_A → a2_O → a2_G → a2_A → Prop
/-- no reference to an array that may be made anew -/
def a2_nR (RG : List Nat) (v : Value) : Bool := RG.all (fun a => a2_nr a v)
def a2_nL (RG : List Nat) (v : Option Value) : Bool := match v with
  | some v => a2_nR RG v
  | none => true
def a2_bk (pc : Nat) (L : am_L) (S : List Value) (o : a2_O) (g : a2_G) (r : a2_A) : a2_S := match o with
  | .inl v => (none, pc + 3, L, v.toList ++ S, g, r)
  | .inr x => (some x, pc, L, S, g, r)
def a2_rc (cl : List vw_C) (Y : a2_Y) (M : am_M) (as : List Value) : Prop := ∃ (ci : Nat) (t : List Value) (q : vw_C), as = .ref ci :: t ∧ Y ci ≠ [] ∧ cl[ci]? = some q ∧ q.1 = (am_y M).cls
/-- what Arrays.copyOf makes -/
def a2_cp (n : Nat) (e : Nat × (Nat → Int32)) : Nat × (Nat → Int32) := (n, va_cpy e.2 (fun _ => 0) 0 0 (if n < e.1 then n else e.1))
def a2_Stp (F : am_F) (cl : List vw_C) (ms : Nat → Option am_M) (Y : a2_Y) (RG : List Nat) (jc : Nat) (E : a2_T) (M : am_M) (a b : a2_S) : Prop :=
  (∃ pc L S g r i len z, a = (none, pc, L, S, g, r) ∧ (am_cd M).lookup pc = some (i, len) ∧ a2_st F Y (am_y M).cls i len pc L S g r = some z ∧ b = (none, z)) ∨
  (∃ pc L S g r i len j w N as rest o g' r', a = (none, pc, L, S, g, r) ∧ (am_cd M).lookup pc = some (i, len) ∧ am_call F (am_y M).cls i len = some (j, w) ∧ (w = 0 ∨ w = 2 ∨ w = 3) ∧ ms j = some N ∧ as.length = am_k N ∧ S = as.reverse ++ rest ∧
    (w = 0 ∨ w = 3 → a2_rc cl Y N as) ∧ (rest.map fun v => v.category).sum ≤ 8 ∧ rest.all (a2_nR RG) = true ∧ L.all (a2_nL RG) = true ∧ E j as g r o g' r' ∧ b = a2_bk pc L rest o g' r') ∨
  (∃ pc L g r i len j w x y rest, a = (none, pc, L, .int y :: .int x :: rest, g, r) ∧ (am_cd M).lookup pc = some (i, len) ∧ am_call F (am_y M).cls i len = some (j, w) ∧ (w = 7 ∨ w = 8) ∧ (rest.map fun v => v.category).sum ≤ 8 ∧ b = (none, pc + 3, L, .int (if w = 7 then (if x < y then y else x) else (if y < x then y else x)) :: rest, g, r)) ∨
  (∃ pc L g r i len k2 ci j ty q c2 j2 q2 n rest, a = (none, pc, L, .int n :: .ref (10000 + (100 * c2 + j2)) :: .ref ci :: rest, g, r) ∧ (am_cd M).lookup pc = some (i, len) ∧ am_call F (am_y M).cls i len = some (jc, 2) ∧ (am_cd M).lookup (pc + 3) = some (.putfield k2, 3) ∧ am_fl F (am_y M).cls k2 = some (ci, j, ty, false) ∧ ty = .array .int ∧ (Y ci)[j]? = some (3, q) ∧ (Y c2)[j2]? = some (3, q2) ∧ (100 * ci + j) ∈ RG ∧
    ¬ n < 0 ∧ n.toNatClampNeg ≤ 60000000 ∧ n.toNatClampNeg ≠ (r (100 * c2 + j2)).1 ∧ (r (100 * c2 + j2)).1 ≤ 60000000 ∧ (rest.map fun v => v.category).sum ≤ 7 ∧ rest.all (a2_nR RG) = true ∧ L.all (a2_nL RG) = true ∧ 100 * c2 + j2 = 100 * ci + j ∧ 0 < (r (100 * c2 + j2)).1 ∧ 2 * (r (100 * c2 + j2)).1 ≤ n.toNatClampNeg ∧ b = (none, pc + 6, L, rest, g, a2_ua r (100 * ci + j) (a2_cp n.toNatClampNeg (r (100 * c2 + j2)))))
def a2_fin (F : am_F) (M : am_M) (a : a2_S) (z : a2_O × a2_G × a2_A) : Prop :=
  (∃ pc L v g r ty, a = (none, pc, L, [.int v], g, r) ∧ (am_cd M).lookup pc = some (.ireturn, 1) ∧ am_r M = some ty ∧ narrow ty (.int v) = .int v ∧ z = (.inl (some (.int v)), g, r)) ∨
  (∃ pc L g r, a = (none, pc, L, [], g, r) ∧ (am_cd M).lookup pc = some (.return_, 1) ∧ am_r M = none ∧ z = (.inl none, g, r)) ∨
  (∃ pc L S g r x, a = (some x, pc, L, S, g, r) ∧ am_hs M = [] ∧ z = (.inr x, g, r)) ∨
  (∃ pc L S g r x, a = (none, pc, L, S, g, r) ∧ am_tw F (am_y M).cls (am_cd M) pc = some x ∧ am_hs M = [] ∧ (S.map fun v => v.category).sum ≤ 8 ∧ z = (.inr x, g, r))
def a2_Go (F : am_F) (cl : List vw_C) (ms : Nat → Option am_M) (Y : a2_Y) (RG : List Nat) (jc : Nat) (E : a2_T) (M : am_M) (z : a2_O × a2_G × a2_A) (a : a2_S) : Prop :=
  ∀ P : a2_S → Prop, (∀ a, a2_fin F M a z → P a) → (∀ a b, a2_Stp F cl ms Y RG jc E M a b → P b → P a) → P a
theorem a2_Go.fin {F : am_F} {cl : List vw_C} {ms : Nat → Option am_M} {Y : a2_Y} {RG : List Nat} {jc : Nat} {E : a2_T} {M : am_M} {z : a2_O × a2_G × a2_A} {a : a2_S} (h : a2_fin F M a z) : a2_Go F cl ms Y RG jc E M z a := fun _ h1 _ => h1 a h
theorem a2_Go.step {F : am_F} {cl : List vw_C} {ms : Nat → Option am_M} {Y : a2_Y} {RG : List Nat} {jc : Nat} {E : a2_T} {M : am_M} {z : a2_O × a2_G × a2_A} {a b : a2_S} (h : a2_Stp F cl ms Y RG jc E M a b) (k : a2_Go F cl ms Y RG jc E M z b) : a2_Go F cl ms Y RG jc E M z a := fun P h1 h2 => h2 a b h (k P h1 h2)
def a2_Ev (F : am_F) (cl : List vw_C) (ms : Nat → Option am_M) (Y : a2_Y) (RG : List Nat) (jc : Nat) : Nat → a2_T
  | 0 => fun _ _ _ _ _ _ _ => False
  | d + 1 => fun j as g r o g' r' => ∃ M, ms j = some M ∧ as.length = am_k M ∧ am_k M ≤ am_n M ∧ (∀ v ∈ as, v.category = 1) ∧ as.all (a2_nR RG) = true ∧ (am_y M).name ≠ "<init>" ∧ a2_Go F cl ms Y RG jc (a2_Ev F cl ms Y RG jc d) M (o, g', r') (none, 0, am_ent M as, [], g, r)
/-- references other than those to arrays made anew stay -/
def a2_ex (RG : List Nat) (rho rho' : Nat → Nat) : Prop := ∀ k, (∀ a ∈ RG, k ≠ 10000 + a) → rho' k = rho k
theorem a2_ex.rf (RG : List Nat) (rho : Nat → Nat) : a2_ex RG rho rho := fun _ _ => rfl
theorem a2_ex.trans {RG : List Nat} {a b c : Nat → Nat} (h1 : a2_ex RG a b) (h2 : a2_ex RG b c) : a2_ex RG a c := fun k hk => (h2 k hk).trans (h1 k hk)
theorem a2_ex.tv {RG : List Nat} {rho rho' : Nat → Nat} (h : a2_ex RG rho rho') {v : Value} (hv : a2_nR RG v = true) : a2_tv rho' v = a2_tv rho v := by
  cases v with
  | ref k =>
    refine congrArg Value.ref (h k fun a ha => ?_)
    exact of_decide_eq_true (List.all_eq_true.mp hv a ha)
  | _ => rfl
theorem a2_ex.map {RG : List Nat} {rho rho' : Nat → Nat} (h : a2_ex RG rho rho') {S : List Value} (hS : S.all (a2_nR RG) = true) : S.map (a2_tv rho') = S.map (a2_tv rho) := List.map_congr_left fun v hv => h.tv (List.all_eq_true.mp hS v hv)
theorem a2_ex.tl {RG : List Nat} {rho rho' : Nat → Nat} (h : a2_ex RG rho rho') {L : am_L} (hL : L.all (a2_nL RG) = true) : a2_tl rho' L = a2_tl rho L := List.map_congr_left fun v hv => by
  cases v with
  | none => rfl
  | some v => exact congrArg some (h.tv (List.all_eq_true.mp hL _ hv))
/-- what the first machine's outcome is -/
def a2_oc (o : a2_O) (o1 : am_O) : Prop := match o, o1 with
  | .inl none, .inl none => True
  | .inl (some (.int v)), .inl (some w) => w = .int v
  | .inr x, .inr (x', _) => x' = x
  | _, _ => False
/-- how long the arrays are that may be made anew -/
def a2_ln (RG : List Nat) (r : a2_A) : Nat := (RG.map fun q => (r q).1).sum
theorem a2_ln_eq {RG : List Nat} {r r' : a2_A} (h : ∀ q, (r' q).1 = (r q).1) : a2_ln RG r' = a2_ln RG r := by
  unfold a2_ln
  rw [List.map_congr_left fun q _ => h q]
theorem a2_ln_ua {r : a2_A} {q : Nat} {e : Nat × (Nat → Int32)} : ∀ {RG : List Nat}, RG.Nodup → q ∈ RG → a2_ln RG (a2_ua r q e) + (r q).1 = a2_ln RG r + e.1
  | [], _, h => by cases h
  | p :: t, hn, h => by
    have hn' := List.nodup_cons.mp hn
    unfold a2_ln
    rw [List.map_cons, List.map_cons, List.sum_cons, List.sum_cons]
    by_cases hp : q = p
    · subst hp
      have e1 : (t.map fun x => (a2_ua r q e x).1) = t.map fun x => (r x).1 := List.map_congr_left fun x hx => by
        have hx' : x ≠ q := fun e => hn'.1 (e ▸ hx)
        simp only [a2_ua, if_neg hx']
      rw [e1, show a2_ua r q e q = e from if_pos rfl]
      omega
    · have ht : q ∈ t := (List.mem_cons.mp h).resolve_left hp
      have ih := a2_ln_ua (r := r) (e := e) hn'.2 ht
      unfold a2_ln at ih
      rw [show a2_ua r q e p = r p from if_neg (fun e => hp e.symm)]
      omega
/-- one cell for what is thrown, none else -/
def a2_tn (x : Option Nat) (o : a2_O) : Nat := match x, o with
  | none, .inr _ => 1
  | _, _ => 0
/-- how many cells and slots are new: for arrays made anew no more than they grew -/
def a2_bd (RG : List Nat) (t : Nat) (r : a2_A) (h : am_H) (r' : a2_A) (h' : am_H) : Prop := h'.length + a2_ln RG r ≤ h.length + a2_ln RG r' + t ∧ am_sz h' + 2 * a2_ln RG r ≤ am_sz h + 2 * a2_ln RG r' + 6 * t
theorem a2_bd.rf {RG : List Nat} {t : Nat} {r : a2_A} {h : am_H} : a2_bd RG t r h r h := ⟨by omega, by omega⟩
theorem a2_bd.trans {RG : List Nat} {t1 t2 : Nat} {r1 r2 r3 : a2_A} {h1 h2 h3 : am_H} (a : a2_bd RG t1 r1 h1 r2 h2) (b : a2_bd RG t2 r2 h2 r3 h3) : a2_bd RG (t1 + t2) r1 h1 r3 h3 := by
  obtain ⟨a1, a2⟩ := a
  obtain ⟨b1, b2⟩ := b
  exact ⟨by omega, by omega⟩
/-- .. and a whole state of a method -/
def a2_Pm (F : am_F) (cl : List vw_C) (ms : Nat → Option am_M) (Y : a2_Y) (RG : List Nat) (d : Nat) (M : am_M) (z : a2_O × a2_G × a2_A) (a : a2_S) : Prop := ∀ (rho : Nat → Nat) (h : am_H) (x1 : Option (Nat × Nat)), a2_Rel Y rho a.2.2.2.2.1 a.2.2.2.2.2 h → x1.map (fun q => q.1) = a.1 →
  ∃ (rho' : Nat → Nat) (h' : am_H) (o1 : am_O), am_Go F cl ms (am_Ev F cl ms d) M (o1, h') (x1, a.2.1, a2_tl rho a.2.2.1, a.2.2.2.1.map (a2_tv rho), h) ∧ a2_Rel Y rho' z.2.1 z.2.2 h' ∧ a2_ex RG rho rho' ∧ a2_oc z.1 o1 ∧ a2_bd RG (a2_tn a.1 z.1) a.2.2.2.2.2 h z.2.2 h' ∧ (a.1 ≠ none → ∃ x, z.1 = .inr x)
