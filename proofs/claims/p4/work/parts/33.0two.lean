/-! A SECOND ABSTRACT MACHINE, without cells: every class has one object, every field is a register. A reference below 9000 is the object of the class of that number; 10000 + 100 * class + field is the array that this field holds. -/
abbrev a2_G : Type := Nat → Int32
abbrev a2_A : Type := Nat → Nat × (Nat → Int32)
/-- the fields of a class: 0 int, 1 boolean, 2 an object (its class), 3 ints, 4 booleans -/
abbrev a2_Y : Type := Nat → List (Nat × Nat)
def a2_ua (f : a2_A) (k : Nat) (x : Nat × (Nat → Int32)) : a2_A := fun j => if j = k then x else f j
def a2_fv (Y : a2_Y) (ci j : Nat) (g : a2_G) : Option Value := match (Y ci)[j]? with
  | some (0, _) => some (.int (g (100 * ci + j)))
  | some (1, _) => some (.int (g (100 * ci + j)))
  | some (2, cj) => some (.ref cj)
  | some (3, _) => some (.ref (10000 + (100 * ci + j)))
  | some (4, _) => some (.ref (10000 + (100 * ci + j)))
  | _ => none
/-- no reference to the array of a field that is made anew -/
def a2_nr (a : Nat) (v : Value) : Bool := match v with
  | .ref k => decide (k ≠ 10000 + a)
  | _ => true
def a2_nl (a : Nat) (v : Option Value) : Bool := match v with
  | some v => a2_nr a v
  | none => true
/-- which array a reference is, and of what: 3 ints, 4 booleans -/
def a2_ar (Y : a2_Y) (k : Nat) : Option (Nat × Nat) := if 10000 ≤ k then match (Y ((k - 10000) / 100))[(k - 10000) % 100]? with
    | some (3, _) => some (k - 10000, 3)
    | some (4, _) => some (k - 10000, 4)
    | _ => none
  else none
def a2_st (F : am_F) (Y : a2_Y) (own : String) (i : Instr) (len pc : Nat) (L : am_L) (S : List Value) (g : a2_G) (r : a2_A) : Option (Nat × am_L × List Value × a2_G × a2_A) :=
  match i, len, S with
  | .getfield k, 3, .ref a :: S => match am_fl F own k with
    | some (ci, j, _, _) => if a = ci then match a2_fv Y ci j g with
        | some v => some (pc + 3, L, v :: S, g, r)
        | none => none
      else none
    | none => none
  | .putfield k, 3, v :: .ref a :: S => match am_fl F own k with
    | some (ci, j, _, false) => if a = ci then match (Y ci)[j]?, v with
        | some (0, _), .int x => some (pc + 3, L, S, upd g (100 * ci + j) x, r)
        | some (1, _), .int x => if x = 0 ∨ x = 1 then some (pc + 3, L, S, upd g (100 * ci + j) x, r) else none
        | _, _ => none
      else none
    | _ => none
  | .arraylength, 1, .ref a :: S => match a2_ar Y a with
    | some (q, _) => some (pc + 1, L, .int (Int32.ofNat (r q).1) :: S, g, r)
    | none => none
  | .iaload, 1, .int i :: .ref a :: S => match a2_ar Y a with
    | some (q, 3) => if am_inr i (r q).1 then some (pc + 1, L, .int ((r q).2 i.toNatClampNeg) :: S, g, r) else none
    | _ => none
  | .iastore, 1, .int x :: .int i :: .ref a :: S => match a2_ar Y a with
    | some (q, 3) => if am_inr i (r q).1 then some (pc + 1, L, S, g, a2_ua r q ((r q).1, upd (r q).2 i.toNatClampNeg x)) else none
    | _ => none
  | .baload, 1, .int i :: .ref a :: S => match a2_ar Y a with
    | some (q, 4) => if am_inr i (r q).1 then some (pc + 1, L, .int ((r q).2 i.toNatClampNeg) :: S, g, r) else none
    | _ => none
  | .bastore, 1, .int x :: .int i :: .ref a :: S => match a2_ar Y a with
    | some (q, 4) => if am_inr i (r q).1 then some (pc + 1, L, S, g, a2_ua r q ((r q).1, upd (r q).2 i.toNatClampNeg (vp_nar .boolean x))) else none
    | _ => none
  | i, len, S => match am_st F own false i len pc L S [] with
    | some (pc', L', S', []) => some (pc', L', S', g, r)
    | _ => none
/-- values of the second machine, as the first has them -/
def a2_tv (rho : Nat → Nat) (v : Value) : Value := match v with
  | .ref k => .ref (rho k)
  | v => v
theorem a2_tv_cat (rho : Nat → Nat) (v : Value) : (a2_tv rho v).category = v.category := by cases v <;> rfl
theorem a2_tv_R (rho : Nat → Nat) (v : Value) : am_isR (a2_tv rho v) = am_isR v := by cases v <;> rfl
abbrev a2_tl (rho : Nat → Nat) (L : am_L) : am_L := L.map (fun o => o.map (a2_tv rho))
theorem a2_tl_get {rho : Nat → Nat} {L : am_L} {k : Nat} {v : Value} (h : L[k]? = some (some v)) : (a2_tl rho L)[k]? = some (some (a2_tv rho v)) := by
  show (L.map _)[k]? = _
  rw [List.getElem?_map, h]
  rfl
theorem a2_tl_set {rho : Nat → Nat} {L : am_L} {k : Nat} {v : Value} : a2_tl rho (L.set k (some v)) = (a2_tl rho L).set k (some (a2_tv rho v)) := by
  show (L.set k (some v)).map _ = _
  rw [List.map_set]
  rfl
/-- an instruction that touches no cell does the same over any cells -/
theorem a2_simple {F : am_F} {own : String} {ini : Bool} {i : Instr} {len pc pc' : Nat} {L L' : am_L} {S S' : List Value} (rho : Nat → Nat) (h : am_H) (hs : am_st F own ini i len pc L S [] = some (pc', L', S', [])) :
    am_st F own ini i len pc (a2_tl rho L) (S.map (a2_tv rho)) h = some (pc', a2_tl rho L', S'.map (a2_tv rho), h) := by
  unfold am_st at hs
  split at hs
  · cases hs; rfl
  · cases hs; rfl
  · cases hs; rfl
  -- ldc
  · split at hs
    · rename_i hv
      cases hs
      simp [am_st, hv, a2_tv]
    · cases hs
  -- iload_n, iload
  · split at hs
    · rename_i hv
      cases hs
      simp [am_st, a2_tl_get hv, a2_tv]
    · cases hs
  · split at hs
    · rename_i hv
      cases hs
      simp [am_st, a2_tl_get hv, a2_tv]
    · cases hs
  -- aload_n, aload
  · split at hs
    · rename_i v hv
      split at hs
      · rename_i hr
        cases hs
        simp [am_st, a2_tl_get hv, a2_tv_R, hr]
      · cases hs
    · cases hs
  · split at hs
    · rename_i v hv
      split at hs
      · rename_i hr
        cases hs
        simp [am_st, a2_tl_get hv, a2_tv_R, hr]
      · cases hs
    · cases hs
  -- istore_n, istore
  · split at hs
    · rename_i hk
      cases hs
      rw [a2_tl_set]
      simp [am_st, a2_tv, hk]
    · cases hs
  · split at hs
    · rename_i hk
      cases hs
      rw [a2_tl_set]
      simp [am_st, a2_tv, hk]
    · cases hs
  -- astore_n, astore
  · split at hs
    · rename_i hk
      cases hs
      rw [a2_tl_set]
      simp [am_st, a2_tv_R, hk.1, hk.2]
    · cases hs
  · split at hs
    · rename_i hk
      cases hs
      rw [a2_tl_set]
      simp [am_st, a2_tv_R, hk.1, hk.2]
    · cases hs
  -- iinc
  · split at hs
    · rename_i hv
      cases hs
      rw [a2_tl_set]
      simp [am_st, a2_tl_get hv, a2_tv]
    · cases hs
  -- dup, dup2, pop
  · split at hs
    · rename_i hk
      cases hs
      simp [am_st, a2_tv_cat, hk]
    · cases hs
  · split at hs
    · rename_i hk
      cases hs
      simp [am_st, a2_tv_cat, hk.1, hk.2]
    · cases hs
  · split at hs
    · rename_i hk
      cases hs
      simp [am_st, a2_tv_cat, hk]
    · cases hs
  -- arithmetic
  · cases hs; rfl
  · cases hs; rfl
  · cases hs; rfl
  · cases hs; rfl
  · cases hs; rfl
  · cases hs; rfl
  -- goto, ifs
  · split at hs
    · rename_i t ht
      cases hs
      simp [am_st, ht]
    · cases hs
  · split at hs
    · rename_i t ht
      cases hs
      simp [am_st, ht, a2_tv]
    · cases hs
  · split at hs
    · rename_i t ht
      cases hs
      simp [am_st, ht, a2_tv]
    · cases hs
  -- switches
  · split at hs
    · rename_i hcnd
      split at hs
      · rename_i t ht
        cases hs
        simp [am_st, ht, a2_tv, hcnd]
      · cases hs
    · rename_i hcnd
      split at hs
      · rename_i off hoff
        split at hs
        · rename_i t ht
          cases hs
          simp only [am_st, List.map_cons, a2_tv, if_neg hcnd, hoff, ht]
        · cases hs
      · cases hs
  · split at hs
    · rename_i hcnd
      split at hs
      · rename_i t ht
        cases hs
        simp only [am_st, List.map_cons, a2_tv, if_pos hcnd, ht]
      · cases hs
    · cases hs
  -- what touches cells
  · simp at hs
  · simp at hs
  · split at hs
    · simp at hs
    · cases hs
  · split at hs
    · cases hs
    · split at hs
      · simp at hs
      · cases hs
  · split at hs
    · cases hs
      simp [am_st, a2_tv]
    · simp at hs
    · cases hs
  · split at hs
    · split at hs
      · rename_i hi
        cases hs
        simp [am_st, a2_tv, hi]
      · cases hs
    · simp at hs
    · cases hs
  · simp at hs
  · simp at hs
  · simp at hs
  · simp at hs
  · simp at hs
  · cases hs
/-- the fields of a class's object -/
def a2_f1 (rho : Nat → Nat) (ci j : Nat) (k : Nat × Nat) (g : a2_G) : Value := match k with
  | (0, _) => .int (g (100 * ci + j))
  | (1, _) => .int (g (100 * ci + j))
  | (2, cj) => .ref (rho cj)
  | (3, _) => .ref (rho (10000 + (100 * ci + j)))
  | (4, _) => .ref (rho (10000 + (100 * ci + j)))
  | _ => .null
def a2_fs (Y : a2_Y) (rho : Nat → Nat) (ci : Nat) (g : a2_G) : List Value := (Y ci).mapIdx (fun j k => a2_f1 rho ci j k g)
/-- the registers are what the cells hold -/
def a2_Rel (Y : a2_Y) (rho : Nat → Nat) (g : a2_G) (r : a2_A) (h : am_H) : Prop :=
  (∀ ci, Y ci ≠ [] → h[rho ci]? = some (.inl (ci, a2_fs Y rho ci g))) ∧
  (∀ ci j x, (Y ci)[j]? = some (3, x) → h[rho (10000 + (100 * ci + j))]? = some (.inr (.inl (false, r (100 * ci + j))))) ∧
  (∀ ci j x, (Y ci)[j]? = some (4, x) → h[rho (10000 + (100 * ci + j))]? = some (.inr (.inl (true, r (100 * ci + j))))) ∧
  (∀ ci j x ci' j' x', (Y ci)[j]? = some (3, x) ∨ (Y ci)[j]? = some (4, x) → (Y ci')[j']? = some (3, x') ∨ (Y ci')[j']? = some (4, x') → rho (10000 + (100 * ci + j)) = rho (10000 + (100 * ci' + j')) → ci = ci' ∧ j = j') ∧
  (∀ ci, (Y ci).length ≤ 100)
/-- the layout is the table's -/
def a2_okY (F : am_F) (Y : a2_Y) : Prop := ∀ own k ci j ty fin, am_fl F own k = some (ci, j, ty, fin) → ∀ q, ((Y ci)[j]? = some (0, q) → ty = .int) ∧ ((Y ci)[j]? = some (1, q) → ty = .boolean)
theorem a2_fs_get {Y : a2_Y} {rho : Nat → Nat} {ci j : Nat} {g : a2_G} {k : Nat × Nat} (h : (Y ci)[j]? = some k) : (a2_fs Y rho ci g)[j]? = some (a2_f1 rho ci j k g) := by
  simp [a2_fs, h]
theorem a2_fv_f1 {Y : a2_Y} {rho : Nat → Nat} {ci j : Nat} {g : a2_G} {v : Value} (h : a2_fv Y ci j g = some v) : (a2_fs Y rho ci g)[j]? = some (a2_tv rho v) := by
  unfold a2_fv at h
  split at h <;> first | (rename_i hk; cases h; rw [a2_fs_get hk]; rfl) | cases h
theorem a2_fs_upd {Y : a2_Y} {rho : Nat → Nat} {ci j : Nat} {g : a2_G} {x : Int32} {b : Nat} (hb : b = 0 ∨ b = 1) {q : Nat} (h : (Y ci)[j]? = some (b, q)) (hl : (Y ci).length ≤ 100) : a2_fs Y rho ci (upd g (100 * ci + j) x) = (a2_fs Y rho ci g).set j (.int x) := by
  apply List.ext_getElem?
  intro i
  have hj : j < (Y ci).length := (List.getElem?_eq_some_iff.mp h).1
  by_cases hi : i = j
  · subst hi
    rw [a2_fs_get h, List.getElem?_set_self (by simp [a2_fs]; exact hj)]
    rcases hb with rfl | rfl <;> simp [a2_f1, upd]
  · rw [List.getElem?_set_ne (Ne.symm hi)]
    cases hk : (Y ci)[i]? with
    | none => simp [a2_fs, hk]
    | some k =>
      rw [a2_fs_get hk, a2_fs_get hk]
      have hne : 100 * ci + i ≠ 100 * ci + j := by omega
      unfold a2_f1
      split <;> simp [upd, hi]
theorem a2_fs_keep {Y : a2_Y} {rho : Nat → Nat} {ci ci' j : Nat} {g : a2_G} {x : Int32} (hl : (Y ci').length ≤ 100) (hj : j < 100) (hne : ci' ≠ ci) : a2_fs Y rho ci' (upd g (100 * ci + j) x) = a2_fs Y rho ci' g := by
  apply List.ext_getElem?
  intro i
  cases hk : (Y ci')[i]? with
  | none => simp [a2_fs, hk]
  | some k =>
    rw [a2_fs_get hk, a2_fs_get hk]
    have hi : i < 100 := Nat.lt_of_lt_of_le (List.getElem?_eq_some_iff.mp hk).1 hl
    have h1 : ¬ 100 * ci' + i = 100 * ci + j := by omega
    unfold a2_f1
    split <;> simp [upd, h1]
theorem a2_ar_eq {Y : a2_Y} {a q z : Nat} (h : a2_ar Y a = some (q, z)) : ∃ ci j x, a = 10000 + (100 * ci + j) ∧ q = 100 * ci + j ∧ (Y ci)[j]? = some (z, x) ∧ (z = 3 ∨ z = 4) := by
  unfold a2_ar at h
  split at h
  · rename_i hk
    split at h
    · rename_i x hx
      obtain ⟨e1, e2⟩ := Prod.mk.inj (Option.some.inj h)
      exact ⟨(a - 10000) / 100, (a - 10000) % 100, x, by omega, by omega, by rw [← e2]; exact hx, Or.inl e2.symm⟩
    · rename_i x hx
      obtain ⟨e1, e2⟩ := Prod.mk.inj (Option.some.inj h)
      exact ⟨(a - 10000) / 100, (a - 10000) % 100, x, by omega, by omega, by rw [← e2]; exact hx, Or.inr e2.symm⟩
    · cases h
  · cases h
theorem a2_ne {α : Type} {l : List α} {j : Nat} {x : α} (h : l[j]? = some x) : l ≠ [] := fun e => by rw [e] at h; cases h
/-- an array changes -/
theorem a2_Rel.arr {Y : a2_Y} {rho : Nat → Nat} {g : a2_G} {r : a2_A} {h : am_H} (hR : a2_Rel Y rho g r h) {ci j z x : Nat} (hz : z = 3 ∨ z = 4) (hk : (Y ci)[j]? = some (z, x)) (e : Nat × (Nat → Int32)) :
    a2_Rel Y rho g (a2_ua r (100 * ci + j) e) (h.set (rho (10000 + (100 * ci + j))) (.inr (.inl (decide (z = 4), e)))) := by
  obtain ⟨h1, h2, h3, h4, h5⟩ := hR
  have hcell : ∃ b' e', h[rho (10000 + (100 * ci + j))]? = some (.inr (.inl (b', e'))) := by
    rcases hz with rfl | rfl
    · exact ⟨_, _, h2 ci j x hk⟩
    · exact ⟨_, _, h3 ci j x hk⟩
  obtain ⟨b', e', hcell⟩ := hcell
  have hlt := (List.getElem?_eq_some_iff.mp hcell).1
  have hz' : (Y ci)[j]? = some (3, x) ∨ (Y ci)[j]? = some (4, x) := by
    rcases hz with rfl | rfl
    · exact Or.inl hk
    · exact Or.inr hk
  have bound : ∀ {c i y z' : Nat}, (Y c)[i]? = some (z', y) → i < 100 := fun {c i y z'} hh => Nat.lt_of_lt_of_le (List.getElem?_eq_some_iff.mp hh).1 (h5 c)
  have other : ∀ {c i y : Nat}, (Y c)[i]? = some (3, y) ∨ (Y c)[i]? = some (4, y) → ¬ (c = ci ∧ i = j) → rho (10000 + (100 * ci + j)) ≠ rho (10000 + (100 * c + i)) ∧ 100 * c + i ≠ 100 * ci + j := by
    intro c i y hc hne
    refine ⟨fun e9 => hne ?_, fun e9 => hne ?_⟩
    · obtain ⟨q1, q2⟩ := h4 ci j x c i y hz' hc e9
      exact ⟨q1.symm, q2.symm⟩
    · have b1 : i < 100 := by rcases hc with hc | hc <;> exact bound hc
      have b2 : j < 100 := bound hk
      omega
  refine ⟨fun c hc => ?_, fun c i y hc => ?_, fun c i y hc => ?_, h4, h5⟩
  · have hne : rho (10000 + (100 * ci + j)) ≠ rho c := fun e9 => by
      have h6 := h1 c hc
      rw [← e9, hcell] at h6
      cases h6
    rw [List.getElem?_set_ne hne]
    exact h1 c hc
  · by_cases hs : c = ci ∧ i = j
    · obtain ⟨rfl, rfl⟩ := hs
      rw [hk] at hc
      cases hc
      rw [List.getElem?_set_self hlt]
      simp [a2_ua]
    · obtain ⟨q1, q2⟩ := other (Or.inl hc) hs
      rw [List.getElem?_set_ne q1]
      simp only [a2_ua, if_neg q2]
      exact h2 c i y hc
  · by_cases hs : c = ci ∧ i = j
    · obtain ⟨rfl, rfl⟩ := hs
      rw [hk] at hc
      cases hc
      rw [List.getElem?_set_self hlt]
      simp [a2_ua]
    · obtain ⟨q1, q2⟩ := other (Or.inr hc) hs
      rw [List.getElem?_set_ne q1]
      simp only [a2_ua, if_neg q2]
      exact h3 c i y hc
/-- a register changes -/
theorem a2_Rel.reg {Y : a2_Y} {rho : Nat → Nat} {g : a2_G} {r : a2_A} {h : am_H} (hR : a2_Rel Y rho g r h) {ci j z q : Nat} (hz : z = 0 ∨ z = 1) (hk : (Y ci)[j]? = some (z, q)) (x : Int32) :
    a2_Rel Y rho (upd g (100 * ci + j) x) r (h.set (rho ci) (.inl (ci, (a2_fs Y rho ci g).set j (.int x)))) := by
  obtain ⟨h1, h2, h3, h4, h5⟩ := hR
  have hcell := h1 ci (a2_ne hk)
  have hlt := (List.getElem?_eq_some_iff.mp hcell).1
  have hj : j < 100 := Nat.lt_of_lt_of_le (List.getElem?_eq_some_iff.mp hk).1 (h5 ci)
  refine ⟨fun c hc => ?_, fun c i y hc => ?_, fun c i y hc => ?_, h4, h5⟩
  · by_cases hs : c = ci
    · subst hs
      rw [List.getElem?_set_self hlt, a2_fs_upd hz hk (h5 c)]
    · have hne : rho ci ≠ rho c := fun e9 => by
        have h6 := h1 c hc
        rw [← e9, hcell] at h6
        have h7 := Option.some.inj h6
        have h8 : ci = c := congrArg (fun q : Nat × List Value => q.1) (Sum.inl.inj h7)
        exact hs h8.symm
      rw [List.getElem?_set_ne hne, a2_fs_keep (h5 c) hj hs]
      exact h1 c hc
  · have hne : rho ci ≠ rho (10000 + (100 * c + i)) := fun e9 => by
      have h6 := h2 c i y hc
      rw [← e9, hcell] at h6
      cases h6
    rw [List.getElem?_set_ne hne]
    exact h2 c i y hc
  · have hne : rho ci ≠ rho (10000 + (100 * c + i)) := fun e9 => by
      have h6 := h3 c i y hc
      rw [← e9, hcell] at h6
      cases h6
    rw [List.getElem?_set_ne hne]
    exact h3 c i y hc
/-- one instruction of the second machine is one of the first -/
theorem a2_one {F : am_F} {Y : a2_Y} (hY : a2_okY F Y) {own : String} {i : Instr} {len pc pc' : Nat} {L L' : am_L} {S S' : List Value} {g g' : a2_G} {r r' : a2_A} {rho : Nat → Nat} {h : am_H} (hs : a2_st F Y own i len pc L S g r = some (pc', L', S', g', r')) (hR : a2_Rel Y rho g r h) :
    ∃ h', am_st F own false i len pc (a2_tl rho L) (S.map (a2_tv rho)) h = some (pc', a2_tl rho L', S'.map (a2_tv rho), h') ∧ a2_Rel Y rho g' r' h' := by
  unfold a2_st at hs
  split at hs
  · rename_i k a S0
    split at hs
    · rename_i ci j ty fin hf
      split at hs
      · rename_i hac
        subst hac
        split at hs
        · rename_i v hv
          cases hs
          have hne : Y a ≠ [] := by
            unfold a2_fv at hv
            split at hv <;> first | (rename_i hk; exact a2_ne hk) | cases hv
          refine ⟨h, ?_, hR⟩
          simp [am_st, a2_tv, hf, hR.1 a hne, a2_fv_f1 (rho := rho) hv]
        · cases hs
      · cases hs
    · cases hs
  · rename_i k v a S0
    split at hs
    · rename_i ci j ty hf
      split at hs
      · rename_i hac
        subst hac
        split at hs
        · rename_i q x hk
          cases hs
          refine ⟨_, ?_, hR.reg (Or.inl rfl) hk x⟩
          have hj : j < (Y a).length := (List.getElem?_eq_some_iff.mp hk).1
          have ety := (hY _ _ _ _ _ _ hf q).1 hk
          subst ety
          simp [am_st, a2_tv, hf, hR.1 a (a2_ne hk), narrow, fits, a2_fs, hj]
        · rename_i q x hk
          split at hs
          · rename_i hx01
            cases hs
            refine ⟨_, ?_, hR.reg (Or.inr rfl) hk x⟩
            have hj : j < (Y a).length := (List.getElem?_eq_some_iff.mp hk).1
            have ety := (hY _ _ _ _ _ _ hf q).2 hk
            subst ety
            rcases hx01 with rfl | rfl <;> simp [am_st, a2_tv, hf, hR.1 a (a2_ne hk), narrow, fits, a2_fs, hj]
          · cases hs
        · cases hs
      · cases hs
    · cases hs
  · rename_i a S0
    split at hs
    · rename_i q z hq
      obtain ⟨ci, j, x, rfl, rfl, hk, hz⟩ := a2_ar_eq hq
      cases hs
      refine ⟨h, ?_, hR⟩
      rcases hz with rfl | rfl
      · simp [am_st, a2_tv, hR.2.1 ci j x hk]
      · simp [am_st, a2_tv, hR.2.2.1 ci j x hk]
    · cases hs
  · rename_i i a S0
    split at hs
    · rename_i q hq
      obtain ⟨ci, j, x, rfl, rfl, hk, -⟩ := a2_ar_eq hq
      split at hs
      · rename_i hi
        cases hs
        refine ⟨h, ?_, hR⟩
        simp [am_st, a2_tv, hR.2.1 ci j x hk, hi]
      · cases hs
    · cases hs
  · rename_i x0 i a S0
    split at hs
    · rename_i q hq
      obtain ⟨ci, j, x, rfl, rfl, hk, -⟩ := a2_ar_eq hq
      split at hs
      · rename_i hi
        cases hs
        refine ⟨_, ?_, hR.arr (Or.inl rfl) hk _⟩
        simp [am_st, a2_tv, hR.2.1 ci j x hk, hi]
      · cases hs
    · cases hs
  · rename_i i a S0
    split at hs
    · rename_i q hq
      obtain ⟨ci, j, x, rfl, rfl, hk, -⟩ := a2_ar_eq hq
      split at hs
      · rename_i hi
        cases hs
        refine ⟨h, ?_, hR⟩
        simp [am_st, a2_tv, hR.2.2.1 ci j x hk, hi]
      · cases hs
    · cases hs
  · rename_i x0 i a S0
    split at hs
    · rename_i q hq
      obtain ⟨ci, j, x, rfl, rfl, hk, -⟩ := a2_ar_eq hq
      split at hs
      · rename_i hi
        cases hs
        refine ⟨_, ?_, hR.arr (Or.inr rfl) hk _⟩
        simp [am_st, a2_tv, hR.2.2.1 ci j x hk, hi]
      · cases hs
    · cases hs
  · split at hs
    · rename_i hst
      cases hs
      exact ⟨h, a2_simple rho h hst, hR⟩
    · cases hs
