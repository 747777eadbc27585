/-! A SECOND ABSTRACT MACHINE, without cells: every class has one object, every field is a register. A reference below 9000 is the object of the class of that number; 10000 + 100 * class + field is the array that this field holds; 9000 is an array that was just made. -/
abbrev a2_G : Type := Nat → Int32
abbrev a2_A : Type := Nat → Nat × (Nat → Int32)
/-- the fields of a class: 0 int, 1 boolean, 2 an object (its class), 3 ints, 4 booleans -/
abbrev a2_Y : Type := Nat → List (Nat × Nat)
def a2_ua (f : a2_A) (k : Nat) (x : Nat × (Nat → Int32)) : a2_A := fun j => if j = k then x else f j
def a2_fv (Y : a2_Y) (ci j : Nat) (g : a2_G) : Option Value := match (Y ci)[j]? with
  | some (0, _) => some (.int (g (100 * ci + j)))
  | some (1, _) => some (.int (g (100 * ci + j)))
  | some (2, cj) => some (.ref cj)
  | some (3, _) => some (.ref (10000 + (100 * ci + j)))
  | some (4, _) => some (.ref (10000 + (100 * ci + j)))
  | _ => none
/-- no reference to the array of a field that is made anew -/
def a2_nr (a : Nat) (v : Value) : Bool := match v with
  | .ref k => decide (k ≠ 10000 + a ∧ k ≠ 9000)
  | _ => true
def a2_nl (a : Nat) (v : Option Value) : Bool := match v with
  | some v => a2_nr a v
  | none => true
/-- which array a reference is, and of what: 3 ints, 4 booleans -/
def a2_ar (Y : a2_Y) (k : Nat) : Option (Nat × Nat) := if k = 9000 then some (9000, 3) else if 10000 ≤ k then match (Y ((k - 10000) / 100))[(k - 10000) % 100]? with
    | some (3, _) => some (k - 10000, 3)
    | some (4, _) => some (k - 10000, 4)
    | _ => none
  else none
def a2_st (F : am_F) (Y : a2_Y) (own : String) (i : Instr) (len pc : Nat) (L : am_L) (S : List Value) (g : a2_G) (r : a2_A) : Option (Nat × am_L × List Value × a2_G × a2_A) :=
  match i, len, S with
  | .getfield k, 3, .ref a :: S => match am_fl F own k with
    | some (ci, j, _, _) => if a = ci then match a2_fv Y ci j g with
        | some v => some (pc + 3, L, v :: S, g, r)
        | none => none
      else none
    | none => none
  | .putfield k, 3, v :: .ref a :: S => match am_fl F own k with
    | some (ci, j, _, false) => if a = ci then match (Y ci)[j]?, v with
        | some (0, _), .int x => some (pc + 3, L, S, upd g (100 * ci + j) x, r)
        | some (1, _), .int x => if x = 0 ∨ x = 1 then some (pc + 3, L, S, upd g (100 * ci + j) x, r) else none
        | some (3, _), .ref q => if q = 9000 ∧ S.all (a2_nr (100 * ci + j)) = true ∧ L.all (a2_nl (100 * ci + j)) = true then some (pc + 3, L, S, g, a2_ua r (100 * ci + j) (r 9000)) else none
        | _, _ => none
      else none
    | _ => none
  | .arraylength, 1, .ref a :: S => match a2_ar Y a with
    | some (q, _) => some (pc + 1, L, .int (Int32.ofNat (r q).1) :: S, g, r)
    | none => none
  | .iaload, 1, .int i :: .ref a :: S => match a2_ar Y a with
    | some (q, 3) => if am_inr i (r q).1 then some (pc + 1, L, .int ((r q).2 i.toNatClampNeg) :: S, g, r) else none
    | _ => none
  | .iastore, 1, .int x :: .int i :: .ref a :: S => match a2_ar Y a with
    | some (q, 3) => if am_inr i (r q).1 then some (pc + 1, L, S, g, a2_ua r q ((r q).1, upd (r q).2 i.toNatClampNeg x)) else none
    | _ => none
  | .baload, 1, .int i :: .ref a :: S => match a2_ar Y a with
    | some (q, 4) => if am_inr i (r q).1 then some (pc + 1, L, .int ((r q).2 i.toNatClampNeg) :: S, g, r) else none
    | _ => none
  | .bastore, 1, .int x :: .int i :: .ref a :: S => match a2_ar Y a with
    | some (q, 4) => if am_inr i (r q).1 then some (pc + 1, L, S, g, a2_ua r q ((r q).1, upd (r q).2 i.toNatClampNeg (vp_nar .boolean x))) else none
    | _ => none
  | i, len, S => match am_st F own false i len pc L S [] with
    | some (pc', L', S', []) => some (pc', L', S', g, r)
    | _ => none
/-- values of the second machine, as the first has them -/
def a2_tv (rho : Nat → Nat) (v : Value) : Value := match v with
  | .ref k => .ref (rho k)
  | v => v
theorem a2_tv_cat (rho : Nat → Nat) (v : Value) : (a2_tv rho v).category = v.category := by cases v <;> rfl
theorem a2_tv_R (rho : Nat → Nat) (v : Value) : am_isR (a2_tv rho v) = am_isR v := by cases v <;> rfl
abbrev a2_tl (rho : Nat → Nat) (L : am_L) : am_L := L.map (fun o => o.map (a2_tv rho))
theorem a2_tl_get {rho : Nat → Nat} {L : am_L} {k : Nat} {v : Value} (h : L[k]? = some (some v)) : (a2_tl rho L)[k]? = some (some (a2_tv rho v)) := by
  show (L.map _)[k]? = _
  rw [List.getElem?_map, h]
  rfl
theorem a2_tl_set {rho : Nat → Nat} {L : am_L} {k : Nat} {v : Value} : a2_tl rho (L.set k (some v)) = (a2_tl rho L).set k (some (a2_tv rho v)) := by
  show (L.set k (some v)).map _ = _
  rw [List.map_set]
  rfl
/-- an instruction that touches no cell does the same over any cells -/
theorem a2_simple {F : am_F} {own : String} {ini : Bool} {i : Instr} {len pc pc' : Nat} {L L' : am_L} {S S' : List Value} (rho : Nat → Nat) (h : am_H) (hs : am_st F own ini i len pc L S [] = some (pc', L', S', [])) :
    am_st F own ini i len pc (a2_tl rho L) (S.map (a2_tv rho)) h = some (pc', a2_tl rho L', S'.map (a2_tv rho), h) := by
  unfold am_st at hs
  split at hs
  · cases hs; rfl
  · cases hs; rfl
  · cases hs; rfl
  -- ldc
  · split at hs
    · rename_i hv
      cases hs
      simp [am_st, hv, a2_tv]
    · cases hs
  -- iload_n, iload
  · split at hs
    · rename_i hv
      cases hs
      simp [am_st, a2_tl_get hv, a2_tv]
    · cases hs
  · split at hs
    · rename_i hv
      cases hs
      simp [am_st, a2_tl_get hv, a2_tv]
    · cases hs
  -- aload_n, aload
  · split at hs
    · rename_i v hv
      split at hs
      · rename_i hr
        cases hs
        simp [am_st, a2_tl_get hv, a2_tv_R, hr]
      · cases hs
    · cases hs
  · split at hs
    · rename_i v hv
      split at hs
      · rename_i hr
        cases hs
        simp [am_st, a2_tl_get hv, a2_tv_R, hr]
      · cases hs
    · cases hs
  -- istore_n, istore
  · split at hs
    · rename_i hk
      cases hs
      rw [a2_tl_set]
      simp [am_st, a2_tv, hk]
    · cases hs
  · split at hs
    · rename_i hk
      cases hs
      rw [a2_tl_set]
      simp [am_st, a2_tv, hk]
    · cases hs
  -- astore_n, astore
  · split at hs
    · rename_i hk
      cases hs
      rw [a2_tl_set]
      simp [am_st, a2_tv_R, hk.1, hk.2]
    · cases hs
  · split at hs
    · rename_i hk
      cases hs
      rw [a2_tl_set]
      simp [am_st, a2_tv_R, hk.1, hk.2]
    · cases hs
  -- iinc
  · split at hs
    · rename_i hv
      cases hs
      rw [a2_tl_set]
      simp [am_st, a2_tl_get hv, a2_tv]
    · cases hs
  -- dup, dup2, pop
  · split at hs
    · rename_i hk
      cases hs
      simp [am_st, a2_tv_cat, hk]
    · cases hs
  · split at hs
    · rename_i hk
      cases hs
      simp [am_st, a2_tv_cat, hk.1, hk.2]
    · cases hs
  · split at hs
    · rename_i hk
      cases hs
      simp [am_st, a2_tv_cat, hk]
    · cases hs
  -- arithmetic
  · cases hs; rfl
  · cases hs; rfl
  · cases hs; rfl
  · cases hs; rfl
  · cases hs; rfl
  · cases hs; rfl
  -- goto, ifs
  · split at hs
    · rename_i t ht
      cases hs
      simp [am_st, ht]
    · cases hs
  · split at hs
    · rename_i t ht
      cases hs
      simp [am_st, ht, a2_tv]
    · cases hs
  · split at hs
    · rename_i t ht
      cases hs
      simp [am_st, ht, a2_tv]
    · cases hs
  -- switches
  · split at hs
    · rename_i hcnd
      split at hs
      · rename_i t ht
        cases hs
        simp [am_st, ht, a2_tv, hcnd]
      · cases hs
    · rename_i hcnd
      split at hs
      · rename_i off hoff
        split at hs
        · rename_i t ht
          cases hs
          simp only [am_st, List.map_cons, a2_tv, if_neg hcnd, hoff, ht]
        · cases hs
      · cases hs
  · split at hs
    · rename_i hcnd
      split at hs
      · rename_i t ht
        cases hs
        simp only [am_st, List.map_cons, a2_tv, if_pos hcnd, ht]
      · cases hs
    · cases hs
  -- what touches cells
  · simp at hs
  · simp at hs
  · split at hs
    · simp at hs
    · cases hs
  · split at hs
    · cases hs
    · split at hs
      · simp at hs
      · cases hs
  · split at hs
    · cases hs
      simp [am_st, a2_tv]
    · simp at hs
    · cases hs
  · split at hs
    · split at hs
      · rename_i hi
        cases hs
        simp [am_st, a2_tv, hi]
      · cases hs
    · simp at hs
    · cases hs
  · simp at hs
  · simp at hs
  · simp at hs
  · simp at hs
  · simp at hs
  · cases hs
