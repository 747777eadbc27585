section
/-! AN ABSTRACT MACHINE over the class files' own bytes: cells by numbers in a list, values with such numbers as references ('retAddr' stands for the law's script); a small-step relation with calls as a big step; below, that the machine itself does what it does. -/
abbrev am_E : Type := (Nat × List Value) ⊕ ((Bool × Nat × (Nat → Int32)) ⊕ (Nat × (Nat → Int64)))
abbrev am_H : Type := List am_E
abbrev am_L : Type := List (Option Value)
/-- returned (a value or none), or thrown (the class's number, the cell) -/
abbrev am_O : Type := Option Value ⊕ (Nat × Nat)
/-- a method: name, bytes, locals, what it returns, handlers (from, to, where, the class's number), how many arguments (the receiver counted), its instructions -/
abbrev am_M : Type := MethodName × ByteArray × Nat × Option FieldType × List (Nat × Nat × Nat × Nat) × Nat × List (Nat × Instr × Nat)
abbrev am_y (M : am_M) : MethodName := M.1
abbrev am_b (M : am_M) : ByteArray := M.2.1
abbrev am_n (M : am_M) : Nat := M.2.2.1
abbrev am_r (M : am_M) : Option FieldType := M.2.2.2.1
abbrev am_hs (M : am_M) : List (Nat × Nat × Nat × Nat) := M.2.2.2.2.1
abbrev am_k (M : am_M) : Nat := M.2.2.2.2.2.1
abbrev am_cd (M : am_M) : List (Nat × Instr × Nat) := M.2.2.2.2.2.2
/-- what the constant pools say, by class and entry: a field (class's number, place, type, final); a class that is made (number, its fields' first values); an int; a call (method's number, how: 0 by the receiver, 1 constructor, 2 static, 3 private of a nest mate, 4 constructor of a nest mate, 5 Object's, 6 arraycopy, 7 Math.max, 8 Math.min); a class that is thrown (number); then the script -/
abbrev am_F : Type := (String → Nat → Option (Nat × Nat × FieldType × Bool)) × (String → Nat → Option (Nat × List Value)) × (String → Nat → Option Int32) × (String → Nat → Option (Nat × Nat)) × (String → Nat → Option Nat) × Nat × (Nat → Int32)
abbrev am_fl (F : am_F) := F.1
abbrev am_nw (F : am_F) := F.2.1
abbrev am_ld (F : am_F) := F.2.2.1
abbrev am_cl (F : am_F) := F.2.2.2.1
abbrev am_th (F : am_F) := F.2.2.2.2.1
abbrev am_sn (F : am_F) := F.2.2.2.2.2.1
abbrev am_sx (F : am_F) := F.2.2.2.2.2.2
def am_isR (v : Value) : Bool := match v with
  | .ref _ => true
  | .retAddr _ => true
  | _ => false
def am_c2 (c : ClassFile.Cond) (x y : Int32) : Bool := match c with
  | .eq => decide (x = y)
  | .ne => decide (x ≠ y)
  | .lt => decide (x < y)
  | .ge => decide (y ≤ x)
  | .gt => decide (y < x)
  | .le => decide (x ≤ y)
def am_to (pc : Nat) (off : Int) : Option Nat := if 0 ≤ (pc : Int) + off then some ((pc : Int) + off).toNat else none
def am_inr (i : Int32) (n : Nat) : Bool := decide (¬ (i < 0 ∨ n ≤ i.toNatClampNeg))
/-- the first value of an array's place -/
def am_at0 (t : ArrayType) (n : Nat) : Option am_E := match t with
  | .int => some (.inr (.inl (false, n, fun _ => 0)))
  | .boolean => some (.inr (.inl (true, n, fun _ => 0)))
  | .long => some (.inr (.inr (n, fun _ => 0)))
  | _ => none
/-- one instruction without a call: place, locals, stack, cells -/
def am_st (F : am_F) (own : String) (ini : Bool) (i : Instr) (len pc : Nat) (L : am_L) (S : List Value) (h : am_H) : Option (Nat × am_L × List Value × am_H) :=
  match i, len, S with
  | .iconst n, 1, S => some (pc + 1, L, .int (Int32.ofInt n) :: S, h)
  | .bipush n, 2, S => some (pc + 2, L, .int (Int8.ofInt n).toInt32 :: S, h)
  | .sipush n, 3, S => some (pc + 3, L, .int (Int16.ofInt n).toInt32 :: S, h)
  | .ldc k, 2, S => match am_ld F own k with
    | some v => some (pc + 2, L, .int v :: S, h)
    | none => none
  | .iload_n k, 1, S => match L[(k : Nat)]? with
    | some (some (.int x)) => some (pc + 1, L, .int x :: S, h)
    | _ => none
  | .iload k, 2, S => match L[k]? with
    | some (some (.int x)) => some (pc + 2, L, .int x :: S, h)
    | _ => none
  | .aload_n k, 1, S => match L[(k : Nat)]? with
    | some (some v) => if am_isR v then some (pc + 1, L, v :: S, h) else none
    | _ => none
  | .aload k, 2, S => match L[k]? with
    | some (some v) => if am_isR v then some (pc + 2, L, v :: S, h) else none
    | _ => none
  | .istore_n k, 1, .int x :: S => if (k : Nat) < L.length then some (pc + 1, L.set k (some (.int x)), S, h) else none
  | .istore k, 2, .int x :: S => if k < L.length then some (pc + 2, L.set k (some (.int x)), S, h) else none
  | .astore_n k, 1, v :: S => if (k : Nat) < L.length ∧ am_isR v then some (pc + 1, L.set k (some v), S, h) else none
  | .astore k, 2, v :: S => if k < L.length ∧ am_isR v then some (pc + 2, L.set k (some v), S, h) else none
  | .iinc k n, 3, S => match L[k]? with
    | some (some (.int x)) => some (pc + 3, L.set k (some (.int (x + Int32.ofInt n))), S, h)
    | _ => none
  | .dup, 1, v :: S => if v.category = 1 then some (pc + 1, L, v :: v :: S, h) else none
  | .dup2, 1, v :: w :: S => if v.category = 1 ∧ w.category = 1 then some (pc + 1, L, v :: w :: v :: w :: S, h) else none
  | .pop, 1, v :: S => if v.category = 1 then some (pc + 1, L, S, h) else none
  | .iadd, 1, .int y :: .int x :: S => some (pc + 1, L, .int (x + y) :: S, h)
  | .isub, 1, .int y :: .int x :: S => some (pc + 1, L, .int (x - y) :: S, h)
  | .imul, 1, .int y :: .int x :: S => some (pc + 1, L, .int (x * y) :: S, h)
  | .iand, 1, .int y :: .int x :: S => some (pc + 1, L, .int (x &&& y) :: S, h)
  | .i2l, 1, .int x :: S => some (pc + 1, L, .long x.toInt64 :: S, h)
  | .lcmp, 1, .long y :: .long x :: S => some (pc + 1, L, .int (lg_cmp x y) :: S, h)
  | .goto off, 3, S => match am_to pc off with
    | some t => some (t, L, S, h)
    | none => none
  | .ifCond c off, 3, .int x :: S => match am_to pc off with
    | some t => some (if am_c2 c x 0 then t else pc + 3, L, S, h)
    | none => none
  | .if_icmp c off, 3, .int y :: .int x :: S => match am_to pc off with
    | some t => some (if am_c2 c x y then t else pc + 3, L, S, h)
    | none => none
  | .tableswitch d lo hi offs, _, .int x :: S =>
    if x.toInt < lo ∨ hi < x.toInt then match am_to pc d with
      | some t => some (t, L, S, h)
      | none => none
    else match offs[(x.toInt - lo).toNat]? with
      | some off => match am_to pc off with
        | some t => some (t, L, S, h)
        | none => none
      | none => none
  | .lookupswitch d ps, _, .int x :: S => if (ps.toList.zip (ps.toList.drop 1)).all (fun (a, next) => a.1 < next.1) = true then match am_to pc (Op.lookupswitch.offset ps.toList d x.toInt) with
      | some t => some (t, L, S, h)
      | none => none
    else none
  | .getfield k, 3, .ref a :: S => match am_fl F own k, h[a]? with
    | some (ci, j, _, _), some (.inl (c2, fs)) => if c2 = ci then match fs[j]? with
        | some v => some (pc + 3, L, v :: S, h)
        | none => none
      else none
    | _, _ => none
  | .putfield k, 3, v :: .ref a :: S => match am_fl F own k, h[a]? with
    | some (ci, j, ty, fin), some (.inl (c2, fs)) => if c2 = ci ∧ j < fs.length ∧ (fin = true → ini = true) ∧ narrow ty v = v ∧ fits ty v = true then some (pc + 3, L, S, h.set a (.inl (ci, fs.set j v))) else none
    | _, _ => none
  | .new k, 3, S => match am_nw F own k with
    | some (ci, fs) => some (pc + 3, L, .ref h.length :: S, h ++ [.inl (ci, fs)])
    | none => none
  | .newarray t, 2, .int n :: S => if n < 0 ∨ 60000000 < n.toNatClampNeg then none else match am_at0 t n.toNatClampNeg with
    | some e => some (pc + 2, L, .ref h.length :: S, h ++ [e])
    | none => none
  | .arraylength, 1, v :: S => match v with
    | .retAddr _ => some (pc + 1, L, .int (Int32.ofNat (am_sn F)) :: S, h)
    | .ref a => match h[a]? with
      | some (.inr (.inl (_, n, _))) => some (pc + 1, L, .int (Int32.ofNat n) :: S, h)
      | some (.inr (.inr (n, _))) => some (pc + 1, L, .int (Int32.ofNat n) :: S, h)
      | _ => none
    | _ => none
  | .iaload, 1, .int i :: v :: S => match v with
    | .retAddr _ => if am_inr i (am_sn F) then some (pc + 1, L, .int (am_sx F i.toNatClampNeg) :: S, h) else none
    | .ref a => match h[a]? with
      | some (.inr (.inl (false, n, f))) => if am_inr i n then some (pc + 1, L, .int (f i.toNatClampNeg) :: S, h) else none
      | _ => none
    | _ => none
  | .iastore, 1, .int x :: .int i :: .ref a :: S => match h[a]? with
    | some (.inr (.inl (false, n, f))) => if am_inr i n then some (pc + 1, L, S, h.set a (.inr (.inl (false, n, upd f i.toNatClampNeg x)))) else none
    | _ => none
  | .baload, 1, .int i :: .ref a :: S => match h[a]? with
    | some (.inr (.inl (true, n, f))) => if am_inr i n then some (pc + 1, L, .int (f i.toNatClampNeg) :: S, h) else none
    | _ => none
  | .bastore, 1, .int x :: .int i :: .ref a :: S => match h[a]? with
    | some (.inr (.inl (true, n, f))) => if am_inr i n then some (pc + 1, L, S, h.set a (.inr (.inl (true, n, upd f i.toNatClampNeg (vp_nar .boolean x))))) else none
    | _ => none
  | .laload, 1, .int i :: .ref a :: S => match h[a]? with
    | some (.inr (.inr (n, f))) => if am_inr i n then some (pc + 1, L, .long (f i.toNatClampNeg) :: S, h) else none
    | _ => none
  | .lastore, 1, .long x :: .int i :: .ref a :: S => match h[a]? with
    | some (.inr (.inr (n, f))) => if am_inr i n then some (pc + 1, L, S, h.set a (.inr (.inr (n, vp_updL f i.toNatClampNeg x)))) else none
    | _ => none
  | _, _, _ => none
/-- where a method stands: what is thrown over it, if anything; place, locals, stack, cells -/
abbrev am_S : Type := Option (Nat × Nat) × Nat × am_L × List Value × am_H
/-- an object that was thrown, as a cell: nothing is known of its six fields -/
abbrev am_X (x : Nat) : am_E := .inl (x, [.null, .null, .null, .null, .null, .null])
def am_ini (M : am_M) : Bool := decide ((am_y M).name = "<init>")
/-- which call an instruction is -/
def am_call (F : am_F) (own : String) (i : Instr) (len : Nat) : Option (Nat × Nat) := match i, len with
  | .invokevirtual k, 3 => match am_cl F own k with
    | some (j, w) => if w = 0 ∨ w = 3 then some (j, w) else none
    | none => none
  | .invokespecial k, 3 => match am_cl F own k with
    | some (j, w) => if w = 1 ∨ w = 4 ∨ w = 5 then some (j, w) else none
    | none => none
  | .invokestatic k, 3 => match am_cl F own k with
    | some (j, w) => if w = 2 ∨ w = 6 ∨ w = 7 ∨ w = 8 then some (j, w) else none
    | none => none
  | _, _ => none
def am_isNew (o : Option (Instr × Nat)) : Option Nat := match o with
  | some (.new k, 3) => some k
  | _ => none
def am_isLdc (o : Option (Instr × Nat)) : Option Nat := match o with
  | some (.ldc k, 2) => some k
  | _ => none
def am_isSpc (o : Option (Instr × Nat)) : Option Nat := match o with
  | some (.invokespecial k, 3) => some k
  | _ => none
theorem am_isNew_eq {o : Option (Instr × Nat)} {k : Nat} (h : am_isNew o = some k) : o = some (.new k, 3) := by
  unfold am_isNew at h
  split at h
  · cases h; rfl
  · cases h
theorem am_isLdc_eq {o : Option (Instr × Nat)} {k : Nat} (h : am_isLdc o = some k) : o = some (.ldc k, 2) := by
  unfold am_isLdc at h
  split at h
  · cases h; rfl
  · cases h
theorem am_isSpc_eq {o : Option (Instr × Nat)} {k : Nat} (h : am_isSpc o = some k) : o = some (.invokespecial k, 3) := by
  unfold am_isSpc at h
  split at h
  · cases h; rfl
  · cases h
/-- 'throw new E("text")' from here on, by its five instructions: the class's number -/
def am_tw (F : am_F) (own : String) (cd : List (Nat × Instr × Nat)) (pc : Nat) : Option Nat :=
  if cd.lookup (pc + 3) = some (.dup, 1) ∧ cd.lookup (pc + 9) = some (.athrow, 1) ∧ (am_isLdc (cd.lookup (pc + 4))).isSome = true ∧ (am_isSpc (cd.lookup (pc + 6))).isSome = true then (am_isNew (cd.lookup pc)).bind (am_th F own) else none
theorem am_tw_eq {F : am_F} {own : String} {cd : List (Nat × Instr × Nat)} {pc x : Nat} (h : am_tw F own cd pc = some x) : ∃ ik is ic, cd.lookup pc = some (.new ik, 3) ∧ cd.lookup (pc + 3) = some (.dup, 1) ∧ cd.lookup (pc + 4) = some (.ldc is, 2) ∧ cd.lookup (pc + 6) = some (.invokespecial ic, 3) ∧ cd.lookup (pc + 9) = some (.athrow, 1) ∧ am_th F own ik = some x := by
  unfold am_tw at h
  split at h
  · rename_i hc
    obtain ⟨h3, h9, h4, h6⟩ := hc
    obtain ⟨is, h4⟩ := Option.isSome_iff_exists.mp h4
    obtain ⟨ic, h6⟩ := Option.isSome_iff_exists.mp h6
    cases hn : am_isNew (cd.lookup pc) with
    | none => rw [hn] at h; cases h
    | some ik =>
      rw [hn] at h
      exact ⟨ik, is, ic, am_isNew_eq hn, h3, am_isLdc_eq h4, am_isSpc_eq h6, h9, h⟩
  · cases h
/-- System.arraycopy between two int arrays -/
def am_cp (h : am_H) (a : Nat) (sp : Int32) (b : Nat) (dp n : Int32) : Option am_H := match h[a]?, h[b]? with
  | some (.inr (.inl (false, n0, f))), some (.inr (.inl (false, n1, g))) => if ¬ sp < 0 ∧ ¬ dp < 0 ∧ ¬ n < 0 ∧ sp.toNatClampNeg + n.toNatClampNeg ≤ n0 ∧ dp.toNatClampNeg + n.toNatClampNeg ≤ n1 ∧ a ≠ b then some (h.set b (.inr (.inl (false, n1, va_cpy f g sp.toNatClampNeg dp.toNatClampNeg n.toNatClampNeg)))) else none
  | _, _ => none
abbrev am_EvT : Type := Nat → List Value → am_H → am_O → am_H → Prop
/-- behind a call -/
def am_bk (pc : Nat) (L : am_L) (S : List Value) (o : am_O) (h : am_H) : am_S := match o with
  | .inl v => (none, pc + 3, L, v.toList ++ S, h)
  | .inr x => (some x, pc, L, S, h)
/-- does the receiver fit: an object of the class that the method is of -/
def am_rc (cl : List vw_C) (M : am_M) (as : List Value) (h : am_H) : Prop := ∃ (a ci : Nat) (fs rest : List Value) (q : vw_C), as = .ref a :: rest ∧ h[a]? = some (.inl (ci, fs)) ∧ cl[ci]? = some q ∧ q.1 = (am_y M).cls
/-- a step of a method M: an instruction; a call as one step (E says what calls do); Object's constructor; arraycopy; a catch -/
def am_Stp (F : am_F) (cl : List vw_C) (ms : Nat → Option am_M) (E : am_EvT) (M : am_M) (a b : am_S) : Prop :=
  (∃ pc L S h i len r, a = (none, pc, L, S, h) ∧ (am_cd M).lookup pc = some (i, len) ∧ am_st F (am_y M).cls (am_ini M) i len pc L S h = some r ∧ b = (none, r)) ∨
  (∃ pc L S h i len j w N as rest o h', a = (none, pc, L, S, h) ∧ (am_cd M).lookup pc = some (i, len) ∧ am_call F (am_y M).cls i len = some (j, w) ∧ w < 5 ∧ ms j = some N ∧ as.length = am_k N ∧ S = as.reverse ++ rest ∧
    (w = 0 ∨ w = 3 → am_rc cl N as h) ∧ (w = 1 ∨ w = 4 → ∃ (k : Nat) (t : List Value), as = .ref k :: t) ∧ (rest.map fun v => v.category).sum ≤ 8 ∧ E j as h o h' ∧ b = am_bk pc L rest o h') ∨
  (∃ pc L h i len j k rest, a = (none, pc, L, .ref k :: rest, h) ∧ (am_cd M).lookup pc = some (i, len) ∧ am_call F (am_y M).cls i len = some (j, 5) ∧ (rest.map fun v => v.category).sum ≤ 8 ∧ b = (none, pc + 3, L, rest, h)) ∨
  (∃ pc L h i len j k1 sp k2 dp n rest h', a = (none, pc, L, .int n :: .int dp :: .ref k2 :: .int sp :: .ref k1 :: rest, h) ∧ (am_cd M).lookup pc = some (i, len) ∧ am_call F (am_y M).cls i len = some (j, 6) ∧ (rest.map fun v => v.category).sum ≤ 8 ∧ am_cp h k1 sp k2 dp n = some h' ∧ b = (none, pc + 3, L, rest, h')) ∨
  (∃ pc L h i len j w x y rest, a = (none, pc, L, .int y :: .int x :: rest, h) ∧ (am_cd M).lookup pc = some (i, len) ∧ am_call F (am_y M).cls i len = some (j, w) ∧ (w = 7 ∨ w = 8) ∧ (rest.map fun v => v.category).sum ≤ 8 ∧ b = (none, pc + 3, L, .int (if w = 7 then (if x < y then y else x) else (if y < x then y else x)) :: rest, h)) ∨
  (∃ pc L S h x k f t w, a = (some (x, k), pc, L, S, h) ∧ am_hs M = [(f, t, w, x)] ∧ f ≤ pc ∧ pc < t ∧ b = (none, w, L, [.ref k], h))
/-- a method's end: it returns, throws on, or throws itself -/
def am_fin (F : am_F) (M : am_M) (a : am_S) (r : am_O × am_H) : Prop :=
  (∃ pc L v h ty, a = (none, pc, L, [.int v], h) ∧ (am_cd M).lookup pc = some (.ireturn, 1) ∧ am_r M = some ty ∧ narrow ty (.int v) = .int v ∧ r = (.inl (some (.int v)), h)) ∨
  (∃ pc L h, a = (none, pc, L, [], h) ∧ (am_cd M).lookup pc = some (.return_, 1) ∧ am_r M = none ∧ r = (.inl none, h)) ∨
  (∃ pc L k h ty, a = (none, pc, L, [.ref k], h) ∧ (am_cd M).lookup pc = some (.areturn, 1) ∧ am_r M = some ty ∧ ((∃ n, ty = .object n) ∨ ∃ t, ty = .array t) ∧ r = (.inl (some (.ref k)), h)) ∨
  (∃ pc L S h x, a = (some x, pc, L, S, h) ∧ (∀ q ∈ am_hs M, ¬ (q.1 ≤ pc ∧ pc < q.2.1)) ∧ r = (.inr x, h)) ∨
  (∃ pc L S h x, a = (none, pc, L, S, h) ∧ am_tw F (am_y M).cls (am_cd M) pc = some x ∧ am_hs M = [] ∧ (S.map fun v => v.category).sum ≤ 8 ∧ r = (.inr (x, h.length), h ++ [am_X x]))
/-- from a on, M ends with r -/
def am_Go (F : am_F) (cl : List vw_C) (ms : Nat → Option am_M) (E : am_EvT) (M : am_M) (r : am_O × am_H) (a : am_S) : Prop :=
  ∀ P : am_S → Prop, (∀ a, am_fin F M a r → P a) → (∀ a b, am_Stp F cl ms E M a b → P b → P a) → P a
theorem am_Go.fin {F : am_F} {cl : List vw_C} {ms : Nat → Option am_M} {E : am_EvT} {M : am_M} {r : am_O × am_H} {a : am_S} (h : am_fin F M a r) : am_Go F cl ms E M r a := fun _ h1 _ => h1 a h
theorem am_Go.step {F : am_F} {cl : List vw_C} {ms : Nat → Option am_M} {E : am_EvT} {M : am_M} {r : am_O × am_H} {a b : am_S} (h : am_Stp F cl ms E M a b) (k : am_Go F cl ms E M r b) : am_Go F cl ms E M r a := fun P h1 h2 => h2 a b h (k P h1 h2)
/-- the locals at a method's entry -/
def am_ent (M : am_M) (as : List Value) : am_L := as.map some ++ List.replicate (am_n M - as.length) none
/-- what a call of the method j does, with at most d calls in one another -/
def am_Ev (F : am_F) (cl : List vw_C) (ms : Nat → Option am_M) : Nat → am_EvT
  | 0 => fun _ _ _ _ _ => False
  | d + 1 => fun j as h o h' => ∃ M, ms j = some M ∧ as.length = am_k M ∧ am_k M ≤ am_n M ∧ (∀ v ∈ as, v.category = 1) ∧ am_Go F cl ms (am_Ev F cl ms d) M (o, h') (none, 0, am_ent M as, [], h)
theorem am_Stp.mono {F : am_F} {cl : List vw_C} {ms : Nat → Option am_M} {E E' : am_EvT} (h : ∀ j as g o g', E j as g o g' → E' j as g o g') {M : am_M} {a b : am_S} (k : am_Stp F cl ms E M a b) : am_Stp F cl ms E' M a b := by
  rcases k with k | ⟨pc, L, S, g, i, len, j, w, N, as, rest, o, g', h1, h2, h3, h4, h5, h6, h7, h8, h9, h10, h11, h12⟩ | k | k | k | k
  · exact Or.inl k
  · exact Or.inr (Or.inl ⟨pc, L, S, g, i, len, j, w, N, as, rest, o, g', h1, h2, h3, h4, h5, h6, h7, h8, h9, h10, h _ _ _ _ _ h11, h12⟩)
  · exact Or.inr (Or.inr (Or.inl k))
  · exact Or.inr (Or.inr (Or.inr (Or.inl k)))
  · exact Or.inr (Or.inr (Or.inr (Or.inr (Or.inl k))))
  · exact Or.inr (Or.inr (Or.inr (Or.inr (Or.inr k))))
theorem am_Go.mono {F : am_F} {cl : List vw_C} {ms : Nat → Option am_M} {E E' : am_EvT} (h : ∀ j as g o g', E j as g o g' → E' j as g o g') {M : am_M} {r : am_O × am_H} {a : am_S} (k : am_Go F cl ms E M r a) : am_Go F cl ms E' M r a :=
  fun P h1 h2 => k P h1 (fun a b hs hb => h2 a b (hs.mono h) hb)
theorem am_Ev.up {F : am_F} {cl : List vw_C} {ms : Nat → Option am_M} : ∀ (d : Nat) j as g o g', am_Ev F cl ms d j as g o g' → am_Ev F cl ms (d + 1) j as g o g'
  | 0, _, _, _, _, _, h => h.elim
  | d + 1, j, as, g, o, g', ⟨M, h1, h2, h3, h4, h5⟩ => ⟨M, h1, h2, h3, h4, h5.mono (am_Ev.up d)⟩
theorem am_Ev.mono {F : am_F} {cl : List vw_C} {ms : Nat → Option am_M} {d d' : Nat} (h : d ≤ d') {j as g o g'} (k : am_Ev F cl ms d j as g o g') : am_Ev F cl ms d' j as g o g' := by
  induction h with
  | refl => exact k
  | step _ ih => exact am_Ev.up _ _ _ _ _ _ ih
end
section
/-! The abstract machine's values, locals and cells, as the machine has them. -/
def am_tr (b : Nat) (ad : Nat → Nat) (v : Value) : Value := match v with
  | .ref k => .ref (ad k)
  | .retAddr _ => .ref b
  | v => v
theorem am_tr_int (b : Nat) (ad : Nat → Nat) (x : Int32) : am_tr b ad (.int x) = .int x := rfl
theorem am_tr_long (b : Nat) (ad : Nat → Nat) (x : Int64) : am_tr b ad (.long x) = .long x := rfl
theorem am_tr_ref (b : Nat) (ad : Nat → Nat) (k : Nat) : am_tr b ad (.ref k) = .ref (ad k) := rfl
theorem am_tr_cat (b : Nat) (ad : Nat → Nat) (v : Value) : (am_tr b ad v).category = v.category := by cases v <;> rfl
theorem am_tr_R {b : Nat} {ad : Nat → Nat} {v : Value} (h : am_isR v = true) : ∃ x, am_tr b ad v = .ref x := by
  cases v <;> first | exact ⟨_, rfl⟩ | cases h
theorem am_R_cat {v : Value} (h : am_isR v = true) : v.category = 1 := by
  cases v <;> first | rfl | cases h
theorem am_cat_sum (b : Nat) (ad : Nat → Nat) (S : List Value) : ((S.map (am_tr b ad)).map fun v => v.category).sum = (S.map fun v => v.category).sum := by
  rw [List.map_map]
  congr 1
  exact List.map_congr_left fun v _ => am_tr_cat b ad v
theorem am_tr_nar {b : Nat} {ad : Nat → Nat} {ty : FieldType} {v : Value} (h : narrow ty v = v) (h2 : fits ty v = true) : narrow ty (am_tr b ad v) = am_tr b ad v ∧ fits ty (am_tr b ad v) = true := by
  cases v <;> cases ty <;> first | exact ⟨h, h2⟩ | exact ⟨rfl, rfl⟩ | (simp [fits] at h2)
def am_lv (b : Nat) (ad : Nat → Nat) : Nat → am_L → List (Nat × Value)
  | _, [] => []
  | i, none :: t => am_lv b ad (i + 1) t
  | i, some v :: t => (i, am_tr b ad v) :: am_lv b ad (i + 1) t
theorem am_lv_mem {b : Nat} {ad : Nat → Nat} {q : Nat × Value} : ∀ {L : am_L} {i : Nat}, q ∈ am_lv b ad i L ↔ ∃ k v, L[k]? = some (some v) ∧ q = (i + k, am_tr b ad v)
  | [], i => by simp [am_lv]
  | none :: t, i => by
    rw [am_lv, am_lv_mem]
    constructor
    · rintro ⟨k, v, h1, h2⟩
      exact ⟨k + 1, v, h1, by rw [h2]; congr 1; omega⟩
    · rintro ⟨k, v, h1, h2⟩
      cases k with
      | zero => simp at h1
      | succ k => exact ⟨k, v, h1, by rw [h2]; congr 1; omega⟩
  | some w :: t, i => by
    rw [am_lv, List.mem_cons, am_lv_mem]
    constructor
    · rintro (h | ⟨k, v, h1, h2⟩)
      · exact ⟨0, w, rfl, h⟩
      · exact ⟨k + 1, v, h1, by rw [h2]; congr 1; omega⟩
    · rintro ⟨k, v, h1, h2⟩
      cases k with
      | zero =>
        have h3 : w = v := by simpa using h1
        exact Or.inl (by rw [h2, h3]; rfl)
      | succ k => exact Or.inr ⟨k, v, h1, by rw [h2]; congr 1; omega⟩
theorem am_has_sub {ls : Array Slot} {nL : Nat} {l l' : List (Nat × Value)} (h : lv_has ls nL l) (hs : ∀ q ∈ l', q ∈ l) : lv_has ls nL l' := ⟨h.1, h.2.1, fun q hq => h.2.2 q (hs q hq)⟩
def am_LR (b : Nat) (ad : Nat → Nat) (nL : Nat) (L : am_L) (ls : Array Slot) : Prop := L.length = nL ∧ (∀ v, some v ∈ L → v.category = 1) ∧ lv_has ls nL (am_lv b ad 0 L)
theorem am_LR.get {b : Nat} {ad : Nat → Nat} {nL : Nat} {L : am_L} {ls : Array Slot} (h : am_LR b ad nL L ls) {i : Nat} {v : Value} (hi : L[i]? = some (some v)) : ls[i]? = some (.val (am_tr b ad v)) :=
  h.2.2.2.2 (i, am_tr b ad v) (am_lv_mem.mpr ⟨i, v, hi, by simp⟩)
theorem am_LR.in {b : Nat} {ad : Nat → Nat} {nL : Nat} {L : am_L} {ls : Array Slot} (h : am_LR b ad nL L ls) {i : Nat} {v : Value} (hi : L[i]? = some (some v)) : i < nL ∧ ∃ k : Nat, (am_lv b ad 0 L)[k]? = some (i, am_tr b ad v) := by
  refine ⟨by rw [← h.1]; exact (List.getElem?_eq_some_iff.mp hi).1, ?_⟩
  exact List.getElem?_of_mem (am_lv_mem.mpr ⟨i, v, hi, by simp⟩)
theorem am_LR.set {b : Nat} {ad : Nat → Nat} {nL : Nat} {L : am_L} {ls ls' : Array Slot} (h : am_LR b ad nL L ls) {i : Nat} {v : Value} (hc : v.category = 1) (h' : lv_has ls' nL ((i, am_tr b ad v) :: (am_lv b ad 0 L).filter (fun q => !(q.1 == i) && !(q.1 + 1 == i && q.2.category == 2)))) : am_LR b ad nL (L.set i (some v)) ls' := by
  refine ⟨by rw [List.length_set]; exact h.1, fun w hw => ?_, am_has_sub h' fun q hq => ?_⟩
  · rcases List.mem_or_eq_of_mem_set hw with h1 | h1
    · exact h.2.1 w h1
    · rw [Option.some.inj h1]; exact hc
  · obtain ⟨k, w, h1, h2⟩ := am_lv_mem.mp hq
    by_cases hk : k = i
    · subst hk
      have hl : k < L.length := by
        have h3 := (List.getElem?_eq_some_iff.mp h1).1
        rwa [List.length_set] at h3
      rw [List.getElem?_set_self hl] at h1
      have h3 : v = w := by simpa using h1
      rw [h2, ← h3]
      simp
    · rw [List.getElem?_set_ne (Ne.symm hk)] at h1
      refine List.mem_cons_of_mem _ (List.mem_filter.mpr ⟨am_lv_mem.mpr ⟨k, w, h1, h2⟩, ?_⟩)
      have hw : w.category = 1 := h.2.1 w (List.mem_of_getElem? h1)
      rw [h2]
      simp [am_tr_cat, hw, hk]
/-- references within -/
def am_okv (n : Nat) (v : Value) : Prop := match v with
  | .ref k => k < n
  | _ => True
theorem am_okv.mono {n n' : Nat} (h : n ≤ n') {v : Value} (hv : am_okv n v) : am_okv n' v := by
  cases v <;> first | trivial | exact Nat.lt_of_lt_of_le hv h
theorem am_okv.tr {n : Nat} {b : Nat} {ad ad' : Nat → Nat} (h : ∀ k, k < n → ad' k = ad k) {v : Value} (hv : am_okv n v) : am_tr b ad' v = am_tr b ad v := by
  cases v <;> first | rfl | exact congrArg Value.ref (h _ hv)
def am_oke (n : Nat) (e : am_E) : Prop := match e with
  | .inl (_, fs) => ∀ v ∈ fs, am_okv n v
  | _ => True
def am_okh (h : am_H) : Prop := ∀ e ∈ h, am_oke h.length e
theorem am_oke.mono {n n' : Nat} (h : n ≤ n') {e : am_E} (he : am_oke n e) : am_oke n' e := by
  rcases e with ⟨ci, fs⟩ | e
  · exact fun v hv => (he v hv).mono h
  · trivial
/-- array classes: of ints, booleans, longs -/
abbrev am_A3 : Type := ClassId × ClassId × ClassId
def am_te (c3 : am_A3) (b : Nat) (ad : Nat → Nat) (e : am_E) : va_E := match e with
  | .inl (ci, fs) => .inr (ci, fs.map (am_tr b ad))
  | .inr (.inl (z, n, f)) => .inl (if z then c3.2.1 else c3.1, n, .inl f)
  | .inr (.inr (n, f)) => .inl (c3.2.2, n, .inr (.inl f))
abbrev am_ty (c3 : am_A3) : List (ClassId × FieldType) := [(c3.1, .int), (c3.2.1, .boolean), (c3.2.2, .long)]
def am_ws (c3 : am_A3) (b : Nat) (ad : Nat → Nat) (h : am_H) : va_W := h.mapIdx (fun k e => (ad k, am_te c3 b ad e))
theorem am_ws_at {c3 : am_A3} {b : Nat} {ad : Nat → Nat} {h : am_H} {k : Nat} {e : am_E} (hk : h[k]? = some e) : (am_ws c3 b ad h)[k]? = some (ad k, am_te c3 b ad e) := by
  simp [am_ws, hk]
theorem am_ws_set {c3 : am_A3} {b : Nat} {ad : Nat → Nat} {h : am_H} {k : Nat} {e : am_E} : am_ws c3 b ad (h.set k e) = (am_ws c3 b ad h).set k (ad k, am_te c3 b ad e) := by
  simp [am_ws, List.mapIdx_set]
theorem am_te_tr {c3 : am_A3} {n b : Nat} {ad ad' : Nat → Nat} (h : ∀ k, k < n → ad' k = ad k) {e : am_E} (he : am_oke n e) : am_te c3 b ad' e = am_te c3 b ad e := by
  rcases e with ⟨ci, fs⟩ | ⟨z, n, f⟩ | ⟨n, f⟩
  · show Sum.inr (ci, fs.map (am_tr b ad')) = Sum.inr (ci, fs.map (am_tr b ad))
    rw [List.map_congr_left fun v hv => (he v hv).tr h]
  · rfl
  · rfl
theorem am_ws_tr {c3 : am_A3} {b : Nat} {ad ad' : Nat → Nat} {h : am_H} (hok : am_okh h) (hk : ∀ k, k < h.length → ad' k = ad k) : am_ws c3 b ad' h = am_ws c3 b ad h := by
  apply List.ext_getElem?
  intro k
  cases hg : h[k]? with
  | none => simp [am_ws, hg]
  | some e =>
    rw [am_ws_at hg, am_ws_at hg, hk k (List.getElem?_eq_some_iff.mp hg).1, am_te_tr hk (hok e (List.mem_of_getElem? hg))]
theorem am_ws_push {c3 : am_A3} {b : Nat} {ad : Nat → Nat} {h : am_H} {e : am_E} (hok : am_okh h) {q : Nat} :
    am_ws c3 b (va_up ad h.length q) (h ++ [e]) = am_ws c3 b ad h ++ [(q, am_te c3 b (va_up ad h.length q) e)] := by
  have h1 : am_ws c3 b (va_up ad h.length q) (h ++ [e]) = am_ws c3 b (va_up ad h.length q) h ++ [(q, am_te c3 b (va_up ad h.length q) e)] := by
    simp [am_ws, va_up]
  rw [h1, am_ws_tr (ad := ad) hok (fun k hk => by simp [va_up, Nat.ne_of_lt hk])]
/-- how much room the cells take -/
def am_es (e : am_E) : Nat := match e with
  | .inl (_, fs) => fs.length
  | .inr (.inl (_, n, _)) => n
  | .inr (.inr (n, _)) => n
def am_sz (h : am_H) : Nat := (h.map am_es).sum
theorem am_sz_push (h : am_H) (e : am_E) : am_sz (h ++ [e]) = am_sz h + am_es e := by simp [am_sz]
theorem am_sz_set {h : am_H} {k : Nat} {e e' : am_E} (hk : h[k]? = some e) (he : am_es e' = am_es e) : am_sz (h.set k e') = am_sz h := by
  have h1 : (h.set k e').map am_es = h.map am_es := by
    apply List.ext_getElem?
    intro j
    by_cases hj : j = k
    · subst hj
      have hl := (List.getElem?_eq_some_iff.mp hk).1
      rw [List.getElem?_map, List.getElem?_set_self hl, List.getElem?_map, hk]
      simp [he]
    · rw [List.getElem?_map, List.getElem?_set_ne (Ne.symm hj), List.getElem?_map]
  show ((h.set k e').map am_es).sum = (h.map am_es).sum
  rw [h1]
theorem am_okh.set {h : am_H} (hok : am_okh h) {k : Nat} {e : am_E} (he : am_oke h.length e) : am_okh (h.set k e) := by
  intro x hx
  rw [List.length_set]
  rcases List.mem_or_eq_of_mem_set hx with h1 | h1
  · exact hok x h1
  · rw [h1]; exact he
theorem am_okh.push {h : am_H} (hok : am_okh h) {e : am_E} (he : am_oke (h.length + 1) e) : am_okh (h ++ [e]) := by
  intro x hx
  rw [List.length_append, List.length_singleton]
  rcases List.mem_append.mp hx with h1 | h1
  · exact (hok x h1).mono (Nat.le_succ _)
  · rw [List.mem_singleton.mp h1]; exact he
end
section
/-! One instruction without a call: what the abstract machine does, the machine does. -/
/-- the tables say of the pools what the words say -/
def am_okT (F : am_F) (cl : List vw_C) (Ts : List Jvm.Cond) : Prop :=
  (∀ (ci : Nat) (C : String) (T : u_T) (N : Nat), cl[ci]? = some (C, T, N) → (∀ w ∈ u_ws C T N, w ∈ Ts) ∧ (∃ ty : Nat → FieldType, ∀ k, k < N → parseFieldDescriptor (T k).2.2.1 = some (ty k)) ∧ (∀ a, a < N → ∀ b, b < N → a ≠ b → (T a).2.1 ≠ (T b).2.1)) ∧
  (∀ own k ci j ty fin, am_fl F own k = some (ci, j, ty, fin) → ∃ (C : String) (T : u_T) (N : Nat), cl[ci]? = some (C, T, N) ∧ j < N ∧ (T j).2.2.2 = fin ∧ (fin = true → (T j).1 = own) ∧ parseFieldDescriptor (T j).2.2.1 = some ty ∧ Cond.fieldLink own k (T j).1 (T j).2.1 (T j).2.2.1 ∈ Ts) ∧
  (∀ own k ci fs, am_nw F own k = some (ci, fs) → ∃ (C : String) (T : u_T) (N : Nat) (ty : Nat → FieldType), cl[ci]? = some (C, T, N) ∧ Cond.classLink own k C ∈ Ts ∧ Cond.instantiable C N ∈ Ts ∧ Cond.initialized C ∈ Ts ∧ fs.length = N ∧ (∀ v ∈ fs, am_isR v = false) ∧ (∀ k, k < N → parseFieldDescriptor (T k).2.2.1 = some (ty k)) ∧ ∀ j, j < N → defaultValue (ty j) = vp_V fs j) ∧
  (∀ own k v, am_ld F own k = some v → Cond.constant own k v ∈ Ts) ∧
  Cond.arrayClass .int ∈ Ts ∧ Cond.arrayClass .boolean ∈ Ts ∧ Cond.arrayClass .long ∈ Ts
section AmOne
variable {p : Program} {l : Launch} {e : Env} {R : Room} {s : State} {m : MethodId} {args : Array Value} {below : List Frame} {meth : Method} {c : Code} {Q : State → Prop}
/-- what stands fast while a method runs -/
def am_Cx (F : am_F) (cl : List vw_C) (Ts : List Jvm.Cond) (D : va_G) (c3 : am_A3) (A : Nat → Prop) (b : Nat) (p : Program) (s : State) (m : MethodId) (args : Array Value) (meth : Method) (c : Code) (cc : ByteArray) (nL : Nat) (own : String) (ini : Bool) : Prop :=
  p.tables.exec = Jvm.exec ∧ c.code = cc ∧ c.maxLocals = nL ∧ s.vm.findClass own = some m.cls ∧ (∀ w ∈ Ts, w.before args s = true) ∧ (ini = true → meth.name = "<init>") ∧ (∀ q : Nat, s.heap.size ≤ q → A q) ∧ va_K D cl (am_ty c3) s ∧ va_X b (am_sn F) (am_sx F) s s.heap ∧ b < s.heap.size ∧ ¬ A b ∧ am_okT F cl Ts
/-- the machine at a state of the abstract one -/
def am_Rl (cl : List vw_C) (D : va_G) (c3 : am_A3) (A : Nat → Prop) (b : Nat) (nL n0 : Nat) (ad0 ad : Nat → Nat) (L : am_L) (S : List Value) (h : am_H) (ls : Array Slot) (H0 H : Heap) (locs : List Loc) : Prop :=
  am_LR b ad nL L ls ∧ (∀ v ∈ S, am_okv h.length v) ∧ (∀ v, some v ∈ L → am_okv h.length v) ∧ am_okh h ∧ va_P D cl (am_ws c3 b ad h) H ∧ va_D A (am_ws c3 b ad h) ∧ va_S A H0 H locs ∧ n0 ≤ h.length ∧ ∀ k, k < n0 → ad k = ad0 k
theorem am_Rl.S {cl : List vw_C} {D : va_G} {c3 : am_A3} {A : Nat → Prop} {b nL n0 : Nat} {ad0 ad : Nat → Nat} {L : am_L} {S S' : List Value} {h : am_H} {ls : Array Slot} {H0 H : Heap} {locs : List Loc} (hR : am_Rl cl D c3 A b nL n0 ad0 ad L S h ls H0 H locs) (hS : ∀ v ∈ S', am_okv h.length v) : am_Rl cl D c3 A b nL n0 ad0 ad L S' h ls H0 H locs := ⟨hR.1, hS, hR.2.2⟩
theorem am_Rl.L {cl : List vw_C} {D : va_G} {c3 : am_A3} {A : Nat → Prop} {b nL n0 : Nat} {ad0 ad : Nat → Nat} {L : am_L} {S S' : List Value} {h : am_H} {ls ls' : Array Slot} {H0 H : Heap} {locs : List Loc} (hR : am_Rl cl D c3 A b nL n0 ad0 ad L S h ls H0 H locs) {k : Nat} {v : Value} (hv : am_okv h.length v) (hL : am_LR b ad nL (L.set k (some v)) ls') (hS : ∀ v ∈ S', am_okv h.length v) : am_Rl cl D c3 A b nL n0 ad0 ad (L.set k (some v)) S' h ls' H0 H locs := by
  refine ⟨hL, hS, fun w hw => ?_, hR.2.2.2⟩
  rcases List.mem_or_eq_of_mem_set hw with h1 | h1
  · exact hR.2.2.1 w h1
  · rw [Option.some.inj h1]; exact hv
theorem am_to_eq {pc : Nat} {off : Int} {t : Nat} (h : am_to pc off = some t) : (pc : Int) + off = (t : Int) := by
  unfold am_to at h
  split at h
  · cases h; omega
  · cases h
theorem am_cons {n : Nat} {v : Value} {S : List Value} (h : am_okv n v) (hS : ∀ v ∈ S, am_okv n v) : ∀ w ∈ v :: S, am_okv n w := List.forall_mem_cons.mpr ⟨h, hS⟩
theorem am_tl {n : Nat} {v : Value} {S : List Value} (hS : ∀ w ∈ v :: S, am_okv n w) : ∀ w ∈ S, am_okv n w := fun w h => hS w (List.mem_cons_of_mem _ h)
theorem am_hd {n : Nat} {v : Value} {S : List Value} (hS : ∀ w ∈ v :: S, am_okv n w) : am_okv n v := hS v List.mem_cons_self
theorem am_if {P : Prop} {t f : Nat} {K : Nat → Prop} {c : Bool} (k : K (if c = true then t else f)) (hc : c = true ↔ P) : (P → K t) ∧ (¬ P → K f) := by
  constructor
  · intro h
    rw [if_pos (hc.mpr h)] at k
    exact k
  · intro h
    rw [if_neg (fun q => h (hc.mp q))] at k
    exact k
theorem am_inr_in {i : Int32} {n : Nat} (h : am_inr i n = true) : vp_in i n := by
  unfold am_inr at h
  unfold vp_in
  exact of_decide_eq_true h
theorem am_up_lt {ad : Nat → Nat} {n q k : Nat} (hk : k < n) : va_up ad n q k = ad k := by simp [va_up, Nat.ne_of_lt hk]
theorem am_LR.ext {b : Nat} {ad ad' : Nat → Nat} {nL n : Nat} {L : am_L} {ls : Array Slot} (hL : am_LR b ad nL L ls) (hoL : ∀ v, some v ∈ L → am_okv n v) (h : ∀ k, k < n → ad' k = ad k) : am_LR b ad' nL L ls := by
  refine ⟨hL.1, hL.2.1, am_has_sub hL.2.2 fun z hz => ?_⟩
  obtain ⟨k, v, g1, g2⟩ := am_lv_mem.mp hz
  exact am_lv_mem.mpr ⟨k, v, g1, by rw [g2, (hoL v (List.mem_of_getElem? g1)).tr h]⟩
theorem am_map_ext {b n : Nat} {ad ad' : Nat → Nat} {S : List Value} (hoS : ∀ v ∈ S, am_okv n v) (h : ∀ k, k < n → ad' k = ad k) : S.map (am_tr b ad') = S.map (am_tr b ad) := List.map_congr_left fun v hv => (hoS v hv).tr h
theorem am_Rl.push {cl : List vw_C} {D : va_G} {c3 : am_A3} {A : Nat → Prop} {b nL n0 : Nat} {ad0 ad : Nat → Nat} {L : am_L} {S : List Value} {h : am_H} {ls : Array Slot} {H0 H H1 : Heap} {locs : List Loc} (hR : am_Rl cl D c3 A b nL n0 ad0 ad L S h ls H0 H locs) {e : am_E} (he : am_oke (h.length + 1) e) {q : Nat}
    (q1 : va_P D cl (am_ws c3 b ad h ++ [(q, am_te c3 b (va_up ad h.length q) e)]) H1) (q2 : va_D A (am_ws c3 b ad h ++ [(q, am_te c3 b (va_up ad h.length q) e)])) (q3 : va_S A H0 H1 locs) :
    am_Rl cl D c3 A b nL n0 ad0 (va_up ad h.length q) L (.ref h.length :: S) (h ++ [e]) ls H0 H1 locs ∧ (Value.ref h.length :: S).map (am_tr b (va_up ad h.length q)) = .ref q :: S.map (am_tr b ad) := by
  obtain ⟨hL, hoS, hoL, hoh, hP, hD, hS, hn0, had⟩ := hR
  have hup : ∀ k, k < h.length → va_up ad h.length q k = ad k := fun k hk => am_up_lt hk
  refine ⟨⟨hL.ext hoL hup, am_cons (by rw [List.length_append]; exact Nat.lt_succ_self _) (fun v hv => (hoS v hv).mono (by simp)), fun v hv => (hoL v hv).mono (by simp), hoh.push he, by rw [am_ws_push hoh]; exact q1, by rw [am_ws_push hoh]; exact q2, q3, by simp; omega, fun k hk => by rw [hup k (by omega)]; exact had k hk⟩, ?_⟩
  rw [List.map_cons, am_map_ext hoS hup]
  simp [am_tr, va_up]
theorem am_Rl.set {cl : List vw_C} {D : va_G} {c3 : am_A3} {A : Nat → Prop} {b nL n0 : Nat} {ad0 ad : Nat → Nat} {L : am_L} {S : List Value} {h : am_H} {ls : Array Slot} {H0 H H1 : Heap} {locs locs1 : List Loc} (hR : am_Rl cl D c3 A b nL n0 ad0 ad L S h ls H0 H locs) {S' : List Value} (hS' : ∀ v ∈ S', am_okv h.length v) {e : am_E} (he : am_oke h.length e) {a : Nat}
    (q1 : va_P D cl ((am_ws c3 b ad h).set a (ad a, am_te c3 b ad e)) H1) (q2 : va_D A ((am_ws c3 b ad h).set a (ad a, am_te c3 b ad e))) (q3 : va_S A H0 H1 locs1) :
    am_Rl cl D c3 A b nL n0 ad0 ad L S' (h.set a e) ls H0 H1 locs1 := by
  obtain ⟨hL, hoS, hoL, hoh, hP, hD, hS, hn0, had⟩ := hR
  rw [← am_ws_set] at q1 q2
  exact ⟨hL, by rw [List.length_set]; exact hS', by rw [List.length_set]; exact hoL, hoh.set he, q1, q2, q3, by rw [List.length_set]; exact hn0, had⟩
theorem am_int_cls {D : va_G} {cl : List vw_C} {s : State} {tys : List (ClassId × FieldType)} {cA cB : ClassId} {ty : FieldType} (hK : va_K D cl (tys ++ [(cA, ty)]) s) (hi : (cB, ty) ∈ tys) (hty : va_RA s cA ty → va_RA s cB ty → cA = cB) : cA = cB := by
  obtain ⟨i, h1⟩ := List.getElem?_of_mem hi
  have h2 : (tys ++ [(cA, ty)])[i]? = some (cB, ty) := by rw [List.getElem?_append_left (List.getElem?_eq_some_iff.mp h1).1]; exact h1
  have h3 : (tys ++ [(cA, ty)])[tys.length]? = some (cA, ty) := by simp
  exact hty (hK.2 _ _ h3).2 (hK.2 _ _ h2).2
theorem am_one {F : am_F} {cl : List vw_C} {Ts : List Jvm.Cond} {D : va_G} {c3 : am_A3} {A : Nat → Prop} {b : Nat} {cc : ByteArray} {nL : Nat} {own : String} {ini : Bool} {n0 c0 z0 : Nat} {ad0 : Nat → Nat}
    (hC : am_Cx F cl Ts D c3 A b p s m args meth c cc nL own ini) {i : Instr} {len pc pc' : Nat} {L L' : am_L} {S S' : List Value} {h h' : am_H}
    (hs : am_st F own ini i len pc L S h = some (pc', L', S', h')) (hd : decode cc pc = .ok (i, len)) {ad : Nat → Nat} {ls : Array Slot} {H : Heap} {locs : List Loc}
    (hR : am_Rl cl D c3 A b nL n0 ad0 ad L S h ls s.heap H locs) (hc : h'.length - c0 ≤ R.cells) (hz : am_sz h' - z0 ≤ R.slots) (hc0 : c0 ≤ h.length) (hz0 : z0 ≤ am_sz h)
    (kk : ∀ (ad' : Nat → Nat) (ls' : Array Slot) (H' : Heap) (locs' : List Loc), am_Rl cl D c3 A b nL n0 ad0 ad' L' S' h' ls' s.heap H' locs' → W p l e R s m args below meth c H' locs' (h'.length - c0) (am_sz h' - z0) Q (F0 m pc' ls' (S'.map (am_tr b ad')))) :
    W p l e R s m args below meth c H locs (h.length - c0) (am_sz h - z0) Q (F0 m pc ls (S.map (am_tr b ad))) := by
  obtain ⟨hx, hb, hml, hown, hts, hin, hA, hK, hX, hbl, hbA, hT⟩ := hC
  obtain ⟨hL, hoS, hoL, hoh, hP, hD, hS, hn0, had⟩ := id hR
  unfold am_st at hs
  split at hs
  -- iconst, bipush, sipush
  · cases hs
    exact lv_iconst hx hb hd rfl (kk ad ls H locs (hR.S (am_cons trivial hoS)))
  · cases hs
    exact lv_bipush hx hb hd rfl (kk ad ls H locs (hR.S (am_cons trivial hoS)))
  · cases hs
    exact lv_sipush hx hb hd rfl (kk ad ls H locs (hR.S (am_cons trivial hoS)))
  -- ldc
  · split at hs
    · rename_i v hv
      cases hs
      exact lv_ldc hx hb hown (hts _ (hT.2.2.2.1 _ _ _ hv)) hd (kk ad ls H locs (hR.S (am_cons trivial hoS)))
    · cases hs
  -- iload_n, iload
  · split at hs
    · rename_i hv
      cases hs
      exact lv_iload_n hx hb hd rfl (hL.get hv) (kk ad ls H locs (hR.S (am_cons trivial hoS)))
    · cases hs
  · split at hs
    · rename_i hv
      cases hs
      exact lv_iload hx hb hd (hL.get hv) (kk ad ls H locs (hR.S (am_cons trivial hoS)))
    · cases hs
  -- aload_n, aload
  · split at hs
    · rename_i v hv
      split at hs
      · rename_i hr
        cases hs
        obtain ⟨x, ex⟩ := am_tr_R (b := b) (ad := ad) hr
        have k1 := kk ad ls H locs (hR.S (am_cons (hoL _ (List.mem_of_getElem? hv)) hoS))
        rw [List.map_cons, ex] at k1
        exact lv_aload_n hx hb hd rfl (by rw [← ex]; exact hL.get hv) k1
      · cases hs
    · cases hs
  · split at hs
    · rename_i v hv
      split at hs
      · rename_i hr
        cases hs
        obtain ⟨x, ex⟩ := am_tr_R (b := b) (ad := ad) hr
        have k1 := kk ad ls H locs (hR.S (am_cons (hoL _ (List.mem_of_getElem? hv)) hoS))
        rw [List.map_cons, ex] at k1
        exact lv_aload hx hb hd (by rw [← ex]; exact hL.get hv) k1
      · cases hs
    · cases hs
  -- istore_n, istore
  · split at hs
    · rename_i hk
      cases hs
      exact lv_istore_n hx hb hd rfl hL.2.2 (by rw [← hL.1]; exact hk) rfl (fun ls' h1 => kk ad ls' H locs (hR.L (v := .int _) trivial (hL.set rfl h1) (am_tl hoS)))
    · cases hs
  · split at hs
    · rename_i hk
      cases hs
      exact lv_istore hx hb hd hL.2.2 (by rw [← hL.1]; exact hk) rfl (fun ls' h1 => kk ad ls' H locs (hR.L (v := .int _) trivial (hL.set rfl h1) (am_tl hoS)))
    · cases hs
  -- astore_n, astore
  · split at hs
    · rename_i hk
      cases hs
      obtain ⟨x, ex⟩ := am_tr_R (b := b) (ad := ad) hk.2
      rw [List.map_cons, ex]
      exact lv_astore_n hx hb hd rfl hL.2.2 (by rw [← hL.1]; exact hk.1) rfl (fun ls' h1 => kk ad ls' H locs (hR.L (am_hd hoS) (hL.set (am_R_cat hk.2) (by rw [ex]; exact h1)) (am_tl hoS)))
    · cases hs
  · split at hs
    · rename_i hk
      cases hs
      obtain ⟨x, ex⟩ := am_tr_R (b := b) (ad := ad) hk.2
      rw [List.map_cons, ex]
      exact lv_astore hx hb hd hL.2.2 (by rw [← hL.1]; exact hk.1) rfl (fun ls' h1 => kk ad ls' H locs (hR.L (am_hd hoS) (hL.set (am_R_cat hk.2) (by rw [ex]; exact h1)) (am_tl hoS)))
    · cases hs
  -- iinc
  · split at hs
    · rename_i hv
      cases hs
      obtain ⟨hlt, j, hj⟩ := hL.in hv
      exact lv_iinc hx hb hd hL.2.2 hj rfl hlt rfl (fun ls' h1 => kk ad ls' H locs (hR.L (v := .int _) trivial (hL.set rfl h1) hoS))
    · cases hs
  -- dup, dup2, pop
  · split at hs
    · rename_i hk
      cases hs
      exact lv_dup hx hb hd (by rw [am_tr_cat]; exact hk) (kk ad ls H locs (hR.S (am_cons (am_hd hoS) hoS)))
    · cases hs
  · split at hs
    · rename_i hk
      cases hs
      exact lv_dup2_11 hx hb hd (by rw [am_tr_cat]; exact hk.1) (by rw [am_tr_cat]; exact hk.2) (kk ad ls H locs (hR.S (am_cons (am_hd hoS) (am_cons (am_hd (am_tl hoS)) hoS))))
    · cases hs
  · split at hs
    · rename_i hk
      cases hs
      exact lv_pop hx hb hd (by rw [am_tr_cat]; exact hk) (kk ad ls H locs (hR.S (am_tl hoS)))
    · cases hs
  -- iadd, isub, imul, iand, i2l, lcmp
  · cases hs
    exact lv_iadd hx hb hd (kk ad ls H locs (hR.S (am_cons trivial (am_tl (am_tl hoS)))))
  · cases hs
    exact lv_isub hx hb hd (kk ad ls H locs (hR.S (am_cons trivial (am_tl (am_tl hoS)))))
  · cases hs
    exact lv_imul hx hb hd (kk ad ls H locs (hR.S (am_cons trivial (am_tl (am_tl hoS)))))
  · cases hs
    exact lv_iand hx hb hd (kk ad ls H locs (hR.S (am_cons trivial (am_tl (am_tl hoS)))))
  · cases hs
    exact lv_i2l hx hb hd rfl (kk ad ls H locs (hR.S (am_cons trivial (am_tl hoS))))
  · cases hs
    exact W.lcmp hx hb hd (kk ad ls H locs (hR.S (am_cons trivial (am_tl (am_tl hoS)))))
  -- goto
  · split at hs
    · rename_i t ht
      cases hs
      exact lv_goto hx hb hd (am_to_eq ht) (kk ad ls H locs (hR.S hoS))
    · cases hs
  -- ifCond
  · rename_i cnd off x S0
    split at hs
    · rename_i t ht
      cases hs
      have k1 := kk ad ls H locs (hR.S (am_tl hoS))
      have ht := am_to_eq ht
      cases cnd
      · obtain ⟨a1, a2⟩ := am_if (P := x = 0) (K := fun n => W p l e R s m args below meth c H locs (h.length - c0) (am_sz h - z0) Q (F0 m n ls (S'.map (am_tr b ad)))) k1 (by simp [am_c2])
        exact lv_if_eq hx hb hd ht a1 a2
      · obtain ⟨a1, a2⟩ := am_if (P := ¬ x = 0) (K := fun n => W p l e R s m args below meth c H locs (h.length - c0) (am_sz h - z0) Q (F0 m n ls (S'.map (am_tr b ad)))) k1 (by simp [am_c2])
        exact lv_if_ne hx hb hd ht a1 (fun q => a2 (fun z => z q))
      · obtain ⟨a1, a2⟩ := am_if (P := x < 0) (K := fun n => W p l e R s m args below meth c H locs (h.length - c0) (am_sz h - z0) Q (F0 m n ls (S'.map (am_tr b ad)))) k1 (by simp [am_c2])
        exact lv_if_lt hx hb hd ht a1 a2
      · obtain ⟨a1, a2⟩ := am_if (P := 0 ≤ x) (K := fun n => W p l e R s m args below meth c H locs (h.length - c0) (am_sz h - z0) Q (F0 m n ls (S'.map (am_tr b ad)))) k1 (by simp [am_c2])
        exact lv_if_ge hx hb hd ht a1 a2
      · obtain ⟨a1, a2⟩ := am_if (P := 0 < x) (K := fun n => W p l e R s m args below meth c H locs (h.length - c0) (am_sz h - z0) Q (F0 m n ls (S'.map (am_tr b ad)))) k1 (by simp [am_c2])
        exact lv_if_gt hx hb hd ht a1 a2
      · obtain ⟨a1, a2⟩ := am_if (P := x ≤ 0) (K := fun n => W p l e R s m args below meth c H locs (h.length - c0) (am_sz h - z0) Q (F0 m n ls (S'.map (am_tr b ad)))) k1 (by simp [am_c2])
        exact lv_if_le hx hb hd ht a1 a2
    · cases hs
  -- if_icmp
  · rename_i cnd off y x S0
    split at hs
    · rename_i t ht
      cases hs
      have k1 := kk ad ls H locs (hR.S (am_tl (am_tl hoS)))
      have ht := am_to_eq ht
      cases cnd
      · obtain ⟨a1, a2⟩ := am_if (P := x = y) (K := fun n => W p l e R s m args below meth c H locs (h.length - c0) (am_sz h - z0) Q (F0 m n ls (S'.map (am_tr b ad)))) k1 (by simp [am_c2])
        exact lv_icmp_eq hx hb hd ht a1 a2
      · obtain ⟨a1, a2⟩ := am_if (P := ¬ x = y) (K := fun n => W p l e R s m args below meth c H locs (h.length - c0) (am_sz h - z0) Q (F0 m n ls (S'.map (am_tr b ad)))) k1 (by simp [am_c2])
        exact lv_icmp_ne hx hb hd ht a1 (fun q => a2 (fun z => z q))
      · obtain ⟨a1, a2⟩ := am_if (P := x < y) (K := fun n => W p l e R s m args below meth c H locs (h.length - c0) (am_sz h - z0) Q (F0 m n ls (S'.map (am_tr b ad)))) k1 (by simp [am_c2])
        exact lv_icmp_lt hx hb hd ht a1 a2
      · obtain ⟨a1, a2⟩ := am_if (P := y ≤ x) (K := fun n => W p l e R s m args below meth c H locs (h.length - c0) (am_sz h - z0) Q (F0 m n ls (S'.map (am_tr b ad)))) k1 (by simp [am_c2])
        exact lv_icmp_ge hx hb hd ht a1 a2
      · obtain ⟨a1, a2⟩ := am_if (P := y < x) (K := fun n => W p l e R s m args below meth c H locs (h.length - c0) (am_sz h - z0) Q (F0 m n ls (S'.map (am_tr b ad)))) k1 (by simp [am_c2])
        exact lv_icmp_gt hx hb hd ht a1 a2
      · obtain ⟨a1, a2⟩ := am_if (P := x ≤ y) (K := fun n => W p l e R s m args below meth c H locs (h.length - c0) (am_sz h - z0) Q (F0 m n ls (S'.map (am_tr b ad)))) k1 (by simp [am_c2])
        exact lv_icmp_le hx hb hd ht a1 a2
    · cases hs
  -- tableswitch
  · split at hs
    · rename_i hcnd
      split at hs
      · rename_i t ht
        cases hs
        exact lv_tableOut hx hb hd hcnd (am_to_eq ht) (kk ad ls H locs (hR.S (am_tl hoS)))
      · cases hs
    · rename_i hcnd
      split at hs
      · rename_i off hoff
        split at hs
        · rename_i t ht
          cases hs
          exact lv_tableIn hx hb hd (fun q => hcnd (Or.inl q)) (fun q => hcnd (Or.inr q)) hoff (am_to_eq ht) (kk ad ls H locs (hR.S (am_tl hoS)))
        · cases hs
      · cases hs
  -- lookupswitch
  · split at hs
    · rename_i hcnd
      split at hs
      · rename_i t ht
        cases hs
        exact lv_lookup hx hb hd hcnd rfl (am_to_eq ht) (kk ad ls H locs (hR.S (am_tl hoS)))
      · cases hs
    · cases hs
  -- getfield
  · split at hs
    · rename_i ci j ty fin c2 fs hf hh
      split at hs
      · rename_i hcc
        subst hcc
        split at hs
        · rename_i v hv
          cases hs
          obtain ⟨C, T, N, hc1, hj, hfin, hdl, hty, hlk⟩ := hT.2.1 _ _ _ _ _ _ hf
          obtain ⟨hin1, -, -⟩ := hT.1 _ _ _ _ hc1
          exact va_get (D := D) (cl := cl) (v := am_tr b ad v) hx hb hts hin1 hown hK hP _ (am_ws_at hh) hc1 j hj (hts _ hlk) (fun _ h9 => h9) (by simp [hv]) hd (kk ad ls H locs (hR.S (am_cons (hoh _ (List.mem_of_getElem? hh) v (List.mem_of_getElem? hv)) (am_tl hoS))))
        · cases hs
      · cases hs
    · cases hs
  -- putfield
  · rename_i kf v a S0
    split at hs
    · rename_i ci j ty fin c2 fs hf hh
      split at hs
      · rename_i hcc
        obtain ⟨rfl, hjl, hfi, hnr, hft⟩ := hcc
        cases hs
        obtain ⟨C, T, N, hc1, hj, hfin, hdl, hty, hlk⟩ := hT.2.1 _ _ _ _ _ _ hf
        obtain ⟨hin1, ⟨ty0, hty0⟩, hnm⟩ := hT.1 _ _ _ _ hc1
        obtain ⟨n1, n2⟩ := am_tr_nar (b := b) (ad := ad) hnr hft
        have hz2 : am_sz (h.set a (.inl (c2, fs.set j v))) = am_sz h := am_sz_set (e' := .inl (c2, fs.set j v)) hh (by simp [am_es])
        have hok2 : am_okh (h.set a (.inl (c2, fs.set j v))) := hoh.set (e := .inl (c2, fs.set j v)) (fun w hw => by
          rcases List.mem_or_eq_of_mem_set hw with h1 | h1
          · exact hoh _ (List.mem_of_getElem? hh) w h1
          · rw [h1]; exact am_hd hoS)
        have hte : am_te c3 b ad (.inl (c2, fs.set j v)) = .inr (c2, (fs.map (am_tr b ad)).set j (am_tr b ad v)) := by simp [am_te, List.map_set]
        have k2 : ∀ (H1 : Heap) (locs1 : List Loc), va_P D cl ((am_ws c3 b ad h).set a (ad a, .inr (c2, (fs.map (am_tr b ad)).set j (am_tr b ad v)))) H1 → va_D A ((am_ws c3 b ad h).set a (ad a, .inr (c2, (fs.map (am_tr b ad)).set j (am_tr b ad v)))) → va_S A s.heap H1 locs1 → W p l e R s m args below meth c H1 locs1 (h.length - c0) (am_sz h - z0) Q (F0 m (pc + 3) ls (S'.map (am_tr b ad))) := by
          intro H1 locs1 q1 q2 q3
          rw [← hte, ← am_ws_set] at q1 q2
          have k3 := kk ad ls H1 locs1 ⟨hL, by rw [List.length_set]; exact am_tl (am_tl hoS), by rw [List.length_set]; exact hoL, hok2, q1, q2, q3, by rw [List.length_set]; exact hn0, had⟩
          rw [hz2, List.length_set] at k3
          exact k3
        cases fin with
        | true => exact va_putF (D := D) (cl := cl) (v := am_tr b ad v) hx hb hts hin1 ty0 hty0 hnm hown hK hP hD hS a (am_ws_at hh) hc1 j hj (hts _ hlk) (fun _ h9 => h9) hfin (hin (hfi rfl)) (hdl rfl) hty n1 n2 (by simpa using hjl) hd k2
        | false => exact va_put (D := D) (cl := cl) (v := am_tr b ad v) hx hb hts hin1 ty0 hty0 hnm hown hK hP hD hS a (am_ws_at hh) hc1 j hj (hts _ hlk) (fun _ h9 => h9) hfin hty n1 n2 (by simpa using hjl) hd k2
      · cases hs
    · cases hs
  -- new
  · split at hs
    · rename_i ci fs hf
      cases hs
      obtain ⟨C, T, N, ty, hc1, w1, w2, w3, hlen, hnr, hty, hdv⟩ := hT.2.2.1 _ _ _ _ hf
      obtain ⟨hin1, -, -⟩ := hT.1 _ _ _ _ hc1
      have hfs : ∀ ad' : Nat → Nat, fs.map (am_tr b ad') = fs := fun ad' => by
        have h2 := List.map_congr_left (f := am_tr b ad') (g := id) (l := fs) fun v hv => by
          have h3 := hnr v hv
          cases v <;> first | rfl | cases h3
        rw [h2, List.map_id]
      rw [List.length_append, List.length_singleton] at hc kk
      rw [am_sz_push] at hz kk
      have hes : am_es (.inl (ci, fs)) = N := hlen
      rw [hes] at hz kk
      refine va_new (D := D) (cl := cl) (fs := fs) hx hb hts hin1 ty hty hown (hts _ w1) (hts _ w2) (hts _ w3) hK hP hD hS hA hc1 hdv (by omega) (by omega) hd (fun q H1 q1 q2 q3 => ?_)
      have e1 : am_te c3 b (va_up ad h.length q) (.inl (ci, fs)) = .inr (ci, fs) := by
        show Sum.inr (ci, fs.map (am_tr b (va_up ad h.length q))) = _
        rw [hfs]
      obtain ⟨g1, g2⟩ := hR.push (e := .inl (ci, fs)) (q := q) (H1 := H1) (fun v hv => by have h3 := hnr v hv; cases v <;> first | trivial | cases h3) (by rw [e1]; exact q1) (by rw [e1]; exact q2) q3
      have k3 := kk (va_up ad h.length q) ls H1 locs g1
      rw [g2] at k3
      rw [show h.length - c0 + 1 = h.length + 1 - c0 by omega, show am_sz h - z0 + N = am_sz h + N - z0 by omega]
      exact k3
    · cases hs
  -- newarray
  · rename_i at0 n S0
    split at hs
    · cases hs
    · rename_i hn
      have hn1 : ¬ n < 0 := fun q => hn (Or.inl q)
      have hn2 : n.toNatClampNeg ≤ 60000000 := Nat.not_lt.mp fun q => hn (Or.inr q)
      split at hs
      · rename_i e9 he9
        cases hs
        rw [List.length_append, List.length_singleton] at hc kk
        rw [am_sz_push] at hz kk
        have hR' := hR.S (am_tl hoS)
        have fin : ∀ (ty : FieldType) (cB : ClassId) (a0 : vp_A), am_es e9 = n.toNatClampNeg → newarray.typeOf at0 = ty → Cond.arrayClass ty ∈ Ts → (cB, ty) ∈ am_ty c3 → (∀ ad', am_te c3 b ad' e9 = .inl (cB, a0)) → (∀ n, am_oke n e9) → (∀ cA : ClassId, vp_cell cA a0 = arrV cA n.toNatClampNeg (fun _ => defaultValue ty)) → componentBytes ty ≤ 8 → (∀ cA cB, va_RA s cA ty → va_RA s cB ty → cA = cB) →
            W p l e R s m args below meth c H locs (h.length - c0) (am_sz h - z0) Q (F0 m pc ls (.int n :: S0.map (am_tr b ad))) := by
          intro ty cB a0 x1 x2 x3 x4 x5 x6 x7 x8 x9
          rw [x1] at hz kk
          refine va_newa (D := D) (cl := cl) (N' := n.toNatClampNeg) hx hb (by rw [x2]; exact hts _ x3) x2 hK hP hD hS hA x7 hn1 rfl (Nat.le_trans (Nat.mul_le_mul hn2 x8) (by decide)) (by omega) (by omega) hd (fun q cA H1 qK q1 q2 q3 => ?_)
          have ec : cA = cB := am_int_cls qK x4 (x9 cA cB)
          subst ec
          obtain ⟨g1, g2⟩ := hR'.push (e := e9) (q := q) (H1 := H1) (x6 _) (by rw [x5]; exact q1) (by rw [x5]; exact q2) q3
          have k3 := kk (va_up ad h.length q) ls H1 locs g1
          rw [g2] at k3
          rw [show h.length - c0 + 1 = h.length + 1 - c0 by omega, show am_sz h - z0 + n.toNatClampNeg = am_sz h + n.toNatClampNeg - z0 by omega]
          exact k3
        cases at0 <;> simp only [am_at0] at he9 <;> cases he9
        · exact fin .boolean c3.2.1 (n.toNatClampNeg, .inl fun _ => 0) rfl rfl hT.2.2.2.2.2.1 (by simp) (fun _ => rfl) (fun _ => trivial) (fun _ => rfl) (by decide) (fun _ _ h1 h2 => Option.some.inj (h1.symm.trans h2))
        · exact fin .int c3.1 (n.toNatClampNeg, .inl fun _ => 0) rfl rfl hT.2.2.2.2.1 (by simp) (fun _ => rfl) (fun _ => trivial) (fun _ => rfl) (by decide) (fun _ _ h1 h2 => Option.some.inj (h1.symm.trans h2))
        · exact fin .long c3.2.2 (n.toNatClampNeg, .inr (.inl fun _ => 0)) rfl rfl hT.2.2.2.2.2.2 (by simp) (fun _ => rfl) (fun _ => trivial) (fun _ => rfl) (by decide) (fun _ _ h1 h2 => Option.some.inj (h1.symm.trans h2))
      · cases hs
  -- arraylength
  · split at hs
    · cases hs
      exact va_slen hx hb hX hbl hbA hS hd (kk ad ls H locs (hR.S (am_cons trivial (am_tl hoS))))
    · rename_i a
      split at hs
      · rename_i z n f hh
        cases hs
        cases z with
        | false => exact va_alen (D := D) (cl := cl) hx hb hK hP a 0 (am_ws_at hh) rfl rfl hd (kk ad ls H locs (hR.S (am_cons trivial (am_tl hoS))))
        | true => exact va_alen (D := D) (cl := cl) hx hb hK hP a 1 (am_ws_at hh) rfl rfl hd (kk ad ls H locs (hR.S (am_cons trivial (am_tl hoS))))
      · rename_i n f hh
        cases hs
        exact va_alen (D := D) (cl := cl) hx hb hK hP a 2 (am_ws_at hh) rfl rfl hd (kk ad ls H locs (hR.S (am_cons trivial (am_tl hoS))))
      · cases hs
    · cases hs
  -- iaload
  · split at hs
    · split at hs
      · rename_i hi
        cases hs
        exact va_sld hx hb hX hbl hbA hS (am_inr_in hi) hd (kk ad ls H locs (hR.S (am_cons trivial (am_tl (am_tl hoS)))))
      · cases hs
    · rename_i a
      split at hs
      · rename_i n f hh
        split at hs
        · rename_i hi
          cases hs
          exact va_iald (D := D) (cl := cl) hx hb hK hP a 0 (am_ws_at hh) rfl (am_inr_in hi) hd (kk ad ls H locs (hR.S (am_cons trivial (am_tl (am_tl hoS)))))
        · cases hs
      · cases hs
    · cases hs
  -- iastore
  · rename_i x i a S0
    split at hs
    · rename_i n f hh
      split at hs
      · rename_i hi
        cases hs
        refine va_iast (D := D) (cl := cl) hx hb hK hP hD hS a 0 (am_ws_at hh) rfl (am_inr_in hi) hd (fun H1 locs1 q1 q2 q3 => ?_)
        have k3 := kk ad ls H1 locs1 (hR.set (am_tl (am_tl (am_tl hoS))) (e := .inr (.inl (false, n, upd f i.toNatClampNeg x))) trivial q1 q2 q3)
        rw [am_sz_set (e' := .inr (.inl (false, n, upd f i.toNatClampNeg x))) hh rfl, List.length_set] at k3
        exact k3
      · cases hs
    · cases hs
  -- baload
  · rename_i i a S0
    split at hs
    · rename_i n f hh
      split at hs
      · rename_i hi
        cases hs
        exact va_zald (D := D) (cl := cl) hx hb hK hP a 1 (am_ws_at hh) rfl (am_inr_in hi) hd (kk ad ls H locs (hR.S (am_cons trivial (am_tl (am_tl hoS)))))
      · cases hs
    · cases hs
  -- bastore
  · rename_i x i a S0
    split at hs
    · rename_i n f hh
      split at hs
      · rename_i hi
        cases hs
        refine va_zast (D := D) (cl := cl) hx hb hK hP hD hS a 1 (am_ws_at hh) rfl (am_inr_in hi) hd (fun H1 locs1 q1 q2 q3 => ?_)
        have k3 := kk ad ls H1 locs1 (hR.set (am_tl (am_tl (am_tl hoS))) (e := .inr (.inl (true, n, upd f i.toNatClampNeg (vp_nar .boolean x)))) trivial q1 q2 q3)
        rw [am_sz_set (e' := .inr (.inl (true, n, upd f i.toNatClampNeg (vp_nar .boolean x)))) hh rfl, List.length_set] at k3
        exact k3
      · cases hs
    · cases hs
  -- laload
  · rename_i i a S0
    split at hs
    · rename_i n f hh
      split at hs
      · rename_i hi
        cases hs
        exact va_lald (D := D) (cl := cl) hx hb hK hP a 2 (am_ws_at hh) rfl (am_inr_in hi) hd (kk ad ls H locs (hR.S (am_cons trivial (am_tl (am_tl hoS)))))
      · cases hs
    · cases hs
  -- lastore
  · rename_i x i a S0
    split at hs
    · rename_i n f hh
      split at hs
      · rename_i hi
        cases hs
        refine va_last (D := D) (cl := cl) hx hb hK hP hD hS a 2 (am_ws_at hh) rfl (am_inr_in hi) hd (fun H1 locs1 q1 q2 q3 => ?_)
        have k3 := kk ad ls H1 locs1 (hR.set (am_tl (am_tl (am_tl hoS))) (e := .inr (.inr (n, vp_updL f i.toNatClampNeg x))) trivial q1 q2 q3)
        rw [am_sz_set (e' := .inr (.inr (n, vp_updL f i.toNatClampNeg x))) hh rfl, List.length_set] at k3
        exact k3
      · cases hs
    · cases hs
  · cases hs
end AmOne
end
section
/-! Methods that return or throw: a contract of both ends in one, and what a caller has of it. -/
def am_Q (P : Outcome → State → State → Prop) (mc ms : Nat) (free : Addr → Prop) : Array Value → State → Outcome → State → Prop := fun _ st o t =>
  P o st t ∧ st.WarmedH t.vm ∧ ∃ L, st.sameButNew ({ t with vm := st.vm } : State) L mc ms ∧ ∀ q ∈ L, free q.base
def am_Met (l : Launch) (y : MethodName) (ws : List Jvm.Cond) (rm : Room) (Pc : Array Value → State → Prop) (P : Outcome → State → State → Prop) (mc ms : Nat) (free : Addr → Prop) : Prop :=
  MetFree l y (headSpec ws rm) Pc (fun _ _ _ _ _ => True) (am_Q P mc ms free)
def am_MQ (below : List Frame) (P : Outcome → State → State → Prop) (a : Array Value) (s : State) (mc ms : Nat) (free : Addr → Prop) : State → Prop := fun t =>
  ∃ o, t.status = .running ∧ Ended t below o ∧ am_Q P mc ms free a s o t
/-- the code of a method, with a table of handlers or without -/
def am_cw (y : MethodName) (bytes : ByteArray) (maxL : Nat) (ret : Option FieldType) (hh : List (Nat × Nat × Nat × Nat)) : Jvm.Cond := if hh = [] then .code y bytes maxL ret else .codeWith y bytes maxL ret hh
theorem am_cw_spec {y : MethodName} {bytes : ByteArray} {maxL : Nat} {ret : Option FieldType} {hh : List (Nat × Nat × Nat × Nat)} {args : Array Value} {s : State} (h : (am_cw y bytes maxL ret hh).before args s = true) :
    ∃ m meth c, s.methodNamed? y = some m ∧ s.vm.method? m = some meth ∧ meth.code = some c ∧ c.code = bytes ∧ c.maxLocals = maxL ∧ c.exceptionTable.toList.map (fun h => (h.startPc, h.endPc, h.handlerPc, h.catchType)) = hh ∧ meth.sig.returnType = ret ∧ meth.locks = false ∧ parseMethodDescriptor y.desc = some meth.sig := by
  unfold am_cw at h
  split at h
  · rename_i hh0
    subst hh0
    obtain ⟨m, hn⟩ := Cond.code_named h
    obtain ⟨meth, c, h1, h2, h3, h4, h5, h6, h7, h8⟩ := Cond.code_spec hn h
    refine ⟨m, meth, c, hn, h1, h2, h3, h4, ?_, h5, h6, h8⟩
    rw [Array.isEmpty_iff.mp h7]
    rfl
  · exact Cond.codeWith_spec h
section AmCall
variable {p : Program} {l : Launch} {e : Env} {R : Room} {s : State} {m : MethodId} {args : Array Value} {below : List Frame} {meth : Method} {c : Code} {H : Heap} {locs : List Loc} {cells slots : Nat} {Q : State → Prop}
theorem am_back {y : MethodName} {ws : List Jvm.Cond} {rm : Room} {Pc : Array Value → State → Prop} {P : Outcome → State → State → Prop} {mc ms : Nat} {free : Addr → Prop} {bytes : ByteArray} {maxL : Nat} {ret : Option FieldType} {hh : List (Nat × Nat × Nat × Nat)} {W9 len : Nat}
    (hM : am_Met l y ws rm Pc P mc ms free) (hblind : FrameBlind Pc) (hrc : rm.cells = mc) (hrs : rm.slots = ms)
    (hframes : rm.frames + 1 ≤ R.frames) (hlocals : W9 + (maxL + 11) + rm.locals ≤ R.locals)
    {U : State} (X : Stand p l e R s m args below meth c U locs cells slots) {g : JFrame} {ig : Instr} {mk : MethodId} {a : Array Value} (hg : g.method = m) (hsize : g.locals.size = c.maxLocals) (hdg : decode c.code g.pc = .ok (ig, len))
    (hW : 2 * g.monitorRoom + (g.stack.map fun v => v.category).sum ≤ W9) (hn : U.methodNamed? y = some mk)
    (hws : ∀ w ∈ ws, w.before a U = true) (hcode : (am_cw y bytes maxL ret hh).before a U = true) (hinit : (Cond.initialized y.cls).before a U = true) (h4 : cells + mc ≤ R.cells) (h5 : slots + ms ≤ R.slots) (hPc : Pc a U) :
    ∃ (o : Outcome) (t T' : State) (L : List Loc), Stand p l e R s m args below meth c T' (locs ++ L) (cells + mc) (slots + ms) ∧ T'.heap = t.heap ∧ T'.vm = t.vm ∧ P o (U.calling g mk a) t ∧ (∀ q ∈ L, free q.base) ∧ (∀ v, o = .returned v → Steps p.tables e below (doInvoke e (U.setTop g) [] mk a).1 (T'.setTop { g with pc := g.pc + len, stack := v.toList ++ g.stack })) ∧ (∀ q, o = .threw q → Steps p.tables e below (doInvoke e (U.setTop g) [] mk a).1 ((T'.setTop g).pushFrame (.throwing q))) := by
  have h1 : (headSpec ws rm).pre.before a U = true := atoms_intro hws
  obtain ⟨mk', methY, cY, hn', hmY, hcY, -, hlY, -, -, -, -⟩ := am_cw_spec hcode
  cases Option.some.inj (hn.symm.trans hn')
  obtain ⟨kY, hkY, -⟩ := className_of_methodNamed hn
  have hinitY : kY.init = .initialized := Cond.initialized_spec (findClass_of_methodNamed hn) hkY hinit
  have h : At U g.method c below := by rw [hg]; exact X.here
  have hPc' : Pc a (U.calling g mk a) := hblind _ _ _ _ hPc
  have happ : (headSpec ws rm).appliesLoose y e.platform (U.calling g mk a) = true :=
    Spec.appliesLoose_calling (g := g) h hdg hn hkY hinitY
      (X.room_calling (g := g) (R' := (headSpec ws rm).room) hsize hmY hcY hframes (by rw [hlY]; have : (headSpec ws rm).room.locals = rm.locals := rfl; omega) (by rw [show (headSpec ws rm).room.cells = mc from hrc]; exact h4) (by rw [show (headSpec ws rm).room.slots = ms from hrs]; exact h5)) h1
  obtain ⟨mid, hmid⟩ := h.above
  have hfr : (U.setTop g).frames = (.java g :: mid) ++ below := by rw [State.frames_setTop' g h.top, hmid]; rfl
  obtain ⟨o, s₂, hsteps, -, hend, hq⟩ := Steps.callFree hM p X.admits X.cas X.clock (acts := []) hfr happ hPc' trivial
  have hq' : am_Q P mc ms free a (U.calling g mk a) o s₂ := hq
  rw [State.frames_setTop' g h.top] at hend
  obtain ⟨hPo, hW₂, L, ⟨e2, q2, q3, q4, q5, q6⟩, hL⟩ := hq'
  obtain ⟨g₀, hg0⟩ := Option.isSome_iff_exists.mp h.top
  obtain ⟨r, hr⟩ := State.topJava?_eq_some.mp hg0
  have hr' : (({ U with heap := s₂.heap, slotsUsed := s₂.slotsUsed } : State).setVm s₂.vm).frames = .java g₀ :: r := hr
  have e3 : s₂ = ({ (U.calling g mk a).setFrames s₂.frames with heap := s₂.heap, slotsUsed := s₂.slotsUsed } : State).setVm s₂.vm := by
    have : s₂ = ({ s₂ with vm := (U.calling g mk a).vm } : State).setVm s₂.vm := rfl
    rw [e2] at this
    exact this
  have hW' : U.WarmedH s₂.vm := hW₂
  have hsame : U.sameButNew ({ U with heap := s₂.heap, slotsUsed := s₂.slotsUsed } : State) L mc ms := by
    refine ⟨?_, q2, q3, q4, q5, q6⟩
    obtain ⟨t, ht, -⟩ := State.frames_cons hr
    show ({ U with heap := s₂.heap, slotsUsed := s₂.slotsUsed } : State) = { U.setFrames U.frames with heap := s₂.heap, slotsUsed := s₂.slotsUsed }
    rw [State.setFrames_self ht]
  subst hg
  refine ⟨o, s₂, (({ U with heap := s₂.heap, slotsUsed := s₂.slotsUsed } : State).setVm s₂.vm), L,
    ⟨X.admits, X.cas, X.clock, X.frames, X.room, X.hears, X.method, X.code, (X.here.setHeapUsed s₂.heap s₂.slotsUsed).setVm hW'.alike, X.tail, State.WarmedH.trans X.warmed hW', X.limits, X.bytes, X.same.trans (hsame.setVm s.vm)⟩,
    rfl, rfl, hPo, hL, fun v hv => ?_, fun q hv => ?_⟩
  · subst hv
    obtain ⟨c₂, i₂, len₂, hc₂, hd₂, hf₂⟩ := hend
    have hcc : c₂ = c := by
      have h1 : s₂.code? g.method = U.code? g.method := by
        rw [State.code?_eq, State.code?_eq, hW'.alike.method?]
      exact Option.some.inj (hc₂.symm.trans (h1.trans h.code))
    subst hcc
    have hlen : len₂ = len := by rw [hdg] at hd₂; cases hd₂; rfl
    subst hlen
    have hs₂ : s₂ = (({ U with heap := s₂.heap, slotsUsed := s₂.slotsUsed } : State).setVm s₂.vm).setTop { g with pc := g.pc + len₂, stack := v.toList ++ g.stack } := by
      refine e3.trans ?_
      rw [hf₂, State.calling_eq h.top, State.setFrames_setFrames, State.setTop_of_frames _ hr', hr]
      rfl
    rw [← hs₂]
    exact hsteps
  · subst hv
    have hf₂ : s₂.frames = .throwing q :: .java g :: U.frames.tail := hend
    have hs₂ : s₂ = ((({ U with heap := s₂.heap, slotsUsed := s₂.slotsUsed } : State).setVm s₂.vm).setTop g).pushFrame (.throwing q) := by
      refine e3.trans ?_
      have htop : ((({ U with heap := s₂.heap, slotsUsed := s₂.slotsUsed } : State).setVm s₂.vm).setTop g).frames = .java g :: r := by
        rw [State.setTop_of_frames _ hr', State.frames_setFrames _ (State.cur_lt_of_frames hr')]
      rw [hf₂, State.calling_eq h.top, State.setFrames_setFrames, hr]
      unfold State.pushFrame
      rw [htop, State.setTop_of_frames _ hr', State.setFrames_setFrames]
      rfl
    rw [← hs₂]
    exact hsteps
/-- the frame g, with q thrown over it -/
def am_WX (p : Program) (l : Launch) (e : Env) (R : Room) (s : State) (m : MethodId) (args : Array Value) (below : List Frame) (meth : Method) (c : Code) (H : Heap) (locs : List Loc) (cells slots : Nat) (Q : State → Prop) (g : JFrame) (q : Addr) : Prop :=
  ∀ T : State, T.heap = H → Stand p l e R s m args below meth c T locs cells slots → ∃ t, Steps p.tables e below ((T.setTop g).pushFrame (.throwing q)) t ∧ Q t
/-- out of a kit's row for an end -/
theorem am_end {P : Outcome → State → State → Prop} {free : Addr → Prop} {mc ms : Nat} {o : Outcome} {g : JFrame} (k : W p l e R s m args below meth c H locs cells slots (MQ below (fun _ _ o' t => o' = o ∧ t.heap = H) args s cells slots free) g) (hq : ∀ t : State, t.heap = H → s.WarmedH t.vm → P o s t) (hc : cells ≤ mc) (hs : slots ≤ ms) :
    W p l e R s m args below meth c H locs cells slots (am_MQ below P args s mc ms free) g := by
  intro T hT X
  obtain ⟨t, a1, o', b1, b2, ⟨rfl, b3⟩, L, ⟨-, b4, b5⟩, b6⟩ := k T hT X
  exact ⟨t, a1, o', b1, b2, hq t b3 b4, b4, L, b5.mono hc hs, b6⟩
/-- not caught here: it goes on to the caller -/
theorem am_out {P : Outcome → State → State → Prop} {free : Addr → Prop} {mc ms pc : Nat} {ls : Array Slot} {rest : List Value} {q : Addr} (hout : ∀ x ∈ c.exceptionTable.toList, covers x pc = false) (hlocks : meth.locks = false) (hq : ∀ t : State, t.heap = H → s.WarmedH t.vm → P (.threw q) s t) (hf : ∀ z ∈ locs, free z.base) (hc : cells ≤ mc) (hs : slots ≤ ms) :
    am_WX p l e R s m args below meth c H locs cells slots (am_MQ below P args s mc ms free) (F0 m pc ls rest) q := by
  intro T hT X
  obtain ⟨st1, hrun, hend, hW, hsm⟩ := X.leaveThrown q (g := F0 m pc ls rest) rfl rfl rfl hout hlocks
  exact ⟨_, st1, .threw q, hrun, hend, hq _ hT hW, hW, locs, hsm.mono hc hs, hf⟩
/-- caught by the only row of the table -/
theorem am_caught {pc : Nat} {ls : Array Slot} {rest : List Value} {own E name : String} {ce : Cell} {q : Addr} {x : ExceptionTableEntry} (hown : s.vm.findClass own = some m.cls) (htab : c.exceptionTable.toList = [x]) (hx : covers x pc = true) (h0 : x.catchType ≠ 0)
    (hlink : (Cond.classLink own x.catchType name).before args s = true) (hcast : va_Nw (.castable E name) s) (hcell : H[q]? = some ce) (hv : ce.vm = .none) (hcl : s.vm.findClass E = some ce.cls)
    (kk : W p l e R s m args below meth c H locs cells slots Q (F0 m x.handlerPc ls [.ref q])) : am_WX p l e R s m args below meth c H locs cells slots Q (F0 m pc ls rest) q := by
  intro T hT X
  have hpl : e.platform.magicAccessors = ({} : Platform).magicAccessors := by rw [X.admits.platform]
  obtain ⟨c3, c4, hc3, hc4, hasg⟩ := Cond.castable_spec hcast
  cases Option.some.inj (hc3.symm.trans hcl)
  obtain ⟨c5, hc5, hcl5⟩ := Cond.classLink_spec hown hlink e.platform hpl
  cases Option.some.inj (hc4.symm.trans hc5)
  obtain ⟨vm', X', st⟩ := X.thenCaughtThrough q (g := F0 m pc ls rest) rfl (Steps.refl _) (by rw [hT]; exact hcell) (by rw [hv]; rfl) (by obtain ⟨k9, h9, -⟩ := Vm.findClass_spec hcl; exact ⟨k9, h9⟩) [] x [] htab (fun z hz => nomatch hz) hx (Or.inr ⟨h0, c4, hcl5, hasg⟩)
  obtain ⟨t, a1, b1⟩ := kk (T.setVm vm') hT X'
  exact ⟨t, st.trans a1, b1⟩
/-- a contract out of its body -/
theorem am_ofW {y : MethodName} {ws : List Jvm.Cond} {rm : Room} {Pc : Array Value → State → Prop} {P : Outcome → State → State → Prop} {mc ms : Nat} {free : Addr → Prop} {cc : ByteArray} {maxL : Nat} {ret : Option FieldType} {hh : List (Nat × Nat × Nat × Nat)}
    (hy : plainName y.cls = true) (hw : am_cw y cc maxL ret hh ∈ ws)
    (body : ∀ p e s m args below meth c s₁, BodyLoose p l y (headSpec ws rm) cc maxL ret e s m args below meth c s₁ → c.maxLocals = maxL → c.exceptionTable.toList.map (fun h => (h.startPc, h.endPc, h.handlerPc, h.catchType)) = hh → Pc args s →
      W p l e rm s m args below meth c s.heap [] 0 0 (am_MQ below P args s mc ms free) (entryFrame m args maxL)) : am_Met l y ws rm Pc P mc ms free := by
  refine MetFree.of_bodyS (code := cc) (maxLocals := maxL) (ret := ret) hy ?_ ?_
  · intro args s m h hn
    obtain ⟨m', meth, c, hn', h1, h2, h3, h4, -, h5, h6, -⟩ := am_cw_spec (atoms_spec (ws := ws) h _ hw)
    cases Option.some.inj (hn.symm.trans hn')
    exact ⟨meth, c, h1, h2, h3, h4, h5, h6⟩
  · intro p e s m args below meth c s₁ B hml hP _
    have hh0 : s₁.heap = s.heap := by rw [B.state]; rfl
    have ht : c.exceptionTable.toList.map (fun h => (h.startPc, h.endPc, h.handlerPc, h.catchType)) = hh := by
      obtain ⟨m', meth9, c9, hn', h1, h2, -, -, h7, -⟩ := am_cw_spec (atoms_spec (ws := ws) B.pre _ hw)
      cases Option.some.inj (B.named.symm.trans hn')
      cases Option.some.inj (h1.symm.trans B.method)
      cases Option.some.inj (h2.symm.trans (Stand.of_body B).code)
      exact h7
    obtain ⟨t, a1, o, b1, b2, b3⟩ := body p e s m args below meth c s₁ B hml ht hP s₁ hh0 (Stand.of_body B)
    exact ⟨t, o, a1, b1, b2, b3⟩
end AmCall
end
section
/-! The five ways to a method, each up to its own entry; then a call as a row. -/
section AmInv
variable {p : Program} {l : Launch} {e : Env} {R : Room} {s : State} {m : MethodId} {args : Array Value} {below : List Frame} {meth : Method} {c : Code} {T : State} {H : Heap} {locs : List Loc} {cells slots : Nat} {Q : State → Prop}
/-- the machine comes from the frame g to the entry of y with the arguments av, what is left on the stack being rest -/
def am_Inv (p : Program) (l : Launch) (e : Env) (R : Room) (s : State) (m : MethodId) (args : Array Value) (below : List Frame) (meth : Method) (c : Code) (H : Heap) (locs : List Loc) (cells slots : Nat) (y : MethodName) (g : JFrame) (rest : List Value) (av : Array Value) : Prop :=
  ∀ T : State, T.heap = H → Stand p l e R s m args below meth c T locs cells slots → ∃ (mk : MethodId) (vm₁ : Vm), Stand p l e R s m args below meth c (T.setVm vm₁) locs cells slots ∧ s.methodNamed? y = some mk ∧
    ∀ target, (∀ acts, Steps p.tables e below (doInvoke e ((T.setVm vm₁).setTop { g with stack := rest }) acts mk av).1 target) → Steps p.tables e below (T.setTop g) target
theorem am_invV (hexec : p.tables.exec = Jvm.exec) {own C : String} {index : Nat} {y : MethodName} {bytes : ByteArray} {maxL : Nat} {ret : Option FieldType} {hh : List (Nat × Nat × Nat × Nat)}
    (hown : s.vm.findClass own = some m.cls) (hlink : (Cond.methodLink own index y).before args s = true) (hinst : (Cond.instanceMethod y).before args s = true) (hsel : (Cond.selects C y y).before args s = true)
    (hcode : (am_cw y bytes maxL ret hh).before args s = true) (hy : y.cls ≠ "java/lang/invoke/MethodHandle" ∧ y.cls ≠ "java/lang/invoke/VarHandle")
    {b : Addr} {cellB : Cell} (hcell : H[b]? = some cellB) (hobj : cellB.vm.isStatics = false) (hcls : s.vm.findClass C = some cellB.cls)
    {g : JFrame} (hg : g.method = m) {argsL rest : List Value} (hlen : ∀ sig, parseMethodDescriptor y.desc = some sig → argsL.length = sig.parameters.length)
    (hstack : g.stack = argsL.reverse ++ .ref b :: rest) (hdg : decode c.code g.pc = .ok (.invokevirtual index, 3)) :
    am_Inv p l e R s m args below meth c H locs cells slots y g rest (Value.ref b :: argsL).toArray := by
  intro T hT X
  obtain ⟨mk, methM, hnamed, hmethM, hstM, habM⟩ := Cond.instanceMethod_spec hinst
  obtain ⟨mk', methM', cM, hnamed', hmethM', -, -, -, -, -, -, hsigM⟩ := am_cw_spec hcode
  cases hnamed.symm.trans hnamed'
  cases hmethM.symm.trans hmethM'
  obtain ⟨c2, r2, m2, q1, q2, q3, q4, kP, hkP, hkPi⟩ := Cond.selects_spec hsel
  cases hcls.symm.trans q1
  cases (State.methodFound?_of_named hnamed hy).symm.trans q2
  cases hnamed.symm.trans q3
  have hselP : selectMethod e.platform s.vm cellB.cls mk = .method mk := by rw [Launch.admits_selectMethod X.admits]; exact q4
  obtain ⟨vm₁, X₁, hstep₁⟩ := X.invokevirtual hexec hown hlink hnamed hmethM hstM hkP hkPi hy (a := b) (cell := cellB) (by rw [hT]; exact hcell)
    (fun z h => by rw [h] at hobj; cases hobj) hselP hmethM habM hkP hkPi (g := g) hg (argsL := argsL) (rest := rest) (hlen _ hsigM) hstack hdg
  exact ⟨mk, vm₁, X₁, hnamed, hstep₁⟩
theorem am_invVN (hexec : p.tables.exec = Jvm.exec) {own C host : String} {index : Nat} {y : MethodName} {bytes : ByteArray} {maxL : Nat} {ret : Option FieldType} {hh : List (Nat × Nat × Nat × Nat)}
    (hown : s.vm.findClass own = some m.cls) (hlink : (Cond.methodLinkNest own index y host).before args s = true) (hinst : (Cond.instanceMethod y).before args s = true) (hsel : (Cond.selects C y y).before args s = true)
    (hcode : (am_cw y bytes maxL ret hh).before args s = true) (hy : y.cls ≠ "java/lang/invoke/MethodHandle" ∧ y.cls ≠ "java/lang/invoke/VarHandle")
    {b : Addr} {cellB : Cell} (hcell : H[b]? = some cellB) (hobj : cellB.vm.isStatics = false) (hcls : s.vm.findClass C = some cellB.cls)
    {g : JFrame} (hg : g.method = m) {argsL rest : List Value} (hlen : ∀ sig, parseMethodDescriptor y.desc = some sig → argsL.length = sig.parameters.length)
    (hstack : g.stack = argsL.reverse ++ .ref b :: rest) (hdg : decode c.code g.pc = .ok (.invokevirtual index, 3)) :
    am_Inv p l e R s m args below meth c H locs cells slots y g rest (Value.ref b :: argsL).toArray := by
  intro T hT X
  obtain ⟨mk, methM, hnamed, hmethM, hstM, habM⟩ := Cond.instanceMethod_spec hinst
  obtain ⟨mk', methM', cM, hnamed', hmethM', -, -, -, -, -, -, hsigM⟩ := am_cw_spec hcode
  cases hnamed.symm.trans hnamed'
  cases hmethM.symm.trans hmethM'
  obtain ⟨c2, r2, m2, q1, q2, q3, q4, kP, hkP, hkPi⟩ := Cond.selects_spec hsel
  cases hcls.symm.trans q1
  cases (State.methodFound?_of_named hnamed hy).symm.trans q2
  cases hnamed.symm.trans q3
  have hselP : selectMethod e.platform s.vm cellB.cls mk = .method mk := by rw [Launch.admits_selectMethod X.admits]; exact q4
  obtain ⟨vm₁, X₁, hstep₁⟩ := X.invokevirtualNest hexec hown hlink hnamed hmethM hstM hkP hkPi hy (a := b) (cell := cellB) (by rw [hT]; exact hcell)
    (fun z h => by rw [h] at hobj; cases hobj) hselP hmethM habM hkP hkPi (g := g) hg (argsL := argsL) (rest := rest) (hlen _ hsigM) hstack hdg
  exact ⟨mk, vm₁, X₁, hnamed, hstep₁⟩
theorem am_invS (hexec : p.tables.exec = Jvm.exec) {own : String} {index : Nat} {y : MethodName} {bytes : ByteArray} {maxL : Nat} {ret : Option FieldType} {hh : List (Nat × Nat × Nat × Nat)}
    (hown : s.vm.findClass own = some m.cls) (hlink : (Cond.methodLink own index y).before args s = true) (hstat : (Cond.static y).before args s = true) (hinit : (Cond.initialized y.cls).before args s = true)
    (hcode : (am_cw y bytes maxL ret hh).before args s = true) (hy : y.cls ≠ "java/lang/invoke/MethodHandle" ∧ y.cls ≠ "java/lang/invoke/VarHandle")
    {g : JFrame} (hg : g.method = m) {argsL rest : List Value} (hlen : ∀ sig, parseMethodDescriptor y.desc = some sig → argsL.length = sig.parameters.length)
    (hstack : g.stack = argsL.reverse ++ rest) (hdg : decode c.code g.pc = .ok (.invokestatic index, 3)) :
    am_Inv p l e R s m args below meth c H locs cells slots y g rest argsL.toArray := by
  intro T hT X
  obtain ⟨mk, methM, cM, hnamed, hmethM, -, -, -, -, -, -, hsigM⟩ := am_cw_spec hcode
  have hstatic : methM.isStatic = true := Cond.static_spec hnamed hmethM hstat
  obtain ⟨kP, hkP, -⟩ := className_of_methodNamed hnamed
  have hinitP : kP.init = .initialized := Cond.initialized_spec (findClass_of_methodNamed hnamed) hkP hinit
  obtain ⟨vm₁, X₁, hstep₁⟩ := X.invokestatic hexec hown hlink hnamed hmethM hstatic hkP hinitP hy (g := g) hg (argsL := argsL) (rest := rest) (hlen _ hsigM) hstack hdg
  exact ⟨mk, vm₁, X₁, hnamed, hstep₁⟩
theorem am_invI (hexec : p.tables.exec = Jvm.exec) {own : String} {index : Nat} {y : MethodName} {bytes : ByteArray} {maxL : Nat}
    (hown : s.vm.findClass own = some m.cls) (hy1 : y.name = "<init>") (hlink : (Cond.methodLink own index y).before args s = true) (hinst : (Cond.instanceMethod y).before args s = true)
    (hcode : (Cond.code y bytes maxL none).before args s = true) (hy : y.cls ≠ "java/lang/invoke/MethodHandle" ∧ y.cls ≠ "java/lang/invoke/VarHandle")
    {g : JFrame} (hg : g.method = m) {a : Addr} {argsL rest : List Value} (hlen : ∀ sig, parseMethodDescriptor y.desc = some sig → argsL.length = sig.parameters.length)
    (hstack : g.stack = argsL.reverse ++ .ref a :: rest) (hdg : decode c.code g.pc = .ok (.invokespecial index, 3)) :
    am_Inv p l e R s m args below meth c H locs cells slots y g rest (Value.ref a :: argsL).toArray := by
  intro T hT X
  subst hg
  have hpl : e.platform.magicAccessors = ({} : Platform).magicAccessors := by rw [X.admits.platform]
  obtain ⟨mk, methM, cM, kP, vm₁, hnamed, hmethM, hcodeM, -, hlocalsM, -, hkP, -, hW₁, hstep₁⟩ := Steps.initColdArgs (e := e) X.here hexec X.warmed hpl hown hy1 hy hlink hinst hcode (f := g) rfl hlen hstack hdg
  exact ⟨mk, vm₁, X.noted hW₁, hnamed, hstep₁⟩
theorem am_invIN (hexec : p.tables.exec = Jvm.exec) {own host : String} {index : Nat} {y : MethodName} {bytes : ByteArray} {maxL : Nat}
    (hown : s.vm.findClass own = some m.cls) (hy1 : y.name = "<init>") (hlink : (Cond.methodLinkNest own index y host).before args s = true) (hinst : (Cond.instanceMethod y).before args s = true)
    (hcode : (Cond.code y bytes maxL none).before args s = true) (hy : y.cls ≠ "java/lang/invoke/MethodHandle" ∧ y.cls ≠ "java/lang/invoke/VarHandle")
    {g : JFrame} (hg : g.method = m) {a : Addr} {argsL rest : List Value} (hlen : ∀ sig, parseMethodDescriptor y.desc = some sig → argsL.length = sig.parameters.length)
    (hstack : g.stack = argsL.reverse ++ .ref a :: rest) (hdg : decode c.code g.pc = .ok (.invokespecial index, 3)) :
    am_Inv p l e R s m args below meth c H locs cells slots y g rest (Value.ref a :: argsL).toArray := by
  intro T hT X
  subst hg
  have hpl : e.platform.magicAccessors = ({} : Platform).magicAccessors := by rw [X.admits.platform]
  obtain ⟨mk, methM, cM, kP, vm₁, hnamed, hmethM, hcodeM, -, hlocalsM, -, hkP, -, hW₁, hstep₁⟩ := Steps.initColdArgsNest (e := e) X.here hexec X.warmed hpl hown hy1 hy hlink hinst hcode (f := g) rfl hlen hstack hdg
  exact ⟨mk, vm₁, X.noted hW₁, hnamed, hstep₁⟩
/-- a call: on behind it, or with what was thrown over the frame -/
theorem am_row {y : MethodName} {ws : List Jvm.Cond} {rm : Room} {Pc : Array Value → State → Prop} {P : Outcome → State → State → Prop} {mc ms : Nat} {free : Addr → Prop} {bytes : ByteArray} {maxL : Nat} {ret : Option FieldType} {hh : List (Nat × Nat × Nat × Nat)}
    {pc : Nat} {ls : Array Slot} {st0 rest : List Value} {av : Array Value} {ig : Instr} (hI : am_Inv p l e R s m args below meth c H locs cells slots y (F0 m pc ls st0) rest av)
    (hM : am_Met l y ws rm Pc P mc ms free) (hblind : FrameBlind Pc) (hrc : rm.cells = mc) (hrs : rm.slots = ms) (hframes : rm.frames + 1 ≤ R.frames) (hlocals : 8 + (maxL + 11) + rm.locals ≤ R.locals)
    (hsize : ls.size = c.maxLocals) (hdg : decode c.code pc = .ok (ig, 3)) (hW : (rest.map fun v => v.category).sum ≤ 8)
    (hws : ∀ w ∈ ws, ∀ (a' : Array Value) (U : State), s.WarmedH U.vm → w.before a' U = true) (hcode : am_cw y bytes maxL ret hh ∈ ws) (hinit : (Cond.initialized y.cls).before args s = true) (h4 : cells + mc ≤ R.cells) (h5 : slots + ms ≤ R.slots)
    (hPc : ∀ U : State, U.heap = H → s.WarmedH U.vm → Pc av U)
    (kr : ∀ (v : Option Value) (st₀ t : State) (L : List Loc), st₀.heap = H → s.WarmedH t.vm → P (.returned v) st₀ t → (∀ q ∈ L, free q.base) → W p l e R s m args below meth c t.heap (locs ++ L) (cells + mc) (slots + ms) Q (F0 m (pc + 3) ls (v.toList ++ rest)))
    (kx : ∀ (q : Addr) (st₀ t : State) (L : List Loc), st₀.heap = H → s.WarmedH t.vm → P (.threw q) st₀ t → (∀ q ∈ L, free q.base) → am_WX p l e R s m args below meth c t.heap (locs ++ L) (cells + mc) (slots + ms) Q (F0 m pc ls rest) q)
    (ho : ∀ (o : Outcome) (st₀ t : State), P o st₀ t → (∃ v, o = .returned v) ∨ ∃ q, o = .threw q) : W p l e R s m args below meth c H locs cells slots Q (F0 m pc ls st0) := by
  intro T hT X
  obtain ⟨mk, vm₁, X₁, hnamed, hstep₁⟩ := hI T hT X
  obtain ⟨o, t, T', L, X', e1, e2, hPo, hL, hr, hx⟩ := am_back (bytes := bytes) (maxL := maxL) (ret := ret) (hh := hh) (W9 := 8) (len := 3) hM hblind hrc hrs hframes hlocals X₁ (g := { F0 m pc ls st0 with stack := rest }) (ig := ig) (mk := mk) (a := av) rfl hsize hdg
    (by show 2 * 0 + _ ≤ 8; simpa using hW) (X₁.named hnamed) (fun w hw => hws w hw _ _ X₁.warmed) (hws _ hcode _ _ X₁.warmed) (word_at X₁.warmed (Or.inl (by first | rfl | simp [Cond.onTables, Cond.keeps, Cond.steady])) hinit) h4 h5 (hPc _ hT X₁.warmed)
  rcases ho _ _ _ hPo with ⟨v, rfl⟩ | ⟨q, rfl⟩
  · obtain ⟨t2, a1, b1⟩ := kr v ((T.setVm vm₁).calling (F0 m pc ls rest) mk av) t L hT (by rw [← e2]; exact X'.warmed) hPo hL T' e1 X'
    exact ⟨t2, hstep₁ _ fun acts => by rw [doInvoke_state]; exact (hr v rfl).trans a1, b1⟩
  · obtain ⟨t2, a1, b1⟩ := kx q ((T.setVm vm₁).calling (F0 m pc ls rest) mk av) t L hT (by rw [← e2]; exact X'.warmed) hPo hL T' e1 X'
    exact ⟨t2, hstep₁ _ fun acts => by rw [doInvoke_state]; exact (hx q rfl).trans a1, b1⟩
end AmInv
end
section
/-! 'throw new E("text")', out of a method without handlers there. -/
/-- what Throwable's constructor reads of the class's statics, in every state like U whose cells outside A are H's -/
def am_Zs (A : Nat → Prop) (U : State) (H : Heap) : Prop := ∀ (V : State) (a : Array Value), U.vm.Alike V.vm → (∀ q : Nat, q < H.size → ¬ A q → V.heap[q]? = H[q]?) →
  (Cond.isRef (.static Bundle.tN "UNASSIGNED_STACK" Bundle.steD)).before a V = true ∧ (Cond.isRef (.static Bundle.tN "SUPPRESSED_SENTINEL" Bundle.listD)).before a V = true ∧ (Cond.laysStatic Bundle.tN "UNASSIGNED_STACK" Bundle.steD).before a V = true ∧ (Cond.laysStatic Bundle.tN "SUPPRESSED_SENTINEL" Bundle.listD).before a V = true
theorem am_Zs.moved {A : Nat → Prop} {u U : State} {H : Heap} (hvm : u.vm.Alike U.vm) (h : am_Zs A u H) : am_Zs A U H := fun V a hv hk => h V a (hvm.trans hv) hk
theorem am_Zs.kept {A : Nat → Prop} {U : State} {H H1 : Heap} (h : am_Zs A U H) (hz : H.size ≤ H1.size) (hq : ∀ q : Nat, q < H.size → ¬ A q → H1[q]? = H[q]?) : am_Zs A U H1 := fun V a hv hk => h V a hv fun q h1 h2 => (hk q (Nat.lt_of_lt_of_le h1 hz) h2).trans (hq q h1 h2)
/-- words that don't speak of the statics' cells -/
def am_nh (w : Jvm.Cond) : Bool := decide (w ≠ .isRef (.static Bundle.tN "UNASSIGNED_STACK" Bundle.steD) ∧ w ≠ .isRef (.static Bundle.tN "SUPPRESSED_SENTINEL" Bundle.listD) ∧ w ≠ .laysStatic Bundle.tN "UNASSIGNED_STACK" Bundle.steD ∧ w ≠ .laysStatic Bundle.tN "SUPPRESSED_SENTINEL" Bundle.listD)
section AmThrow
variable {p : Program} {l : Launch} {e : Env} {R : Room} {s : State} {m : MethodId} {args : Array Value} {below : List Frame} {meth : Method} {c : Code} {H : Heap} {locs : List Loc} {cells slots : Nat}
/-- the method as if it were entered now, with the cells as they are -/
theorem am_anew {T : State} (X : Stand p l e R s m args below meth c T locs cells slots) {R' : Room} (hf : R'.frames ≤ R.frames) (hl : R'.locals ≤ R.locals) (hc : cells + R'.cells ≤ R.cells) (hs : slots + R'.slots ≤ R.slots) :
    Stand p l e R' ((T.setVm s.vm).setFrames (.invoking m args :: below)) m args below meth c T [] 0 0 := by
  have htop : (T.setVm s.vm).topJava?.isSome := X.here.top
  have hF : ((T.setVm s.vm).setFrames (.invoking m args :: below)).frames = .invoking m args :: below := State.frames_setFrames _ (State.cur_lt_of_top htop)
  obtain ⟨g₀, hg0⟩ := Option.isSome_iff_exists.mp htop
  obtain ⟨r, hr⟩ := State.topJava?_eq_some.mp hg0
  have hl9 : e.platform.stackLimits (T.setVm s.vm).me = e.platform.stackLimits s.me := X.limits
  have hb9 : (T.setVm s.vm).me.stackBytes = s.me.stackBytes := X.bytes
  have hnil : T.heap.toList.drop T.heap.size = [] := List.drop_eq_nil_of_le (Nat.le_of_eq Array.length_toList)
  have hroom : ((T.setVm s.vm).setFrames (.invoking m args :: below)).hasRoom e.platform R' = true := by
    have hU : ((T.setVm s.vm).setFrames (.invoking m args :: below)).localsInUse = s.localsInUse := by
      rw [State.localsInUse_invoking hF (meth := meth) (c := c) X.method X.code, State.localsInUse_invoking X.frames X.method X.code]
    have h := X.room
    simp only [State.hasRoom, Bool.and_eq_true, decide_eq_true_eq] at h ⊢
    obtain ⟨⟨⟨⟨h1, h2, h3, h4, h5, h6⟩, h7⟩, h8⟩, h9⟩ := h
    rw [X.frames, List.length_cons] at h2 h3
    have q1 := X.heapSize
    have q2 := X.used
    simp only [hF, hU, List.length_cons, State.stackLimits_setFrames, State.stackBytes_setFrames, hl9, hb9]
    exact ⟨⟨⟨⟨by omega, by omega, by omega, by omega, by omega, h6⟩, show T.heap.size + R'.cells ≤ e.platform.maxCells by omega⟩, show T.slotsUsed + R'.slots ≤ e.platform.maxSlots by omega⟩, X.book⟩
  have hsame : ((T.setVm s.vm).setFrames (.invoking m args :: below)).sameButNew (T.setVm s.vm) [] 0 0 := by
    refine ⟨?_, Nat.le_refl _, Nat.le_refl _, ?_, ?_, fun a c9 h9 => ⟨c9, h9, rfl, rfl, fun _ _ => rfl⟩⟩
    · obtain ⟨t, ht, -⟩ := State.frames_cons hr
      show T.setVm s.vm = { ((T.setVm s.vm).setFrames (.invoking m args :: below)).setFrames (T.setVm s.vm).frames with heap := T.heap, slotsUsed := T.slotsUsed }
      rw [State.setFrames_setFrames, State.setFrames_self ht]
      rfl
    · show T.slotsUsed = T.slotsUsed + ((T.heap.toList.drop T.heap.size).map (·.slots.size)).sum
      rw [hnil]
      rfl
    · show ((T.heap.toList.drop T.heap.size).map (·.slots.size)).sum ≤ 0
      rw [hnil]
      exact Nat.le_refl _
  exact ⟨X.admits, X.cas, X.clock, hF, hroom, X.hears, X.method, X.code, X.here, X.tail, X.warmed, by rw [State.stackLimits_setFrames]; rfl, by rw [State.stackBytes_setFrames]; rfl, hsame⟩
theorem am_throw {P : Outcome → State → State → Prop} {free : Addr → Prop} {mc ms pc : Nat} {cc : ByteArray} {ls : Array Slot} {rest : List Value} (hexec : p.tables.exec = Jvm.exec) (hb : c.code = cc) (hl : l.stackTraces = false) {own cls text : String} {names : List String} {ik is ic sa : Nat} {A : Nat → Prop}
    (hown : s.vm.findClass own = some m.cls) (hcls : Bundle.fit cls = true) (hnames : ∀ n ∈ names, Bundle.fit n = true) (hk : (Cond.classLink own ik cls).before args s = true) (hini : (Cond.initialized cls).before args s = true) (hstr : vk_R own is text sa s)
    (hat : ∀ w ∈ (Bundle.ownAtoms own ic cls names).filter am_nh, w.before args s = true ∧ w.onTables = true) (hZ : am_Zs A s H) (hsize : ls.size = c.maxLocals)
    (d0 : decode cc pc = .ok (.new ik, 3)) (d3 : decode cc (pc + 3) = .ok (.dup, 1)) (d4 : decode cc (pc + 4) = .ok (.ldc is, 2)) (d6 : decode cc (pc + 6) = .ok (.invokespecial ic, 3)) (d9 : decode cc (pc + 9) = .ok (.athrow, 1))
    (hout : ∀ x ∈ c.exceptionTable.toList, covers x (pc + 9) = false) (hRframes : names.length + 3 < R.frames) (hRlocals : (rest.map fun v => v.category).sum + (13 * (names.length + 1) + 43) ≤ R.locals) (hRcells : cells + 1 ≤ R.cells) (hRslots : slots + 6 ≤ R.slots) (hlocks : meth.locks = false)
    (hq : ∀ (t : State) (ce : Cell), s.WarmedH t.vm → H.size ≤ t.heap.size → (∀ q : Nat, q < H.size → t.heap[q]? = H[q]?) → t.heap[H.size]? = some ce → ce.vm = .none → s.vm.findClass cls = some ce.cls → P (.threw H.size) s t)
    (hf : ∀ z ∈ locs, free z.base) (hc : cells + 1 ≤ mc) (hs : slots + 6 ≤ ms) :
    W p l e R s m args below meth c H locs cells slots (am_MQ below P args s mc ms free) (F0 m pc ls rest) := by
  intro T hT X
  have htr : e.platform.stackTraces = false := (show e.platform.stackTraces = l.stackTraces by rw [X.admits.platform]).trans hl
  have Y := am_anew X (R' := { frames := R.frames, locals := R.locals, cells := 1, slots := 6 }) (Nat.le_refl _) (Nat.le_refl _) hRcells hRslots
  obtain ⟨s', hA⟩ : ∃ z, z = (T.setVm s.vm).setFrames (.invoking m args :: below) := ⟨_, rfl⟩
  rw [← hA] at Y
  have hvm : s'.vm = s.vm := by rw [hA]; rfl
  have hhp : s'.heap = H := by rw [hA]; exact hT
  have hW0 : s.WarmedH s'.vm := by rw [hvm]; exact State.WarmedH.refl s
  have hall0 : ∀ w ∈ Bundle.ownAtoms own ic cls names, w.before args s' = true := by
    intro w hw
    obtain ⟨z1, z2, z3, z4⟩ := hZ s' args hW0.alike (fun q _ _ => by rw [hhp])
    by_cases e1 : am_nh w = true
    · obtain ⟨g1, g2⟩ := hat w (List.mem_filter.mpr ⟨hw, e1⟩)
      exact va_tabs g2 hvm.symm g1
    · by_cases f1 : w = .isRef (.static Bundle.tN "UNASSIGNED_STACK" Bundle.steD)
      · rw [f1]; exact z1
      · by_cases f2 : w = .isRef (.static Bundle.tN "SUPPRESSED_SENTINEL" Bundle.listD)
        · rw [f2]; exact z2
        · by_cases f3 : w = .laysStatic Bundle.tN "UNASSIGNED_STACK" Bundle.steD
          · rw [f3]; exact z3
          · by_cases f4 : w = .laysStatic Bundle.tN "SUPPRESSED_SENTINEL" Bundle.listD
            · rw [f4]; exact z4
            · exact absurd (decide_eq_true (⟨f1, f2, f3, f4⟩ : _ ∧ _ ∧ _ ∧ _)) e1
  have hk' : (Cond.classLink own ik cls).before args s' = true := word_at hW0 (Or.inl (by first | rfl | simp [Cond.onTables, Cond.keeps, Cond.steady])) hk
  have hini' : (Cond.initialized cls).before args s' = true := word_at hW0 (Or.inl (by first | rfl | simp [Cond.onTables, Cond.keeps, Cond.steady])) hini
  have hown' : s'.vm.findClass own = some m.cls := by rw [hvm]; exact hown
  have hins : (Cond.instantiable cls 6).before args s' = true := hall0 _ (by simp [Bundle.ownAtoms])
  obtain ⟨vm₁, cX, kX, hfX, hkX, -, -, X₁, st1⟩ := Y.newCold hexec (own := own) (C := cls) (index := ik) (n := 6) hown' hk' hins hini'
    (g := F0 m pc ls rest) rfl (by rw [hb]; exact d0) (Nat.le_refl _) (Nat.le_refl _)
  generalize hT1 : (T.setVm vm₁).pushCell { cls := cX, slots := kX.instanceTypes.map defaultValue, vm := .none } = T1 at X₁ st1
  have hcat : (Value.ref T.heap.size).category = 1 := rfl
  have hcellA : T1.heap[T.heap.size]? = some (freshCell cX kX) := by rw [← hT1]; exact State.heap_pushCell_size _ _
  have d3' : decode c.code (pc + 3) = .ok (.dup, 1) := by rw [hb]; exact d3
  have d4' : decode c.code (pc + 4) = .ok (.ldc is, 2) := by rw [hb]; exact d4
  have hstr' : vk_R own is text sa s' := vk_R.warm hW0 hstr
  obtain ⟨U, hsteps, hrun, hend, hW, hsame, ce, hce, hO⟩ := X₁.ctorThrowS hexec htr (own := own) (cls := cls) (names := names) (ic := ic) hown' hcls hnames hall0 (fun x hx => nomatch hx) hfX hkX hcellA (by rw [hhp, hT]; exact Nat.le_refl _) (msg := .ref sa) rfl
    (g := { method := m, pc := pc + 6, locals := ls, stack := .ref sa :: .ref T.heap.size :: .ref T.heap.size :: rest, locked := none }) rfl hsize rfl rfl (rest := rest) rfl
    (by rw [hb]; exact d6) (by rw [hb]; exact d9) hout hRframes (by simp only [List.map_cons, List.sum_cons, hcat]; omega) hlocks
  have hWs : s.WarmedH U.vm := State.WarmedH.trans hW0 hW
  have hcl : s.vm.findClass cls = some ce.cls := by
    have h9 := hO.cls
    rw [hvm] at h9
    exact h9
  have hsz : T.heap.size = H.size := by rw [hT]
  have hkeep : H.size ≤ U.heap.size ∧ ∀ q : Nat, q < H.size → U.heap[q]? = H[q]? := by
    obtain ⟨-, h2, -, -, -, h6⟩ := id hsame
    rw [hhp] at h2
    refine ⟨h2, fun q hq9 => ?_⟩
    obtain ⟨c9, g1, g2, g3, g4⟩ := h6 q (s'.heap[q]'(by rw [hhp]; exact hq9)) (Array.getElem?_eq_getElem _)
    have hs9 : c9.slots = (s'.heap[q]'(by rw [hhp]; exact hq9)).slots := Array.ext_getElem? fun i => g4 i fun hm => nomatch hm
    have h9 : c9 = s'.heap[q]'(by rw [hhp]; exact hq9) := by
      rw [hs9] at g2
      exact g2
    have e5 : U.heap[q]? = some c9 := g1
    have e6 : s'.heap[q]? = some (s'.heap[q]'(by rw [hhp]; exact hq9)) := Array.getElem?_eq_getElem _
    rw [e5, h9, ← e6, hhp]
  have hall : s.sameButNew ({ U with vm := s.vm } : State) locs mc ms := by
    subst hA
    obtain ⟨e1, e2⟩ := hsame
    rw [State.setFrames_setFrames] at e1
    have h2 : (T.setVm s.vm).sameButNew ({ U with vm := s.vm } : State) [] (0 + 1) (0 + 6) := ⟨e1, e2⟩
    have h3 := X.same.trans h2
    rw [List.append_nil] at h3
    exact h3.mono hc hs
  have hPo : P (.threw T.heap.size) s U := by
    rw [hsz]
    exact hq U ce hWs hkeep.1 hkeep.2 (by rw [← hsz]; exact hce) hO.vm hcl
  refine ⟨U, st1 _ ?_, .threw T.heap.size, hrun, hend, hPo, hWs, locs, hall, hf⟩
  show Steps p.tables e below (T1.setTop { method := m, pc := pc + 3, locals := ls, stack := .ref T.heap.size :: rest, locked := none }) _
  jvm_step X₁.here [X₁.here.top, hexec, d3', Value.category]
  exact X₁.ldcString hexec (own := own) (text := text) (index := is) (a := sa) hown' hstr'.1 hstr'.2
    (g := { method := m, pc := pc + 4, locals := ls, stack := .ref T.heap.size :: .ref T.heap.size :: rest, locked := none }) rfl d4' _ hsteps
end AmThrow
end
section
/-! What the abstract machine keeps: references within, cells that only grow. -/
def am_Ok (L : am_L) (S : List Value) (h : am_H) : Prop := am_okh h ∧ (∀ v ∈ S, am_okv h.length v) ∧ ∀ v, some v ∈ L → am_okv h.length v
def am_Gr (h h' : am_H) : Prop := h.length ≤ h'.length ∧ am_sz h ≤ am_sz h'
theorem am_Gr.rf (h : am_H) : am_Gr h h := ⟨Nat.le_refl _, Nat.le_refl _⟩
theorem am_Gr.trans {a b c : am_H} (h1 : am_Gr a b) (h2 : am_Gr b c) : am_Gr a c := ⟨Nat.le_trans h1.1 h2.1, Nat.le_trans h1.2 h2.2⟩
theorem am_Gr.set {h : am_H} {k : Nat} {e e' : am_E} (hk : h[k]? = some e) (he : am_es e' = am_es e) : am_Gr h (h.set k e') := ⟨by rw [List.length_set]; exact Nat.le_refl _, by rw [am_sz_set hk he]; exact Nat.le_refl _⟩
theorem am_Gr.push (h : am_H) (e : am_E) : am_Gr h (h ++ [e]) := ⟨by simp, by rw [am_sz_push]; exact Nat.le_add_right _ _⟩
theorem am_setL {n : Nat} {L : am_L} {k : Nat} {v : Value} (hL : ∀ w, some w ∈ L → am_okv n w) (hv : am_okv n v) : ∀ w, some w ∈ L.set k (some v) → am_okv n w := by
  intro w hw
  rcases List.mem_or_eq_of_mem_set hw with h1 | h1
  · exact hL w h1
  · rw [Option.some.inj h1]; exact hv
theorem am_Ok.set {L : am_L} {S S' : List Value} {h : am_H} (ho : am_Ok L S h) (hS : ∀ v ∈ S', am_okv h.length v) {k : Nat} {e : am_E} (he : am_oke h.length e) : am_Ok L S' (h.set k e) := ⟨ho.1.set he, by rw [List.length_set]; exact hS, by rw [List.length_set]; exact ho.2.2⟩
theorem am_Ok.push {L : am_L} {S S' : List Value} {h : am_H} (ho : am_Ok L S h) (hS : ∀ v ∈ S', am_okv h.length v) {e : am_E} (he : am_oke (h.length + 1) e) : am_Ok L (.ref h.length :: S') (h ++ [e]) :=
  ⟨ho.1.push he, am_cons (by rw [List.length_append]; exact Nat.lt_succ_self _) (fun v hv => (hS v hv).mono (by simp)), fun v hv => (ho.2.2 v hv).mono (by simp)⟩
theorem am_Ok.S {L : am_L} {S S' : List Value} {h : am_H} (ho : am_Ok L S h) (hS : ∀ v ∈ S', am_okv h.length v) : am_Ok L S' h := ⟨ho.1, hS, ho.2.2⟩
theorem am_st_ok {F : am_F} (hnw : ∀ own k ci fs, am_nw F own k = some (ci, fs) → ∀ v ∈ fs, am_isR v = false) {own : String} {ini : Bool} {i : Instr} {len pc pc' : Nat} {L L' : am_L} {S S' : List Value} {h h' : am_H} (hs : am_st F own ini i len pc L S h = some (pc', L', S', h')) :
    am_Gr h h' ∧ (am_Ok L S h → am_Ok L' S' h') := by
  unfold am_st at hs
  split at hs
  -- iconst, bipush, sipush
  · cases hs; exact ⟨.rf _, fun ho => ho.S (am_cons trivial ho.2.1)⟩
  · cases hs; exact ⟨.rf _, fun ho => ho.S (am_cons trivial ho.2.1)⟩
  · cases hs; exact ⟨.rf _, fun ho => ho.S (am_cons trivial ho.2.1)⟩
  -- ldc
  · split at hs
    · cases hs; exact ⟨.rf _, fun ho => ho.S (am_cons trivial ho.2.1)⟩
    · cases hs
  -- iload_n, iload
  · split at hs
    · cases hs; exact ⟨.rf _, fun ho => ho.S (am_cons trivial ho.2.1)⟩
    · cases hs
  · split at hs
    · cases hs; exact ⟨.rf _, fun ho => ho.S (am_cons trivial ho.2.1)⟩
    · cases hs
  -- aload_n, aload
  · split at hs
    · rename_i v hv
      split at hs
      · cases hs; exact ⟨.rf _, fun ho => ho.S (am_cons (ho.2.2 _ (List.mem_of_getElem? hv)) ho.2.1)⟩
      · cases hs
    · cases hs
  · split at hs
    · rename_i v hv
      split at hs
      · cases hs; exact ⟨.rf _, fun ho => ho.S (am_cons (ho.2.2 _ (List.mem_of_getElem? hv)) ho.2.1)⟩
      · cases hs
    · cases hs
  -- istore_n, istore, astore_n, astore
  · split at hs
    · cases hs; exact ⟨.rf _, fun ho => ⟨ho.1, am_tl ho.2.1, am_setL ho.2.2 trivial⟩⟩
    · cases hs
  · split at hs
    · cases hs; exact ⟨.rf _, fun ho => ⟨ho.1, am_tl ho.2.1, am_setL ho.2.2 trivial⟩⟩
    · cases hs
  · split at hs
    · cases hs; exact ⟨.rf _, fun ho => ⟨ho.1, am_tl ho.2.1, am_setL ho.2.2 (am_hd ho.2.1)⟩⟩
    · cases hs
  · split at hs
    · cases hs; exact ⟨.rf _, fun ho => ⟨ho.1, am_tl ho.2.1, am_setL ho.2.2 (am_hd ho.2.1)⟩⟩
    · cases hs
  -- iinc
  · split at hs
    · cases hs; exact ⟨.rf _, fun ho => ⟨ho.1, ho.2.1, am_setL ho.2.2 trivial⟩⟩
    · cases hs
  -- dup, dup2, pop
  · split at hs
    · cases hs; exact ⟨.rf _, fun ho => ho.S (am_cons (am_hd ho.2.1) ho.2.1)⟩
    · cases hs
  · split at hs
    · cases hs; exact ⟨.rf _, fun ho => ho.S (am_cons (am_hd ho.2.1) (am_cons (am_hd (am_tl ho.2.1)) ho.2.1))⟩
    · cases hs
  · split at hs
    · cases hs; exact ⟨.rf _, fun ho => ho.S (am_tl ho.2.1)⟩
    · cases hs
  -- arithmetic
  · cases hs; exact ⟨.rf _, fun ho => ho.S (am_cons trivial (am_tl (am_tl ho.2.1)))⟩
  · cases hs; exact ⟨.rf _, fun ho => ho.S (am_cons trivial (am_tl (am_tl ho.2.1)))⟩
  · cases hs; exact ⟨.rf _, fun ho => ho.S (am_cons trivial (am_tl (am_tl ho.2.1)))⟩
  · cases hs; exact ⟨.rf _, fun ho => ho.S (am_cons trivial (am_tl (am_tl ho.2.1)))⟩
  · cases hs; exact ⟨.rf _, fun ho => ho.S (am_cons trivial (am_tl ho.2.1))⟩
  · cases hs; exact ⟨.rf _, fun ho => ho.S (am_cons trivial (am_tl (am_tl ho.2.1)))⟩
  -- goto, ifs
  · split at hs
    · cases hs; exact ⟨.rf _, fun ho => ho⟩
    · cases hs
  · split at hs
    · cases hs; exact ⟨.rf _, fun ho => ho.S (am_tl ho.2.1)⟩
    · cases hs
  · split at hs
    · cases hs; exact ⟨.rf _, fun ho => ho.S (am_tl (am_tl ho.2.1))⟩
    · cases hs
  -- switches
  · split at hs
    · split at hs
      · cases hs; exact ⟨.rf _, fun ho => ho.S (am_tl ho.2.1)⟩
      · cases hs
    · split at hs
      · split at hs
        · cases hs; exact ⟨.rf _, fun ho => ho.S (am_tl ho.2.1)⟩
        · cases hs
      · cases hs
  · split at hs
    · split at hs
      · cases hs; exact ⟨.rf _, fun ho => ho.S (am_tl ho.2.1)⟩
      · cases hs
    · cases hs
  -- getfield
  · split at hs
    · rename_i ci j ty fin c2 fs hf hh
      split at hs
      · split at hs
        · rename_i v hv
          cases hs
          exact ⟨.rf _, fun ho => ho.S (am_cons (ho.1 _ (List.mem_of_getElem? hh) v (List.mem_of_getElem? hv)) (am_tl ho.2.1))⟩
        · cases hs
      · cases hs
    · cases hs
  -- putfield
  · split at hs
    · rename_i ci j ty fin c2 fs hf hh
      split at hs
      · cases hs
        refine ⟨.set hh (by simp [am_es]), fun ho => ho.set (am_tl (am_tl ho.2.1)) (fun w hw => ?_)⟩
        rcases List.mem_or_eq_of_mem_set hw with h1 | h1
        · exact ho.1 _ (List.mem_of_getElem? hh) w h1
        · rw [h1]; exact am_hd ho.2.1
      · cases hs
    · cases hs
  -- new
  · split at hs
    · rename_i ci fs hf
      cases hs
      exact ⟨.push _ _, fun ho => ho.push ho.2.1 (fun v hv => by have h3 := hnw _ _ _ _ hf v hv; cases v <;> first | trivial | cases h3)⟩
    · cases hs
  -- newarray
  · split at hs
    · cases hs
    · split at hs
      · rename_i at0 n S0 _ e9 he9
        cases hs
        refine ⟨.push _ _, fun ho => ho.push (am_tl ho.2.1) ?_⟩
        unfold am_at0 at he9
        split at he9 <;> cases he9 <;> trivial
      · cases hs
  -- arraylength
  · split at hs
    · cases hs; exact ⟨.rf _, fun ho => ho.S (am_cons trivial (am_tl ho.2.1))⟩
    · split at hs
      · cases hs; exact ⟨.rf _, fun ho => ho.S (am_cons trivial (am_tl ho.2.1))⟩
      · cases hs; exact ⟨.rf _, fun ho => ho.S (am_cons trivial (am_tl ho.2.1))⟩
      · cases hs
    · cases hs
  -- iaload
  · split at hs
    · split at hs
      · cases hs; exact ⟨.rf _, fun ho => ho.S (am_cons trivial (am_tl (am_tl ho.2.1)))⟩
      · cases hs
    · split at hs
      · split at hs
        · cases hs; exact ⟨.rf _, fun ho => ho.S (am_cons trivial (am_tl (am_tl ho.2.1)))⟩
        · cases hs
      · cases hs
    · cases hs
  -- iastore
  · split at hs
    · rename_i hh
      split at hs
      · cases hs; exact ⟨.set hh rfl, fun ho => ho.set (am_tl (am_tl (am_tl ho.2.1))) trivial⟩
      · cases hs
    · cases hs
  -- baload
  · split at hs
    · split at hs
      · cases hs; exact ⟨.rf _, fun ho => ho.S (am_cons trivial (am_tl (am_tl ho.2.1)))⟩
      · cases hs
    · cases hs
  -- bastore
  · split at hs
    · rename_i hh
      split at hs
      · cases hs; exact ⟨.set hh rfl, fun ho => ho.set (am_tl (am_tl (am_tl ho.2.1))) trivial⟩
      · cases hs
    · cases hs
  -- laload
  · split at hs
    · split at hs
      · cases hs; exact ⟨.rf _, fun ho => ho.S (am_cons trivial (am_tl (am_tl ho.2.1)))⟩
      · cases hs
    · cases hs
  -- lastore
  · split at hs
    · rename_i hh
      split at hs
      · cases hs; exact ⟨.set hh rfl, fun ho => ho.set (am_tl (am_tl (am_tl ho.2.1))) trivial⟩
      · cases hs
    · cases hs
  · cases hs
def am_okO (h : am_H) (o : am_O) : Prop := match o with
  | .inl none => True
  | .inl (some v) => am_okv h.length v
  | .inr (x, k) => h[k]? = some (am_X x)
def am_OkS (a : am_S) : Prop := am_Ok a.2.2.1 a.2.2.2.1 a.2.2.2.2 ∧ ∀ x k, a.1 = some (x, k) → a.2.2.2.2[k]? = some (am_X x)
def am_okE (E : am_EvT) : Prop := ∀ j as h o h', E j as h o h' → am_Gr h h' ∧ (am_okh h → (∀ v ∈ as, am_okv h.length v) → am_okh h' ∧ am_okO h' o)
theorem am_cp_ok {h h' : am_H} {a b : Nat} {sp dp n : Int32} (hs : am_cp h a sp b dp n = some h') : am_Gr h h' ∧ (am_okh h → am_okh h') ∧ h'.length = h.length := by
  unfold am_cp at hs
  split at hs
  · rename_i h1 h2
    split at hs
    · cases hs
      exact ⟨.set h2 rfl, fun ho => ho.set trivial, by simp⟩
    · cases hs
  · cases hs
theorem am_Stp_ok {F : am_F} (hnw : ∀ own k ci fs, am_nw F own k = some (ci, fs) → ∀ v ∈ fs, am_isR v = false) {cl : List vw_C} {ms : Nat → Option am_M} {E : am_EvT} (hE : am_okE E) {M : am_M} {a b : am_S} (hs : am_Stp F cl ms E M a b) : am_Gr a.2.2.2.2 b.2.2.2.2 ∧ (am_OkS a → am_OkS b) := by
  rcases hs with ⟨pc, L, S, h, i, len, ⟨pc', L', S', h'⟩, rfl, h2, h3, rfl⟩ | ⟨pc, L, S, h, i, len, j, w, N, as, rest, o, h', rfl, h2, h3, h4, h5, h6, rfl, h8, h9, h10, h11, rfl⟩ | ⟨pc, L, h, i, len, j, k, rest, rfl, h2, h3, h4, rfl⟩ | ⟨pc, L, h, i, len, j, k1, sp, k2, dp, n, rest, h', rfl, h2, h3, h4, h5, rfl⟩ | ⟨pc, L, h, i, len, j, w, x, y, rest, rfl, h2, h3, h4, h5, rfl⟩ | ⟨pc, L, S, h, x, k, f, t, w, rfl, h2, h3, h4, rfl⟩
  · obtain ⟨g1, g2⟩ := am_st_ok hnw h3
    exact ⟨g1, fun ho => ⟨g2 ho.1, fun x k hx => by cases hx⟩⟩
  · obtain ⟨g1, g2⟩ := hE _ _ _ _ _ h11
    rcases o with v | ⟨x, k⟩
    · refine ⟨g1, fun ho => ?_⟩
      obtain ⟨⟨o1, o2, o3⟩, -⟩ := ho
      obtain ⟨q1, q2⟩ := g2 o1 (fun v hv => o2 v (List.mem_append_left _ (List.mem_reverse.mpr hv)))
      refine ⟨⟨q1, fun u hu => ?_, fun u hu => (o3 u hu).mono g1.1⟩, fun x k hx => by cases hx⟩
      rcases List.mem_append.mp hu with h1 | h1
      · cases v with
        | none => cases h1
        | some v =>
          rw [show u = v by simpa using h1]
          exact q2
      · exact (o2 u (List.mem_append_right _ h1)).mono g1.1
    · refine ⟨g1, fun ho => ?_⟩
      obtain ⟨⟨o1, o2, o3⟩, -⟩ := ho
      obtain ⟨q1, q2⟩ := g2 o1 (fun v hv => o2 v (List.mem_append_left _ (List.mem_reverse.mpr hv)))
      exact ⟨⟨q1, fun u hu => (o2 u (List.mem_append_right _ hu)).mono g1.1, fun u hu => (o3 u hu).mono g1.1⟩, fun x' k' hx => by cases hx; exact q2⟩
  · exact ⟨.rf _, fun ho => ⟨ho.1.S (am_tl ho.1.2.1), fun x k hx => by cases hx⟩⟩
  · obtain ⟨g1, g2, g3⟩ := am_cp_ok h5
    refine ⟨g1, fun ho => ?_⟩
    obtain ⟨⟨o1, o2, o3⟩, -⟩ := ho
    exact ⟨⟨g2 o1, fun u hu => by show am_okv h'.length u; rw [g3]; exact am_tl (am_tl (am_tl (am_tl (am_tl o2)))) u hu, fun u hu => by show am_okv h'.length u; rw [g3]; exact o3 u hu⟩, fun x k hx => by cases hx⟩
  · exact ⟨.rf _, fun ho => ⟨ho.1.S (am_cons trivial (am_tl (am_tl ho.1.2.1))), fun x k hx => by cases hx⟩⟩
  · refine ⟨.rf _, fun ho => ?_⟩
    have hk : h[k]? = some (am_X x) := ho.2 x k rfl
    exact ⟨ho.1.S (am_cons ((List.getElem?_eq_some_iff.mp hk).1) (fun v hv => nomatch hv)), fun x k hx => by cases hx⟩
theorem am_fin_ok {F : am_F} {M : am_M} {a : am_S} {r : am_O × am_H} (hs : am_fin F M a r) : am_Gr a.2.2.2.2 r.2 ∧ (am_OkS a → am_okh r.2 ∧ am_okO r.2 r.1) := by
  rcases hs with ⟨pc, L, v, h, ty, rfl, h2, h3, h4, rfl⟩ | ⟨pc, L, h, rfl, h2, h3, rfl⟩ | ⟨pc, L, k, h, ty, rfl, h2, h3, h4, rfl⟩ | ⟨pc, L, S, h, ⟨x, k⟩, rfl, h2, rfl⟩ | ⟨pc, L, S, h, x, rfl, h2, h3, h4, rfl⟩
  · exact ⟨.rf _, fun ho => ⟨ho.1.1, trivial⟩⟩
  · exact ⟨.rf _, fun ho => ⟨ho.1.1, trivial⟩⟩
  · exact ⟨.rf _, fun ho => ⟨ho.1.1, am_hd ho.1.2.1⟩⟩
  · exact ⟨.rf _, fun ho => ⟨ho.1.1, ho.2 x k rfl⟩⟩
  · refine ⟨.push _ _, fun ho => ⟨ho.1.1.push (fun v hv => ?_), ?_⟩⟩
    · simp at hv
      rw [hv]
      trivial
    · show (h ++ [am_X x])[h.length]? = some (am_X x)
      simp
theorem am_Go_ok {F : am_F} (hnw : ∀ own k ci fs, am_nw F own k = some (ci, fs) → ∀ v ∈ fs, am_isR v = false) {cl : List vw_C} {ms : Nat → Option am_M} {E : am_EvT} (hE : am_okE E) {M : am_M} {a : am_S} {r : am_O × am_H} (hg : am_Go F cl ms E M r a) : am_Gr a.2.2.2.2 r.2 ∧ (am_OkS a → am_okh r.2 ∧ am_okO r.2 r.1) :=
  hg (fun a => am_Gr a.2.2.2.2 r.2 ∧ (am_OkS a → am_okh r.2 ∧ am_okO r.2 r.1)) (fun _ h => am_fin_ok h) (fun a b hs hb => by
    obtain ⟨g1, g2⟩ := am_Stp_ok hnw hE hs
    exact ⟨g1.trans hb.1, fun ho => hb.2 (g2 ho)⟩)
theorem am_ent_ok {M : am_M} {as : List Value} {n : Nat} (h : ∀ v ∈ as, am_okv n v) : ∀ v, some v ∈ am_ent M as → am_okv n v := by
  intro v hv
  rcases List.mem_append.mp hv with h1 | h1
  · obtain ⟨w, hw, e⟩ := List.mem_map.mp h1
    rw [← Option.some.inj e]
    exact h w hw
  · have := List.eq_of_mem_replicate h1
    cases this
theorem am_Ev_ok {F : am_F} (hnw : ∀ own k ci fs, am_nw F own k = some (ci, fs) → ∀ v ∈ fs, am_isR v = false) {cl : List vw_C} {ms : Nat → Option am_M} : ∀ d, am_okE (am_Ev F cl ms d)
  | 0 => fun _ _ _ _ _ h => h.elim
  | d + 1 => fun j as h o h' ⟨M, _, _, _, _, hg⟩ => by
    obtain ⟨g1, g2⟩ := am_Go_ok hnw (am_Ev_ok hnw d) hg
    exact ⟨g1, fun o1 o2 => g2 ⟨⟨o1, (fun v hv => by cases hv), am_ent_ok o2⟩, fun x k hx => by cases hx⟩⟩
end
section
/-! THE ABSTRACT MACHINE IS SOUND: a call that it says ends so, ends so in the machine. -/
def am_Kx (F : am_F) (cl : List vw_C) (D : va_G) (c3 : am_A3) (A : Nat → Prop) (b : Nat) (Ns : List Jvm.Cond) (St : List (String × Nat × String × Nat)) (U : State) : Prop :=
  va_K D cl (am_ty c3) U ∧ va_X b (am_sn F) (am_sx F) U U.heap ∧ b < U.heap.size ∧ (∀ q : Nat, U.heap.size ≤ q → A q) ∧ (∀ w ∈ Ns, va_Nw w U) ∧ (∀ q ∈ St, vk_R q.1 q.2.1 q.2.2.1 q.2.2.2 U) ∧ am_Zs A U U.heap
def am_nk (w : Jvm.Cond) : Bool := match w with
  | .methodLinkNest _ _ _ _ => true
  | .castable _ _ => true
  | .declares _ => true
  | _ => false
theorem am_nk_warm {w : Jvm.Cond} (hw : am_nk w = true) {s U : State} (hW : s.WarmedH U.vm) (h : va_Nw w s) : va_Nw w U := by
  cases w <;> first | exact va_Nw.warmM hW h | exact va_Nw.warmC hW h | exact va_Nw.warmD hW h | cases hw
theorem am_nk_tab {w : Jvm.Cond} (hw : am_nk w = true) : w.onTables = true := by
  cases w <;> first | rfl | cases hw
theorem am_Kx.at {F : am_F} {cl : List vw_C} {D : va_G} {c3 : am_A3} {A : Nat → Prop} {b : Nat} {Ns : List Jvm.Cond} {St : List (String × Nat × String × Nat)} {s U : State} {H : Heap} {locs : List Loc} (hNs : ∀ w ∈ Ns, am_nk w = true) (hbA : ¬ A b) (h : am_Kx F cl D c3 A b Ns St s) (hU : U.heap = H) (hW : s.WarmedH U.vm) (hS : va_S A s.heap H locs) : am_Kx F cl D c3 A b Ns St U := by
  obtain ⟨h1, h2, h3, h4, h5, h6, h7⟩ := h
  subst hU
  exact ⟨va_K.moved hW.alike h1, va_X.moved hW.alike (h2.kept (hS.2.1 b h3 hbA)), Nat.lt_of_lt_of_le h3 hS.1, fun q hq => h4 q (Nat.le_trans hS.1 hq), fun w hw => am_nk_warm (hNs w hw) hW (h5 w hw), fun q hq => vk_R.warm hW (h6 q hq), (h7.moved hW.alike).kept hS.1 hS.2.1⟩
def am_Pc (F : am_F) (cl : List vw_C) (D : va_G) (c3 : am_A3) (A : Nat → Prop) (b : Nat) (Ns : List Jvm.Cond) (St : List (String × Nat × String × Nat)) (ad : Nat → Nat) (h : am_H) (as : List Value) : Array Value → State → Prop := fun v U =>
  v = (as.map (am_tr b ad)).toArray ∧ va_P D cl (am_ws c3 b ad h) U.heap ∧ va_D A (am_ws c3 b ad h) ∧ am_Kx F cl D c3 A b Ns St U
def am_oc (b : Nat) (ad : Nat → Nat) (o : am_O) : Outcome := match o with
  | .inl v => .returned (v.map (am_tr b ad))
  | .inr (_, k) => .threw (ad k)
def am_P (cl : List vw_C) (D : va_G) (c3 : am_A3) (A : Nat → Prop) (b : Nat) (ad : Nat → Nat) (h : am_H) (o : am_O) (h' : am_H) : Outcome → State → State → Prop := fun oc st t =>
  ∃ ad' : Nat → Nat, (∀ k, k < h.length → ad' k = ad k) ∧ oc = am_oc b ad' o ∧ va_P D cl (am_ws c3 b ad' h') t.heap ∧ va_D A (am_ws c3 b ad' h') ∧ va_F A st t
theorem am_P_two {cl : List vw_C} {D : va_G} {c3 : am_A3} {A : Nat → Prop} {b : Nat} {ad : Nat → Nat} {h : am_H} {o : am_O} {h' : am_H} {oc : Outcome} {st t : State} (k : am_P cl D c3 A b ad h o h' oc st t) : (∃ v, oc = .returned v) ∨ ∃ q, oc = .threw q := by
  obtain ⟨ad', -, e, -⟩ := k
  rcases o with v | ⟨x, k⟩
  · exact Or.inl ⟨_, e⟩
  · exact Or.inr ⟨_, e⟩
theorem am_Pc_blind {F : am_F} {cl : List vw_C} {D : va_G} {c3 : am_A3} {A : Nat → Prop} {b : Nat} {Ns : List Jvm.Cond} {St : List (String × Nat × String × Nat)} {ad : Nat → Nat} {h : am_H} {as : List Value} (hNs : ∀ w ∈ Ns, am_nk w = true) (hbA : ¬ A b) : FrameBlind (am_Pc F cl D c3 A b Ns St ad h as) := by
  intro a U g mk ⟨h1, h2, h3, h4⟩
  exact ⟨h1, h2, h3, h4.at hNs hbA (U := U.calling g mk a) rfl (State.WarmedH.refl U) (locs := []) va_S.rf⟩
def am_rm (d mc ms : Nat) : Room := { frames := d + 10, cells := mc, slots := ms, locals := 60 * d + 200 }
/-- the methods are what the tables say -/
def am_okMs (cl : List vw_C) (ms : Nat → Option am_M) (hm : Nat → List (Nat × Nat × Nat × Nat)) (Tg Ns : List Jvm.Cond) : Prop :=
  ∀ j M, ms j = some M → (∀ e ∈ am_cd M, decode (am_b M) e.1 = .ok (e.2.1, e.2.2)) ∧ plainName (am_y M).cls = true ∧ am_cw (am_y M) (am_b M) (am_n M) (am_r M) (hm j) ∈ Tg ∧ Cond.initialized (am_y M).cls ∈ Tg ∧
    ((am_y M).cls ≠ "java/lang/invoke/MethodHandle" ∧ (am_y M).cls ≠ "java/lang/invoke/VarHandle") ∧ am_n M ≤ 40 ∧
    ((am_hs M = [] ∧ hm j = []) ∨ ∃ (f t w x ck : Nat) (E : String) (T : u_T), am_hs M = [(f, t, w, x)] ∧ hm j = [(f, t, w, ck)] ∧ ck ≠ 0 ∧ Cond.classLink (am_y M).cls ck E ∈ Tg ∧ cl[x]? = some (E, T, 0) ∧ Cond.castable E E ∈ Ns)
/-- the calls are what the tables say -/
def am_okCl (F : am_F) (ms : Nat → Option am_M) (hm : Nat → List (Nat × Nat × Nat × Nat)) (Tg Ns : List Jvm.Cond) : Prop :=
  ∀ own k j w, am_cl F own k = some (j, w) →
    (w = 5 → Cond.methodLink own k Lib.objectInit ∈ Tg ∧ Cond.instanceMethod Lib.objectInit ∈ Tg ∧ Cond.code Lib.objectInit ⟨#[0xb1]⟩ 1 none ∈ Tg) ∧
    (w = 6 → Cond.methodLink own k arraycopyName ∈ Tg ∧ Cond.native arraycopyName ∈ Tg ∧ Cond.static arraycopyName ∈ Tg ∧ Cond.initialized "java/lang/System" ∈ Tg) ∧
    (w = 7 → Cond.methodLink own k Lib.Math.max.name ∈ Tg ∧ Cond.static Lib.Math.max.name ∈ Tg ∧ Cond.initialized "java/lang/Math" ∈ Tg ∧ Cond.code Lib.Math.max.name Lib.Math.max.code 2 (some .int) ∈ Tg) ∧
    (w = 8 → Cond.methodLink own k Lib.Math.min.name ∈ Tg ∧ Cond.static Lib.Math.min.name ∈ Tg ∧ Cond.initialized "java/lang/Math" ∈ Tg ∧ Cond.code Lib.Math.min.name Lib.Math.min.code 2 (some .int) ∈ Tg) ∧
    (w < 5 → ∀ M, ms j = some M → ∃ n, (parseMethodDescriptor (am_y M).desc).map (fun d => d.parameters.length) = some n ∧
      (w = 0 → Cond.methodLink own k (am_y M) ∈ Tg ∧ Cond.instanceMethod (am_y M) ∈ Tg ∧ Cond.selects (am_y M).cls (am_y M) (am_y M) ∈ Tg ∧ am_k M = n + 1) ∧
      (w = 1 → Cond.methodLink own k (am_y M) ∈ Tg ∧ Cond.instanceMethod (am_y M) ∈ Tg ∧ (am_y M).name = "<init>" ∧ am_r M = none ∧ hm j = [] ∧ am_k M = n + 1) ∧
      (w = 2 → Cond.methodLink own k (am_y M) ∈ Tg ∧ Cond.static (am_y M) ∈ Tg ∧ am_k M = n) ∧
      (w = 3 → ∃ host, Cond.methodLinkNest own k (am_y M) host ∈ Ns ∧ Cond.instanceMethod (am_y M) ∈ Tg ∧ Cond.selects (am_y M).cls (am_y M) (am_y M) ∈ Tg ∧ am_k M = n + 1) ∧
      (w = 4 → ∃ host, Cond.methodLinkNest own k (am_y M) host ∈ Ns ∧ Cond.instanceMethod (am_y M) ∈ Tg ∧ (am_y M).name = "<init>" ∧ am_r M = none ∧ hm j = [] ∧ am_k M = n + 1))
/-- what is thrown is what the tables say -/
def am_okTh (F : am_F) (cl : List vw_C) (ms : Nat → Option am_M) (Tg Ns : List Jvm.Cond) (St : List (String × Nat × String × Nat)) : Prop :=
  ∀ j M pc ik is ic x, ms j = some M → (am_cd M).lookup pc = some (.new ik, 3) → (am_cd M).lookup (pc + 4) = some (.ldc is, 2) → (am_cd M).lookup (pc + 6) = some (.invokespecial ic, 3) → am_th F (am_y M).cls ik = some x →
    ∃ (E : String) (T : u_T) (text : String) (sa : Nat) (names : List String), cl[x]? = some (E, T, 0) ∧ Bundle.fit E = true ∧ (∀ n ∈ names, Bundle.fit n = true) ∧ names.length ≤ 4 ∧ Cond.classLink (am_y M).cls ik E ∈ Tg ∧ Cond.initialized E ∈ Tg ∧ ((am_y M).cls, is, text, sa) ∈ St ∧
      (∀ w ∈ (Bundle.ownAtoms (am_y M).cls ic E names).filter am_nh, (w ∈ Tg ∨ w ∈ Ns) ∧ w.onTables = true)
theorem am_look {cd : List (Nat × Instr × Nat)} {pc : Nat} {x : Instr × Nat} (h : cd.lookup pc = some x) : (pc, x) ∈ cd := by
  induction cd with
  | nil => cases h
  | cons a t ih =>
    obtain ⟨k, v⟩ := a
    rw [List.lookup_cons] at h
    split at h
    · rename_i hk
      cases h
      have : pc = k := by simpa using hk
      rw [this]
      exact List.mem_cons_self
    · exact List.mem_cons_of_mem _ (ih h)
section AmBody
variable {p : Program} {l : Launch} {e : Env} {s : State} {m : MethodId} {args : Array Value} {below : List Frame} {meth : Method} {c : Code}
/-- behind a call: the relation again -/
theorem am_Rl.call {cl : List vw_C} {D : va_G} {c3 : am_A3} {A : Nat → Prop} {b nL n0 : Nat} {ad0 ad ad' : Nat → Nat} {L : am_L} {S S' : List Value} {h h' : am_H} {ls : Array Slot} {H0 : Heap} {locs L9 : List Loc} {st t : State} (hR : am_Rl cl D c3 A b nL n0 ad0 ad L S h ls H0 st.heap locs) (hle : h.length ≤ h'.length) (had : ∀ k, k < h.length → ad' k = ad k) (hok : am_okh h') (hS' : ∀ v ∈ S', am_okv h'.length v)
    (hP : va_P D cl (am_ws c3 b ad' h') t.heap) (hD : va_D A (am_ws c3 b ad' h')) (hF : va_F A st t) (hL9 : ∀ q ∈ L9, A q.base) : am_Rl cl D c3 A b nL n0 ad0 ad' L S' h' ls H0 t.heap (locs ++ L9) := by
  obtain ⟨hL, hoS, hoL, hoh, hP0, hD0, hS, hn0, had0⟩ := hR
  refine ⟨hL.ext hoL had, hS', fun v hv => (hoL v hv).mono hle, hok, hP, hD, ⟨Nat.le_trans hS.1 hF.1, fun q h1 h2 => ?_, fun q hq => ?_⟩, Nat.le_trans hn0 hle, fun k hk => ?_⟩
  · rw [hF.2 q (Nat.lt_of_lt_of_le h1 hS.1) h2]
    exact hS.2.1 q h1 h2
  · rcases List.mem_append.mp hq with h1 | h1
    · exact hS.2.2 q h1
    · exact hL9 q h1
  · rw [had k (Nat.lt_of_lt_of_le hk hn0)]
    exact had0 k hk
end AmBody
end
section
section AmBody
variable {p : Program} {l : Launch} {e : Env} {s : State} {m : MethodId} {args : Array Value} {below : List Frame} {meth : Method} {c : Code}
/-- what is to be shown of a state of the abstract machine: the machine, standing there, comes to the end -/
def am_Pm (cl : List vw_C) (D : va_G) (c3 : am_A3) (A : Nat → Prop) (b nL : Nat) (ad0 : Nat → Nat) (h0 : am_H) (o : am_O) (hf : am_H) (R : Room) (p : Program) (l : Launch) (e : Env) (s : State) (m : MethodId) (args : Array Value) (below : List Frame) (meth : Method) (c : Code) (a : am_S) : Prop :=
  am_Gr a.2.2.2.2 hf ∧ ∀ (ad : Nat → Nat) (ls : Array Slot) (H : Heap) (locs : List Loc), am_Rl cl D c3 A b nL h0.length ad0 ad a.2.2.1 a.2.2.2.1 a.2.2.2.2 ls s.heap H locs → am_Gr h0 a.2.2.2.2 → (∀ x k, a.1 = some (x, k) → a.2.2.2.2[k]? = some (am_X x)) →
    match a.1 with
    | none => W p l e R s m args below meth c H locs (a.2.2.2.2.length - h0.length) (am_sz a.2.2.2.2 - am_sz h0) (am_MQ below (am_P cl D c3 A b ad0 h0 o hf) args s (hf.length - h0.length) (am_sz hf - am_sz h0) A) (F0 m a.2.1 ls (a.2.2.2.1.map (am_tr b ad)))
    | some (_, k) => am_WX p l e R s m args below meth c H locs (a.2.2.2.2.length - h0.length) (am_sz a.2.2.2.2 - am_sz h0) (am_MQ below (am_P cl D c3 A b ad0 h0 o hf) args s (hf.length - h0.length) (am_sz hf - am_sz h0) A) (F0 m a.2.1 ls (a.2.2.2.1.map (am_tr b ad))) (ad k)
/-- at the end of a method: an int -/
theorem am_fin1 {F : am_F} {cl : List vw_C} {ms : Nat → Option am_M} {hm : Nat → List (Nat × Nat × Nat × Nat)} {Tg Ns : List Jvm.Cond} {St : List (String × Nat × String × Nat)} {D : va_G} {c3 : am_A3} {A : Nat → Prop} {b : Nat} {ad0 : Nat → Nat} {h0 h : am_H} {d j : Nat} {M : am_M} {ad : Nat → Nat} {ls : Array Slot} {H : Heap} {locs : List Loc} {L : am_L} {pc : Nat} {R : Room}
    (hC : am_Cx F cl Tg D c3 A b p s m args meth c (am_b M) (am_n M) (am_y M).cls (am_ini M)) {v : Int32} {ty : FieldType} (hd : decode (am_b M) pc = .ok (.ireturn, 1)) (hr : meth.sig.returnType = some ty) (hn : narrow ty (.int v) = .int v) (hlocks : meth.locks = false) (hR : am_Rl cl D c3 A b (am_n M) h0.length ad0 ad L [.int v] h ls s.heap H locs) :
    W p l e R s m args below meth c H locs (h.length - h0.length) (am_sz h - am_sz h0) (am_MQ below (am_P cl D c3 A b ad0 h0 (.inl (some (.int v))) h) args s (h.length - h0.length) (am_sz h - am_sz h0) A) (F0 m pc ls [.int v]) := by
  obtain ⟨hx, hb, -⟩ := hC
  obtain ⟨hL, hoS, hoL, hoh, hP, hD, hS, hn0, had⟩ := hR
  exact am_end (o := .returned (some (.int v))) (W.zret hx hb hr hn (fun t ht _ => ⟨rfl, ht⟩) hS.2.2 hd hlocks) (fun t ht hW => ⟨ad, had, rfl, by rw [ht]; exact hP, hD, hS.F ht⟩) (Nat.le_refl _) (Nat.le_refl _)
theorem am_fin2 {F : am_F} {cl : List vw_C} {ms : Nat → Option am_M} {hm : Nat → List (Nat × Nat × Nat × Nat)} {Tg Ns : List Jvm.Cond} {St : List (String × Nat × String × Nat)} {D : va_G} {c3 : am_A3} {A : Nat → Prop} {b : Nat} {ad0 : Nat → Nat} {h0 h : am_H} {d j : Nat} {M : am_M} {ad : Nat → Nat} {ls : Array Slot} {H : Heap} {locs : List Loc} {L : am_L} {pc : Nat} {R : Room}
    (hC : am_Cx F cl Tg D c3 A b p s m args meth c (am_b M) (am_n M) (am_y M).cls (am_ini M)) (hd : decode (am_b M) pc = .ok (.return_, 1)) (hr : meth.sig.returnType = none) (hlocks : meth.locks = false) (hR : am_Rl cl D c3 A b (am_n M) h0.length ad0 ad L [] h ls s.heap H locs) :
    W p l e R s m args below meth c H locs (h.length - h0.length) (am_sz h - am_sz h0) (am_MQ below (am_P cl D c3 A b ad0 h0 (.inl none) h) args s (h.length - h0.length) (am_sz h - am_sz h0) A) (F0 m pc ls []) := by
  obtain ⟨hx, hb, -⟩ := hC
  obtain ⟨hL, hoS, hoL, hoh, hP, hD, hS, hn0, had⟩ := hR
  exact am_end (o := .returned none) (W.vret hx hb hr (fun t ht _ => ⟨rfl, ht⟩) hS.2.2 hd hlocks) (fun t ht hW => ⟨ad, had, rfl, by rw [ht]; exact hP, hD, hS.F ht⟩) (Nat.le_refl _) (Nat.le_refl _)
theorem am_fin3 {F : am_F} {cl : List vw_C} {ms : Nat → Option am_M} {hm : Nat → List (Nat × Nat × Nat × Nat)} {Tg Ns : List Jvm.Cond} {St : List (String × Nat × String × Nat)} {D : va_G} {c3 : am_A3} {A : Nat → Prop} {b : Nat} {ad0 : Nat → Nat} {h0 h : am_H} {d j : Nat} {M : am_M} {ad : Nat → Nat} {ls : Array Slot} {H : Heap} {locs : List Loc} {L : am_L} {pc : Nat} {R : Room}
    (hC : am_Cx F cl Tg D c3 A b p s m args meth c (am_b M) (am_n M) (am_y M).cls (am_ini M)) {k : Nat} {ty : FieldType} (hd : decode (am_b M) pc = .ok (.areturn, 1)) (hr : meth.sig.returnType = some ty) (hty : (∃ n, ty = .object n) ∨ ∃ t, ty = .array t) (hlocks : meth.locks = false) (hR : am_Rl cl D c3 A b (am_n M) h0.length ad0 ad L [.ref k] h ls s.heap H locs) :
    W p l e R s m args below meth c H locs (h.length - h0.length) (am_sz h - am_sz h0) (am_MQ below (am_P cl D c3 A b ad0 h0 (.inl (some (.ref k))) h) args s (h.length - h0.length) (am_sz h - am_sz h0) A) (F0 m pc ls [.ref (ad k)]) := by
  obtain ⟨hx, hb, -⟩ := hC
  obtain ⟨hL, hoS, hoL, hoh, hP, hD, hS, hn0, had⟩ := hR
  exact am_end (o := .returned (some (.ref (ad k)))) (W.aret hx hb hr hty (Or.inr ⟨_, rfl⟩) (fun t ht _ => ⟨rfl, ht⟩) hS.2.2 hd hlocks) (fun t ht hW => ⟨ad, had, rfl, by rw [ht]; exact hP, hD, hS.F ht⟩) (Nat.le_refl _) (Nat.le_refl _)
theorem am_fin4 {F : am_F} {cl : List vw_C} {ms : Nat → Option am_M} {hm : Nat → List (Nat × Nat × Nat × Nat)} {Tg Ns : List Jvm.Cond} {St : List (String × Nat × String × Nat)} {D : va_G} {c3 : am_A3} {A : Nat → Prop} {b : Nat} {ad0 : Nat → Nat} {h0 h : am_H} {d j : Nat} {M : am_M} {ad : Nat → Nat} {ls : Array Slot} {H : Heap} {locs : List Loc} {L : am_L} {pc : Nat} {R : Room}
    (hC : am_Cx F cl Tg D c3 A b p s m args meth c (am_b M) (am_n M) (am_y M).cls (am_ini M)) {x k : Nat} {S : List Value} (hhs : (am_hs M = [] ∧ hm j = []) ∨ ∃ (f t w x ck : Nat) (E : String) (T : u_T), am_hs M = [(f, t, w, x)] ∧ hm j = [(f, t, w, ck)] ∧ ck ≠ 0 ∧ Cond.classLink (am_y M).cls ck E ∈ Tg ∧ cl[x]? = some (E, T, 0) ∧ Cond.castable E E ∈ Ns)
    (htab : c.exceptionTable.toList.map (fun h => (h.startPc, h.endPc, h.handlerPc, h.catchType)) = hm j) (h2 : ∀ q ∈ am_hs M, ¬ (q.1 ≤ pc ∧ pc < q.2.1)) (hlocks : meth.locks = false) (hR : am_Rl cl D c3 A b (am_n M) h0.length ad0 ad L S h ls s.heap H locs) :
    am_WX p l e R s m args below meth c H locs (h.length - h0.length) (am_sz h - am_sz h0) (am_MQ below (am_P cl D c3 A b ad0 h0 (.inr (x, k)) h) args s (h.length - h0.length) (am_sz h - am_sz h0) A) (F0 m pc ls (S.map (am_tr b ad))) (ad k) := by
  obtain ⟨hL, hoS, hoL, hoh, hP, hD, hS, hn0, had⟩ := hR
  refine am_out (fun z hz => ?_) hlocks (fun t ht hW => ⟨ad, had, rfl, by rw [ht]; exact hP, hD, hS.F ht⟩) hS.2.2 (Nat.le_refl _) (Nat.le_refl _)
  have hz' : (z.startPc, z.endPc, z.handlerPc, z.catchType) ∈ hm j := by rw [← htab]; exact List.mem_map.mpr ⟨z, hz, rfl⟩
  rcases hhs with ⟨q1, q2⟩ | ⟨f, t, w, x', ck, E, T, q1, q2, -⟩
  · rw [q2] at hz'
    cases hz'
  · rw [q2] at hz'
    have e1 : (z.startPc, z.endPc, z.handlerPc, z.catchType) = (f, t, w, ck) := List.mem_singleton.mp hz'
    have h9 := h2 (f, t, w, x') (by rw [q1]; exact List.mem_cons_self)
    have e2 : z.startPc = f := congrArg (fun q => q.1) e1
    have e3 : z.endPc = t := congrArg (fun q => q.2.1) e1
    show (decide (z.startPc ≤ pc) && decide (pc < z.endPc)) = false
    rw [e2, e3]
    by_cases h10 : f ≤ pc
    · rw [decide_eq_false (fun h11 : pc < t => h9 ⟨h10, h11⟩), Bool.and_false]
    · rw [decide_eq_false h10, Bool.false_and]
theorem am_fin5 {F : am_F} {cl : List vw_C} {ms : Nat → Option am_M} {hm : Nat → List (Nat × Nat × Nat × Nat)} {Tg Ns : List Jvm.Cond} {St : List (String × Nat × String × Nat)} {D : va_G} {c3 : am_A3} {A : Nat → Prop} {b : Nat} {ad0 : Nat → Nat} {h0 h : am_H} {d j : Nat} {M : am_M} {ad : Nat → Nat} {ls : Array Slot} {H : Heap} {locs : List Loc} {L : am_L} {pc : Nat} {R : Room}
    (hC : am_Cx F cl Tg D c3 A b p s m args meth c (am_b M) (am_n M) (am_y M).cls (am_ini M)) {x : Nat} {S : List Value} (hKx : am_Kx F cl D c3 A b Ns St s) (hl : l.stackTraces = false) {ik is ic : Nat} {E : String} {T : u_T} {text : String} {sa : Nat} {names : List String} (hcx : cl[x]? = some (E, T, 0)) (g2 : Bundle.fit E = true) (g3 : ∀ n ∈ names, Bundle.fit n = true) (g4 : names.length ≤ 4) (g5 : Cond.classLink (am_y M).cls ik E ∈ Tg) (g6 : Cond.initialized E ∈ Tg) (g7 : ((am_y M).cls, is, text, sa) ∈ St) (g8 : ∀ w ∈ (Bundle.ownAtoms (am_y M).cls ic E names).filter am_nh, (w ∈ Tg ∨ w ∈ Ns) ∧ w.onTables = true)
    (d0 : decode (am_b M) pc = .ok (.new ik, 3)) (d3 : decode (am_b M) (pc + 3) = .ok (.dup, 1)) (d4 : decode (am_b M) (pc + 4) = .ok (.ldc is, 2)) (d6 : decode (am_b M) (pc + 6) = .ok (.invokespecial ic, 3)) (d9 : decode (am_b M) (pc + 9) = .ok (.athrow, 1)) (hempty : c.exceptionTable.toList = []) (h4 : (S.map fun v => v.category).sum ≤ 8) (hlocks : meth.locks = false)
    (hRf : 8 ≤ R.frames) (hRl : 200 ≤ R.locals) (hRc : h.length + 1 - h0.length ≤ R.cells) (hRs : am_sz h + 6 - am_sz h0 ≤ R.slots) (hg0 : am_Gr h0 h) (hR : am_Rl cl D c3 A b (am_n M) h0.length ad0 ad L S h ls s.heap H locs) :
    W p l e R s m args below meth c H locs (h.length - h0.length) (am_sz h - am_sz h0) (am_MQ below (am_P cl D c3 A b ad0 h0 (.inr (x, h.length)) (h ++ [am_X x])) args s (h.length + 1 - h0.length) (am_sz h + 6 - am_sz h0) A) (F0 m pc ls (S.map (am_tr b ad))) := by
  obtain ⟨hx, hb, hml, hown, hts, hin, hA, hK, hX, hbl, hbA, hT⟩ := hC
  obtain ⟨hL, hoS, hoL, hoh, hP, hD, hS, hn0, had⟩ := hR
  obtain ⟨hg1, hg2⟩ := hg0
  have hsum : ((S.map (am_tr b ad)).map fun v => v.category).sum ≤ 8 := by rw [am_cat_sum]; exact h4
  have hcls : s.vm.findClass E = some (D.1 x) := (hK.1 x _ hcx).2.1
  have hat : ∀ w ∈ (Bundle.ownAtoms (am_y M).cls ic E names).filter am_nh, w.before args s = true ∧ w.onTables = true := by
    intro w hw
    obtain ⟨k1, k2⟩ := g8 w hw
    refine ⟨?_, k2⟩
    rcases k1 with k1 | k1
    · exact hts _ k1
    · exact va_Nw.use k2 (hKx.2.2.2.2.1 w k1)
  have hq9 : ∀ (t : State) (ce : Cell), s.WarmedH t.vm → H.size ≤ t.heap.size → (∀ q : Nat, q < H.size → t.heap[q]? = H[q]?) → t.heap[H.size]? = some ce → ce.vm = .none → s.vm.findClass E = some ce.cls → am_P cl D c3 A b ad0 h0 (.inr (x, h.length)) (h ++ [am_X x]) (.threw H.size) s t := by
    intro t ce hW hz hq hce hcv hcl
    have e1 : am_te c3 b (va_up ad h.length H.size) (am_X x) = .inr (x, [.null, .null, .null, .null, .null, .null]) := rfl
    refine ⟨va_up ad h.length H.size, fun k hk => ?_, ?_, ?_, ?_, Nat.le_trans hS.1 hz, fun q h1 h2 => ?_⟩
    · rw [am_up_lt (Nat.lt_of_lt_of_le hk hn0)]
      exact had k hk
    · show Outcome.threw H.size = .threw (va_up ad h.length H.size h.length)
      simp [va_up]
    · rw [am_ws_push hoh, e1]
      refine va_P.app (fun k q hk => (hP k q hk).kept (hq q.1 (hP k q hk).lt)) (fun k q hk => ?_)
      cases k with
      | zero =>
        cases hk
        exact ⟨_, hcx, ce, hce, Option.some.inj (hcl.symm.trans hcls), hcv, fun k hk => absurd hk (Nat.not_lt_zero _)⟩
      | succ k => simp at hk
    · rw [am_ws_push hoh, e1]
      exact va_D.push hD hP rfl (hA _ hS.1)
    · rw [hq q (Nat.lt_of_lt_of_le h1 hS.1)]
      exact hS.2.1 q h1 h2
  have hstr : vk_R (am_y M).cls is text sa s := hKx.2.2.2.2.2.1 ((am_y M).cls, is, text, sa) g7
  have hZ : am_Zs A s H := hKx.2.2.2.2.2.2.kept hS.1 hS.2.1
  have hout : ∀ x ∈ c.exceptionTable.toList, covers x (pc + 9) = false := fun z hz => by rw [hempty] at hz; cases hz
  exact am_throw (own := (am_y M).cls) (cls := E) (ik := ik) (is := is) (ic := ic) (A := A) (sa := sa) (text := text) (names := names) hx hb hl hown g2 g3 (hts _ g5) (hts _ g6) hstr hat hZ (hL.2.2.1.trans hml.symm) d0 d3 d4 d6 d9
    hout (by omega) (by omega) (by omega) (by omega) hlocks hq9 hS.2.2 (by omega) (by omega)
end AmBody
end
section
section AmStep
variable {p : Program} {l : Launch} {e : Env} {s : State} {m : MethodId} {args : Array Value} {below : List Frame} {meth : Method} {c : Code}
theorem am_body_fin {F : am_F} {cl : List vw_C} {hm : Nat → List (Nat × Nat × Nat × Nat)} {Tg Ns : List Jvm.Cond} {St : List (String × Nat × String × Nat)} {D : va_G} {c3 : am_A3} {A : Nat → Prop} {b : Nat} {ad0 : Nat → Nat} {h0 : am_H} {o : am_O} {hf : am_H} {d j : Nat} {M : am_M} {R : Room} (hRf : d + 11 ≤ R.frames) (hRl : 60 * (d + 1) + 200 ≤ R.locals) (hRc : hf.length - h0.length ≤ R.cells) (hRs : am_sz hf - am_sz h0 ≤ R.slots)
    (hl : l.stackTraces = false) (hcd : ∀ e ∈ am_cd M, decode (am_b M) e.1 = .ok (e.2.1, e.2.2)) (hhs : (am_hs M = [] ∧ hm j = []) ∨ ∃ (f t w x ck : Nat) (E : String) (T : u_T), am_hs M = [(f, t, w, x)] ∧ hm j = [(f, t, w, ck)] ∧ ck ≠ 0 ∧ Cond.classLink (am_y M).cls ck E ∈ Tg ∧ cl[x]? = some (E, T, 0) ∧ Cond.castable E E ∈ Ns) (hThM : ∀ pc ik is ic x, (am_cd M).lookup pc = some (.new ik, 3) → (am_cd M).lookup (pc + 4) = some (.ldc is, 2) → (am_cd M).lookup (pc + 6) = some (.invokespecial ic, 3) → am_th F (am_y M).cls ik = some x → ∃ (E : String) (T : u_T) (text : String) (sa : Nat) (names : List String), cl[x]? = some (E, T, 0) ∧ Bundle.fit E = true ∧ (∀ n ∈ names, Bundle.fit n = true) ∧ names.length ≤ 4 ∧ Cond.classLink (am_y M).cls ik E ∈ Tg ∧ Cond.initialized E ∈ Tg ∧ ((am_y M).cls, is, text, sa) ∈ St ∧ (∀ w ∈ (Bundle.ownAtoms (am_y M).cls ic E names).filter am_nh, (w ∈ Tg ∨ w ∈ Ns) ∧ w.onTables = true))
    (hC : am_Cx F cl Tg D c3 A b p s m args meth c (am_b M) (am_n M) (am_y M).cls (am_ini M)) (hKx : am_Kx F cl D c3 A b Ns St s) (hr : meth.sig.returnType = am_r M) (hlocks : meth.locks = false) (htab : c.exceptionTable.toList.map (fun h => (h.startPc, h.endPc, h.handlerPc, h.catchType)) = hm j)
    {a : am_S} (hfin : am_fin F M a (o, hf)) : am_Pm cl D c3 A b (am_n M) ad0 h0 o hf R p l e s m args below meth c a := by
  have dec : ∀ {pc : Nat} {i : Instr} {len : Nat}, (am_cd M).lookup pc = some (i, len) → decode (am_b M) pc = .ok (i, len) := fun {pc i len} h => hcd (pc, i, len) (am_look h)
  refine ⟨(am_fin_ok hfin).1, ?_⟩
  rcases hfin with ⟨pc, L, v, h, ty, rfl, h2, h3, h4, h5⟩ | ⟨pc, L, h, rfl, h2, h3, h5⟩ | ⟨pc, L, k, h, ty, rfl, h2, h3, h4, h5⟩ | ⟨pc, L, S, h, ⟨x, k⟩, rfl, h2, h5⟩ | ⟨pc, L, S, h, x, rfl, h2, h3, h4, h5⟩
  · obtain ⟨rfl, rfl⟩ := Prod.mk.inj h5
    intro ad ls H locs hR hg0 hthr
    dsimp only at hR hg0 hthr ⊢
    exact am_fin1 (ms := fun _ => none) (hm := hm) (Ns := Ns) (St := St) (d := d) (j := j) hC (dec h2) (hr.trans h3) h4 hlocks hR
  · obtain ⟨rfl, rfl⟩ := Prod.mk.inj h5
    intro ad ls H locs hR hg0 hthr
    dsimp only at hR hg0 hthr ⊢
    exact am_fin2 (ms := fun _ => none) (hm := hm) (Ns := Ns) (St := St) (d := d) (j := j) hC (dec h2) (hr.trans h3) hlocks hR
  · obtain ⟨rfl, rfl⟩ := Prod.mk.inj h5
    intro ad ls H locs hR hg0 hthr
    dsimp only at hR hg0 hthr ⊢
    exact am_fin3 (ms := fun _ => none) (hm := hm) (Ns := Ns) (St := St) (d := d) (j := j) hC (dec h2) (hr.trans h3) h4 hlocks hR
  · obtain ⟨rfl, rfl⟩ := Prod.mk.inj h5
    intro ad ls H locs hR hg0 hthr
    dsimp only at hR hg0 hthr ⊢
    exact am_fin4 (ms := fun _ => none) (hm := hm) (Ns := Ns) (St := St) (d := d) (j := j) hC hhs htab h2 hlocks hR
  · obtain ⟨rfl, rfl⟩ := Prod.mk.inj h5
    have hlen : (h ++ [am_X x]).length = h.length + 1 := by simp
    have hsz : am_sz (h ++ [am_X x]) = am_sz h + 6 := by rw [am_sz_push]; rfl
    obtain ⟨ik, is, ic, l0, l3, l4, l6, l9, l10⟩ := am_tw_eq h2
    obtain ⟨E, T, text, sa, names, g1, g2, g3, g4, g5, g6, g7, g8⟩ := hThM pc ik is ic x l0 l4 l6 l10
    have hempty : c.exceptionTable.toList = [] := by
      rcases hhs with ⟨q1, q2⟩ | ⟨f, t, w, x', ck, E, T, q1, q2, -⟩
      · rw [q2] at htab
        exact List.map_eq_nil_iff.mp htab
      · rw [h3] at q1
        cases q1
    intro ad ls H locs hR hg0 hthr
    dsimp only at hR hg0 hthr ⊢
    rw [hlen, hsz]
    exact am_fin5 (ms := fun _ => none) (hm := hm) (Ns := Ns) (St := St) (d := d) (j := j) hC hKx hl g1 g2 g3 g4 g5 g6 g7 g8 (dec l0) (dec l3) (dec l4) (dec l6) (dec l9) hempty h4 hlocks (by omega) (by omega) (by rw [hlen] at hRc; exact hRc) (by rw [hsz] at hRs; exact hRs) hg0 hR
end AmStep
end
section
theorem am_call_eq {F : am_F} {own : String} {i : Instr} {len j w : Nat} (h : am_call F own i len = some (j, w)) : len = 3 ∧ ∃ k, am_cl F own k = some (j, w) ∧ ((w = 0 ∨ w = 3) ∧ i = .invokevirtual k ∨ (w = 1 ∨ w = 4 ∨ w = 5) ∧ i = .invokespecial k ∨ (w = 2 ∨ w = 6 ∨ w = 7 ∨ w = 8) ∧ i = .invokestatic k) := by
  unfold am_call at h
  split at h
  · split at h
    · rename_i hk
      split at h
      · rename_i hw
        cases h
        exact ⟨rfl, _, hk, Or.inl ⟨hw, rfl⟩⟩
      · cases h
    · cases h
  · split at h
    · rename_i hk
      split at h
      · rename_i hw
        cases h
        exact ⟨rfl, _, hk, Or.inr (Or.inl ⟨hw, rfl⟩)⟩
      · cases h
    · cases h
  · split at h
    · rename_i hk
      split at h
      · rename_i hw
        cases h
        exact ⟨rfl, _, hk, Or.inr (Or.inr ⟨hw, rfl⟩)⟩
      · cases h
    · cases h
  · cases h
theorem am_par {d : String} {n : Nat} (h : (parseMethodDescriptor d).map (fun d => d.parameters.length) = some n) {k : Nat} (hk : k = n) : ∀ sig, parseMethodDescriptor d = some sig → k = sig.parameters.length := by
  intro sig hs
  rw [hs] at h
  rw [hk]
  exact (Option.some.inj h).symm
section AmStep
variable {p : Program} {l : Launch} {e : Env} {s : State} {m : MethodId} {args : Array Value} {below : List Frame} {meth : Method} {c : Code}
/-- the way to a method, by the kind of the call -/
theorem am_way {F : am_F} {cl : List vw_C} {ms : Nat → Option am_M} {hm : Nat → List (Nat × Nat × Nat × Nat)} {Tg Ns : List Jvm.Cond} {St : List (String × Nat × String × Nat)} {D : va_G} {c3 : am_A3} {A : Nat → Prop} {b : Nat} {M N : am_M} {j w k : Nat} {i : Instr} {R : Room}
    (hC : am_Cx F cl Tg D c3 A b p s m args meth c (am_b M) (am_n M) (am_y M).cls (am_ini M)) (hKx : am_Kx F cl D c3 A b Ns St s) (hNs : ∀ w ∈ Ns, am_nk w = true) (hMs : am_okMs cl ms hm Tg Ns) (hCl : am_okCl F ms hm Tg Ns) (hj : ms j = some N)
    (hk : am_cl F (am_y M).cls k = some (j, w)) (hw : w < 5) (hi : (w = 0 ∨ w = 3) ∧ i = .invokevirtual k ∨ (w = 1 ∨ w = 4 ∨ w = 5) ∧ i = .invokespecial k ∨ (w = 2 ∨ w = 6 ∨ w = 7 ∨ w = 8) ∧ i = .invokestatic k)
    {as rest : List Value} {ad : Nat → Nat} {h : am_H} {H : Heap} {locs : List Loc} {cells slots pc : Nat} {ls : Array Slot} (hlen : as.length = am_k N) (hrc : w = 0 ∨ w = 3 → am_rc cl N as h) (hri : w = 1 ∨ w = 4 → ∃ (k : Nat) (t : List Value), as = .ref k :: t) (hP : va_P D cl (am_ws c3 b ad h) H) (hd : decode (am_b M) pc = .ok (i, 3)) :
    am_Inv p l e R s m args below meth c H locs cells slots (am_y N) (F0 m pc ls (((as.reverse ++ rest).map (am_tr b ad)))) (rest.map (am_tr b ad)) (as.map (am_tr b ad)).toArray := by
  obtain ⟨hx, hb, hml, hown, hts, hin, hA, hK, hX, hbl, hbA, hT⟩ := hC
  obtain ⟨-, -, hcw, hini, hy, -, -⟩ := hMs j N hj
  obtain ⟨n, hpar, w0, w1, w2, w3, w4⟩ := (hCl _ _ _ _ hk).2.2.2.2 hw N hj
  have hd' : ∀ i', i = i' → decode c.code pc = .ok (i', 3) := fun i' e1 => by rw [hb, ← e1]; exact hd
  have hcode := hts _ hcw
  rcases hi with ⟨hw1, rfl⟩ | ⟨hw1, rfl⟩ | ⟨hw1, rfl⟩
  · obtain ⟨a0, ci, fs, r0, q, rfl, hh, hq, hqc⟩ := hrc hw1
    obtain ⟨cell, z1, z2, z3⟩ := va_recv hK hP hq (am_ws_at hh)
    rw [hqc] at z3
    have hl2 : r0.length + 1 = am_k N := by simpa using hlen
    rcases hw1 with rfl | rfl
    · obtain ⟨x1, x2, x3, x4⟩ := w0 rfl
      exact am_invV (argsL := r0.map (am_tr b ad)) hx hown (hts _ x1) (hts _ x2) (hts _ x3) hcode hy z1 z2 z3 rfl (am_par hpar (by rw [List.length_map]; omega)) (by simp [am_tr]) (hd' _ rfl)
    · obtain ⟨host, x1, x2, x3, x4⟩ := w3 rfl
      exact am_invVN (argsL := r0.map (am_tr b ad)) hx hown (va_Nw.use (am_nk_tab (hNs _ x1)) (hKx.2.2.2.2.1 _ x1)) (hts _ x2) (hts _ x3) hcode hy z1 z2 z3 rfl (am_par hpar (by rw [List.length_map]; omega)) (by simp [am_tr]) (hd' _ rfl)
  · have hw2 : w = 1 ∨ w = 4 := by omega
    obtain ⟨k0, r0, rfl⟩ := hri hw2
    have hl2 : r0.length + 1 = am_k N := by simpa using hlen
    rcases hw2 with rfl | rfl
    · obtain ⟨x1, x2, x3, x4, x5, x6⟩ := w1 rfl
      rw [x4, x5] at hcode
      exact am_invI (argsL := r0.map (am_tr b ad)) hx hown x3 (hts _ x1) (hts _ x2) hcode hy rfl (am_par hpar (by rw [List.length_map]; omega)) (by simp [am_tr]) (hd' _ rfl)
    · obtain ⟨host, x1, x2, x3, x4, x5, x6⟩ := w4 rfl
      rw [x4, x5] at hcode
      exact am_invIN (argsL := r0.map (am_tr b ad)) hx hown x3 (va_Nw.use (am_nk_tab (hNs _ x1)) (hKx.2.2.2.2.1 _ x1)) (hts _ x2) hcode hy rfl (am_par hpar (by rw [List.length_map]; omega)) (by simp [am_tr]) (hd' _ rfl)
  · have hw2 : w = 2 := by omega
    subst hw2
    obtain ⟨x1, x2, x3⟩ := w2 rfl
    exact am_invS (argsL := as.map (am_tr b ad)) hx hown (hts _ x1) (hts _ x2) (hts _ hini) hcode hy rfl (am_par hpar (by rw [List.length_map]; omega)) (by simp) (hd' _ rfl)
theorem am_body_call {F : am_F} {cl : List vw_C} {ms : Nat → Option am_M} {hm : Nat → List (Nat × Nat × Nat × Nat)} {Tg Ns : List Jvm.Cond} {St : List (String × Nat × String × Nat)} {D : va_G} {c3 : am_A3} {A : Nat → Prop} {b : Nat} {ad0 : Nat → Nat} {h0 : am_H} {o : am_O} {hf : am_H} {d : Nat} {M N : am_M} {R : Room} (hRf : d + 11 ≤ R.frames) (hRl : 60 * (d + 1) + 200 ≤ R.locals) (hRc : hf.length - h0.length ≤ R.cells) (hRs : am_sz hf - am_sz h0 ≤ R.slots)
    (hG : ∀ w ∈ Tg, goodWord w = true) (hNs : ∀ w ∈ Ns, am_nk w = true) (hMs : am_okMs cl ms hm Tg Ns) (hCl : am_okCl F ms hm Tg Ns)
    (hC : am_Cx F cl Tg D c3 A b p s m args meth c (am_b M) (am_n M) (am_y M).cls (am_ini M)) (hKx : am_Kx F cl D c3 A b Ns St s)
    {pc : Nat} {L : am_L} {h : am_H} {i : Instr} {j w : Nat} {as rest : List Value} {oc : am_O} {h' : am_H} (hd : decode (am_b M) pc = .ok (i, 3)) {k : Nat} (hk : am_cl F (am_y M).cls k = some (j, w)) (hw : w < 5) (hi : (w = 0 ∨ w = 3) ∧ i = .invokevirtual k ∨ (w = 1 ∨ w = 4 ∨ w = 5) ∧ i = .invokespecial k ∨ (w = 2 ∨ w = 6 ∨ w = 7 ∨ w = 8) ∧ i = .invokestatic k) (hj : ms j = some N) (hlen : as.length = am_k N) (hrc : w = 0 ∨ w = 3 → am_rc cl N as h) (hri : w = 1 ∨ w = 4 → ∃ (k : Nat) (t : List Value), as = .ref k :: t) (hsum : (rest.map fun v => v.category).sum ≤ 8)
    (hgr : am_Gr h h') (hok : am_okh h → (∀ v ∈ as, am_okv h.length v) → am_okh h' ∧ am_okO h' oc)
    (IH : am_okh h → (∀ v ∈ as, am_okv h.length v) → ∀ ad, am_Met l (am_y N) Tg (am_rm d (h'.length - h.length) (am_sz h' - am_sz h)) (am_Pc F cl D c3 A b Ns St ad h as) (am_P cl D c3 A b ad h oc h') (h'.length - h.length) (am_sz h' - am_sz h) A)
    (hb : am_Pm cl D c3 A b (am_n M) ad0 h0 o hf R p l e s m args below meth c (am_bk pc L rest oc h')) :
    am_Pm cl D c3 A b (am_n M) ad0 h0 o hf R p l e s m args below meth c (none, pc, L, as.reverse ++ rest, h) := by
  have hbh : (am_bk pc L rest oc h').2.2.2.2 = h' := by rcases oc with v | x <;> rfl
  obtain ⟨g1, kk⟩ := hb
  rw [hbh] at g1
  refine ⟨hgr.trans g1, ?_⟩
  intro ad ls H locs hR hg0 hthr
  dsimp only at hR hg0 hthr ⊢
  obtain ⟨hL, hoS, hoL, hoh, hP, hD, hS, hn0, had⟩ := id hR
  have hoA : ∀ v ∈ as, am_okv h.length v := fun v hv => hoS v (List.mem_append_left _ (List.mem_reverse.mpr hv))
  have hoR : ∀ v ∈ rest, am_okv h.length v := fun v hv => hoS v (List.mem_append_right _ hv)
  obtain ⟨hok1, hok2⟩ := hok hoh hoA
  obtain ⟨hx, hbb, hml, hown, hts, hin, hA, hK, hX, hbl, hbA, hT⟩ := id hC
  obtain ⟨-, -, hcw, hini, hy, hn40, -⟩ := hMs j N hj
  have q1 : h0.length ≤ h.length := hg0.1
  have q2 : am_sz h0 ≤ am_sz h := hg0.2
  have q3 : h.length ≤ h'.length := hgr.1
  have q4 : am_sz h ≤ am_sz h' := hgr.2
  have q5 : h'.length ≤ hf.length := g1.1
  have q6 : am_sz h' ≤ am_sz hf := g1.2
  have e1 : h.length - h0.length + (h'.length - h.length) = h'.length - h0.length := by omega
  have e2 : am_sz h - am_sz h0 + (am_sz h' - am_sz h) = am_sz h' - am_sz h0 := by omega
  refine am_row (bytes := am_b N) (maxL := am_n N) (ret := am_r N) (hh := hm j) (ws := Tg) (av := (as.map (am_tr b ad)).toArray) (am_way hC hKx hNs hMs hCl hj hk hw hi hlen hrc hri hP hd) (IH hoh hoA ad) (am_Pc_blind hNs hbA) rfl rfl (by show d + 10 + 1 ≤ _; omega) (by show 8 + (am_n N + 11) + (60 * d + 200) ≤ _; omega)
    (hL.2.2.1.trans hml.symm) (by rw [hbb]; exact hd) (by rw [am_cat_sum]; exact hsum) (fun w hw a' U hW => word_at hW (good_of_word (hG w hw)) (hts w hw)) hcw (hts _ hini) (by omega) (by omega)
    (fun U hU hW => ⟨rfl, by rw [hU]; exact hP, hD, hKx.at hNs hbA hU hW hS⟩) ?_ ?_ (fun _ _ _ => am_P_two)
  · intro v st₀ t L9 hst hW hPo hL9
    obtain ⟨ad', had', e3, z1, z2, z3⟩ := hPo
    rcases oc with v0 | ⟨x, kx⟩
    · have e4 : v = v0.map (am_tr b ad') := Outcome.returned.inj e3
      subst e4
      have hRn : am_Rl cl D c3 A b (am_n M) h0.length ad0 ad' L (v0.toList ++ rest) h' ls s.heap t.heap (locs ++ L9) := am_Rl.call (st := st₀) (by rw [hst]; exact hR) q3 had' hok1 (fun u hu => by
        rcases List.mem_append.mp hu with h1 | h1
        · cases v0 with
          | none => cases h1
          | some v1 =>
            rw [show u = v1 by simpa using h1]
            exact hok2
        · exact (hoR u h1).mono q3) z1 z2 z3 hL9
      have k3 := kk ad' ls t.heap (locs ++ L9) hRn (hg0.trans hgr) (fun x k hx => by cases hx)
      have e5 : (v0.toList ++ rest).map (am_tr b ad') = (v0.map (am_tr b ad')).toList ++ rest.map (am_tr b ad) := by
        rw [List.map_append, am_map_ext hoR had']
        cases v0 <;> rfl
      rw [e1, e2, ← e5]
      exact k3
    · cases e3
  · intro q st₀ t L9 hst hW hPo hL9
    obtain ⟨ad', had', e3, z1, z2, z3⟩ := hPo
    rcases oc with v0 | ⟨x, kx⟩
    · cases e3
    · have e4 : q = ad' kx := Outcome.threw.inj e3
      subst e4
      have hRn : am_Rl cl D c3 A b (am_n M) h0.length ad0 ad' L rest h' ls s.heap t.heap (locs ++ L9) := am_Rl.call (st := st₀) (by rw [hst]; exact hR) q3 had' hok1 (fun u hu => (hoR u hu).mono q3) z1 z2 z3 hL9
      have k3 := kk ad' ls t.heap (locs ++ L9) hRn (hg0.trans hgr) (fun x' k' hx => by cases hx; exact hok2)
      rw [e1, e2, ← am_map_ext hoR had']
      exact k3
end AmStep
end
section
section AmSound
variable {p : Program} {l : Launch} {e : Env} {s : State} {m : MethodId} {args : Array Value} {below : List Frame} {meth : Method} {c : Code}
theorem am_body_step {F : am_F} {cl : List vw_C} {ms : Nat → Option am_M} {hm : Nat → List (Nat × Nat × Nat × Nat)} {Tg Ns : List Jvm.Cond} {St : List (String × Nat × String × Nat)} {D : va_G} {c3 : am_A3} {A : Nat → Prop} {b : Nat} {ad0 : Nat → Nat} {h0 : am_H} {o : am_O} {hf : am_H} {d j : Nat} {M : am_M} {R : Room} (hRf : d + 11 ≤ R.frames) (hRl : 60 * (d + 1) + 200 ≤ R.locals) (hRc : hf.length - h0.length ≤ R.cells) (hRs : am_sz hf - am_sz h0 ≤ R.slots)
    (hG : ∀ w ∈ Tg, goodWord w = true) (hNs : ∀ w ∈ Ns, am_nk w = true) (hMs : am_okMs cl ms hm Tg Ns) (hCl : am_okCl F ms hm Tg Ns) (hcd : ∀ e ∈ am_cd M, decode (am_b M) e.1 = .ok (e.2.1, e.2.2)) (hhs : (am_hs M = [] ∧ hm j = []) ∨ ∃ (f t w x ck : Nat) (E : String) (T : u_T), am_hs M = [(f, t, w, x)] ∧ hm j = [(f, t, w, ck)] ∧ ck ≠ 0 ∧ Cond.classLink (am_y M).cls ck E ∈ Tg ∧ cl[x]? = some (E, T, 0) ∧ Cond.castable E E ∈ Ns)
    (hC : am_Cx F cl Tg D c3 A b p s m args meth c (am_b M) (am_n M) (am_y M).cls (am_ini M)) (hKx : am_Kx F cl D c3 A b Ns St s) (htab : c.exceptionTable.toList.map (fun h => (h.startPc, h.endPc, h.handlerPc, h.catchType)) = hm j)
    (IH : ∀ j as h o h' N ad, am_Ev F cl ms d j as h o h' → ms j = some N → am_okh h → (∀ v ∈ as, am_okv h.length v) → am_Met l (am_y N) Tg (am_rm d (h'.length - h.length) (am_sz h' - am_sz h)) (am_Pc F cl D c3 A b Ns St ad h as) (am_P cl D c3 A b ad h o h') (h'.length - h.length) (am_sz h' - am_sz h) A)
    {a a' : am_S} (hs : am_Stp F cl ms (am_Ev F cl ms d) M a a') (hb : am_Pm cl D c3 A b (am_n M) ad0 h0 o hf R p l e s m args below meth c a') :
    am_Pm cl D c3 A b (am_n M) ad0 h0 o hf R p l e s m args below meth c a := by
  have dec : ∀ {pc : Nat} {i : Instr} {len : Nat}, (am_cd M).lookup pc = some (i, len) → decode (am_b M) pc = .ok (i, len) := fun {pc i len} h => hcd (pc, i, len) (am_look h)
  obtain ⟨hx, hbb, hml, hown, hts, hin, hA, hK, hX, hbl, hbA, hT⟩ := id hC
  have hnw : ∀ own k ci fs, am_nw F own k = some (ci, fs) → ∀ v ∈ fs, am_isR v = false := fun own k ci fs h => by
    obtain ⟨C, T, N, ty, -, -, -, -, -, h1, -⟩ := hT.2.2.1 own k ci fs h
    exact h1
  rcases hs with ⟨pc, L, S, h, i, len, ⟨pc', L', S', h'⟩, rfl, h2, h3, rfl⟩ | ⟨pc, L, S, h, i, len, j', w, N, as, rest, oc, h', rfl, h2, h3, h4, h5, h6, rfl, h8, h9, h10, h11, rfl⟩ | ⟨pc, L, h, i, len, j', k, rest, rfl, h2, h3, h4, rfl⟩ | ⟨pc, L, h, i, len, j', k1, sp, k2, dp, n, rest, h', rfl, h2, h3, h4, h5, rfl⟩ | ⟨pc, L, h, i, len, j', w, x, y, rest, rfl, h2, h3, h4, h5, rfl⟩ | ⟨pc, L, S, h, x, k, f, t, w, rfl, h2, h3, h4, rfl⟩
  · obtain ⟨g1, kk⟩ := hb
    obtain ⟨g2, -⟩ := am_st_ok hnw h3
    dsimp only at g1 kk
    refine ⟨g2.trans g1, ?_⟩
    intro ad ls H locs hR hg0 hthr
    dsimp only at hR hg0 hthr ⊢
    exact am_one hC h3 (dec h2) hR (Nat.le_trans (Nat.sub_le_sub_right g1.1 _) hRc) (Nat.le_trans (Nat.sub_le_sub_right g1.2 _) hRs) hg0.1 hg0.2 (fun ad' ls' H' locs' hR' => kk ad' ls' H' locs' hR' (hg0.trans g2) (fun x k hx => by cases hx))
  · obtain ⟨rfl, k, hk, hi⟩ := am_call_eq h3
    obtain ⟨g1, g2⟩ := am_Ev_ok hnw (cl := cl) (ms := ms) d _ _ _ _ _ h11
    exact am_body_call hRf hRl hRc hRs hG hNs hMs hCl hC hKx (dec h2) hk h4 hi h5 h6 h8 h9 h10 g1 g2 (fun o1 o2 ad => IH _ _ _ _ _ _ ad h11 h5 o1 o2) hb
  · obtain ⟨rfl, k', hk, hi⟩ := am_call_eq h3
    have hi' : i = .invokespecial k' := by
      rcases hi with ⟨h1, -⟩ | ⟨-, h1⟩ | ⟨h1, -⟩
      · omega
      · exact h1
      · omega
    subst hi'
    obtain ⟨x1, x2, x3⟩ := (hCl _ _ _ _ hk).1 rfl
    obtain ⟨g1, kk⟩ := hb
    dsimp only at g1 kk
    refine ⟨g1, ?_⟩
    intro ad ls H locs hR hg0 hthr
    dsimp only at hR hg0 hthr ⊢
    exact W.objInit hx hbb hown (hts _ x1) (hts _ x2) (hts _ x3) rfl (hR.1.2.2.1.trans hml.symm) rfl (dec h2) (by omega) (by
      show 2 * 0 + ((rest.map (am_tr b ad)).map fun v => v.category).sum + 12 ≤ _
      rw [am_cat_sum]
      omega) (kk ad ls H locs (hR.S (am_tl hR.2.1)) hg0 (fun x k hx => by cases hx))
  · obtain ⟨rfl, k', hk, hi⟩ := am_call_eq h3
    have hi' : i = .invokestatic k' := by
      rcases hi with ⟨h1, -⟩ | ⟨h1, -⟩ | ⟨-, h1⟩
      · omega
      · omega
      · exact h1
    subst hi'
    obtain ⟨x1, x2, x3, x4⟩ := (hCl _ _ _ _ hk).2.1 rfl
    obtain ⟨g1, kk⟩ := hb
    obtain ⟨g2, -, g3⟩ := am_cp_ok h5
    dsimp only at g1 kk
    refine ⟨g2.trans g1, ?_⟩
    intro ad ls H locs hR hg0 hthr
    dsimp only at hR hg0 hthr ⊢
    obtain ⟨hL, hoS, hoL, hoh, hP, hD, hS, hn0, had⟩ := id hR
    unfold am_cp at h5
    split at h5
    · rename_i n0 f n1 g hh1 hh2
      split at h5
      · rename_i hc5
        obtain ⟨y1, y2, y3, y4, y5, y6⟩ := hc5
        cases h5
        have hz : am_sz (h.set k2 (.inr (.inl (false, n1, va_cpy f g sp.toNatClampNeg dp.toNatClampNeg n.toNatClampNeg)))) = am_sz h := am_sz_set hh2 rfl
        refine va_copyi (D := D) (cl := cl) (ty := .int) hx hbb (hml.trans hL.2.2.1.symm) hown (hts _ x1) (hts _ x2) (hts _ x3) (hts _ x4) hK hP hD hS k1 k2 0 0 (am_ws_at hh1) (am_ws_at hh2) rfl rfl rfl y1 y2 y3 y4 y5 (fun _ _ => rfl) (by omega) (by
          rw [am_cat_sum]
          show _ + (7 + 11) ≤ _
          omega) (dec h2) (fun H1 locs1 z1 z2 z3 => ?_)
        have k3 := kk ad ls H1 locs1 (hR.set (am_tl (am_tl (am_tl (am_tl (am_tl hoS))))) (e := .inr (.inl (false, n1, va_cpy f g sp.toNatClampNeg dp.toNatClampNeg n.toNatClampNeg))) trivial z1 z2 z3) (hg0.trans g2) (fun x k hx => by cases hx)
        rw [hz, List.length_set] at k3
        exact k3
      · cases h5
    · cases h5
  · obtain ⟨rfl, k', hk, hi⟩ := am_call_eq h3
    have hi' : i = .invokestatic k' := by
      rcases hi with ⟨h1, -⟩ | ⟨h1, -⟩ | ⟨-, h1⟩
      · omega
      · omega
      · exact h1
    subst hi'
    obtain ⟨g1, kk⟩ := hb
    dsimp only at g1 kk
    refine ⟨g1, ?_⟩
    intro ad ls H locs hR hg0 hthr
    dsimp only at hR hg0 hthr ⊢
    have k3 := kk ad ls H locs (hR.S (am_cons trivial (am_tl (am_tl hR.2.1)))) hg0 (fun x k hx => by cases hx)
    have hcl : h.length - h0.length ≤ R.cells := Nat.le_trans (Nat.sub_le_sub_right g1.1 _) hRc
    have hsl : am_sz h - am_sz h0 ≤ R.slots := Nat.le_trans (Nat.sub_le_sub_right g1.2 _) hRs
    have hlo : ((rest.map (am_tr b ad)).map fun v => v.category).sum + 13 ≤ R.locals := by rw [am_cat_sum]; omega
    rcases h4 with rfl | rfl
    · obtain ⟨x1, x2, x3, x4⟩ := (hCl _ _ _ _ hk).2.2.1 rfl
      exact va_mmax hx hbb (hml.trans hR.1.2.2.1.symm) hown (hts _ x1) (hts _ x2) (hts _ x3) (hts _ x4) (by omega) hlo hcl hsl (dec h2) k3
    · obtain ⟨x1, x2, x3, x4⟩ := (hCl _ _ _ _ hk).2.2.2.1 rfl
      exact va_mmin hx hbb (hml.trans hR.1.2.2.1.symm) hown (hts _ x1) (hts _ x2) (hts _ x3) (hts _ x4) (by omega) hlo hcl hsl (dec h2) k3
  · obtain ⟨g1, kk⟩ := hb
    dsimp only at g1 kk
    refine ⟨g1, ?_⟩
    intro ad ls H locs hR hg0 hthr
    have hxk : h[k]? = some (am_X x) := hthr x k rfl
    dsimp only at hR hg0 hthr ⊢
    rcases hhs with ⟨q1, q2⟩ | ⟨f', t', w', x', ck, E, T, q1, q2, q3, q4, q5, q6⟩
    · rw [h2] at q1
      cases q1
    · rw [h2] at q1
      cases q1
      rw [q2] at htab
      obtain ⟨xx, hxx, hxe⟩ : ∃ xx, c.exceptionTable.toList = [xx] ∧ (xx.startPc, xx.endPc, xx.handlerPc, xx.catchType) = (f, t, w, ck) := by
        cases hq : c.exceptionTable.toList with
        | nil => rw [hq] at htab; cases htab
        | cons xx tl =>
          rw [hq] at htab
          cases tl with
          | nil => exact ⟨xx, rfl, (List.cons.inj htab).1⟩
          | cons y z => exact absurd (congrArg List.length htab) (by simp)
      have e1 : xx.startPc = f := congrArg (fun q => q.1) hxe
      have e2 : xx.endPc = t := congrArg (fun q => q.2.1) hxe
      have e3 : xx.handlerPc = w := congrArg (fun q => q.2.2.1) hxe
      have e4 : xx.catchType = ck := congrArg (fun q => q.2.2.2) hxe
      obtain ⟨hL, hoS, hoL, hoh, hP, hD, hS, hn0, had⟩ := id hR
      obtain ⟨r9, w1, ce, w2, w3, w4, -⟩ := hP k _ (am_ws_at hxk)
      cases Option.some.inj (w1.symm.trans q5)
      have hcls : s.vm.findClass E = some (D.1 x) := (hK.1 x _ q5).2.1
      have k3 := kk ad ls H locs (hR.S (am_cons ((List.getElem?_eq_some_iff.mp hxk).1) (fun v hv => by cases hv))) hg0 (fun x k hx => by cases hx)
      refine am_caught hown hxx ?_ (by rw [e4]; exact q3) (by rw [e4]; exact hts _ q4) (hKx.2.2.2.2.1 _ q6) w2 w4 (by rw [w3]; exact hcls) (by rw [e3]; exact k3)
      show (decide (xx.startPc ≤ pc) && decide (pc < xx.endPc)) = true
      rw [e1, e2, decide_eq_true h3, decide_eq_true h4]
      rfl
end AmSound
theorem am_args_mem : ∀ {vs : List Value} {i k : Nat} {v : Value}, (∀ v ∈ vs, v.category = 1) → vs[k]? = some v → (i + k, v) ∈ lv_args i vs
  | [], _, _, _, _, h => by cases h
  | w :: t, i, 0, v, hc, h => by
    have e : w = v := by simpa using h
    rw [lv_args, e]
    exact List.mem_cons_self
  | w :: t, i, k + 1, v, hc, h => by
    have h1 : ¬ w.category = 2 := by rw [hc w List.mem_cons_self]; decide
    rw [lv_args, if_neg h1, show i + (k + 1) = i + 1 + k by omega]
    exact List.mem_cons_of_mem _ (am_args_mem (fun v hv => hc v (List.mem_cons_of_mem _ hv)) h)
theorem am_sl_len : ∀ {vs : List Value}, (∀ v ∈ vs, v.category = 1) → (lg_sl vs).length = vs.length
  | [], _ => rfl
  | w :: t, hc => by
    have h1 : ¬ w.category = 2 := by rw [hc w List.mem_cons_self]; decide
    show ((if w.category = 2 then [Slot.val w, .second] else [Slot.val w]) ++ lg_sl t).length = _
    rw [if_neg h1, List.length_append, am_sl_len (fun v hv => hc v (List.mem_cons_of_mem _ hv))]
    simp only [List.length_cons, List.length_nil]
    omega
theorem am_entry {M : am_M} {as : List Value} {b : Nat} {ad : Nat → Nat} (hc : ∀ v ∈ as, v.category = 1) (hn : as.length ≤ am_n M) : am_LR b ad (am_n M) (am_ent M as) ((lg_sl (as.map (am_tr b ad)) ++ List.replicate (am_n M - (lg_sl (as.map (am_tr b ad))).length) Slot.unset).toArray) := by
  have hc' : ∀ v ∈ as.map (am_tr b ad), v.category = 1 := fun v hv => by
    obtain ⟨w, hw, rfl⟩ := List.mem_map.mp hv
    rw [am_tr_cat]
    exact hc w hw
  have hl : (lg_sl (as.map (am_tr b ad))).length ≤ am_n M := by rw [am_sl_len hc', List.length_map]; exact hn
  refine ⟨?_, ?_, am_has_sub (lv_entry (as.map (am_tr b ad)) hl) fun q hq => ?_⟩
  · rw [am_ent, List.length_append, List.length_map, List.length_replicate]
    omega
  · intro v hv
    rcases List.mem_append.mp hv with h1 | h1
    · obtain ⟨w, hw, e⟩ := List.mem_map.mp h1
      rw [← Option.some.inj e]
      exact hc w hw
    · cases List.eq_of_mem_replicate h1
  · obtain ⟨k, v, h1, rfl⟩ := am_lv_mem.mp hq
    apply am_args_mem hc'
    rw [List.getElem?_map]
    have h2 : as[k]? = some v := by
      by_cases hk : k < (as.map some).length
      · rw [am_ent, List.getElem?_append_left hk, List.getElem?_map] at h1
        cases h3 : as[k]? with
        | none => rw [h3] at h1; cases h1
        | some w =>
          rw [h3] at h1
          exact congrArg some (Option.some.inj (Option.some.inj h1))
      · rw [am_ent, List.getElem?_append_right (Nat.not_lt.mp hk)] at h1
        have h4 := List.eq_of_mem_replicate (List.mem_of_getElem? h1)
        cases h4
    rw [h2]
    rfl
/-- THE ABSTRACT MACHINE IS SOUND -/
theorem am_sound {l : Launch} {F : am_F} {cl : List vw_C} {ms : Nat → Option am_M} {hm : Nat → List (Nat × Nat × Nat × Nat)} {Tg Ns : List Jvm.Cond} {St : List (String × Nat × String × Nat)} {D : va_G} {c3 : am_A3} {A : Nat → Prop} {b : Nat}
    (hl : l.stackTraces = false) (hbA : ¬ A b) (hG : ∀ w ∈ Tg, goodWord w = true) (hNs : ∀ w ∈ Ns, am_nk w = true) (hT : am_okT F cl Tg) (hMs : am_okMs cl ms hm Tg Ns) (hCl : am_okCl F ms hm Tg Ns) (hTh : am_okTh F cl ms Tg Ns St) :
    ∀ d j as h o h' M ad, am_Ev F cl ms d j as h o h' → ms j = some M → am_okh h → (∀ v ∈ as, am_okv h.length v) → am_Met l (am_y M) Tg (am_rm d (h'.length - h.length) (am_sz h' - am_sz h)) (am_Pc F cl D c3 A b Ns St ad h as) (am_P cl D c3 A b ad h o h') (h'.length - h.length) (am_sz h' - am_sz h) A := by
  intro d
  induction d with
  | zero => intro j as h o h' M ad hev; exact hev.elim
  | succ d IH =>
    intro j as h o h' M ad hev hj hoh hoA
    obtain ⟨M', hj', hk, hkn, hcat, hgo⟩ := hev
    cases Option.some.inj (hj'.symm.trans hj)
    obtain ⟨hcd, hpl, hcw, -, -, -, hhs⟩ := hMs j M hj
    refine am_ofW hpl hcw ?_
    intro p e s m args below meth c s₁ B hml htab hPc
    obtain ⟨rfl, hP, hD, hKx⟩ := hPc
    have hC : am_Cx F cl Tg D c3 A b p s m (as.map (am_tr b ad)).toArray meth c (am_b M) (am_n M) (am_y M).cls (am_ini M) :=
      ⟨B.exec, B.bytes, hml, findClass_of_methodNamed B.named, atoms_spec (ws := Tg) B.pre, fun hi => ((name_of_methodNamed B.named B.method).1).trans (of_decide_eq_true hi), hKx.2.2.2.1, hKx.1, hKx.2.1, hKx.2.2.1, hbA, hT⟩
    have hst := hgo (am_Pm cl D c3 A b (am_n M) ad h o h' (am_rm (d + 1) (h'.length - h.length) (am_sz h' - am_sz h)) p l e s m (as.map (am_tr b ad)).toArray below meth c)
      (fun a hfin => am_body_fin (d := d) (Nat.le_of_eq (by show d + 11 = d + 1 + 10; omega)) (Nat.le_refl _) (Nat.le_refl _) (Nat.le_refl _) hl hcd hhs (fun pc ik is ic x => hTh j M pc ik is ic x hj) hC hKx B.returns B.notSynchronized htab hfin)
      (fun a a' hs hb => am_body_step (d := d) (Nat.le_of_eq (by show d + 11 = d + 1 + 10; omega)) (Nat.le_refl _) (Nat.le_refl _) (Nat.le_refl _) hG hNs hMs hCl hcd hhs hC hKx htab IH hs hb)
    obtain ⟨-, kk⟩ := hst
    dsimp only at kk
    rw [lg_entry_eq]
    have k3 := kk ad _ s.heap [] ⟨am_entry hcat (by rw [hk]; exact hkn), (fun v hv => by cases hv), am_ent_ok hoA, hoh, hP, hD, va_S.rf, Nat.le_refl _, fun _ _ => rfl⟩ (am_Gr.rf h) (fun x k hx => by cases hx)
    rw [Nat.sub_self, Nat.sub_self] at k3
    exact k3
end
section
/-! A SECOND ABSTRACT MACHINE, without cells: every class has one object, every field is a register. A reference below 9000 is the object of the class of that number; 10000 + 100 * class + field is the array that this field holds. -/
abbrev a2_G : Type := Nat → Int32
abbrev a2_A : Type := Nat → Nat × (Nat → Int32)
/-- the fields of a class: 0 int, 1 boolean, 2 an object (its class), 3 ints, 4 booleans -/
abbrev a2_Y : Type := Nat → List (Nat × Nat)
def a2_ua (f : a2_A) (k : Nat) (x : Nat × (Nat → Int32)) : a2_A := fun j => if j = k then x else f j
def a2_fv (Y : a2_Y) (ci j : Nat) (g : a2_G) : Option Value := match (Y ci)[j]? with
  | some (0, _) => some (.int (g (100 * ci + j)))
  | some (1, _) => some (.int (g (100 * ci + j)))
  | some (2, cj) => some (.ref cj)
  | some (3, _) => some (.ref (10000 + (100 * ci + j)))
  | some (4, _) => some (.ref (10000 + (100 * ci + j)))
  | _ => none
/-- no reference to the array of a field that is made anew -/
def a2_nr (a : Nat) (v : Value) : Bool := match v with
  | .ref k => decide (k ≠ 10000 + a)
  | _ => true
def a2_nl (a : Nat) (v : Option Value) : Bool := match v with
  | some v => a2_nr a v
  | none => true
/-- which array a reference is, and of what: 3 ints, 4 booleans -/
def a2_ar (Y : a2_Y) (k : Nat) : Option (Nat × Nat) := if 10000 ≤ k then match (Y ((k - 10000) / 100))[(k - 10000) % 100]? with
    | some (3, _) => some (k - 10000, 3)
    | some (4, _) => some (k - 10000, 4)
    | _ => none
  else none
def a2_st (F : am_F) (Y : a2_Y) (own : String) (i : Instr) (len pc : Nat) (L : am_L) (S : List Value) (g : a2_G) (r : a2_A) : Option (Nat × am_L × List Value × a2_G × a2_A) :=
  match i, len, S with
  | .getfield k, 3, .ref a :: S => match am_fl F own k with
    | some (ci, j, _, _) => if a = ci then match a2_fv Y ci j g with
        | some v => some (pc + 3, L, v :: S, g, r)
        | none => none
      else none
    | none => none
  | .putfield k, 3, v :: .ref a :: S => match am_fl F own k with
    | some (ci, j, _, false) => if a = ci then match (Y ci)[j]?, v with
        | some (0, _), .int x => some (pc + 3, L, S, upd g (100 * ci + j) x, r)
        | some (1, _), .int x => if x = 0 ∨ x = 1 then some (pc + 3, L, S, upd g (100 * ci + j) x, r) else none
        | _, _ => none
      else none
    | _ => none
  | .arraylength, 1, .ref a :: S => match a2_ar Y a with
    | some (q, _) => some (pc + 1, L, .int (Int32.ofNat (r q).1) :: S, g, r)
    | none => none
  | .iaload, 1, .int i :: .ref a :: S => match a2_ar Y a with
    | some (q, 3) => if am_inr i (r q).1 then some (pc + 1, L, .int ((r q).2 i.toNatClampNeg) :: S, g, r) else none
    | _ => none
  | .iastore, 1, .int x :: .int i :: .ref a :: S => match a2_ar Y a with
    | some (q, 3) => if am_inr i (r q).1 then some (pc + 1, L, S, g, a2_ua r q ((r q).1, upd (r q).2 i.toNatClampNeg x)) else none
    | _ => none
  | .baload, 1, .int i :: .ref a :: S => match a2_ar Y a with
    | some (q, 4) => if am_inr i (r q).1 then some (pc + 1, L, .int ((r q).2 i.toNatClampNeg) :: S, g, r) else none
    | _ => none
  | .bastore, 1, .int x :: .int i :: .ref a :: S => match a2_ar Y a with
    | some (q, 4) => if am_inr i (r q).1 then some (pc + 1, L, S, g, a2_ua r q ((r q).1, upd (r q).2 i.toNatClampNeg (vp_nar .boolean x))) else none
    | _ => none
  | i, len, S => match am_st F own false i len pc L S [] with
    | some (pc', L', S', []) => some (pc', L', S', g, r)
    | _ => none
/-- values of the second machine, as the first has them -/
def a2_tv (rho : Nat → Nat) (v : Value) : Value := match v with
  | .ref k => .ref (rho k)
  | v => v
theorem a2_tv_cat (rho : Nat → Nat) (v : Value) : (a2_tv rho v).category = v.category := by cases v <;> rfl
theorem a2_tv_R (rho : Nat → Nat) (v : Value) : am_isR (a2_tv rho v) = am_isR v := by cases v <;> rfl
abbrev a2_tl (rho : Nat → Nat) (L : am_L) : am_L := L.map (fun o => o.map (a2_tv rho))
theorem a2_tl_get {rho : Nat → Nat} {L : am_L} {k : Nat} {v : Value} (h : L[k]? = some (some v)) : (a2_tl rho L)[k]? = some (some (a2_tv rho v)) := by
  show (L.map _)[k]? = _
  rw [List.getElem?_map, h]
  rfl
theorem a2_tl_set {rho : Nat → Nat} {L : am_L} {k : Nat} {v : Value} : a2_tl rho (L.set k (some v)) = (a2_tl rho L).set k (some (a2_tv rho v)) := by
  show (L.set k (some v)).map _ = _
  rw [List.map_set]
  rfl
/-- an instruction that touches no cell does the same over any cells -/
theorem a2_simple {F : am_F} {own : String} {ini : Bool} {i : Instr} {len pc pc' : Nat} {L L' : am_L} {S S' : List Value} (rho : Nat → Nat) (h : am_H) (hs : am_st F own ini i len pc L S [] = some (pc', L', S', [])) :
    am_st F own ini i len pc (a2_tl rho L) (S.map (a2_tv rho)) h = some (pc', a2_tl rho L', S'.map (a2_tv rho), h) := by
  unfold am_st at hs
  split at hs
  · cases hs; rfl
  · cases hs; rfl
  · cases hs; rfl
  -- ldc
  · split at hs
    · rename_i hv
      cases hs
      simp [am_st, hv, a2_tv]
    · cases hs
  -- iload_n, iload
  · split at hs
    · rename_i hv
      cases hs
      simp [am_st, a2_tl_get hv, a2_tv]
    · cases hs
  · split at hs
    · rename_i hv
      cases hs
      simp [am_st, a2_tl_get hv, a2_tv]
    · cases hs
  -- aload_n, aload
  · split at hs
    · rename_i v hv
      split at hs
      · rename_i hr
        cases hs
        simp [am_st, a2_tl_get hv, a2_tv_R, hr]
      · cases hs
    · cases hs
  · split at hs
    · rename_i v hv
      split at hs
      · rename_i hr
        cases hs
        simp [am_st, a2_tl_get hv, a2_tv_R, hr]
      · cases hs
    · cases hs
  -- istore_n, istore
  · split at hs
    · rename_i hk
      cases hs
      rw [a2_tl_set]
      simp [am_st, a2_tv, hk]
    · cases hs
  · split at hs
    · rename_i hk
      cases hs
      rw [a2_tl_set]
      simp [am_st, a2_tv, hk]
    · cases hs
  -- astore_n, astore
  · split at hs
    · rename_i hk
      cases hs
      rw [a2_tl_set]
      simp [am_st, a2_tv_R, hk.1, hk.2]
    · cases hs
  · split at hs
    · rename_i hk
      cases hs
      rw [a2_tl_set]
      simp [am_st, a2_tv_R, hk.1, hk.2]
    · cases hs
  -- iinc
  · split at hs
    · rename_i hv
      cases hs
      rw [a2_tl_set]
      simp [am_st, a2_tl_get hv, a2_tv]
    · cases hs
  -- dup, dup2, pop
  · split at hs
    · rename_i hk
      cases hs
      simp [am_st, a2_tv_cat, hk]
    · cases hs
  · split at hs
    · rename_i hk
      cases hs
      simp [am_st, a2_tv_cat, hk.1, hk.2]
    · cases hs
  · split at hs
    · rename_i hk
      cases hs
      simp [am_st, a2_tv_cat, hk]
    · cases hs
  -- arithmetic
  · cases hs; rfl
  · cases hs; rfl
  · cases hs; rfl
  · cases hs; rfl
  · cases hs; rfl
  · cases hs; rfl
  -- goto, ifs
  · split at hs
    · rename_i t ht
      cases hs
      simp [am_st, ht]
    · cases hs
  · split at hs
    · rename_i t ht
      cases hs
      simp [am_st, ht, a2_tv]
    · cases hs
  · split at hs
    · rename_i t ht
      cases hs
      simp [am_st, ht, a2_tv]
    · cases hs
  -- switches
  · split at hs
    · rename_i hcnd
      split at hs
      · rename_i t ht
        cases hs
        simp [am_st, ht, a2_tv, hcnd]
      · cases hs
    · rename_i hcnd
      split at hs
      · rename_i off hoff
        split at hs
        · rename_i t ht
          cases hs
          simp only [am_st, List.map_cons, a2_tv, if_neg hcnd, hoff, ht]
        · cases hs
      · cases hs
  · split at hs
    · rename_i hcnd
      split at hs
      · rename_i t ht
        cases hs
        simp only [am_st, List.map_cons, a2_tv, if_pos hcnd, ht]
      · cases hs
    · cases hs
  -- what touches cells
  · simp at hs
  · simp at hs
  · split at hs
    · simp at hs
    · cases hs
  · split at hs
    · cases hs
    · split at hs
      · simp at hs
      · cases hs
  · split at hs
    · cases hs
      simp [am_st, a2_tv]
    · simp at hs
    · cases hs
  · split at hs
    · split at hs
      · rename_i hi
        cases hs
        simp [am_st, a2_tv, hi]
      · cases hs
    · simp at hs
    · cases hs
  · simp at hs
  · simp at hs
  · simp at hs
  · simp at hs
  · simp at hs
  · cases hs
/-- the fields of a class's object -/
def a2_f1 (rho : Nat → Nat) (ci j : Nat) (k : Nat × Nat) (g : a2_G) : Value := match k with
  | (0, _) => .int (g (100 * ci + j))
  | (1, _) => .int (g (100 * ci + j))
  | (2, cj) => .ref (rho cj)
  | (3, _) => .ref (rho (10000 + (100 * ci + j)))
  | (4, _) => .ref (rho (10000 + (100 * ci + j)))
  | _ => .null
def a2_fs (Y : a2_Y) (rho : Nat → Nat) (ci : Nat) (g : a2_G) : List Value := (Y ci).mapIdx (fun j k => a2_f1 rho ci j k g)
/-- the registers are what the cells hold -/
def a2_Rel (Y : a2_Y) (rho : Nat → Nat) (g : a2_G) (r : a2_A) (h : am_H) : Prop :=
  (∀ ci, Y ci ≠ [] → h[rho ci]? = some (.inl (ci, a2_fs Y rho ci g))) ∧
  (∀ ci j x, (Y ci)[j]? = some (3, x) → h[rho (10000 + (100 * ci + j))]? = some (.inr (.inl (false, r (100 * ci + j))))) ∧
  (∀ ci j x, (Y ci)[j]? = some (4, x) → h[rho (10000 + (100 * ci + j))]? = some (.inr (.inl (true, r (100 * ci + j))))) ∧
  (∀ ci j x ci' j' x', (Y ci)[j]? = some (3, x) ∨ (Y ci)[j]? = some (4, x) → (Y ci')[j']? = some (3, x') ∨ (Y ci')[j']? = some (4, x') → rho (10000 + (100 * ci + j)) = rho (10000 + (100 * ci' + j')) → ci = ci' ∧ j = j') ∧
  (∀ ci, (Y ci).length ≤ 100)
/-- the layout is the table's -/
def a2_okY (F : am_F) (Y : a2_Y) : Prop := ∀ own k ci j ty fin, am_fl F own k = some (ci, j, ty, fin) → ∀ q, ((Y ci)[j]? = some (0, q) → ty = .int) ∧ ((Y ci)[j]? = some (1, q) → ty = .boolean)
theorem a2_fs_get {Y : a2_Y} {rho : Nat → Nat} {ci j : Nat} {g : a2_G} {k : Nat × Nat} (h : (Y ci)[j]? = some k) : (a2_fs Y rho ci g)[j]? = some (a2_f1 rho ci j k g) := by
  simp [a2_fs, h]
theorem a2_fv_f1 {Y : a2_Y} {rho : Nat → Nat} {ci j : Nat} {g : a2_G} {v : Value} (h : a2_fv Y ci j g = some v) : (a2_fs Y rho ci g)[j]? = some (a2_tv rho v) := by
  unfold a2_fv at h
  split at h <;> first | (rename_i hk; cases h; rw [a2_fs_get hk]; rfl) | cases h
theorem a2_fs_upd {Y : a2_Y} {rho : Nat → Nat} {ci j : Nat} {g : a2_G} {x : Int32} {b : Nat} (hb : b = 0 ∨ b = 1) {q : Nat} (h : (Y ci)[j]? = some (b, q)) (hl : (Y ci).length ≤ 100) : a2_fs Y rho ci (upd g (100 * ci + j) x) = (a2_fs Y rho ci g).set j (.int x) := by
  apply List.ext_getElem?
  intro i
  have hj : j < (Y ci).length := (List.getElem?_eq_some_iff.mp h).1
  by_cases hi : i = j
  · subst hi
    rw [a2_fs_get h, List.getElem?_set_self (by simp [a2_fs]; exact hj)]
    rcases hb with rfl | rfl <;> simp [a2_f1, upd]
  · rw [List.getElem?_set_ne (Ne.symm hi)]
    cases hk : (Y ci)[i]? with
    | none => simp [a2_fs, hk]
    | some k =>
      rw [a2_fs_get hk, a2_fs_get hk]
      have hne : 100 * ci + i ≠ 100 * ci + j := by omega
      unfold a2_f1
      split <;> simp [upd, hi]
theorem a2_fs_keep {Y : a2_Y} {rho : Nat → Nat} {ci ci' j : Nat} {g : a2_G} {x : Int32} (hl : (Y ci').length ≤ 100) (hj : j < 100) (hne : ci' ≠ ci) : a2_fs Y rho ci' (upd g (100 * ci + j) x) = a2_fs Y rho ci' g := by
  apply List.ext_getElem?
  intro i
  cases hk : (Y ci')[i]? with
  | none => simp [a2_fs, hk]
  | some k =>
    rw [a2_fs_get hk, a2_fs_get hk]
    have hi : i < 100 := Nat.lt_of_lt_of_le (List.getElem?_eq_some_iff.mp hk).1 hl
    have h1 : ¬ 100 * ci' + i = 100 * ci + j := by omega
    unfold a2_f1
    split <;> simp [upd, h1]
theorem a2_ar_eq {Y : a2_Y} {a q z : Nat} (h : a2_ar Y a = some (q, z)) : ∃ ci j x, a = 10000 + (100 * ci + j) ∧ q = 100 * ci + j ∧ (Y ci)[j]? = some (z, x) ∧ (z = 3 ∨ z = 4) := by
  unfold a2_ar at h
  split at h
  · rename_i hk
    split at h
    · rename_i x hx
      obtain ⟨e1, e2⟩ := Prod.mk.inj (Option.some.inj h)
      exact ⟨(a - 10000) / 100, (a - 10000) % 100, x, by omega, by omega, by rw [← e2]; exact hx, Or.inl e2.symm⟩
    · rename_i x hx
      obtain ⟨e1, e2⟩ := Prod.mk.inj (Option.some.inj h)
      exact ⟨(a - 10000) / 100, (a - 10000) % 100, x, by omega, by omega, by rw [← e2]; exact hx, Or.inr e2.symm⟩
    · cases h
  · cases h
theorem a2_ne {α : Type} {l : List α} {j : Nat} {x : α} (h : l[j]? = some x) : l ≠ [] := fun e => by rw [e] at h; cases h
/-- an array changes -/
theorem a2_Rel.arr {Y : a2_Y} {rho : Nat → Nat} {g : a2_G} {r : a2_A} {h : am_H} (hR : a2_Rel Y rho g r h) {ci j z x : Nat} (hz : z = 3 ∨ z = 4) (hk : (Y ci)[j]? = some (z, x)) (e : Nat × (Nat → Int32)) :
    a2_Rel Y rho g (a2_ua r (100 * ci + j) e) (h.set (rho (10000 + (100 * ci + j))) (.inr (.inl (decide (z = 4), e)))) := by
  obtain ⟨h1, h2, h3, h4, h5⟩ := hR
  have hcell : ∃ b' e', h[rho (10000 + (100 * ci + j))]? = some (.inr (.inl (b', e'))) := by
    rcases hz with rfl | rfl
    · exact ⟨_, _, h2 ci j x hk⟩
    · exact ⟨_, _, h3 ci j x hk⟩
  obtain ⟨b', e', hcell⟩ := hcell
  have hlt := (List.getElem?_eq_some_iff.mp hcell).1
  have hz' : (Y ci)[j]? = some (3, x) ∨ (Y ci)[j]? = some (4, x) := by
    rcases hz with rfl | rfl
    · exact Or.inl hk
    · exact Or.inr hk
  have bound : ∀ {c i y z' : Nat}, (Y c)[i]? = some (z', y) → i < 100 := fun {c i y z'} hh => Nat.lt_of_lt_of_le (List.getElem?_eq_some_iff.mp hh).1 (h5 c)
  have other : ∀ {c i y : Nat}, (Y c)[i]? = some (3, y) ∨ (Y c)[i]? = some (4, y) → ¬ (c = ci ∧ i = j) → rho (10000 + (100 * ci + j)) ≠ rho (10000 + (100 * c + i)) ∧ 100 * c + i ≠ 100 * ci + j := by
    intro c i y hc hne
    refine ⟨fun e9 => hne ?_, fun e9 => hne ?_⟩
    · obtain ⟨q1, q2⟩ := h4 ci j x c i y hz' hc e9
      exact ⟨q1.symm, q2.symm⟩
    · have b1 : i < 100 := by rcases hc with hc | hc <;> exact bound hc
      have b2 : j < 100 := bound hk
      omega
  refine ⟨fun c hc => ?_, fun c i y hc => ?_, fun c i y hc => ?_, h4, h5⟩
  · have hne : rho (10000 + (100 * ci + j)) ≠ rho c := fun e9 => by
      have h6 := h1 c hc
      rw [← e9, hcell] at h6
      cases h6
    rw [List.getElem?_set_ne hne]
    exact h1 c hc
  · by_cases hs : c = ci ∧ i = j
    · obtain ⟨rfl, rfl⟩ := hs
      rw [hk] at hc
      cases hc
      rw [List.getElem?_set_self hlt]
      simp [a2_ua]
    · obtain ⟨q1, q2⟩ := other (Or.inl hc) hs
      rw [List.getElem?_set_ne q1]
      simp only [a2_ua, if_neg q2]
      exact h2 c i y hc
  · by_cases hs : c = ci ∧ i = j
    · obtain ⟨rfl, rfl⟩ := hs
      rw [hk] at hc
      cases hc
      rw [List.getElem?_set_self hlt]
      simp [a2_ua]
    · obtain ⟨q1, q2⟩ := other (Or.inr hc) hs
      rw [List.getElem?_set_ne q1]
      simp only [a2_ua, if_neg q2]
      exact h3 c i y hc
/-- a register changes -/
theorem a2_Rel.reg {Y : a2_Y} {rho : Nat → Nat} {g : a2_G} {r : a2_A} {h : am_H} (hR : a2_Rel Y rho g r h) {ci j z q : Nat} (hz : z = 0 ∨ z = 1) (hk : (Y ci)[j]? = some (z, q)) (x : Int32) :
    a2_Rel Y rho (upd g (100 * ci + j) x) r (h.set (rho ci) (.inl (ci, (a2_fs Y rho ci g).set j (.int x)))) := by
  obtain ⟨h1, h2, h3, h4, h5⟩ := hR
  have hcell := h1 ci (a2_ne hk)
  have hlt := (List.getElem?_eq_some_iff.mp hcell).1
  have hj : j < 100 := Nat.lt_of_lt_of_le (List.getElem?_eq_some_iff.mp hk).1 (h5 ci)
  refine ⟨fun c hc => ?_, fun c i y hc => ?_, fun c i y hc => ?_, h4, h5⟩
  · by_cases hs : c = ci
    · subst hs
      rw [List.getElem?_set_self hlt, a2_fs_upd hz hk (h5 c)]
    · have hne : rho ci ≠ rho c := fun e9 => by
        have h6 := h1 c hc
        rw [← e9, hcell] at h6
        have h7 := Option.some.inj h6
        have h8 : ci = c := congrArg (fun q : Nat × List Value => q.1) (Sum.inl.inj h7)
        exact hs h8.symm
      rw [List.getElem?_set_ne hne, a2_fs_keep (h5 c) hj hs]
      exact h1 c hc
  · have hne : rho ci ≠ rho (10000 + (100 * c + i)) := fun e9 => by
      have h6 := h2 c i y hc
      rw [← e9, hcell] at h6
      cases h6
    rw [List.getElem?_set_ne hne]
    exact h2 c i y hc
  · have hne : rho ci ≠ rho (10000 + (100 * c + i)) := fun e9 => by
      have h6 := h3 c i y hc
      rw [← e9, hcell] at h6
      cases h6
    rw [List.getElem?_set_ne hne]
    exact h3 c i y hc
/-- one instruction of the second machine is one of the first -/
theorem a2_one {F : am_F} {Y : a2_Y} (hY : a2_okY F Y) {own : String} {i : Instr} {len pc pc' : Nat} {L L' : am_L} {S S' : List Value} {g g' : a2_G} {r r' : a2_A} {rho : Nat → Nat} {h : am_H} (hs : a2_st F Y own i len pc L S g r = some (pc', L', S', g', r')) (hR : a2_Rel Y rho g r h) :
    ∃ h', am_st F own false i len pc (a2_tl rho L) (S.map (a2_tv rho)) h = some (pc', a2_tl rho L', S'.map (a2_tv rho), h') ∧ a2_Rel Y rho g' r' h' := by
  unfold a2_st at hs
  split at hs
  · rename_i k a S0
    split at hs
    · rename_i ci j ty fin hf
      split at hs
      · rename_i hac
        subst hac
        split at hs
        · rename_i v hv
          cases hs
          have hne : Y a ≠ [] := by
            unfold a2_fv at hv
            split at hv <;> first | (rename_i hk; exact a2_ne hk) | cases hv
          refine ⟨h, ?_, hR⟩
          simp [am_st, a2_tv, hf, hR.1 a hne, a2_fv_f1 (rho := rho) hv]
        · cases hs
      · cases hs
    · cases hs
  · rename_i k v a S0
    split at hs
    · rename_i ci j ty hf
      split at hs
      · rename_i hac
        subst hac
        split at hs
        · rename_i q x hk
          cases hs
          refine ⟨_, ?_, hR.reg (Or.inl rfl) hk x⟩
          have hj : j < (Y a).length := (List.getElem?_eq_some_iff.mp hk).1
          have ety := (hY _ _ _ _ _ _ hf q).1 hk
          subst ety
          simp [am_st, a2_tv, hf, hR.1 a (a2_ne hk), narrow, fits, a2_fs, hj]
        · rename_i q x hk
          split at hs
          · rename_i hx01
            cases hs
            refine ⟨_, ?_, hR.reg (Or.inr rfl) hk x⟩
            have hj : j < (Y a).length := (List.getElem?_eq_some_iff.mp hk).1
            have ety := (hY _ _ _ _ _ _ hf q).2 hk
            subst ety
            rcases hx01 with rfl | rfl <;> simp [am_st, a2_tv, hf, hR.1 a (a2_ne hk), narrow, fits, a2_fs, hj]
          · cases hs
        · cases hs
      · cases hs
    · cases hs
  · rename_i a S0
    split at hs
    · rename_i q z hq
      obtain ⟨ci, j, x, rfl, rfl, hk, hz⟩ := a2_ar_eq hq
      cases hs
      refine ⟨h, ?_, hR⟩
      rcases hz with rfl | rfl
      · simp [am_st, a2_tv, hR.2.1 ci j x hk]
      · simp [am_st, a2_tv, hR.2.2.1 ci j x hk]
    · cases hs
  · rename_i i a S0
    split at hs
    · rename_i q hq
      obtain ⟨ci, j, x, rfl, rfl, hk, -⟩ := a2_ar_eq hq
      split at hs
      · rename_i hi
        cases hs
        refine ⟨h, ?_, hR⟩
        simp [am_st, a2_tv, hR.2.1 ci j x hk, hi]
      · cases hs
    · cases hs
  · rename_i x0 i a S0
    split at hs
    · rename_i q hq
      obtain ⟨ci, j, x, rfl, rfl, hk, -⟩ := a2_ar_eq hq
      split at hs
      · rename_i hi
        cases hs
        refine ⟨_, ?_, hR.arr (Or.inl rfl) hk _⟩
        simp [am_st, a2_tv, hR.2.1 ci j x hk, hi]
      · cases hs
    · cases hs
  · rename_i i a S0
    split at hs
    · rename_i q hq
      obtain ⟨ci, j, x, rfl, rfl, hk, -⟩ := a2_ar_eq hq
      split at hs
      · rename_i hi
        cases hs
        refine ⟨h, ?_, hR⟩
        simp [am_st, a2_tv, hR.2.2.1 ci j x hk, hi]
      · cases hs
    · cases hs
  · rename_i x0 i a S0
    split at hs
    · rename_i q hq
      obtain ⟨ci, j, x, rfl, rfl, hk, -⟩ := a2_ar_eq hq
      split at hs
      · rename_i hi
        cases hs
        refine ⟨_, ?_, hR.arr (Or.inr rfl) hk _⟩
        simp [am_st, a2_tv, hR.2.2.1 ci j x hk, hi]
      · cases hs
    · cases hs
  · split at hs
    · rename_i hst
      cases hs
      exact ⟨h, a2_simple rho h hst, hR⟩
    · cases hs
end
section
/-! The second machine's runs are the first one's. -/
abbrev a2_O : Type := Option Value ⊕ Nat
abbrev a2_S : Type := Option Nat × Nat × am_L × List Value × a2_G × a2_A
abbrev a2_T : Type := Nat → List Value → a2_G → a2_A → a2_O → a2_G → a2_A → Prop
/-- no reference to an array that may be made anew -/
def a2_nR (RG : List Nat) (v : Value) : Bool := RG.all (fun a => a2_nr a v)
def a2_nL (RG : List Nat) (v : Option Value) : Bool := match v with
  | some v => a2_nR RG v
  | none => true
def a2_bk (pc : Nat) (L : am_L) (S : List Value) (o : a2_O) (g : a2_G) (r : a2_A) : a2_S := match o with
  | .inl v => (none, pc + 3, L, v.toList ++ S, g, r)
  | .inr x => (some x, pc, L, S, g, r)
def a2_rc (cl : List vw_C) (Y : a2_Y) (M : am_M) (as : List Value) : Prop := ∃ (ci : Nat) (t : List Value) (q : vw_C), as = .ref ci :: t ∧ Y ci ≠ [] ∧ cl[ci]? = some q ∧ q.1 = (am_y M).cls
/-- what Arrays.copyOf makes -/
def a2_cp (n : Nat) (e : Nat × (Nat → Int32)) : Nat × (Nat → Int32) := (n, va_cpy e.2 (fun _ => 0) 0 0 (if n < e.1 then n else e.1))
def a2_Stp (F : am_F) (cl : List vw_C) (ms : Nat → Option am_M) (Y : a2_Y) (RG : List Nat) (jc : Nat) (E : a2_T) (M : am_M) (a b : a2_S) : Prop :=
  (∃ pc L S g r i len z, a = (none, pc, L, S, g, r) ∧ (am_cd M).lookup pc = some (i, len) ∧ a2_st F Y (am_y M).cls i len pc L S g r = some z ∧ b = (none, z)) ∨
  (∃ pc L S g r i len j w N as rest o g' r', a = (none, pc, L, S, g, r) ∧ (am_cd M).lookup pc = some (i, len) ∧ am_call F (am_y M).cls i len = some (j, w) ∧ (w = 0 ∨ w = 2 ∨ w = 3) ∧ ms j = some N ∧ as.length = am_k N ∧ S = as.reverse ++ rest ∧
    (w = 0 ∨ w = 3 → a2_rc cl Y N as) ∧ (rest.map fun v => v.category).sum ≤ 8 ∧ rest.all (a2_nR RG) = true ∧ L.all (a2_nL RG) = true ∧ E j as g r o g' r' ∧ b = a2_bk pc L rest o g' r') ∨
  (∃ pc L g r i len j w x y rest, a = (none, pc, L, .int y :: .int x :: rest, g, r) ∧ (am_cd M).lookup pc = some (i, len) ∧ am_call F (am_y M).cls i len = some (j, w) ∧ (w = 7 ∨ w = 8) ∧ (rest.map fun v => v.category).sum ≤ 8 ∧ b = (none, pc + 3, L, .int (if w = 7 then (if x < y then y else x) else (if y < x then y else x)) :: rest, g, r)) ∨
  (∃ pc L g r i len k2 ci j ty q c2 j2 q2 n rest, a = (none, pc, L, .int n :: .ref (10000 + (100 * c2 + j2)) :: .ref ci :: rest, g, r) ∧ (am_cd M).lookup pc = some (i, len) ∧ am_call F (am_y M).cls i len = some (jc, 2) ∧ (am_cd M).lookup (pc + 3) = some (.putfield k2, 3) ∧ am_fl F (am_y M).cls k2 = some (ci, j, ty, false) ∧ ty = .array .int ∧ (Y ci)[j]? = some (3, q) ∧ (Y c2)[j2]? = some (3, q2) ∧ (100 * ci + j) ∈ RG ∧
    ¬ n < 0 ∧ n.toNatClampNeg ≤ 60000000 ∧ n.toNatClampNeg ≠ (r (100 * c2 + j2)).1 ∧ (r (100 * c2 + j2)).1 ≤ 60000000 ∧ (rest.map fun v => v.category).sum ≤ 7 ∧ rest.all (a2_nR RG) = true ∧ L.all (a2_nL RG) = true ∧ b = (none, pc + 6, L, rest, g, a2_ua r (100 * ci + j) (a2_cp n.toNatClampNeg (r (100 * c2 + j2)))))
def a2_fin (F : am_F) (M : am_M) (a : a2_S) (z : a2_O × a2_G × a2_A) : Prop :=
  (∃ pc L v g r ty, a = (none, pc, L, [.int v], g, r) ∧ (am_cd M).lookup pc = some (.ireturn, 1) ∧ am_r M = some ty ∧ narrow ty (.int v) = .int v ∧ z = (.inl (some (.int v)), g, r)) ∨
  (∃ pc L g r, a = (none, pc, L, [], g, r) ∧ (am_cd M).lookup pc = some (.return_, 1) ∧ am_r M = none ∧ z = (.inl none, g, r)) ∨
  (∃ pc L S g r x, a = (some x, pc, L, S, g, r) ∧ am_hs M = [] ∧ z = (.inr x, g, r)) ∨
  (∃ pc L S g r x, a = (none, pc, L, S, g, r) ∧ am_tw F (am_y M).cls (am_cd M) pc = some x ∧ am_hs M = [] ∧ (S.map fun v => v.category).sum ≤ 8 ∧ z = (.inr x, g, r))
def a2_Go (F : am_F) (cl : List vw_C) (ms : Nat → Option am_M) (Y : a2_Y) (RG : List Nat) (jc : Nat) (E : a2_T) (M : am_M) (z : a2_O × a2_G × a2_A) (a : a2_S) : Prop :=
  ∀ P : a2_S → Prop, (∀ a, a2_fin F M a z → P a) → (∀ a b, a2_Stp F cl ms Y RG jc E M a b → P b → P a) → P a
theorem a2_Go.fin {F : am_F} {cl : List vw_C} {ms : Nat → Option am_M} {Y : a2_Y} {RG : List Nat} {jc : Nat} {E : a2_T} {M : am_M} {z : a2_O × a2_G × a2_A} {a : a2_S} (h : a2_fin F M a z) : a2_Go F cl ms Y RG jc E M z a := fun _ h1 _ => h1 a h
theorem a2_Go.step {F : am_F} {cl : List vw_C} {ms : Nat → Option am_M} {Y : a2_Y} {RG : List Nat} {jc : Nat} {E : a2_T} {M : am_M} {z : a2_O × a2_G × a2_A} {a b : a2_S} (h : a2_Stp F cl ms Y RG jc E M a b) (k : a2_Go F cl ms Y RG jc E M z b) : a2_Go F cl ms Y RG jc E M z a := fun P h1 h2 => h2 a b h (k P h1 h2)
def a2_Ev (F : am_F) (cl : List vw_C) (ms : Nat → Option am_M) (Y : a2_Y) (RG : List Nat) (jc : Nat) : Nat → a2_T
  | 0 => fun _ _ _ _ _ _ _ => False
  | d + 1 => fun j as g r o g' r' => ∃ M, ms j = some M ∧ as.length = am_k M ∧ am_k M ≤ am_n M ∧ (∀ v ∈ as, v.category = 1) ∧ as.all (a2_nR RG) = true ∧ (am_y M).name ≠ "<init>" ∧ a2_Go F cl ms Y RG jc (a2_Ev F cl ms Y RG jc d) M (o, g', r') (none, 0, am_ent M as, [], g, r)
/-- references other than those to arrays made anew stay -/
def a2_ex (RG : List Nat) (rho rho' : Nat → Nat) : Prop := ∀ k, (∀ a ∈ RG, k ≠ 10000 + a) → rho' k = rho k
theorem a2_ex.rf (RG : List Nat) (rho : Nat → Nat) : a2_ex RG rho rho := fun _ _ => rfl
theorem a2_ex.trans {RG : List Nat} {a b c : Nat → Nat} (h1 : a2_ex RG a b) (h2 : a2_ex RG b c) : a2_ex RG a c := fun k hk => (h2 k hk).trans (h1 k hk)
theorem a2_ex.tv {RG : List Nat} {rho rho' : Nat → Nat} (h : a2_ex RG rho rho') {v : Value} (hv : a2_nR RG v = true) : a2_tv rho' v = a2_tv rho v := by
  cases v with
  | ref k =>
    refine congrArg Value.ref (h k fun a ha => ?_)
    exact of_decide_eq_true (List.all_eq_true.mp hv a ha)
  | _ => rfl
theorem a2_ex.map {RG : List Nat} {rho rho' : Nat → Nat} (h : a2_ex RG rho rho') {S : List Value} (hS : S.all (a2_nR RG) = true) : S.map (a2_tv rho') = S.map (a2_tv rho) := List.map_congr_left fun v hv => h.tv (List.all_eq_true.mp hS v hv)
theorem a2_ex.tl {RG : List Nat} {rho rho' : Nat → Nat} (h : a2_ex RG rho rho') {L : am_L} (hL : L.all (a2_nL RG) = true) : a2_tl rho' L = a2_tl rho L := List.map_congr_left fun v hv => by
  cases v with
  | none => rfl
  | some v => exact congrArg some (h.tv (List.all_eq_true.mp hL _ hv))
/-- what the first machine's outcome is -/
def a2_oc (o : a2_O) (o1 : am_O) : Prop := match o, o1 with
  | .inl none, .inl none => True
  | .inl (some (.int v)), .inl (some w) => w = .int v
  | .inr x, .inr (x', _) => x' = x
  | _, _ => False
/-- .. and a whole state of a method -/
def a2_Pm (F : am_F) (cl : List vw_C) (ms : Nat → Option am_M) (Y : a2_Y) (RG : List Nat) (d : Nat) (M : am_M) (z : a2_O × a2_G × a2_A) (a : a2_S) : Prop := ∀ (rho : Nat → Nat) (h : am_H) (x1 : Option (Nat × Nat)), a2_Rel Y rho a.2.2.2.2.1 a.2.2.2.2.2 h → x1.map (fun q => q.1) = a.1 →
  ∃ (rho' : Nat → Nat) (h' : am_H) (o1 : am_O), am_Go F cl ms (am_Ev F cl ms d) M (o1, h') (x1, a.2.1, a2_tl rho a.2.2.1, a.2.2.2.1.map (a2_tv rho), h) ∧ a2_Rel Y rho' z.2.1 z.2.2 h' ∧ a2_ex RG rho rho' ∧ a2_oc z.1 o1
end
section
/-! The second machine's calls are the first one's. -/
def a2_up (rho : Nat → Nat) (k v : Nat) : Nat → Nat := fun i => if i = k then v else rho i
def a2_okZ (Y : a2_Y) : Prop := ∀ ci, (Y ci ≠ [] → ci < 9000) ∧ ∀ j q : Nat, (Y ci)[j]? = some (2, q) → q < 9000
theorem a2_f1_up {Y : a2_Y} (hZ : a2_okZ Y) {rho : Nat → Nat} {c i a v : Nat} {k : Nat × Nat} {g : a2_G} (hk : (Y c)[i]? = some k) (hne : 100 * c + i ≠ a) : a2_f1 (a2_up rho (10000 + a) v) c i k g = a2_f1 rho c i k g := by
  have e1 : 10000 + (100 * c + i) ≠ 10000 + a := by omega
  unfold a2_f1
  split
  · rfl
  · rfl
  · rename_i cj
    have hc := (hZ c).2 i cj hk
    have e2 : cj ≠ 10000 + a := by omega
    simp only [a2_up, if_neg e2]
  · simp only [a2_up, if_neg e1]
  · simp only [a2_up, if_neg e1]
  · rfl
theorem a2_fs_len {Y : a2_Y} {rho : Nat → Nat} {c : Nat} {g : a2_G} : (a2_fs Y rho c g).length = (Y c).length := by
  simp [a2_fs]
theorem a2_fs_none {Y : a2_Y} {rho : Nat → Nat} {c i : Nat} {g : a2_G} (h : (Y c)[i]? = none) : (a2_fs Y rho c g)[i]? = none := by
  rw [List.getElem?_eq_none_iff] at h ⊢
  rw [a2_fs_len]
  exact h
theorem a2_fs_new {Y : a2_Y} (hZ : a2_okZ Y) {rho : Nat → Nat} {ci j v x : Nat} {g : a2_G} (hk : (Y ci)[j]? = some (3, x)) : a2_fs Y (a2_up rho (10000 + (100 * ci + j)) v) ci g = (a2_fs Y rho ci g).set j (.ref v) := by
  apply List.ext_getElem?
  intro i
  by_cases hi : i = j
  · subst hi
    have hlt : i < (a2_fs Y rho ci g).length := by rw [a2_fs_len]; exact (List.getElem?_eq_some_iff.mp hk).1
    rw [List.getElem?_set_self hlt, a2_fs_get hk]
    simp [a2_f1, a2_up]
  · rw [List.getElem?_set_ne (Ne.symm hi)]
    cases hq : (Y ci)[i]? with
    | none => rw [a2_fs_none hq, a2_fs_none hq]
    | some k =>
      rw [a2_fs_get hq, a2_fs_get hq, a2_f1_up hZ hq (by omega)]
theorem a2_fs_old {Y : a2_Y} (hZ : a2_okZ Y) {rho : Nat → Nat} {c ci j v : Nat} {g : a2_G} (hl : (Y c).length ≤ 100) (hj : j < 100) (hne : c ≠ ci) : a2_fs Y (a2_up rho (10000 + (100 * ci + j)) v) c g = a2_fs Y rho c g := by
  apply List.ext_getElem?
  intro i
  cases hq : (Y c)[i]? with
  | none => rw [a2_fs_none hq, a2_fs_none hq]
  | some k =>
    have hi : i < 100 := Nat.lt_of_lt_of_le (List.getElem?_eq_some_iff.mp hq).1 hl
    rw [a2_fs_get hq, a2_fs_get hq, a2_f1_up hZ hq (by omega)]
/-- cells behind the last change nothing -/
theorem a2_Rel.app {Y : a2_Y} {rho : Nat → Nat} {g : a2_G} {r : a2_A} {h : am_H} (hR : a2_Rel Y rho g r h) (e : am_E) : a2_Rel Y rho g r (h ++ [e]) := by
  obtain ⟨h1, h2, h3, h4, h5⟩ := hR
  have ap : ∀ {k : Nat} {x : am_E}, h[k]? = some x → (h ++ [e])[k]? = some x := fun {k x} hk => by
    rw [List.getElem?_append_left (List.getElem?_eq_some_iff.mp hk).1]
    exact hk
  exact ⟨fun c hc => ap (h1 c hc), fun c i y hc => ap (h2 c i y hc), fun c i y hc => ap (h3 c i y hc), h4, h5⟩
/-- an array field gets the array made last -/
theorem a2_Rel.fresh {Y : a2_Y} (hZ : a2_okZ Y) {rho : Nat → Nat} {g : a2_G} {r : a2_A} {h : am_H} (hR : a2_Rel Y rho g r h) {ci j x : Nat} (hk : (Y ci)[j]? = some (3, x)) (e : Nat × (Nat → Int32)) :
    a2_Rel Y (a2_up rho (10000 + (100 * ci + j)) h.length) g (a2_ua r (100 * ci + j) e) ((h ++ [(Sum.inr (Sum.inl (false, e)) : am_E)]).set (rho ci) (.inl (ci, (a2_fs Y rho ci g).set j (.ref h.length)))) := by
  obtain ⟨h1, h2, h3, h4, h5⟩ := hR
  have hcell := h1 ci (a2_ne hk)
  have hlt := (List.getElem?_eq_some_iff.mp hcell).1
  have hj : j < 100 := Nat.lt_of_lt_of_le (List.getElem?_eq_some_iff.mp hk).1 (h5 ci)
  have bound : ∀ {c i y z' : Nat}, (Y c)[i]? = some (z', y) → i < 100 := fun {c i y z'} hh => Nat.lt_of_lt_of_le (List.getElem?_eq_some_iff.mp hh).1 (h5 c)
  have hlt2 : rho ci < (h ++ [(Sum.inr (Sum.inl (false, e)) : am_E)]).length := by rw [List.length_append]; omega
  have up1 : ∀ c, Y c ≠ [] → a2_up rho (10000 + (100 * ci + j)) h.length c = rho c := fun c hc => by
    have h9 := (hZ c).1 hc
    have e2 : c ≠ 10000 + (100 * ci + j) := by omega
    simp only [a2_up, if_neg e2]
  have up2 : ∀ {c i y : Nat}, (Y c)[i]? = some (3, y) ∨ (Y c)[i]? = some (4, y) → ¬ (c = ci ∧ i = j) → a2_up rho (10000 + (100 * ci + j)) h.length (10000 + (100 * c + i)) = rho (10000 + (100 * c + i)) ∧ 100 * c + i ≠ 100 * ci + j := by
    intro c i y hc hne
    have hi : i < 100 := by rcases hc with hc | hc <;> exact bound hc
    have e2 : 10000 + (100 * c + i) ≠ 10000 + (100 * ci + j) := fun e9 => hne (by omega)
    refine ⟨by simp only [a2_up, if_neg e2], fun e9 => hne (by omega)⟩
  have cells : ∀ {c i y : Nat}, (Y c)[i]? = some (3, y) ∨ (Y c)[i]? = some (4, y) → ∃ b' e', h[rho (10000 + (100 * c + i))]? = some (.inr (.inl (b', e'))) := by
    intro c i y hc
    rcases hc with hc | hc
    · exact ⟨_, _, h2 c i y hc⟩
    · exact ⟨_, _, h3 c i y hc⟩
  have nobj : ∀ {k : Nat} {b' : Bool} {e' : Nat × (Nat → Int32)}, h[k]? = some (.inr (.inl (b', e'))) → rho ci ≠ k := fun {k b' e'} hh e9 => by
    rw [← e9, hcell] at hh
    cases hh
  have keep : ∀ {k : Nat} {b' : Bool} {e' : Nat × (Nat → Int32)}, h[k]? = some (.inr (.inl (b', e'))) → ((h ++ [(Sum.inr (Sum.inl (false, e)) : am_E)]).set (rho ci) (.inl (ci, (a2_fs Y rho ci g).set j (.ref h.length))))[k]? = some (.inr (.inl (b', e'))) := fun {k b' e'} hh => by
    rw [List.getElem?_set_ne (nobj hh), List.getElem?_append_left (List.getElem?_eq_some_iff.mp hh).1]
    exact hh
  refine ⟨fun c hc => ?_, fun c i y hc => ?_, fun c i y hc => ?_, fun c i y c' i' y' hc hc' he => ?_, h5⟩
  · rw [up1 c hc]
    by_cases hs : c = ci
    · subst hs
      rw [List.getElem?_set_self hlt2, a2_fs_new hZ hk]
    · have h6 := h1 c hc
      have hne : rho ci ≠ rho c := fun e9 => by
        rw [← e9, hcell] at h6
        have h8 : ci = c := congrArg (fun q : Nat × List Value => q.1) (Sum.inl.inj (Option.some.inj h6))
        exact hs h8.symm
      rw [List.getElem?_set_ne hne, List.getElem?_append_left (List.getElem?_eq_some_iff.mp h6).1, a2_fs_old hZ (h5 c) hj hs]
      exact h6
  · by_cases hs : c = ci ∧ i = j
    · obtain ⟨rfl, rfl⟩ := hs
      have e1 : a2_up rho (10000 + (100 * c + i)) h.length (10000 + (100 * c + i)) = h.length := by simp [a2_up]
      have hne : rho c ≠ h.length := by omega
      rw [e1, List.getElem?_set_ne hne]
      simp [a2_ua]
    · obtain ⟨q1, q2⟩ := up2 (Or.inl hc) hs
      rw [q1]
      simp only [a2_ua, if_neg q2]
      exact keep (h2 c i y hc)
  · by_cases hs : c = ci ∧ i = j
    · obtain ⟨rfl, rfl⟩ := hs
      rw [hk] at hc
      cases hc
    · obtain ⟨q1, q2⟩ := up2 (Or.inr hc) hs
      rw [q1]
      simp only [a2_ua, if_neg q2]
      exact keep (h3 c i y hc)
  · have e1 : a2_up rho (10000 + (100 * ci + j)) h.length (10000 + (100 * ci + j)) = h.length := by simp [a2_up]
    by_cases hs : c = ci ∧ i = j
    · by_cases hs' : c' = ci ∧ i' = j
      · exact ⟨hs.1.trans hs'.1.symm, hs.2.trans hs'.2.symm⟩
      · obtain ⟨q1, _⟩ := up2 hc' hs'
        obtain ⟨b', e', q3⟩ := cells hc'
        have q4 := (List.getElem?_eq_some_iff.mp q3).1
        rw [hs.1, hs.2, e1, q1] at he
        omega
    · obtain ⟨q1, _⟩ := up2 hc hs
      by_cases hs' : c' = ci ∧ i' = j
      · obtain ⟨b', e', q3⟩ := cells hc
        have q4 := (List.getElem?_eq_some_iff.mp q3).1
        rw [hs'.1, hs'.2, e1, q1] at he
        omega
      · obtain ⟨q2, _⟩ := up2 hc' hs'
        rw [q1, q2] at he
        exact h4 c i y c' i' y' hc hc' he
theorem a2_cat (rho : Nat → Nat) (S : List Value) : ((S.map (a2_tv rho)).map fun v => v.category) = S.map fun v => v.category := by
  rw [List.map_map]
  exact List.map_congr_left fun v _ => a2_tv_cat rho v
/-- Arrays.copyOf to another length, on the first machine -/
def a2_cpy (F : am_F) (cl : List vw_C) (ms : Nat → Option am_M) (jc : Nat) : Prop := (∃ N, ms jc = some N ∧ am_k N = 2) ∧ ∀ (a : Nat) (n : Int32) (h : am_H) (e : Nat × (Nat → Int32)), h[a]? = some (Sum.inr (Sum.inl (false, e))) → ¬ n < 0 → n.toNatClampNeg ≤ 60000000 → n.toNatClampNeg ≠ e.1 → e.1 ≤ 60000000 → am_Ev F cl ms 1 jc [.ref a, .int n] h (.inl (some (.ref h.length))) (h ++ [(Sum.inr (Sum.inl (false, a2_cp n.toNatClampNeg e)) : am_E)])
/-- what is to be shown of calls -/
def a2_Cm (F : am_F) (cl : List vw_C) (ms : Nat → Option am_M) (Y : a2_Y) (RG : List Nat) (jc d : Nat) : Prop := ∀ j as g r o g' r' rho h, a2_Ev F cl ms Y RG jc d j as g r o g' r' → a2_Rel Y rho g r h →
  ∃ (rho' : Nat → Nat) (h' : am_H) (o1 : am_O), am_Ev F cl ms (d + 1) j (as.map (a2_tv rho)) h o1 h' ∧ a2_Rel Y rho' g' r' h' ∧ a2_ex RG rho rho' ∧ a2_oc o o1
theorem a2_keepF {F : am_F} {cl : List vw_C} {ms : Nat → Option am_M} {Y : a2_Y} {RG : List Nat} {d : Nat} {M : am_M} {z : a2_O × a2_G × a2_A} {a : a2_S} (hf : a2_fin F M a z) : a2_Pm F cl ms Y RG d M z a := by
  intro rho h x1 hR hx
  rcases hf with ⟨pc, L, v, g, r, ty, rfl, h1, h2, h3, rfl⟩ | ⟨pc, L, g, r, rfl, h1, h2, rfl⟩ | ⟨pc, L, S, g, r, x, rfl, h1, rfl⟩ | ⟨pc, L, S, g, r, x, rfl, h1, h2, h3, rfl⟩
  · cases x1 with
    | some q => cases hx
    | none => exact ⟨rho, h, .inl (some (.int v)), am_Go.fin (Or.inl ⟨pc, a2_tl rho L, v, h, ty, rfl, h1, h2, h3, rfl⟩), hR, a2_ex.rf RG rho, rfl⟩
  · cases x1 with
    | some q => cases hx
    | none => exact ⟨rho, h, .inl none, am_Go.fin (Or.inr (Or.inl ⟨pc, a2_tl rho L, h, rfl, h1, h2, rfl⟩)), hR, a2_ex.rf RG rho, trivial⟩
  · cases x1 with
    | none => cases hx
    | some q =>
      obtain ⟨x', k⟩ := q
      have hx' : x' = x := Option.some.inj hx
      subst hx'
      refine ⟨rho, h, .inr (x', k), am_Go.fin (Or.inr (Or.inr (Or.inr (Or.inl ⟨pc, a2_tl rho L, S.map (a2_tv rho), h, (x', k), rfl, ?_, rfl⟩)))), hR, a2_ex.rf RG rho, rfl⟩
      intro q hq
      rw [h1] at hq
      cases hq
  · cases x1 with
    | some q => cases hx
    | none => exact ⟨rho, h ++ [am_X x], .inr (x, h.length), am_Go.fin (Or.inr (Or.inr (Or.inr (Or.inr ⟨pc, a2_tl rho L, S.map (a2_tv rho), h, x, rfl, h1, h2, (by rw [a2_cat]; exact h3), rfl⟩)))), hR.app _, a2_ex.rf RG rho, rfl⟩
theorem a2_keepS {F : am_F} {cl : List vw_C} {ms : Nat → Option am_M} {Y : a2_Y} (hY : a2_okY F Y) (hZ : a2_okZ Y) {RG : List Nat} {jc d : Nat} (hC : a2_cpy F cl ms jc) (hE : a2_Cm F cl ms Y RG jc d) {M : am_M} (hM : (am_y M).name ≠ "<init>") {z : a2_O × a2_G × a2_A} {a b : a2_S} (hs : a2_Stp F cl ms Y RG jc (a2_Ev F cl ms Y RG jc d) M a b) (hb : a2_Pm F cl ms Y RG (d + 1) M z b) : a2_Pm F cl ms Y RG (d + 1) M z a := by
  have hini : am_ini M = false := decide_eq_false hM
  intro rho h x1 hR hx
  rcases hs with ⟨pc, L, S, g, r, i, len, y, rfl, h1, h2, rfl⟩ | ⟨pc, L, S, g, r, i, len, j, w, N, as, rest, o, g', r', rfl, h1, h2, h3, h4, h5, rfl, h7, h8, h9, h10, h11, rfl⟩ | ⟨pc, L, g, r, i, len, j, w, x, y, rest, rfl, h1, h2, h3, h4, rfl⟩ | ⟨pc, L, g, r, i, len, k2, ci, j, ty, q, c2, j2, q2, n, rest, rfl, h1, h2, h3, h4, h5, h6, h7, h8, h9, h10, h11, h12, h13, h14, h15, rfl⟩
  · cases x1 with
    | some q => cases hx
    | none =>
      obtain ⟨pc', L', S', g', r'⟩ := y
      obtain ⟨h', e1, hR'⟩ := a2_one hY h2 hR
      obtain ⟨rho', h'', o1, k1, k2, k3, k4⟩ := hb rho h' none hR' rfl
      refine ⟨rho', h'', o1, am_Go.step (Or.inl ⟨pc, a2_tl rho L, S.map (a2_tv rho), h, i, len, _, rfl, h1, ?_, rfl⟩) k1, k2, k3, k4⟩
      rw [hini]
      exact e1
  · cases x1 with
    | some q => cases hx
    | none =>
      obtain ⟨rho1, h', o1, e1, hR', e2, e3⟩ := hE j as g r o g' r' rho h h11 hR
      have eL : a2_tl rho1 L = a2_tl rho L := e2.tl h10
      have eS : rest.map (a2_tv rho1) = rest.map (a2_tv rho) := e2.map h9
      have stp : ∀ b', b' = am_bk pc (a2_tl rho L) (rest.map (a2_tv rho)) o1 h' → am_Stp F cl ms (am_Ev F cl ms (d + 1)) M (none, pc, a2_tl rho L, (as.reverse ++ rest).map (a2_tv rho), h) b' := by
        intro b' eb
        refine Or.inr (Or.inl ⟨pc, a2_tl rho L, (as.reverse ++ rest).map (a2_tv rho), h, i, len, j, w, N, as.map (a2_tv rho), rest.map (a2_tv rho), o1, h', rfl, h1, h2, by omega, h4, by rw [List.length_map]; exact h5, by rw [List.map_append, List.map_reverse], fun hw => ?_, fun hw => by omega, by rw [a2_cat]; exact h8, e1, eb⟩)
        obtain ⟨ci, t, q, f1, f2, f3, f4⟩ := h7 hw
        subst f1
        exact ⟨rho ci, ci, a2_fs Y rho ci g, t.map (a2_tv rho), q, rfl, hR.1 ci f2, f3, f4⟩
      cases o with
      | inl v =>
        cases v with
        | none =>
          cases o1 with
          | inr q => cases e3
          | inl v1 =>
            cases v1 with
            | some _ => cases e3
            | none =>
              obtain ⟨rho', h'', o2, k1, k2, k3, k4⟩ := hb rho1 h' none hR' rfl
              refine ⟨rho', h'', o2, am_Go.step (stp _ ?_) k1, k2, e2.trans k3, k4⟩
              show (none, pc + 3, a2_tl rho1 L, rest.map (a2_tv rho1), h') = _
              rw [eL, eS]
              rfl
        | some v =>
          cases o1 with
          | inr q => cases v <;> cases e3
          | inl v1 =>
            cases v1 with
            | none => cases v <;> cases e3
            | some v1 =>
              obtain ⟨rho', h'', o2, k1, k2, k3, k4⟩ := hb rho1 h' none hR' rfl
              refine ⟨rho', h'', o2, am_Go.step (stp _ ?_) k1, k2, e2.trans k3, k4⟩
              have e4 : a2_tv rho1 v = v1 := by
                cases v with
                | int x => exact Eq.symm e3
                | _ => cases e3
              show (none, pc + 3, a2_tl rho1 L, a2_tv rho1 v :: rest.map (a2_tv rho1), h') = _
              rw [eL, eS, e4]
              rfl
      | inr x =>
        cases o1 with
        | inl v1 => cases e3
        | inr q =>
          obtain ⟨x', k⟩ := q
          have hx' : x' = x := e3
          subst hx'
          obtain ⟨rho', h'', o2, k1, k2, k3, k4⟩ := hb rho1 h' (some (x', k)) hR' rfl
          refine ⟨rho', h'', o2, am_Go.step (stp _ ?_) k1, k2, e2.trans k3, k4⟩
          show (some (x', k), pc, a2_tl rho1 L, rest.map (a2_tv rho1), h') = _
          rw [eL, eS]
          rfl
  · cases x1 with
    | some q => cases hx
    | none =>
      obtain ⟨rho', h'', o1, k1, k2, k3, k4⟩ := hb rho h none hR rfl
      exact ⟨rho', h'', o1, am_Go.step (Or.inr (Or.inr (Or.inr (Or.inr (Or.inl ⟨pc, a2_tl rho L, h, i, len, j, w, x, y, rest.map (a2_tv rho), rfl, h1, h2, h3, (by rw [a2_cat]; exact h4), rfl⟩))))) k1, k2, k3, k4⟩
  · cases x1 with
    | some q => cases hx
    | none =>
      subst h5
      obtain ⟨⟨N, n1, n2⟩, n3⟩ := hC
      have hc2 := hR.2.1 c2 j2 q2 h7
      have ev := n3 (rho (10000 + (100 * c2 + j2))) n h (r (100 * c2 + j2)) hc2 h9 h10 h11 h12
      have hR2 := a2_Rel.fresh hZ hR h6 (a2_cp n.toNatClampNeg (r (100 * c2 + j2)))
      have ex : a2_ex RG rho (a2_up rho (10000 + (100 * ci + j)) h.length) := fun k hk => by
        have e9 := hk _ h8
        simp only [a2_up, if_neg e9]
      obtain ⟨rho', h'', o1, u1, u2, u3, u4⟩ := hb _ _ none hR2 rfl
      have eL : a2_tl (a2_up rho (10000 + (100 * ci + j)) h.length) L = a2_tl rho L := ex.tl h15
      have eS : rest.map (a2_tv (a2_up rho (10000 + (100 * ci + j)) h.length)) = rest.map (a2_tv rho) := ex.map h14
      have hcell := hR.1 ci (a2_ne h6)
      have hcell2 : (h ++ [(Sum.inr (Sum.inl (false, a2_cp n.toNatClampNeg (r (100 * c2 + j2)))) : am_E)])[rho ci]? = some (.inl (ci, a2_fs Y rho ci g)) := by
        rw [List.getElem?_append_left (List.getElem?_eq_some_iff.mp hcell).1]
        exact hcell
      have hjl : j < (a2_fs Y rho ci g).length := by rw [a2_fs_len]; exact (List.getElem?_eq_some_iff.mp h6).1
      have s1 : am_Stp F cl ms (am_Ev F cl ms (d + 1)) M (none, pc, a2_tl rho L, .int n :: .ref (rho (10000 + (100 * c2 + j2))) :: .ref (rho ci) :: rest.map (a2_tv rho), h) (none, pc + 3, a2_tl rho L, .ref h.length :: .ref (rho ci) :: rest.map (a2_tv rho), h ++ [(Sum.inr (Sum.inl (false, a2_cp n.toNatClampNeg (r (100 * c2 + j2)))) : am_E)]) := by
        refine Or.inr (Or.inl ⟨pc, a2_tl rho L, _, h, i, len, jc, 2, N, [.ref (rho (10000 + (100 * c2 + j2))), .int n], .ref (rho ci) :: rest.map (a2_tv rho), _, _, rfl, h1, h2, by omega, n1, n2.symm, rfl, fun hw => ?_, fun hw => ?_, ?_, am_Ev.mono (by omega) ev, rfl⟩)
        · omega
        · omega
        · show 1 + (((rest.map (a2_tv rho)).map fun v => v.category)).sum ≤ 8
          rw [a2_cat]
          omega
      have s2 : am_Stp F cl ms (am_Ev F cl ms (d + 1)) M (none, pc + 3, a2_tl rho L, .ref h.length :: .ref (rho ci) :: rest.map (a2_tv rho), h ++ [(Sum.inr (Sum.inl (false, a2_cp n.toNatClampNeg (r (100 * c2 + j2)))) : am_E)]) (none, pc + 6, a2_tl rho L, rest.map (a2_tv rho), (h ++ [(Sum.inr (Sum.inl (false, a2_cp n.toNatClampNeg (r (100 * c2 + j2)))) : am_E)]).set (rho ci) (.inl (ci, (a2_fs Y rho ci g).set j (.ref h.length)))) := by
        refine Or.inl ⟨pc + 3, _, _, _, .putfield k2, 3, _, rfl, h3, ?_, rfl⟩
        have nf : narrow (.array .int) (.ref h.length) = .ref h.length := rfl
        have ff : fits (.array .int) (.ref h.length) = true := rfl
        simp [am_st, h4, hcell2, hjl, nf, ff]
      refine ⟨rho', h'', o1, am_Go.step s1 (am_Go.step s2 ?_), u2, ex.trans u3, u4⟩
      rw [← eL, ← eS]
      exact u1
theorem a2_ent {rho : Nat → Nat} {M : am_M} {as : List Value} : a2_tl rho (am_ent M as) = am_ent M (as.map (a2_tv rho)) := by
  simp [am_ent, a2_tl, List.map_append, List.map_map, List.map_replicate, Function.comp_def]
theorem a2_sim {F : am_F} {cl : List vw_C} {ms : Nat → Option am_M} {Y : a2_Y} (hY : a2_okY F Y) (hZ : a2_okZ Y) {RG : List Nat} {jc : Nat} (hC : a2_cpy F cl ms jc) : ∀ d, a2_Cm F cl ms Y RG jc d
  | 0 => fun _ _ _ _ _ _ _ _ _ h _ => h.elim
  | d + 1 => by
    intro j as g r o g' r' rho h ⟨M, m1, m2, m3, m4, m5, m6, m7⟩ hR
    obtain ⟨rho', h', o1, k1, k2, k3, k4⟩ := m7 (a2_Pm F cl ms Y RG (d + 1) M (o, g', r')) (fun a hf => a2_keepF hf) (fun a b hs hb => a2_keepS hY hZ hC (a2_sim hY hZ hC d) m6 hs hb) rho h none hR rfl
    refine ⟨rho', h', o1, ⟨M, m1, by rw [List.length_map]; exact m2, m3, fun v hv => ?_, ?_⟩, k2, k3, k4⟩
    · obtain ⟨w, hw, rfl⟩ := List.mem_map.mp hv
      rw [a2_tv_cat]
      exact m4 w hw
    · rw [← a2_ent]
      exact k1
end
