section
/-! AN ABSTRACT MACHINE over the class files' own bytes: cells by numbers in a list, values with such numbers as references ('retAddr' stands for the law's script); a small-step relation with calls as a big step; below, that the machine itself does what it does. -/
abbrev am_E : Type := (Nat × List Value) ⊕ ((Bool × Nat × (Nat → Int32)) ⊕ (Nat × (Nat → Int64)))
abbrev am_H : Type := List am_E
abbrev am_L : Type := List (Option Value)
/-- returned (a value or none), or thrown (the class's number, the cell) -/
abbrev am_O : Type := Option Value ⊕ (Nat × Nat)
/-- a method: name, bytes, locals, what it returns, handlers (from, to, where, the class's number), how many arguments (the receiver counted), its instructions -/
abbrev am_M : Type := MethodName × ByteArray × Nat × Option FieldType × List (Nat × Nat × Nat × Nat) × Nat × List (Nat × Instr × Nat)
abbrev am_y (M : am_M) : MethodName := M.1
abbrev am_b (M : am_M) : ByteArray := M.2.1
abbrev am_n (M : am_M) : Nat := M.2.2.1
abbrev am_r (M : am_M) : Option FieldType := M.2.2.2.1
abbrev am_hs (M : am_M) : List (Nat × Nat × Nat × Nat) := M.2.2.2.2.1
abbrev am_k (M : am_M) : Nat := M.2.2.2.2.2.1
abbrev am_cd (M : am_M) : List (Nat × Instr × Nat) := M.2.2.2.2.2.2
/-- what the constant pools say, by class and entry: a field (class's number, place, type, final); a class that is made (number, its fields' first values); an int; a call (method's number, how: 0 by the receiver, 1 constructor, 2 static, 3 private of a nest mate, 4 constructor of a nest mate, 5 Object's, 6 arraycopy, 7 Math.max, 8 Math.min); a class that is thrown (number); then the script -/
abbrev am_F : Type := (String → Nat → Option (Nat × Nat × FieldType × Bool)) × (String → Nat → Option (Nat × List Value)) × (String → Nat → Option Int32) × (String → Nat → Option (Nat × Nat)) × (String → Nat → Option Nat) × Nat × (Nat → Int32)
abbrev am_fl (F : am_F) := F.1
abbrev am_nw (F : am_F) := F.2.1
abbrev am_ld (F : am_F) := F.2.2.1
abbrev am_cl (F : am_F) := F.2.2.2.1
abbrev am_th (F : am_F) := F.2.2.2.2.1
abbrev am_sn (F : am_F) := F.2.2.2.2.2.1
abbrev am_sx (F : am_F) := F.2.2.2.2.2.2
def am_isR (v : Value) : Bool := match v with
  | .ref _ => true
  | .retAddr _ => true
  | _ => false
def am_c2 (c : ClassFile.Cond) (x y : Int32) : Bool := match c with
  | .eq => decide (x = y)
  | .ne => decide (x ≠ y)
  | .lt => decide (x < y)
  | .ge => decide (y ≤ x)
  | .gt => decide (y < x)
  | .le => decide (x ≤ y)
def am_to (pc : Nat) (off : Int) : Option Nat := if 0 ≤ (pc : Int) + off then some ((pc : Int) + off).toNat else none
def am_inr (i : Int32) (n : Nat) : Bool := decide (¬ (i < 0 ∨ n ≤ i.toNatClampNeg))
/-- the first value of an array's place -/
def am_at0 (t : ArrayType) (n : Nat) : Option am_E := match t with
  | .int => some (.inr (.inl (false, n, fun _ => 0)))
  | .boolean => some (.inr (.inl (true, n, fun _ => 0)))
  | .long => some (.inr (.inr (n, fun _ => 0)))
  | _ => none
/-- one instruction without a call: place, locals, stack, cells -/
def am_st (F : am_F) (own : String) (ini : Bool) (i : Instr) (len pc : Nat) (L : am_L) (S : List Value) (h : am_H) : Option (Nat × am_L × List Value × am_H) :=
  match i, len, S with
  | .iconst n, 1, S => some (pc + 1, L, .int (Int32.ofInt n) :: S, h)
  | .bipush n, 2, S => some (pc + 2, L, .int (Int8.ofInt n).toInt32 :: S, h)
  | .sipush n, 3, S => some (pc + 3, L, .int (Int16.ofInt n).toInt32 :: S, h)
  | .ldc k, 2, S => match am_ld F own k with
    | some v => some (pc + 2, L, .int v :: S, h)
    | none => none
  | .iload_n k, 1, S => match L[(k : Nat)]? with
    | some (some (.int x)) => some (pc + 1, L, .int x :: S, h)
    | _ => none
  | .iload k, 2, S => match L[k]? with
    | some (some (.int x)) => some (pc + 2, L, .int x :: S, h)
    | _ => none
  | .aload_n k, 1, S => match L[(k : Nat)]? with
    | some (some v) => if am_isR v then some (pc + 1, L, v :: S, h) else none
    | _ => none
  | .aload k, 2, S => match L[k]? with
    | some (some v) => if am_isR v then some (pc + 2, L, v :: S, h) else none
    | _ => none
  | .istore_n k, 1, .int x :: S => if (k : Nat) < L.length then some (pc + 1, L.set k (some (.int x)), S, h) else none
  | .istore k, 2, .int x :: S => if k < L.length then some (pc + 2, L.set k (some (.int x)), S, h) else none
  | .astore_n k, 1, v :: S => if (k : Nat) < L.length ∧ am_isR v then some (pc + 1, L.set k (some v), S, h) else none
  | .astore k, 2, v :: S => if k < L.length ∧ am_isR v then some (pc + 2, L.set k (some v), S, h) else none
  | .iinc k n, 3, S => match L[k]? with
    | some (some (.int x)) => some (pc + 3, L.set k (some (.int (x + Int32.ofInt n))), S, h)
    | _ => none
  | .dup, 1, v :: S => if v.category = 1 then some (pc + 1, L, v :: v :: S, h) else none
  | .dup2, 1, v :: w :: S => if v.category = 1 ∧ w.category = 1 then some (pc + 1, L, v :: w :: v :: w :: S, h) else none
  | .pop, 1, v :: S => if v.category = 1 then some (pc + 1, L, S, h) else none
  | .iadd, 1, .int y :: .int x :: S => some (pc + 1, L, .int (x + y) :: S, h)
  | .isub, 1, .int y :: .int x :: S => some (pc + 1, L, .int (x - y) :: S, h)
  | .imul, 1, .int y :: .int x :: S => some (pc + 1, L, .int (x * y) :: S, h)
  | .iand, 1, .int y :: .int x :: S => some (pc + 1, L, .int (x &&& y) :: S, h)
  | .i2l, 1, .int x :: S => some (pc + 1, L, .long x.toInt64 :: S, h)
  | .lcmp, 1, .long y :: .long x :: S => some (pc + 1, L, .int (lg_cmp x y) :: S, h)
  | .goto off, 3, S => match am_to pc off with
    | some t => some (t, L, S, h)
    | none => none
  | .ifCond c off, 3, .int x :: S => match am_to pc off with
    | some t => some (if am_c2 c x 0 then t else pc + 3, L, S, h)
    | none => none
  | .if_icmp c off, 3, .int y :: .int x :: S => match am_to pc off with
    | some t => some (if am_c2 c x y then t else pc + 3, L, S, h)
    | none => none
  | .tableswitch d lo hi offs, _, .int x :: S =>
    if x.toInt < lo ∨ hi < x.toInt then match am_to pc d with
      | some t => some (t, L, S, h)
      | none => none
    else match offs[(x.toInt - lo).toNat]? with
      | some off => match am_to pc off with
        | some t => some (t, L, S, h)
        | none => none
      | none => none
  | .lookupswitch d ps, _, .int x :: S => if (ps.toList.zip (ps.toList.drop 1)).all (fun (a, next) => a.1 < next.1) = true then match am_to pc (Op.lookupswitch.offset ps.toList d x.toInt) with
      | some t => some (t, L, S, h)
      | none => none
    else none
  | .getfield k, 3, .ref a :: S => match am_fl F own k, h[a]? with
    | some (ci, j, _, _), some (.inl (c2, fs)) => if c2 = ci then match fs[j]? with
        | some v => some (pc + 3, L, v :: S, h)
        | none => none
      else none
    | _, _ => none
  | .putfield k, 3, v :: .ref a :: S => match am_fl F own k, h[a]? with
    | some (ci, j, ty, fin), some (.inl (c2, fs)) => if c2 = ci ∧ j < fs.length ∧ (fin = true → ini = true) ∧ narrow ty v = v ∧ fits ty v = true then some (pc + 3, L, S, h.set a (.inl (ci, fs.set j v))) else none
    | _, _ => none
  | .new k, 3, S => match am_nw F own k with
    | some (ci, fs) => some (pc + 3, L, .ref h.length :: S, h ++ [.inl (ci, fs)])
    | none => none
  | .newarray t, 2, .int n :: S => if n < 0 ∨ 60000000 < n.toNatClampNeg then none else match am_at0 t n.toNatClampNeg with
    | some e => some (pc + 2, L, .ref h.length :: S, h ++ [e])
    | none => none
  | .arraylength, 1, v :: S => match v with
    | .retAddr _ => some (pc + 1, L, .int (Int32.ofNat (am_sn F)) :: S, h)
    | .ref a => match h[a]? with
      | some (.inr (.inl (_, n, _))) => some (pc + 1, L, .int (Int32.ofNat n) :: S, h)
      | some (.inr (.inr (n, _))) => some (pc + 1, L, .int (Int32.ofNat n) :: S, h)
      | _ => none
    | _ => none
  | .iaload, 1, .int i :: v :: S => match v with
    | .retAddr _ => if am_inr i (am_sn F) then some (pc + 1, L, .int (am_sx F i.toNatClampNeg) :: S, h) else none
    | .ref a => match h[a]? with
      | some (.inr (.inl (false, n, f))) => if am_inr i n then some (pc + 1, L, .int (f i.toNatClampNeg) :: S, h) else none
      | _ => none
    | _ => none
  | .iastore, 1, .int x :: .int i :: .ref a :: S => match h[a]? with
    | some (.inr (.inl (false, n, f))) => if am_inr i n then some (pc + 1, L, S, h.set a (.inr (.inl (false, n, upd f i.toNatClampNeg x)))) else none
    | _ => none
  | .baload, 1, .int i :: .ref a :: S => match h[a]? with
    | some (.inr (.inl (true, n, f))) => if am_inr i n then some (pc + 1, L, .int (f i.toNatClampNeg) :: S, h) else none
    | _ => none
  | .bastore, 1, .int x :: .int i :: .ref a :: S => match h[a]? with
    | some (.inr (.inl (true, n, f))) => if am_inr i n then some (pc + 1, L, S, h.set a (.inr (.inl (true, n, upd f i.toNatClampNeg (vp_nar .boolean x))))) else none
    | _ => none
  | .laload, 1, .int i :: .ref a :: S => match h[a]? with
    | some (.inr (.inr (n, f))) => if am_inr i n then some (pc + 1, L, .long (f i.toNatClampNeg) :: S, h) else none
    | _ => none
  | .lastore, 1, .long x :: .int i :: .ref a :: S => match h[a]? with
    | some (.inr (.inr (n, f))) => if am_inr i n then some (pc + 1, L, S, h.set a (.inr (.inr (n, vp_updL f i.toNatClampNeg x)))) else none
    | _ => none
  | _, _, _ => none
/-- where a method stands: what is thrown over it, if anything; place, locals, stack, cells -/
abbrev am_S : Type := Option (Nat × Nat) × Nat × am_L × List Value × am_H
/-- an object that was thrown, as a cell: nothing is known of its six fields -/
abbrev am_X (x : Nat) : am_E := .inl (x, [.null, .null, .null, .null, .null, .null])
def am_ini (M : am_M) : Bool := decide ((am_y M).name = "<init>")
/-- which call an instruction is -/
def am_call (F : am_F) (own : String) (i : Instr) (len : Nat) : Option (Nat × Nat) := match i, len with
  | .invokevirtual k, 3 => match am_cl F own k with
    | some (j, w) => if w = 0 ∨ w = 3 then some (j, w) else none
    | none => none
  | .invokespecial k, 3 => match am_cl F own k with
    | some (j, w) => if w = 1 ∨ w = 4 ∨ w = 5 then some (j, w) else none
    | none => none
  | .invokestatic k, 3 => match am_cl F own k with
    | some (j, w) => if w = 2 ∨ w = 6 ∨ w = 7 ∨ w = 8 then some (j, w) else none
    | none => none
  | _, _ => none
def am_isNew (o : Option (Instr × Nat)) : Option Nat := match o with
  | some (.new k, 3) => some k
  | _ => none
def am_isLdc (o : Option (Instr × Nat)) : Option Nat := match o with
  | some (.ldc k, 2) => some k
  | _ => none
def am_isSpc (o : Option (Instr × Nat)) : Option Nat := match o with
  | some (.invokespecial k, 3) => some k
  | _ => none
theorem am_isNew_eq {o : Option (Instr × Nat)} {k : Nat} (h : am_isNew o = some k) : o = some (.new k, 3) := by
  unfold am_isNew at h
  split at h
  · cases h; rfl
  · cases h
theorem am_isLdc_eq {o : Option (Instr × Nat)} {k : Nat} (h : am_isLdc o = some k) : o = some (.ldc k, 2) := by
  unfold am_isLdc at h
  split at h
  · cases h; rfl
  · cases h
theorem am_isSpc_eq {o : Option (Instr × Nat)} {k : Nat} (h : am_isSpc o = some k) : o = some (.invokespecial k, 3) := by
  unfold am_isSpc at h
  split at h
  · cases h; rfl
  · cases h
/-- 'throw new E("text")' from here on, by its five instructions: the class's number -/
def am_tw (F : am_F) (own : String) (cd : List (Nat × Instr × Nat)) (pc : Nat) : Option Nat :=
  if cd.lookup (pc + 3) = some (.dup, 1) ∧ cd.lookup (pc + 9) = some (.athrow, 1) ∧ (am_isLdc (cd.lookup (pc + 4))).isSome = true ∧ (am_isSpc (cd.lookup (pc + 6))).isSome = true then (am_isNew (cd.lookup pc)).bind (am_th F own) else none
theorem am_tw_eq {F : am_F} {own : String} {cd : List (Nat × Instr × Nat)} {pc x : Nat} (h : am_tw F own cd pc = some x) : ∃ ik is ic, cd.lookup pc = some (.new ik, 3) ∧ cd.lookup (pc + 3) = some (.dup, 1) ∧ cd.lookup (pc + 4) = some (.ldc is, 2) ∧ cd.lookup (pc + 6) = some (.invokespecial ic, 3) ∧ cd.lookup (pc + 9) = some (.athrow, 1) ∧ am_th F own ik = some x := by
  unfold am_tw at h
  split at h
  · rename_i hc
    obtain ⟨h3, h9, h4, h6⟩ := hc
    obtain ⟨is, h4⟩ := Option.isSome_iff_exists.mp h4
    obtain ⟨ic, h6⟩ := Option.isSome_iff_exists.mp h6
    cases hn : am_isNew (cd.lookup pc) with
    | none => rw [hn] at h; cases h
    | some ik =>
      rw [hn] at h
      exact ⟨ik, is, ic, am_isNew_eq hn, h3, am_isLdc_eq h4, am_isSpc_eq h6, h9, h⟩
  · cases h
/-- System.arraycopy between two int arrays -/
def am_cp (h : am_H) (a : Nat) (sp : Int32) (b : Nat) (dp n : Int32) : Option am_H := match h[a]?, h[b]? with
  | some (.inr (.inl (false, n0, f))), some (.inr (.inl (false, n1, g))) => if ¬ sp < 0 ∧ ¬ dp < 0 ∧ ¬ n < 0 ∧ sp.toNatClampNeg + n.toNatClampNeg ≤ n0 ∧ dp.toNatClampNeg + n.toNatClampNeg ≤ n1 ∧ a ≠ b then some (h.set b (.inr (.inl (false, n1, va_cpy f g sp.toNatClampNeg dp.toNatClampNeg n.toNatClampNeg)))) else none
  | _, _ => none
abbrev am_EvT : Type := Nat → List Value → am_H → am_O → am_H → Prop
/-- behind a call -/
def am_bk (pc : Nat) (L : am_L) (S : List Value) (o : am_O) (h : am_H) : am_S := match o with
  | .inl v => (none, pc + 3, L, v.toList ++ S, h)
  | .inr x => (some x, pc, L, S, h)
/-- does the receiver fit: an object of the class that the method is of -/
def am_rc (cl : List vw_C) (M : am_M) (as : List Value) (h : am_H) : Prop := ∃ (a ci : Nat) (fs rest : List Value) (q : vw_C), as = .ref a :: rest ∧ h[a]? = some (.inl (ci, fs)) ∧ cl[ci]? = some q ∧ q.1 = (am_y M).cls
/-- a step of a method M: an instruction; a call as one step (E says what calls do); Object's constructor; arraycopy; a catch -/
def am_Stp (F : am_F) (cl : List vw_C) (ms : Nat → Option am_M) (E : am_EvT) (M : am_M) (a b : am_S) : Prop :=
  (∃ pc L S h i len r, a = (none, pc, L, S, h) ∧ (am_cd M).lookup pc = some (i, len) ∧ am_st F (am_y M).cls (am_ini M) i len pc L S h = some r ∧ b = (none, r)) ∨
  (∃ pc L S h i len j w N as rest o h', a = (none, pc, L, S, h) ∧ (am_cd M).lookup pc = some (i, len) ∧ am_call F (am_y M).cls i len = some (j, w) ∧ w < 5 ∧ ms j = some N ∧ as.length = am_k N ∧ S = as.reverse ++ rest ∧
    (w = 0 ∨ w = 3 → am_rc cl N as h) ∧ (w = 1 ∨ w = 4 → ∃ (k : Nat) (t : List Value), as = .ref k :: t) ∧ (rest.map fun v => v.category).sum ≤ 8 ∧ E j as h o h' ∧ b = am_bk pc L rest o h') ∨
  (∃ pc L h i len j k rest, a = (none, pc, L, .ref k :: rest, h) ∧ (am_cd M).lookup pc = some (i, len) ∧ am_call F (am_y M).cls i len = some (j, 5) ∧ (rest.map fun v => v.category).sum ≤ 8 ∧ b = (none, pc + 3, L, rest, h)) ∨
  (∃ pc L h i len j k1 sp k2 dp n rest h', a = (none, pc, L, .int n :: .int dp :: .ref k2 :: .int sp :: .ref k1 :: rest, h) ∧ (am_cd M).lookup pc = some (i, len) ∧ am_call F (am_y M).cls i len = some (j, 6) ∧ (rest.map fun v => v.category).sum ≤ 8 ∧ am_cp h k1 sp k2 dp n = some h' ∧ b = (none, pc + 3, L, rest, h')) ∨
  (∃ pc L h i len j w x y rest, a = (none, pc, L, .int y :: .int x :: rest, h) ∧ (am_cd M).lookup pc = some (i, len) ∧ am_call F (am_y M).cls i len = some (j, w) ∧ (w = 7 ∨ w = 8) ∧ (rest.map fun v => v.category).sum ≤ 8 ∧ b = (none, pc + 3, L, .int (if w = 7 then (if x < y then y else x) else (if y < x then y else x)) :: rest, h)) ∨
  (∃ pc L S h x k f t w, a = (some (x, k), pc, L, S, h) ∧ am_hs M = [(f, t, w, x)] ∧ f ≤ pc ∧ pc < t ∧ b = (none, w, L, [.ref k], h))
/-- a method's end: it returns, throws on, or throws itself -/
def am_fin (F : am_F) (M : am_M) (a : am_S) (r : am_O × am_H) : Prop :=
  (∃ pc L v h ty, a = (none, pc, L, [.int v], h) ∧ (am_cd M).lookup pc = some (.ireturn, 1) ∧ am_r M = some ty ∧ narrow ty (.int v) = .int v ∧ r = (.inl (some (.int v)), h)) ∨
  (∃ pc L h, a = (none, pc, L, [], h) ∧ (am_cd M).lookup pc = some (.return_, 1) ∧ am_r M = none ∧ r = (.inl none, h)) ∨
  (∃ pc L k h ty, a = (none, pc, L, [.ref k], h) ∧ (am_cd M).lookup pc = some (.areturn, 1) ∧ am_r M = some ty ∧ ((∃ n, ty = .object n) ∨ ∃ t, ty = .array t) ∧ r = (.inl (some (.ref k)), h)) ∨
  (∃ pc L S h x, a = (some x, pc, L, S, h) ∧ (∀ q ∈ am_hs M, ¬ (q.1 ≤ pc ∧ pc < q.2.1)) ∧ r = (.inr x, h)) ∨
  (∃ pc L S h x, a = (none, pc, L, S, h) ∧ am_tw F (am_y M).cls (am_cd M) pc = some x ∧ am_hs M = [] ∧ (S.map fun v => v.category).sum ≤ 8 ∧ r = (.inr (x, h.length), h ++ [am_X x]))
/-- from a on, M ends with r -/
def am_Go (F : am_F) (cl : List vw_C) (ms : Nat → Option am_M) (E : am_EvT) (M : am_M) (r : am_O × am_H) (a : am_S) : Prop :=
  ∀ P : am_S → Prop, (∀ a, am_fin F M a r → P a) → (∀ a b, am_Stp F cl ms E M a b → P b → P a) → P a
theorem am_Go.fin {F : am_F} {cl : List vw_C} {ms : Nat → Option am_M} {E : am_EvT} {M : am_M} {r : am_O × am_H} {a : am_S} (h : am_fin F M a r) : am_Go F cl ms E M r a := fun _ h1 _ => h1 a h
theorem am_Go.step {F : am_F} {cl : List vw_C} {ms : Nat → Option am_M} {E : am_EvT} {M : am_M} {r : am_O × am_H} {a b : am_S} (h : am_Stp F cl ms E M a b) (k : am_Go F cl ms E M r b) : am_Go F cl ms E M r a := fun P h1 h2 => h2 a b h (k P h1 h2)
/-- the locals at a method's entry -/
def am_ent (M : am_M) (as : List Value) : am_L := as.map some ++ List.replicate (am_n M - as.length) none
/-- what a call of the method j does, with at most d calls in one another -/
def am_Ev (F : am_F) (cl : List vw_C) (ms : Nat → Option am_M) : Nat → am_EvT
  | 0 => fun _ _ _ _ _ => False
  | d + 1 => fun j as h o h' => ∃ M, ms j = some M ∧ as.length = am_k M ∧ am_k M ≤ am_n M ∧ (∀ v ∈ as, v.category = 1) ∧ am_Go F cl ms (am_Ev F cl ms d) M (o, h') (none, 0, am_ent M as, [], h)
theorem am_Stp.mono {F : am_F} {cl : List vw_C} {ms : Nat → Option am_M} {E E' : am_EvT} (h : ∀ j as g o g', E j as g o g' → E' j as g o g') {M : am_M} {a b : am_S} (k : am_Stp F cl ms E M a b) : am_Stp F cl ms E' M a b := by
  rcases k with k | ⟨pc, L, S, g, i, len, j, w, N, as, rest, o, g', h1, h2, h3, h4, h5, h6, h7, h8, h9, h10, h11, h12⟩ | k | k | k | k
  · exact Or.inl k
  · exact Or.inr (Or.inl ⟨pc, L, S, g, i, len, j, w, N, as, rest, o, g', h1, h2, h3, h4, h5, h6, h7, h8, h9, h10, h _ _ _ _ _ h11, h12⟩)
  · exact Or.inr (Or.inr (Or.inl k))
  · exact Or.inr (Or.inr (Or.inr (Or.inl k)))
  · exact Or.inr (Or.inr (Or.inr (Or.inr (Or.inl k))))
  · exact Or.inr (Or.inr (Or.inr (Or.inr (Or.inr k))))
theorem am_Go.mono {F : am_F} {cl : List vw_C} {ms : Nat → Option am_M} {E E' : am_EvT} (h : ∀ j as g o g', E j as g o g' → E' j as g o g') {M : am_M} {r : am_O × am_H} {a : am_S} (k : am_Go F cl ms E M r a) : am_Go F cl ms E' M r a :=
  fun P h1 h2 => k P h1 (fun a b hs hb => h2 a b (hs.mono h) hb)
theorem am_Ev.up {F : am_F} {cl : List vw_C} {ms : Nat → Option am_M} : ∀ (d : Nat) j as g o g', am_Ev F cl ms d j as g o g' → am_Ev F cl ms (d + 1) j as g o g'
  | 0, _, _, _, _, _, h => h.elim
  | d + 1, j, as, g, o, g', ⟨M, h1, h2, h3, h4, h5⟩ => ⟨M, h1, h2, h3, h4, h5.mono (am_Ev.up d)⟩
theorem am_Ev.mono {F : am_F} {cl : List vw_C} {ms : Nat → Option am_M} {d d' : Nat} (h : d ≤ d') {j as g o g'} (k : am_Ev F cl ms d j as g o g') : am_Ev F cl ms d' j as g o g' := by
  induction h with
  | refl => exact k
  | step _ ih => exact am_Ev.up _ _ _ _ _ _ ih
end
section
/-! The abstract machine's values, locals and cells, as the machine has them. -/
def am_tr (b : Nat) (ad : Nat → Nat) (v : Value) : Value := match v with
  | .ref k => .ref (ad k)
  | .retAddr _ => .ref b
  | v => v
theorem am_tr_int (b : Nat) (ad : Nat → Nat) (x : Int32) : am_tr b ad (.int x) = .int x := rfl
theorem am_tr_long (b : Nat) (ad : Nat → Nat) (x : Int64) : am_tr b ad (.long x) = .long x := rfl
theorem am_tr_ref (b : Nat) (ad : Nat → Nat) (k : Nat) : am_tr b ad (.ref k) = .ref (ad k) := rfl
theorem am_tr_cat (b : Nat) (ad : Nat → Nat) (v : Value) : (am_tr b ad v).category = v.category := by cases v <;> rfl
theorem am_tr_R {b : Nat} {ad : Nat → Nat} {v : Value} (h : am_isR v = true) : ∃ x, am_tr b ad v = .ref x := by
  cases v <;> first | exact ⟨_, rfl⟩ | cases h
theorem am_R_cat {v : Value} (h : am_isR v = true) : v.category = 1 := by
  cases v <;> first | rfl | cases h
theorem am_cat_sum (b : Nat) (ad : Nat → Nat) (S : List Value) : ((S.map (am_tr b ad)).map fun v => v.category).sum = (S.map fun v => v.category).sum := by
  rw [List.map_map]
  congr 1
  exact List.map_congr_left fun v _ => am_tr_cat b ad v
theorem am_tr_nar {b : Nat} {ad : Nat → Nat} {ty : FieldType} {v : Value} (h : narrow ty v = v) (h2 : fits ty v = true) : narrow ty (am_tr b ad v) = am_tr b ad v ∧ fits ty (am_tr b ad v) = true := by
  cases v <;> cases ty <;> first | exact ⟨h, h2⟩ | exact ⟨rfl, rfl⟩ | (simp [fits] at h2)
def am_lv (b : Nat) (ad : Nat → Nat) : Nat → am_L → List (Nat × Value)
  | _, [] => []
  | i, none :: t => am_lv b ad (i + 1) t
  | i, some v :: t => (i, am_tr b ad v) :: am_lv b ad (i + 1) t
theorem am_lv_mem {b : Nat} {ad : Nat → Nat} {q : Nat × Value} : ∀ {L : am_L} {i : Nat}, q ∈ am_lv b ad i L ↔ ∃ k v, L[k]? = some (some v) ∧ q = (i + k, am_tr b ad v)
  | [], i => by simp [am_lv]
  | none :: t, i => by
    rw [am_lv, am_lv_mem]
    constructor
    · rintro ⟨k, v, h1, h2⟩
      exact ⟨k + 1, v, h1, by rw [h2]; congr 1; omega⟩
    · rintro ⟨k, v, h1, h2⟩
      cases k with
      | zero => simp at h1
      | succ k => exact ⟨k, v, h1, by rw [h2]; congr 1; omega⟩
  | some w :: t, i => by
    rw [am_lv, List.mem_cons, am_lv_mem]
    constructor
    · rintro (h | ⟨k, v, h1, h2⟩)
      · exact ⟨0, w, rfl, h⟩
      · exact ⟨k + 1, v, h1, by rw [h2]; congr 1; omega⟩
    · rintro ⟨k, v, h1, h2⟩
      cases k with
      | zero =>
        have h3 : w = v := by simpa using h1
        exact Or.inl (by rw [h2, h3]; rfl)
      | succ k => exact Or.inr ⟨k, v, h1, by rw [h2]; congr 1; omega⟩
theorem am_has_sub {ls : Array Slot} {nL : Nat} {l l' : List (Nat × Value)} (h : lv_has ls nL l) (hs : ∀ q ∈ l', q ∈ l) : lv_has ls nL l' := ⟨h.1, h.2.1, fun q hq => h.2.2 q (hs q hq)⟩
def am_LR (b : Nat) (ad : Nat → Nat) (nL : Nat) (L : am_L) (ls : Array Slot) : Prop := L.length = nL ∧ (∀ v, some v ∈ L → v.category = 1) ∧ lv_has ls nL (am_lv b ad 0 L)
theorem am_LR.get {b : Nat} {ad : Nat → Nat} {nL : Nat} {L : am_L} {ls : Array Slot} (h : am_LR b ad nL L ls) {i : Nat} {v : Value} (hi : L[i]? = some (some v)) : ls[i]? = some (.val (am_tr b ad v)) :=
  h.2.2.2.2 (i, am_tr b ad v) (am_lv_mem.mpr ⟨i, v, hi, by simp⟩)
theorem am_LR.in {b : Nat} {ad : Nat → Nat} {nL : Nat} {L : am_L} {ls : Array Slot} (h : am_LR b ad nL L ls) {i : Nat} {v : Value} (hi : L[i]? = some (some v)) : i < nL ∧ ∃ k : Nat, (am_lv b ad 0 L)[k]? = some (i, am_tr b ad v) := by
  refine ⟨by rw [← h.1]; exact (List.getElem?_eq_some_iff.mp hi).1, ?_⟩
  exact List.getElem?_of_mem (am_lv_mem.mpr ⟨i, v, hi, by simp⟩)
theorem am_LR.set {b : Nat} {ad : Nat → Nat} {nL : Nat} {L : am_L} {ls ls' : Array Slot} (h : am_LR b ad nL L ls) {i : Nat} {v : Value} (hc : v.category = 1) (h' : lv_has ls' nL ((i, am_tr b ad v) :: (am_lv b ad 0 L).filter (fun q => !(q.1 == i) && !(q.1 + 1 == i && q.2.category == 2)))) : am_LR b ad nL (L.set i (some v)) ls' := by
  refine ⟨by rw [List.length_set]; exact h.1, fun w hw => ?_, am_has_sub h' fun q hq => ?_⟩
  · rcases List.mem_or_eq_of_mem_set hw with h1 | h1
    · exact h.2.1 w h1
    · rw [Option.some.inj h1]; exact hc
  · obtain ⟨k, w, h1, h2⟩ := am_lv_mem.mp hq
    by_cases hk : k = i
    · subst hk
      have hl : k < L.length := by
        have h3 := (List.getElem?_eq_some_iff.mp h1).1
        rwa [List.length_set] at h3
      rw [List.getElem?_set_self hl] at h1
      have h3 : v = w := by simpa using h1
      rw [h2, ← h3]
      simp
    · rw [List.getElem?_set_ne (Ne.symm hk)] at h1
      refine List.mem_cons_of_mem _ (List.mem_filter.mpr ⟨am_lv_mem.mpr ⟨k, w, h1, h2⟩, ?_⟩)
      have hw : w.category = 1 := h.2.1 w (List.mem_of_getElem? h1)
      rw [h2]
      simp [am_tr_cat, hw, hk]
/-- references within -/
def am_okv (n : Nat) (v : Value) : Prop := match v with
  | .ref k => k < n
  | _ => True
theorem am_okv.mono {n n' : Nat} (h : n ≤ n') {v : Value} (hv : am_okv n v) : am_okv n' v := by
  cases v <;> first | trivial | exact Nat.lt_of_lt_of_le hv h
theorem am_okv.tr {n : Nat} {b : Nat} {ad ad' : Nat → Nat} (h : ∀ k, k < n → ad' k = ad k) {v : Value} (hv : am_okv n v) : am_tr b ad' v = am_tr b ad v := by
  cases v <;> first | rfl | exact congrArg Value.ref (h _ hv)
def am_oke (n : Nat) (e : am_E) : Prop := match e with
  | .inl (_, fs) => ∀ v ∈ fs, am_okv n v
  | _ => True
def am_okh (h : am_H) : Prop := ∀ e ∈ h, am_oke h.length e
theorem am_oke.mono {n n' : Nat} (h : n ≤ n') {e : am_E} (he : am_oke n e) : am_oke n' e := by
  rcases e with ⟨ci, fs⟩ | e
  · exact fun v hv => (he v hv).mono h
  · trivial
/-- array classes: of ints, booleans, longs -/
abbrev am_A3 : Type := ClassId × ClassId × ClassId
def am_te (c3 : am_A3) (b : Nat) (ad : Nat → Nat) (e : am_E) : va_E := match e with
  | .inl (ci, fs) => .inr (ci, fs.map (am_tr b ad))
  | .inr (.inl (z, n, f)) => .inl (if z then c3.2.1 else c3.1, n, .inl f)
  | .inr (.inr (n, f)) => .inl (c3.2.2, n, .inr (.inl f))
abbrev am_ty (c3 : am_A3) : List (ClassId × FieldType) := [(c3.1, .int), (c3.2.1, .boolean), (c3.2.2, .long)]
def am_ws (c3 : am_A3) (b : Nat) (ad : Nat → Nat) (h : am_H) : va_W := h.mapIdx (fun k e => (ad k, am_te c3 b ad e))
theorem am_ws_at {c3 : am_A3} {b : Nat} {ad : Nat → Nat} {h : am_H} {k : Nat} {e : am_E} (hk : h[k]? = some e) : (am_ws c3 b ad h)[k]? = some (ad k, am_te c3 b ad e) := by
  simp [am_ws, hk]
theorem am_ws_set {c3 : am_A3} {b : Nat} {ad : Nat → Nat} {h : am_H} {k : Nat} {e : am_E} : am_ws c3 b ad (h.set k e) = (am_ws c3 b ad h).set k (ad k, am_te c3 b ad e) := by
  simp [am_ws, List.mapIdx_set]
theorem am_te_tr {c3 : am_A3} {n b : Nat} {ad ad' : Nat → Nat} (h : ∀ k, k < n → ad' k = ad k) {e : am_E} (he : am_oke n e) : am_te c3 b ad' e = am_te c3 b ad e := by
  rcases e with ⟨ci, fs⟩ | ⟨z, n, f⟩ | ⟨n, f⟩
  · show Sum.inr (ci, fs.map (am_tr b ad')) = Sum.inr (ci, fs.map (am_tr b ad))
    rw [List.map_congr_left fun v hv => (he v hv).tr h]
  · rfl
  · rfl
theorem am_ws_tr {c3 : am_A3} {b : Nat} {ad ad' : Nat → Nat} {h : am_H} (hok : am_okh h) (hk : ∀ k, k < h.length → ad' k = ad k) : am_ws c3 b ad' h = am_ws c3 b ad h := by
  apply List.ext_getElem?
  intro k
  cases hg : h[k]? with
  | none => simp [am_ws, hg]
  | some e =>
    rw [am_ws_at hg, am_ws_at hg, hk k (List.getElem?_eq_some_iff.mp hg).1, am_te_tr hk (hok e (List.mem_of_getElem? hg))]
theorem am_ws_push {c3 : am_A3} {b : Nat} {ad : Nat → Nat} {h : am_H} {e : am_E} (hok : am_okh h) {q : Nat} :
    am_ws c3 b (va_up ad h.length q) (h ++ [e]) = am_ws c3 b ad h ++ [(q, am_te c3 b (va_up ad h.length q) e)] := by
  have h1 : am_ws c3 b (va_up ad h.length q) (h ++ [e]) = am_ws c3 b (va_up ad h.length q) h ++ [(q, am_te c3 b (va_up ad h.length q) e)] := by
    simp [am_ws, va_up]
  rw [h1, am_ws_tr (ad := ad) hok (fun k hk => by simp [va_up, Nat.ne_of_lt hk])]
/-- how much room the cells take -/
def am_es (e : am_E) : Nat := match e with
  | .inl (_, fs) => fs.length
  | .inr (.inl (_, n, _)) => n
  | .inr (.inr (n, _)) => n
def am_sz (h : am_H) : Nat := (h.map am_es).sum
theorem am_sz_push (h : am_H) (e : am_E) : am_sz (h ++ [e]) = am_sz h + am_es e := by simp [am_sz]
theorem am_sz_set {h : am_H} {k : Nat} {e e' : am_E} (hk : h[k]? = some e) (he : am_es e' = am_es e) : am_sz (h.set k e') = am_sz h := by
  have h1 : (h.set k e').map am_es = h.map am_es := by
    apply List.ext_getElem?
    intro j
    by_cases hj : j = k
    · subst hj
      have hl := (List.getElem?_eq_some_iff.mp hk).1
      rw [List.getElem?_map, List.getElem?_set_self hl, List.getElem?_map, hk]
      simp [he]
    · rw [List.getElem?_map, List.getElem?_set_ne (Ne.symm hj), List.getElem?_map]
  show ((h.set k e').map am_es).sum = (h.map am_es).sum
  rw [h1]
theorem am_okh.set {h : am_H} (hok : am_okh h) {k : Nat} {e : am_E} (he : am_oke h.length e) : am_okh (h.set k e) := by
  intro x hx
  rw [List.length_set]
  rcases List.mem_or_eq_of_mem_set hx with h1 | h1
  · exact hok x h1
  · rw [h1]; exact he
theorem am_okh.push {h : am_H} (hok : am_okh h) {e : am_E} (he : am_oke (h.length + 1) e) : am_okh (h ++ [e]) := by
  intro x hx
  rw [List.length_append, List.length_singleton]
  rcases List.mem_append.mp hx with h1 | h1
  · exact (hok x h1).mono (Nat.le_succ _)
  · rw [List.mem_singleton.mp h1]; exact he
end
section
/-! One instruction without a call: what the abstract machine does, the machine does. -/
/-- the tables say of the pools what the words say -/
def am_okT (F : am_F) (cl : List vw_C) (Ts : List Jvm.Cond) : Prop :=
  (∀ (ci : Nat) (C : String) (T : u_T) (N : Nat), cl[ci]? = some (C, T, N) → (∀ w ∈ u_ws C T N, w ∈ Ts) ∧ (∃ ty : Nat → FieldType, ∀ k, k < N → parseFieldDescriptor (T k).2.2.1 = some (ty k)) ∧ (∀ a, a < N → ∀ b, b < N → a ≠ b → (T a).2.1 ≠ (T b).2.1)) ∧
  (∀ own k ci j ty fin, am_fl F own k = some (ci, j, ty, fin) → ∃ (C : String) (T : u_T) (N : Nat), cl[ci]? = some (C, T, N) ∧ j < N ∧ (T j).2.2.2 = fin ∧ (fin = true → (T j).1 = own) ∧ parseFieldDescriptor (T j).2.2.1 = some ty ∧ Cond.fieldLink own k (T j).1 (T j).2.1 (T j).2.2.1 ∈ Ts) ∧
  (∀ own k ci fs, am_nw F own k = some (ci, fs) → ∃ (C : String) (T : u_T) (N : Nat) (ty : Nat → FieldType), cl[ci]? = some (C, T, N) ∧ Cond.classLink own k C ∈ Ts ∧ Cond.instantiable C N ∈ Ts ∧ Cond.initialized C ∈ Ts ∧ fs.length = N ∧ (∀ v ∈ fs, am_isR v = false) ∧ (∀ k, k < N → parseFieldDescriptor (T k).2.2.1 = some (ty k)) ∧ ∀ j, j < N → defaultValue (ty j) = vp_V fs j) ∧
  (∀ own k v, am_ld F own k = some v → Cond.constant own k v ∈ Ts) ∧
  Cond.arrayClass .int ∈ Ts ∧ Cond.arrayClass .boolean ∈ Ts ∧ Cond.arrayClass .long ∈ Ts
section AmOne
variable {p : Program} {l : Launch} {e : Env} {R : Room} {s : State} {m : MethodId} {args : Array Value} {below : List Frame} {meth : Method} {c : Code} {Q : State → Prop}
/-- what stands fast while a method runs -/
def am_Cx (F : am_F) (cl : List vw_C) (Ts : List Jvm.Cond) (D : va_G) (c3 : am_A3) (A : Nat → Prop) (b : Nat) (p : Program) (s : State) (m : MethodId) (args : Array Value) (meth : Method) (c : Code) (cc : ByteArray) (nL : Nat) (own : String) (ini : Bool) : Prop :=
  p.tables.exec = Jvm.exec ∧ c.code = cc ∧ c.maxLocals = nL ∧ s.vm.findClass own = some m.cls ∧ (∀ w ∈ Ts, w.before args s = true) ∧ (ini = true → meth.name = "<init>") ∧ (∀ q : Nat, s.heap.size ≤ q → A q) ∧ va_K D cl (am_ty c3) s ∧ va_X b (am_sn F) (am_sx F) s s.heap ∧ b < s.heap.size ∧ ¬ A b ∧ am_okT F cl Ts
/-- the machine at a state of the abstract one -/
def am_Rl (cl : List vw_C) (D : va_G) (c3 : am_A3) (A : Nat → Prop) (b : Nat) (nL n0 : Nat) (ad0 ad : Nat → Nat) (L : am_L) (S : List Value) (h : am_H) (ls : Array Slot) (H0 H : Heap) (locs : List Loc) : Prop :=
  am_LR b ad nL L ls ∧ (∀ v ∈ S, am_okv h.length v) ∧ (∀ v, some v ∈ L → am_okv h.length v) ∧ am_okh h ∧ va_P D cl (am_ws c3 b ad h) H ∧ va_D A (am_ws c3 b ad h) ∧ va_S A H0 H locs ∧ n0 ≤ h.length ∧ ∀ k, k < n0 → ad k = ad0 k
theorem am_Rl.S {cl : List vw_C} {D : va_G} {c3 : am_A3} {A : Nat → Prop} {b nL n0 : Nat} {ad0 ad : Nat → Nat} {L : am_L} {S S' : List Value} {h : am_H} {ls : Array Slot} {H0 H : Heap} {locs : List Loc} (hR : am_Rl cl D c3 A b nL n0 ad0 ad L S h ls H0 H locs) (hS : ∀ v ∈ S', am_okv h.length v) : am_Rl cl D c3 A b nL n0 ad0 ad L S' h ls H0 H locs := ⟨hR.1, hS, hR.2.2⟩
theorem am_Rl.L {cl : List vw_C} {D : va_G} {c3 : am_A3} {A : Nat → Prop} {b nL n0 : Nat} {ad0 ad : Nat → Nat} {L : am_L} {S S' : List Value} {h : am_H} {ls ls' : Array Slot} {H0 H : Heap} {locs : List Loc} (hR : am_Rl cl D c3 A b nL n0 ad0 ad L S h ls H0 H locs) {k : Nat} {v : Value} (hv : am_okv h.length v) (hL : am_LR b ad nL (L.set k (some v)) ls') (hS : ∀ v ∈ S', am_okv h.length v) : am_Rl cl D c3 A b nL n0 ad0 ad (L.set k (some v)) S' h ls' H0 H locs := by
  refine ⟨hL, hS, fun w hw => ?_, hR.2.2.2⟩
  rcases List.mem_or_eq_of_mem_set hw with h1 | h1
  · exact hR.2.2.1 w h1
  · rw [Option.some.inj h1]; exact hv
theorem am_to_eq {pc : Nat} {off : Int} {t : Nat} (h : am_to pc off = some t) : (pc : Int) + off = (t : Int) := by
  unfold am_to at h
  split at h
  · cases h; omega
  · cases h
theorem am_cons {n : Nat} {v : Value} {S : List Value} (h : am_okv n v) (hS : ∀ v ∈ S, am_okv n v) : ∀ w ∈ v :: S, am_okv n w := List.forall_mem_cons.mpr ⟨h, hS⟩
theorem am_tl {n : Nat} {v : Value} {S : List Value} (hS : ∀ w ∈ v :: S, am_okv n w) : ∀ w ∈ S, am_okv n w := fun w h => hS w (List.mem_cons_of_mem _ h)
theorem am_hd {n : Nat} {v : Value} {S : List Value} (hS : ∀ w ∈ v :: S, am_okv n w) : am_okv n v := hS v List.mem_cons_self
theorem am_if {P : Prop} {t f : Nat} {K : Nat → Prop} {c : Bool} (k : K (if c = true then t else f)) (hc : c = true ↔ P) : (P → K t) ∧ (¬ P → K f) := by
  constructor
  · intro h
    rw [if_pos (hc.mpr h)] at k
    exact k
  · intro h
    rw [if_neg (fun q => h (hc.mp q))] at k
    exact k
theorem am_inr_in {i : Int32} {n : Nat} (h : am_inr i n = true) : vp_in i n := by
  unfold am_inr at h
  unfold vp_in
  exact of_decide_eq_true h
theorem am_up_lt {ad : Nat → Nat} {n q k : Nat} (hk : k < n) : va_up ad n q k = ad k := by simp [va_up, Nat.ne_of_lt hk]
theorem am_LR.ext {b : Nat} {ad ad' : Nat → Nat} {nL n : Nat} {L : am_L} {ls : Array Slot} (hL : am_LR b ad nL L ls) (hoL : ∀ v, some v ∈ L → am_okv n v) (h : ∀ k, k < n → ad' k = ad k) : am_LR b ad' nL L ls := by
  refine ⟨hL.1, hL.2.1, am_has_sub hL.2.2 fun z hz => ?_⟩
  obtain ⟨k, v, g1, g2⟩ := am_lv_mem.mp hz
  exact am_lv_mem.mpr ⟨k, v, g1, by rw [g2, (hoL v (List.mem_of_getElem? g1)).tr h]⟩
theorem am_map_ext {b n : Nat} {ad ad' : Nat → Nat} {S : List Value} (hoS : ∀ v ∈ S, am_okv n v) (h : ∀ k, k < n → ad' k = ad k) : S.map (am_tr b ad') = S.map (am_tr b ad) := List.map_congr_left fun v hv => (hoS v hv).tr h
theorem am_Rl.push {cl : List vw_C} {D : va_G} {c3 : am_A3} {A : Nat → Prop} {b nL n0 : Nat} {ad0 ad : Nat → Nat} {L : am_L} {S : List Value} {h : am_H} {ls : Array Slot} {H0 H H1 : Heap} {locs : List Loc} (hR : am_Rl cl D c3 A b nL n0 ad0 ad L S h ls H0 H locs) {e : am_E} (he : am_oke (h.length + 1) e) {q : Nat}
    (q1 : va_P D cl (am_ws c3 b ad h ++ [(q, am_te c3 b (va_up ad h.length q) e)]) H1) (q2 : va_D A (am_ws c3 b ad h ++ [(q, am_te c3 b (va_up ad h.length q) e)])) (q3 : va_S A H0 H1 locs) :
    am_Rl cl D c3 A b nL n0 ad0 (va_up ad h.length q) L (.ref h.length :: S) (h ++ [e]) ls H0 H1 locs ∧ (Value.ref h.length :: S).map (am_tr b (va_up ad h.length q)) = .ref q :: S.map (am_tr b ad) := by
  obtain ⟨hL, hoS, hoL, hoh, hP, hD, hS, hn0, had⟩ := hR
  have hup : ∀ k, k < h.length → va_up ad h.length q k = ad k := fun k hk => am_up_lt hk
  refine ⟨⟨hL.ext hoL hup, am_cons (by rw [List.length_append]; exact Nat.lt_succ_self _) (fun v hv => (hoS v hv).mono (by simp)), fun v hv => (hoL v hv).mono (by simp), hoh.push he, by rw [am_ws_push hoh]; exact q1, by rw [am_ws_push hoh]; exact q2, q3, by simp; omega, fun k hk => by rw [hup k (by omega)]; exact had k hk⟩, ?_⟩
  rw [List.map_cons, am_map_ext hoS hup]
  simp [am_tr, va_up]
theorem am_Rl.set {cl : List vw_C} {D : va_G} {c3 : am_A3} {A : Nat → Prop} {b nL n0 : Nat} {ad0 ad : Nat → Nat} {L : am_L} {S : List Value} {h : am_H} {ls : Array Slot} {H0 H H1 : Heap} {locs locs1 : List Loc} (hR : am_Rl cl D c3 A b nL n0 ad0 ad L S h ls H0 H locs) {S' : List Value} (hS' : ∀ v ∈ S', am_okv h.length v) {e : am_E} (he : am_oke h.length e) {a : Nat}
    (q1 : va_P D cl ((am_ws c3 b ad h).set a (ad a, am_te c3 b ad e)) H1) (q2 : va_D A ((am_ws c3 b ad h).set a (ad a, am_te c3 b ad e))) (q3 : va_S A H0 H1 locs1) :
    am_Rl cl D c3 A b nL n0 ad0 ad L S' (h.set a e) ls H0 H1 locs1 := by
  obtain ⟨hL, hoS, hoL, hoh, hP, hD, hS, hn0, had⟩ := hR
  rw [← am_ws_set] at q1 q2
  exact ⟨hL, by rw [List.length_set]; exact hS', by rw [List.length_set]; exact hoL, hoh.set he, q1, q2, q3, by rw [List.length_set]; exact hn0, had⟩
theorem am_int_cls {D : va_G} {cl : List vw_C} {s : State} {tys : List (ClassId × FieldType)} {cA cB : ClassId} {ty : FieldType} (hK : va_K D cl (tys ++ [(cA, ty)]) s) (hi : (cB, ty) ∈ tys) (hty : va_RA s cA ty → va_RA s cB ty → cA = cB) : cA = cB := by
  obtain ⟨i, h1⟩ := List.getElem?_of_mem hi
  have h2 : (tys ++ [(cA, ty)])[i]? = some (cB, ty) := by rw [List.getElem?_append_left (List.getElem?_eq_some_iff.mp h1).1]; exact h1
  have h3 : (tys ++ [(cA, ty)])[tys.length]? = some (cA, ty) := by simp
  exact hty (hK.2 _ _ h3).2 (hK.2 _ _ h2).2
theorem am_one {F : am_F} {cl : List vw_C} {Ts : List Jvm.Cond} {D : va_G} {c3 : am_A3} {A : Nat → Prop} {b : Nat} {cc : ByteArray} {nL : Nat} {own : String} {ini : Bool} {n0 c0 z0 : Nat} {ad0 : Nat → Nat}
    (hC : am_Cx F cl Ts D c3 A b p s m args meth c cc nL own ini) {i : Instr} {len pc pc' : Nat} {L L' : am_L} {S S' : List Value} {h h' : am_H}
    (hs : am_st F own ini i len pc L S h = some (pc', L', S', h')) (hd : decode cc pc = .ok (i, len)) {ad : Nat → Nat} {ls : Array Slot} {H : Heap} {locs : List Loc}
    (hR : am_Rl cl D c3 A b nL n0 ad0 ad L S h ls s.heap H locs) (hc : h'.length - c0 ≤ R.cells) (hz : am_sz h' - z0 ≤ R.slots) (hc0 : c0 ≤ h.length) (hz0 : z0 ≤ am_sz h)
    (kk : ∀ (ad' : Nat → Nat) (ls' : Array Slot) (H' : Heap) (locs' : List Loc), am_Rl cl D c3 A b nL n0 ad0 ad' L' S' h' ls' s.heap H' locs' → W p l e R s m args below meth c H' locs' (h'.length - c0) (am_sz h' - z0) Q (F0 m pc' ls' (S'.map (am_tr b ad')))) :
    W p l e R s m args below meth c H locs (h.length - c0) (am_sz h - z0) Q (F0 m pc ls (S.map (am_tr b ad))) := by
  obtain ⟨hx, hb, hml, hown, hts, hin, hA, hK, hX, hbl, hbA, hT⟩ := hC
  obtain ⟨hL, hoS, hoL, hoh, hP, hD, hS, hn0, had⟩ := id hR
  unfold am_st at hs
  split at hs
  -- iconst, bipush, sipush
  · cases hs
    exact lv_iconst hx hb hd rfl (kk ad ls H locs (hR.S (am_cons trivial hoS)))
  · cases hs
    exact lv_bipush hx hb hd rfl (kk ad ls H locs (hR.S (am_cons trivial hoS)))
  · cases hs
    exact lv_sipush hx hb hd rfl (kk ad ls H locs (hR.S (am_cons trivial hoS)))
  -- ldc
  · split at hs
    · rename_i v hv
      cases hs
      exact lv_ldc hx hb hown (hts _ (hT.2.2.2.1 _ _ _ hv)) hd (kk ad ls H locs (hR.S (am_cons trivial hoS)))
    · cases hs
  -- iload_n, iload
  · split at hs
    · rename_i hv
      cases hs
      exact lv_iload_n hx hb hd rfl (hL.get hv) (kk ad ls H locs (hR.S (am_cons trivial hoS)))
    · cases hs
  · split at hs
    · rename_i hv
      cases hs
      exact lv_iload hx hb hd (hL.get hv) (kk ad ls H locs (hR.S (am_cons trivial hoS)))
    · cases hs
  -- aload_n, aload
  · split at hs
    · rename_i v hv
      split at hs
      · rename_i hr
        cases hs
        obtain ⟨x, ex⟩ := am_tr_R (b := b) (ad := ad) hr
        have k1 := kk ad ls H locs (hR.S (am_cons (hoL _ (List.mem_of_getElem? hv)) hoS))
        rw [List.map_cons, ex] at k1
        exact lv_aload_n hx hb hd rfl (by rw [← ex]; exact hL.get hv) k1
      · cases hs
    · cases hs
  · split at hs
    · rename_i v hv
      split at hs
      · rename_i hr
        cases hs
        obtain ⟨x, ex⟩ := am_tr_R (b := b) (ad := ad) hr
        have k1 := kk ad ls H locs (hR.S (am_cons (hoL _ (List.mem_of_getElem? hv)) hoS))
        rw [List.map_cons, ex] at k1
        exact lv_aload hx hb hd (by rw [← ex]; exact hL.get hv) k1
      · cases hs
    · cases hs
  -- istore_n, istore
  · split at hs
    · rename_i hk
      cases hs
      exact lv_istore_n hx hb hd rfl hL.2.2 (by rw [← hL.1]; exact hk) rfl (fun ls' h1 => kk ad ls' H locs (hR.L (v := .int _) trivial (hL.set rfl h1) (am_tl hoS)))
    · cases hs
  · split at hs
    · rename_i hk
      cases hs
      exact lv_istore hx hb hd hL.2.2 (by rw [← hL.1]; exact hk) rfl (fun ls' h1 => kk ad ls' H locs (hR.L (v := .int _) trivial (hL.set rfl h1) (am_tl hoS)))
    · cases hs
  -- astore_n, astore
  · split at hs
    · rename_i hk
      cases hs
      obtain ⟨x, ex⟩ := am_tr_R (b := b) (ad := ad) hk.2
      rw [List.map_cons, ex]
      exact lv_astore_n hx hb hd rfl hL.2.2 (by rw [← hL.1]; exact hk.1) rfl (fun ls' h1 => kk ad ls' H locs (hR.L (am_hd hoS) (hL.set (am_R_cat hk.2) (by rw [ex]; exact h1)) (am_tl hoS)))
    · cases hs
  · split at hs
    · rename_i hk
      cases hs
      obtain ⟨x, ex⟩ := am_tr_R (b := b) (ad := ad) hk.2
      rw [List.map_cons, ex]
      exact lv_astore hx hb hd hL.2.2 (by rw [← hL.1]; exact hk.1) rfl (fun ls' h1 => kk ad ls' H locs (hR.L (am_hd hoS) (hL.set (am_R_cat hk.2) (by rw [ex]; exact h1)) (am_tl hoS)))
    · cases hs
  -- iinc
  · split at hs
    · rename_i hv
      cases hs
      obtain ⟨hlt, j, hj⟩ := hL.in hv
      exact lv_iinc hx hb hd hL.2.2 hj rfl hlt rfl (fun ls' h1 => kk ad ls' H locs (hR.L (v := .int _) trivial (hL.set rfl h1) hoS))
    · cases hs
  -- dup, dup2, pop
  · split at hs
    · rename_i hk
      cases hs
      exact lv_dup hx hb hd (by rw [am_tr_cat]; exact hk) (kk ad ls H locs (hR.S (am_cons (am_hd hoS) hoS)))
    · cases hs
  · split at hs
    · rename_i hk
      cases hs
      exact lv_dup2_11 hx hb hd (by rw [am_tr_cat]; exact hk.1) (by rw [am_tr_cat]; exact hk.2) (kk ad ls H locs (hR.S (am_cons (am_hd hoS) (am_cons (am_hd (am_tl hoS)) hoS))))
    · cases hs
  · split at hs
    · rename_i hk
      cases hs
      exact lv_pop hx hb hd (by rw [am_tr_cat]; exact hk) (kk ad ls H locs (hR.S (am_tl hoS)))
    · cases hs
  -- iadd, isub, imul, iand, i2l, lcmp
  · cases hs
    exact lv_iadd hx hb hd (kk ad ls H locs (hR.S (am_cons trivial (am_tl (am_tl hoS)))))
  · cases hs
    exact lv_isub hx hb hd (kk ad ls H locs (hR.S (am_cons trivial (am_tl (am_tl hoS)))))
  · cases hs
    exact lv_imul hx hb hd (kk ad ls H locs (hR.S (am_cons trivial (am_tl (am_tl hoS)))))
  · cases hs
    exact lv_iand hx hb hd (kk ad ls H locs (hR.S (am_cons trivial (am_tl (am_tl hoS)))))
  · cases hs
    exact lv_i2l hx hb hd rfl (kk ad ls H locs (hR.S (am_cons trivial (am_tl hoS))))
  · cases hs
    exact W.lcmp hx hb hd (kk ad ls H locs (hR.S (am_cons trivial (am_tl (am_tl hoS)))))
  -- goto
  · split at hs
    · rename_i t ht
      cases hs
      exact lv_goto hx hb hd (am_to_eq ht) (kk ad ls H locs (hR.S hoS))
    · cases hs
  -- ifCond
  · rename_i cnd off x S0
    split at hs
    · rename_i t ht
      cases hs
      have k1 := kk ad ls H locs (hR.S (am_tl hoS))
      have ht := am_to_eq ht
      cases cnd
      · obtain ⟨a1, a2⟩ := am_if (P := x = 0) (K := fun n => W p l e R s m args below meth c H locs (h.length - c0) (am_sz h - z0) Q (F0 m n ls (S'.map (am_tr b ad)))) k1 (by simp [am_c2])
        exact lv_if_eq hx hb hd ht a1 a2
      · obtain ⟨a1, a2⟩ := am_if (P := ¬ x = 0) (K := fun n => W p l e R s m args below meth c H locs (h.length - c0) (am_sz h - z0) Q (F0 m n ls (S'.map (am_tr b ad)))) k1 (by simp [am_c2])
        exact lv_if_ne hx hb hd ht a1 (fun q => a2 (fun z => z q))
      · obtain ⟨a1, a2⟩ := am_if (P := x < 0) (K := fun n => W p l e R s m args below meth c H locs (h.length - c0) (am_sz h - z0) Q (F0 m n ls (S'.map (am_tr b ad)))) k1 (by simp [am_c2])
        exact lv_if_lt hx hb hd ht a1 a2
      · obtain ⟨a1, a2⟩ := am_if (P := 0 ≤ x) (K := fun n => W p l e R s m args below meth c H locs (h.length - c0) (am_sz h - z0) Q (F0 m n ls (S'.map (am_tr b ad)))) k1 (by simp [am_c2])
        exact lv_if_ge hx hb hd ht a1 a2
      · obtain ⟨a1, a2⟩ := am_if (P := 0 < x) (K := fun n => W p l e R s m args below meth c H locs (h.length - c0) (am_sz h - z0) Q (F0 m n ls (S'.map (am_tr b ad)))) k1 (by simp [am_c2])
        exact lv_if_gt hx hb hd ht a1 a2
      · obtain ⟨a1, a2⟩ := am_if (P := x ≤ 0) (K := fun n => W p l e R s m args below meth c H locs (h.length - c0) (am_sz h - z0) Q (F0 m n ls (S'.map (am_tr b ad)))) k1 (by simp [am_c2])
        exact lv_if_le hx hb hd ht a1 a2
    · cases hs
  -- if_icmp
  · rename_i cnd off y x S0
    split at hs
    · rename_i t ht
      cases hs
      have k1 := kk ad ls H locs (hR.S (am_tl (am_tl hoS)))
      have ht := am_to_eq ht
      cases cnd
      · obtain ⟨a1, a2⟩ := am_if (P := x = y) (K := fun n => W p l e R s m args below meth c H locs (h.length - c0) (am_sz h - z0) Q (F0 m n ls (S'.map (am_tr b ad)))) k1 (by simp [am_c2])
        exact lv_icmp_eq hx hb hd ht a1 a2
      · obtain ⟨a1, a2⟩ := am_if (P := ¬ x = y) (K := fun n => W p l e R s m args below meth c H locs (h.length - c0) (am_sz h - z0) Q (F0 m n ls (S'.map (am_tr b ad)))) k1 (by simp [am_c2])
        exact lv_icmp_ne hx hb hd ht a1 (fun q => a2 (fun z => z q))
      · obtain ⟨a1, a2⟩ := am_if (P := x < y) (K := fun n => W p l e R s m args below meth c H locs (h.length - c0) (am_sz h - z0) Q (F0 m n ls (S'.map (am_tr b ad)))) k1 (by simp [am_c2])
        exact lv_icmp_lt hx hb hd ht a1 a2
      · obtain ⟨a1, a2⟩ := am_if (P := y ≤ x) (K := fun n => W p l e R s m args below meth c H locs (h.length - c0) (am_sz h - z0) Q (F0 m n ls (S'.map (am_tr b ad)))) k1 (by simp [am_c2])
        exact lv_icmp_ge hx hb hd ht a1 a2
      · obtain ⟨a1, a2⟩ := am_if (P := y < x) (K := fun n => W p l e R s m args below meth c H locs (h.length - c0) (am_sz h - z0) Q (F0 m n ls (S'.map (am_tr b ad)))) k1 (by simp [am_c2])
        exact lv_icmp_gt hx hb hd ht a1 a2
      · obtain ⟨a1, a2⟩ := am_if (P := x ≤ y) (K := fun n => W p l e R s m args below meth c H locs (h.length - c0) (am_sz h - z0) Q (F0 m n ls (S'.map (am_tr b ad)))) k1 (by simp [am_c2])
        exact lv_icmp_le hx hb hd ht a1 a2
    · cases hs
  -- tableswitch
  · split at hs
    · rename_i hcnd
      split at hs
      · rename_i t ht
        cases hs
        exact lv_tableOut hx hb hd hcnd (am_to_eq ht) (kk ad ls H locs (hR.S (am_tl hoS)))
      · cases hs
    · rename_i hcnd
      split at hs
      · rename_i off hoff
        split at hs
        · rename_i t ht
          cases hs
          exact lv_tableIn hx hb hd (fun q => hcnd (Or.inl q)) (fun q => hcnd (Or.inr q)) hoff (am_to_eq ht) (kk ad ls H locs (hR.S (am_tl hoS)))
        · cases hs
      · cases hs
  -- lookupswitch
  · split at hs
    · rename_i hcnd
      split at hs
      · rename_i t ht
        cases hs
        exact lv_lookup hx hb hd hcnd rfl (am_to_eq ht) (kk ad ls H locs (hR.S (am_tl hoS)))
      · cases hs
    · cases hs
  -- getfield
  · split at hs
    · rename_i ci j ty fin c2 fs hf hh
      split at hs
      · rename_i hcc
        subst hcc
        split at hs
        · rename_i v hv
          cases hs
          obtain ⟨C, T, N, hc1, hj, hfin, hdl, hty, hlk⟩ := hT.2.1 _ _ _ _ _ _ hf
          obtain ⟨hin1, -, -⟩ := hT.1 _ _ _ _ hc1
          exact va_get (D := D) (cl := cl) (v := am_tr b ad v) hx hb hts hin1 hown hK hP _ (am_ws_at hh) hc1 j hj (hts _ hlk) (fun _ h9 => h9) (by simp [hv]) hd (kk ad ls H locs (hR.S (am_cons (hoh _ (List.mem_of_getElem? hh) v (List.mem_of_getElem? hv)) (am_tl hoS))))
        · cases hs
      · cases hs
    · cases hs
  -- putfield
  · rename_i kf v a S0
    split at hs
    · rename_i ci j ty fin c2 fs hf hh
      split at hs
      · rename_i hcc
        obtain ⟨rfl, hjl, hfi, hnr, hft⟩ := hcc
        cases hs
        obtain ⟨C, T, N, hc1, hj, hfin, hdl, hty, hlk⟩ := hT.2.1 _ _ _ _ _ _ hf
        obtain ⟨hin1, ⟨ty0, hty0⟩, hnm⟩ := hT.1 _ _ _ _ hc1
        obtain ⟨n1, n2⟩ := am_tr_nar (b := b) (ad := ad) hnr hft
        have hz2 : am_sz (h.set a (.inl (c2, fs.set j v))) = am_sz h := am_sz_set (e' := .inl (c2, fs.set j v)) hh (by simp [am_es])
        have hok2 : am_okh (h.set a (.inl (c2, fs.set j v))) := hoh.set (e := .inl (c2, fs.set j v)) (fun w hw => by
          rcases List.mem_or_eq_of_mem_set hw with h1 | h1
          · exact hoh _ (List.mem_of_getElem? hh) w h1
          · rw [h1]; exact am_hd hoS)
        have hte : am_te c3 b ad (.inl (c2, fs.set j v)) = .inr (c2, (fs.map (am_tr b ad)).set j (am_tr b ad v)) := by simp [am_te, List.map_set]
        have k2 : ∀ (H1 : Heap) (locs1 : List Loc), va_P D cl ((am_ws c3 b ad h).set a (ad a, .inr (c2, (fs.map (am_tr b ad)).set j (am_tr b ad v)))) H1 → va_D A ((am_ws c3 b ad h).set a (ad a, .inr (c2, (fs.map (am_tr b ad)).set j (am_tr b ad v)))) → va_S A s.heap H1 locs1 → W p l e R s m args below meth c H1 locs1 (h.length - c0) (am_sz h - z0) Q (F0 m (pc + 3) ls (S'.map (am_tr b ad))) := by
          intro H1 locs1 q1 q2 q3
          rw [← hte, ← am_ws_set] at q1 q2
          have k3 := kk ad ls H1 locs1 ⟨hL, by rw [List.length_set]; exact am_tl (am_tl hoS), by rw [List.length_set]; exact hoL, hok2, q1, q2, q3, by rw [List.length_set]; exact hn0, had⟩
          rw [hz2, List.length_set] at k3
          exact k3
        cases fin with
        | true => exact va_putF (D := D) (cl := cl) (v := am_tr b ad v) hx hb hts hin1 ty0 hty0 hnm hown hK hP hD hS a (am_ws_at hh) hc1 j hj (hts _ hlk) (fun _ h9 => h9) hfin (hin (hfi rfl)) (hdl rfl) hty n1 n2 (by simpa using hjl) hd k2
        | false => exact va_put (D := D) (cl := cl) (v := am_tr b ad v) hx hb hts hin1 ty0 hty0 hnm hown hK hP hD hS a (am_ws_at hh) hc1 j hj (hts _ hlk) (fun _ h9 => h9) hfin hty n1 n2 (by simpa using hjl) hd k2
      · cases hs
    · cases hs
  -- new
  · split at hs
    · rename_i ci fs hf
      cases hs
      obtain ⟨C, T, N, ty, hc1, w1, w2, w3, hlen, hnr, hty, hdv⟩ := hT.2.2.1 _ _ _ _ hf
      obtain ⟨hin1, -, -⟩ := hT.1 _ _ _ _ hc1
      have hfs : ∀ ad' : Nat → Nat, fs.map (am_tr b ad') = fs := fun ad' => by
        have h2 := List.map_congr_left (f := am_tr b ad') (g := id) (l := fs) fun v hv => by
          have h3 := hnr v hv
          cases v <;> first | rfl | cases h3
        rw [h2, List.map_id]
      rw [List.length_append, List.length_singleton] at hc kk
      rw [am_sz_push] at hz kk
      have hes : am_es (.inl (ci, fs)) = N := hlen
      rw [hes] at hz kk
      refine va_new (D := D) (cl := cl) (fs := fs) hx hb hts hin1 ty hty hown (hts _ w1) (hts _ w2) (hts _ w3) hK hP hD hS hA hc1 hdv (by omega) (by omega) hd (fun q H1 q1 q2 q3 => ?_)
      have e1 : am_te c3 b (va_up ad h.length q) (.inl (ci, fs)) = .inr (ci, fs) := by
        show Sum.inr (ci, fs.map (am_tr b (va_up ad h.length q))) = _
        rw [hfs]
      obtain ⟨g1, g2⟩ := hR.push (e := .inl (ci, fs)) (q := q) (H1 := H1) (fun v hv => by have h3 := hnr v hv; cases v <;> first | trivial | cases h3) (by rw [e1]; exact q1) (by rw [e1]; exact q2) q3
      have k3 := kk (va_up ad h.length q) ls H1 locs g1
      rw [g2] at k3
      rw [show h.length - c0 + 1 = h.length + 1 - c0 by omega, show am_sz h - z0 + N = am_sz h + N - z0 by omega]
      exact k3
    · cases hs
  -- newarray
  · rename_i at0 n S0
    split at hs
    · cases hs
    · rename_i hn
      have hn1 : ¬ n < 0 := fun q => hn (Or.inl q)
      have hn2 : n.toNatClampNeg ≤ 60000000 := Nat.not_lt.mp fun q => hn (Or.inr q)
      split at hs
      · rename_i e9 he9
        cases hs
        rw [List.length_append, List.length_singleton] at hc kk
        rw [am_sz_push] at hz kk
        have hR' := hR.S (am_tl hoS)
        have fin : ∀ (ty : FieldType) (cB : ClassId) (a0 : vp_A), am_es e9 = n.toNatClampNeg → newarray.typeOf at0 = ty → Cond.arrayClass ty ∈ Ts → (cB, ty) ∈ am_ty c3 → (∀ ad', am_te c3 b ad' e9 = .inl (cB, a0)) → (∀ n, am_oke n e9) → (∀ cA : ClassId, vp_cell cA a0 = arrV cA n.toNatClampNeg (fun _ => defaultValue ty)) → componentBytes ty ≤ 8 → (∀ cA cB, va_RA s cA ty → va_RA s cB ty → cA = cB) →
            W p l e R s m args below meth c H locs (h.length - c0) (am_sz h - z0) Q (F0 m pc ls (.int n :: S0.map (am_tr b ad))) := by
          intro ty cB a0 x1 x2 x3 x4 x5 x6 x7 x8 x9
          rw [x1] at hz kk
          refine va_newa (D := D) (cl := cl) (N' := n.toNatClampNeg) hx hb (by rw [x2]; exact hts _ x3) x2 hK hP hD hS hA x7 hn1 rfl (Nat.le_trans (Nat.mul_le_mul hn2 x8) (by decide)) (by omega) (by omega) hd (fun q cA H1 qK q1 q2 q3 => ?_)
          have ec : cA = cB := am_int_cls qK x4 (x9 cA cB)
          subst ec
          obtain ⟨g1, g2⟩ := hR'.push (e := e9) (q := q) (H1 := H1) (x6 _) (by rw [x5]; exact q1) (by rw [x5]; exact q2) q3
          have k3 := kk (va_up ad h.length q) ls H1 locs g1
          rw [g2] at k3
          rw [show h.length - c0 + 1 = h.length + 1 - c0 by omega, show am_sz h - z0 + n.toNatClampNeg = am_sz h + n.toNatClampNeg - z0 by omega]
          exact k3
        cases at0 <;> simp only [am_at0] at he9 <;> cases he9
        · exact fin .boolean c3.2.1 (n.toNatClampNeg, .inl fun _ => 0) rfl rfl hT.2.2.2.2.2.1 (by simp) (fun _ => rfl) (fun _ => trivial) (fun _ => rfl) (by decide) (fun _ _ h1 h2 => Option.some.inj (h1.symm.trans h2))
        · exact fin .int c3.1 (n.toNatClampNeg, .inl fun _ => 0) rfl rfl hT.2.2.2.2.1 (by simp) (fun _ => rfl) (fun _ => trivial) (fun _ => rfl) (by decide) (fun _ _ h1 h2 => Option.some.inj (h1.symm.trans h2))
        · exact fin .long c3.2.2 (n.toNatClampNeg, .inr (.inl fun _ => 0)) rfl rfl hT.2.2.2.2.2.2 (by simp) (fun _ => rfl) (fun _ => trivial) (fun _ => rfl) (by decide) (fun _ _ h1 h2 => Option.some.inj (h1.symm.trans h2))
      · cases hs
  -- arraylength
  · split at hs
    · cases hs
      exact va_slen hx hb hX hbl hbA hS hd (kk ad ls H locs (hR.S (am_cons trivial (am_tl hoS))))
    · rename_i a
      split at hs
      · rename_i z n f hh
        cases hs
        cases z with
        | false => exact va_alen (D := D) (cl := cl) hx hb hK hP a 0 (am_ws_at hh) rfl rfl hd (kk ad ls H locs (hR.S (am_cons trivial (am_tl hoS))))
        | true => exact va_alen (D := D) (cl := cl) hx hb hK hP a 1 (am_ws_at hh) rfl rfl hd (kk ad ls H locs (hR.S (am_cons trivial (am_tl hoS))))
      · rename_i n f hh
        cases hs
        exact va_alen (D := D) (cl := cl) hx hb hK hP a 2 (am_ws_at hh) rfl rfl hd (kk ad ls H locs (hR.S (am_cons trivial (am_tl hoS))))
      · cases hs
    · cases hs
  -- iaload
  · split at hs
    · split at hs
      · rename_i hi
        cases hs
        exact va_sld hx hb hX hbl hbA hS (am_inr_in hi) hd (kk ad ls H locs (hR.S (am_cons trivial (am_tl (am_tl hoS)))))
      · cases hs
    · rename_i a
      split at hs
      · rename_i n f hh
        split at hs
        · rename_i hi
          cases hs
          exact va_iald (D := D) (cl := cl) hx hb hK hP a 0 (am_ws_at hh) rfl (am_inr_in hi) hd (kk ad ls H locs (hR.S (am_cons trivial (am_tl (am_tl hoS)))))
        · cases hs
      · cases hs
    · cases hs
  -- iastore
  · rename_i x i a S0
    split at hs
    · rename_i n f hh
      split at hs
      · rename_i hi
        cases hs
        refine va_iast (D := D) (cl := cl) hx hb hK hP hD hS a 0 (am_ws_at hh) rfl (am_inr_in hi) hd (fun H1 locs1 q1 q2 q3 => ?_)
        have k3 := kk ad ls H1 locs1 (hR.set (am_tl (am_tl (am_tl hoS))) (e := .inr (.inl (false, n, upd f i.toNatClampNeg x))) trivial q1 q2 q3)
        rw [am_sz_set (e' := .inr (.inl (false, n, upd f i.toNatClampNeg x))) hh rfl, List.length_set] at k3
        exact k3
      · cases hs
    · cases hs
  -- baload
  · rename_i i a S0
    split at hs
    · rename_i n f hh
      split at hs
      · rename_i hi
        cases hs
        exact va_zald (D := D) (cl := cl) hx hb hK hP a 1 (am_ws_at hh) rfl (am_inr_in hi) hd (kk ad ls H locs (hR.S (am_cons trivial (am_tl (am_tl hoS)))))
      · cases hs
    · cases hs
  -- bastore
  · rename_i x i a S0
    split at hs
    · rename_i n f hh
      split at hs
      · rename_i hi
        cases hs
        refine va_zast (D := D) (cl := cl) hx hb hK hP hD hS a 1 (am_ws_at hh) rfl (am_inr_in hi) hd (fun H1 locs1 q1 q2 q3 => ?_)
        have k3 := kk ad ls H1 locs1 (hR.set (am_tl (am_tl (am_tl hoS))) (e := .inr (.inl (true, n, upd f i.toNatClampNeg (vp_nar .boolean x)))) trivial q1 q2 q3)
        rw [am_sz_set (e' := .inr (.inl (true, n, upd f i.toNatClampNeg (vp_nar .boolean x)))) hh rfl, List.length_set] at k3
        exact k3
      · cases hs
    · cases hs
  -- laload
  · rename_i i a S0
    split at hs
    · rename_i n f hh
      split at hs
      · rename_i hi
        cases hs
        exact va_lald (D := D) (cl := cl) hx hb hK hP a 2 (am_ws_at hh) rfl (am_inr_in hi) hd (kk ad ls H locs (hR.S (am_cons trivial (am_tl (am_tl hoS)))))
      · cases hs
    · cases hs
  -- lastore
  · rename_i x i a S0
    split at hs
    · rename_i n f hh
      split at hs
      · rename_i hi
        cases hs
        refine va_last (D := D) (cl := cl) hx hb hK hP hD hS a 2 (am_ws_at hh) rfl (am_inr_in hi) hd (fun H1 locs1 q1 q2 q3 => ?_)
        have k3 := kk ad ls H1 locs1 (hR.set (am_tl (am_tl (am_tl hoS))) (e := .inr (.inr (n, vp_updL f i.toNatClampNeg x))) trivial q1 q2 q3)
        rw [am_sz_set (e' := .inr (.inr (n, vp_updL f i.toNatClampNeg x))) hh rfl, List.length_set] at k3
        exact k3
      · cases hs
    · cases hs
  · cases hs
end AmOne
end
section
/-! Methods that return or throw: a contract of both ends in one, and what a caller has of it. -/
def am_Q (P : Outcome → State → State → Prop) (mc ms : Nat) (free : Addr → Prop) : Array Value → State → Outcome → State → Prop := fun _ st o t =>
  P o st t ∧ st.WarmedH t.vm ∧ ∃ L, st.sameButNew ({ t with vm := st.vm } : State) L mc ms ∧ ∀ q ∈ L, free q.base
def am_Met (l : Launch) (y : MethodName) (ws : List Jvm.Cond) (rm : Room) (Pc : Array Value → State → Prop) (P : Outcome → State → State → Prop) (mc ms : Nat) (free : Addr → Prop) : Prop :=
  MetFree l y (headSpec ws rm) Pc (fun _ _ _ _ _ => True) (am_Q P mc ms free)
def am_MQ (below : List Frame) (P : Outcome → State → State → Prop) (a : Array Value) (s : State) (mc ms : Nat) (free : Addr → Prop) : State → Prop := fun t =>
  ∃ o, t.status = .running ∧ Ended t below o ∧ am_Q P mc ms free a s o t
/-- the code of a method, with a table of handlers or without -/
def am_cw (y : MethodName) (bytes : ByteArray) (maxL : Nat) (ret : Option FieldType) (hh : List (Nat × Nat × Nat × Nat)) : Jvm.Cond := if hh = [] then .code y bytes maxL ret else .codeWith y bytes maxL ret hh
theorem am_cw_spec {y : MethodName} {bytes : ByteArray} {maxL : Nat} {ret : Option FieldType} {hh : List (Nat × Nat × Nat × Nat)} {args : Array Value} {s : State} (h : (am_cw y bytes maxL ret hh).before args s = true) :
    ∃ m meth c, s.methodNamed? y = some m ∧ s.vm.method? m = some meth ∧ meth.code = some c ∧ c.code = bytes ∧ c.maxLocals = maxL ∧ c.exceptionTable.toList.map (fun h => (h.startPc, h.endPc, h.handlerPc, h.catchType)) = hh ∧ meth.sig.returnType = ret ∧ meth.locks = false ∧ parseMethodDescriptor y.desc = some meth.sig := by
  unfold am_cw at h
  split at h
  · rename_i hh0
    subst hh0
    obtain ⟨m, hn⟩ := Cond.code_named h
    obtain ⟨meth, c, h1, h2, h3, h4, h5, h6, h7, h8⟩ := Cond.code_spec hn h
    refine ⟨m, meth, c, hn, h1, h2, h3, h4, ?_, h5, h6, h8⟩
    rw [Array.isEmpty_iff.mp h7]
    rfl
  · exact Cond.codeWith_spec h
section AmCall
variable {p : Program} {l : Launch} {e : Env} {R : Room} {s : State} {m : MethodId} {args : Array Value} {below : List Frame} {meth : Method} {c : Code} {H : Heap} {locs : List Loc} {cells slots : Nat} {Q : State → Prop}
theorem am_back {y : MethodName} {ws : List Jvm.Cond} {rm : Room} {Pc : Array Value → State → Prop} {P : Outcome → State → State → Prop} {mc ms : Nat} {free : Addr → Prop} {bytes : ByteArray} {maxL : Nat} {ret : Option FieldType} {hh : List (Nat × Nat × Nat × Nat)} {W9 len : Nat}
    (hM : am_Met l y ws rm Pc P mc ms free) (hblind : FrameBlind Pc) (hrc : rm.cells = mc) (hrs : rm.slots = ms)
    (hframes : rm.frames + 1 ≤ R.frames) (hlocals : W9 + (maxL + 11) + rm.locals ≤ R.locals)
    {U : State} (X : Stand p l e R s m args below meth c U locs cells slots) {g : JFrame} {ig : Instr} {mk : MethodId} {a : Array Value} (hg : g.method = m) (hsize : g.locals.size = c.maxLocals) (hdg : decode c.code g.pc = .ok (ig, len))
    (hW : 2 * g.monitorRoom + (g.stack.map fun v => v.category).sum ≤ W9) (hn : U.methodNamed? y = some mk)
    (hws : ∀ w ∈ ws, w.before a U = true) (hcode : (am_cw y bytes maxL ret hh).before a U = true) (hinit : (Cond.initialized y.cls).before a U = true) (h4 : cells + mc ≤ R.cells) (h5 : slots + ms ≤ R.slots) (hPc : Pc a U) :
    ∃ (o : Outcome) (t T' : State) (L : List Loc), Stand p l e R s m args below meth c T' (locs ++ L) (cells + mc) (slots + ms) ∧ T'.heap = t.heap ∧ T'.vm = t.vm ∧ P o (U.calling g mk a) t ∧ (∀ q ∈ L, free q.base) ∧ (∀ v, o = .returned v → Steps p.tables e below (doInvoke e (U.setTop g) [] mk a).1 (T'.setTop { g with pc := g.pc + len, stack := v.toList ++ g.stack })) ∧ (∀ q, o = .threw q → Steps p.tables e below (doInvoke e (U.setTop g) [] mk a).1 ((T'.setTop g).pushFrame (.throwing q))) := by
  have h1 : (headSpec ws rm).pre.before a U = true := atoms_intro hws
  obtain ⟨mk', methY, cY, hn', hmY, hcY, -, hlY, -, -, -, -⟩ := am_cw_spec hcode
  cases Option.some.inj (hn.symm.trans hn')
  obtain ⟨kY, hkY, -⟩ := className_of_methodNamed hn
  have hinitY : kY.init = .initialized := Cond.initialized_spec (findClass_of_methodNamed hn) hkY hinit
  have h : At U g.method c below := by rw [hg]; exact X.here
  have hPc' : Pc a (U.calling g mk a) := hblind _ _ _ _ hPc
  have happ : (headSpec ws rm).appliesLoose y e.platform (U.calling g mk a) = true :=
    Spec.appliesLoose_calling (g := g) h hdg hn hkY hinitY
      (X.room_calling (g := g) (R' := (headSpec ws rm).room) hsize hmY hcY hframes (by rw [hlY]; have : (headSpec ws rm).room.locals = rm.locals := rfl; omega) (by rw [show (headSpec ws rm).room.cells = mc from hrc]; exact h4) (by rw [show (headSpec ws rm).room.slots = ms from hrs]; exact h5)) h1
  obtain ⟨mid, hmid⟩ := h.above
  have hfr : (U.setTop g).frames = (.java g :: mid) ++ below := by rw [State.frames_setTop' g h.top, hmid]; rfl
  obtain ⟨o, s₂, hsteps, -, hend, hq⟩ := Steps.callFree hM p X.admits X.cas X.clock (acts := []) hfr happ hPc' trivial
  have hq' : am_Q P mc ms free a (U.calling g mk a) o s₂ := hq
  rw [State.frames_setTop' g h.top] at hend
  obtain ⟨hPo, hW₂, L, ⟨e2, q2, q3, q4, q5, q6⟩, hL⟩ := hq'
  obtain ⟨g₀, hg0⟩ := Option.isSome_iff_exists.mp h.top
  obtain ⟨r, hr⟩ := State.topJava?_eq_some.mp hg0
  have hr' : (({ U with heap := s₂.heap, slotsUsed := s₂.slotsUsed } : State).setVm s₂.vm).frames = .java g₀ :: r := hr
  have e3 : s₂ = ({ (U.calling g mk a).setFrames s₂.frames with heap := s₂.heap, slotsUsed := s₂.slotsUsed } : State).setVm s₂.vm := by
    have : s₂ = ({ s₂ with vm := (U.calling g mk a).vm } : State).setVm s₂.vm := rfl
    rw [e2] at this
    exact this
  have hW' : U.WarmedH s₂.vm := hW₂
  have hsame : U.sameButNew ({ U with heap := s₂.heap, slotsUsed := s₂.slotsUsed } : State) L mc ms := by
    refine ⟨?_, q2, q3, q4, q5, q6⟩
    obtain ⟨t, ht, -⟩ := State.frames_cons hr
    show ({ U with heap := s₂.heap, slotsUsed := s₂.slotsUsed } : State) = { U.setFrames U.frames with heap := s₂.heap, slotsUsed := s₂.slotsUsed }
    rw [State.setFrames_self ht]
  subst hg
  refine ⟨o, s₂, (({ U with heap := s₂.heap, slotsUsed := s₂.slotsUsed } : State).setVm s₂.vm), L,
    ⟨X.admits, X.cas, X.clock, X.frames, X.room, X.hears, X.method, X.code, (X.here.setHeapUsed s₂.heap s₂.slotsUsed).setVm hW'.alike, X.tail, State.WarmedH.trans X.warmed hW', X.limits, X.bytes, X.same.trans (hsame.setVm s.vm)⟩,
    rfl, rfl, hPo, hL, fun v hv => ?_, fun q hv => ?_⟩
  · subst hv
    obtain ⟨c₂, i₂, len₂, hc₂, hd₂, hf₂⟩ := hend
    have hcc : c₂ = c := by
      have h1 : s₂.code? g.method = U.code? g.method := by
        rw [State.code?_eq, State.code?_eq, hW'.alike.method?]
      exact Option.some.inj (hc₂.symm.trans (h1.trans h.code))
    subst hcc
    have hlen : len₂ = len := by rw [hdg] at hd₂; cases hd₂; rfl
    subst hlen
    have hs₂ : s₂ = (({ U with heap := s₂.heap, slotsUsed := s₂.slotsUsed } : State).setVm s₂.vm).setTop { g with pc := g.pc + len₂, stack := v.toList ++ g.stack } := by
      refine e3.trans ?_
      rw [hf₂, State.calling_eq h.top, State.setFrames_setFrames, State.setTop_of_frames _ hr', hr]
      rfl
    rw [← hs₂]
    exact hsteps
  · subst hv
    have hf₂ : s₂.frames = .throwing q :: .java g :: U.frames.tail := hend
    have hs₂ : s₂ = ((({ U with heap := s₂.heap, slotsUsed := s₂.slotsUsed } : State).setVm s₂.vm).setTop g).pushFrame (.throwing q) := by
      refine e3.trans ?_
      have htop : ((({ U with heap := s₂.heap, slotsUsed := s₂.slotsUsed } : State).setVm s₂.vm).setTop g).frames = .java g :: r := by
        rw [State.setTop_of_frames _ hr', State.frames_setFrames _ (State.cur_lt_of_frames hr')]
      rw [hf₂, State.calling_eq h.top, State.setFrames_setFrames, hr]
      unfold State.pushFrame
      rw [htop, State.setTop_of_frames _ hr', State.setFrames_setFrames]
      rfl
    rw [← hs₂]
    exact hsteps
/-- the frame g, with q thrown over it -/
def am_WX (p : Program) (l : Launch) (e : Env) (R : Room) (s : State) (m : MethodId) (args : Array Value) (below : List Frame) (meth : Method) (c : Code) (H : Heap) (locs : List Loc) (cells slots : Nat) (Q : State → Prop) (g : JFrame) (q : Addr) : Prop :=
  ∀ T : State, T.heap = H → Stand p l e R s m args below meth c T locs cells slots → ∃ t, Steps p.tables e below ((T.setTop g).pushFrame (.throwing q)) t ∧ Q t
/-- out of a kit's row for an end -/
theorem am_end {P : Outcome → State → State → Prop} {free : Addr → Prop} {mc ms : Nat} {o : Outcome} {g : JFrame} (k : W p l e R s m args below meth c H locs cells slots (MQ below (fun _ _ o' t => o' = o ∧ t.heap = H) args s cells slots free) g) (hq : ∀ t : State, t.heap = H → s.WarmedH t.vm → P o s t) (hc : cells ≤ mc) (hs : slots ≤ ms) :
    W p l e R s m args below meth c H locs cells slots (am_MQ below P args s mc ms free) g := by
  intro T hT X
  obtain ⟨t, a1, o', b1, b2, ⟨rfl, b3⟩, L, ⟨-, b4, b5⟩, b6⟩ := k T hT X
  exact ⟨t, a1, o', b1, b2, hq t b3 b4, b4, L, b5.mono hc hs, b6⟩
/-- not caught here: it goes on to the caller -/
theorem am_out {P : Outcome → State → State → Prop} {free : Addr → Prop} {mc ms pc : Nat} {ls : Array Slot} {rest : List Value} {q : Addr} (hout : ∀ x ∈ c.exceptionTable.toList, covers x pc = false) (hlocks : meth.locks = false) (hq : ∀ t : State, t.heap = H → s.WarmedH t.vm → P (.threw q) s t) (hf : ∀ z ∈ locs, free z.base) (hc : cells ≤ mc) (hs : slots ≤ ms) :
    am_WX p l e R s m args below meth c H locs cells slots (am_MQ below P args s mc ms free) (F0 m pc ls rest) q := by
  intro T hT X
  obtain ⟨st1, hrun, hend, hW, hsm⟩ := X.leaveThrown q (g := F0 m pc ls rest) rfl rfl rfl hout hlocks
  exact ⟨_, st1, .threw q, hrun, hend, hq _ hT hW, hW, locs, hsm.mono hc hs, hf⟩
/-- caught by the only row of the table -/
theorem am_caught {pc : Nat} {ls : Array Slot} {rest : List Value} {own E name : String} {ce : Cell} {q : Addr} {x : ExceptionTableEntry} (hown : s.vm.findClass own = some m.cls) (htab : c.exceptionTable.toList = [x]) (hx : covers x pc = true) (h0 : x.catchType ≠ 0)
    (hlink : (Cond.classLink own x.catchType name).before args s = true) (hcast : va_Nw (.castable E name) s) (hcell : H[q]? = some ce) (hv : ce.vm = .none) (hcl : s.vm.findClass E = some ce.cls)
    (kk : W p l e R s m args below meth c H locs cells slots Q (F0 m x.handlerPc ls [.ref q])) : am_WX p l e R s m args below meth c H locs cells slots Q (F0 m pc ls rest) q := by
  intro T hT X
  have hpl : e.platform.magicAccessors = ({} : Platform).magicAccessors := by rw [X.admits.platform]
  obtain ⟨c3, c4, hc3, hc4, hasg⟩ := Cond.castable_spec hcast
  cases Option.some.inj (hc3.symm.trans hcl)
  obtain ⟨c5, hc5, hcl5⟩ := Cond.classLink_spec hown hlink e.platform hpl
  cases Option.some.inj (hc4.symm.trans hc5)
  obtain ⟨vm', X', st⟩ := X.thenCaughtThrough q (g := F0 m pc ls rest) rfl (Steps.refl _) (by rw [hT]; exact hcell) (by rw [hv]; rfl) (by obtain ⟨k9, h9, -⟩ := Vm.findClass_spec hcl; exact ⟨k9, h9⟩) [] x [] htab (fun z hz => nomatch hz) hx (Or.inr ⟨h0, c4, hcl5, hasg⟩)
  obtain ⟨t, a1, b1⟩ := kk (T.setVm vm') hT X'
  exact ⟨t, st.trans a1, b1⟩
/-- a contract out of its body -/
theorem am_ofW {y : MethodName} {ws : List Jvm.Cond} {rm : Room} {Pc : Array Value → State → Prop} {P : Outcome → State → State → Prop} {mc ms : Nat} {free : Addr → Prop} {cc : ByteArray} {maxL : Nat} {ret : Option FieldType} {hh : List (Nat × Nat × Nat × Nat)}
    (hy : plainName y.cls = true) (hw : am_cw y cc maxL ret hh ∈ ws)
    (body : ∀ p e s m args below meth c s₁, BodyLoose p l y (headSpec ws rm) cc maxL ret e s m args below meth c s₁ → c.maxLocals = maxL → c.exceptionTable.toList.map (fun h => (h.startPc, h.endPc, h.handlerPc, h.catchType)) = hh → Pc args s →
      W p l e rm s m args below meth c s.heap [] 0 0 (am_MQ below P args s mc ms free) (entryFrame m args maxL)) : am_Met l y ws rm Pc P mc ms free := by
  refine MetFree.of_bodyS (code := cc) (maxLocals := maxL) (ret := ret) hy ?_ ?_
  · intro args s m h hn
    obtain ⟨m', meth, c, hn', h1, h2, h3, h4, -, h5, h6, -⟩ := am_cw_spec (atoms_spec (ws := ws) h _ hw)
    cases Option.some.inj (hn.symm.trans hn')
    exact ⟨meth, c, h1, h2, h3, h4, h5, h6⟩
  · intro p e s m args below meth c s₁ B hml hP _
    have hh0 : s₁.heap = s.heap := by rw [B.state]; rfl
    have ht : c.exceptionTable.toList.map (fun h => (h.startPc, h.endPc, h.handlerPc, h.catchType)) = hh := by
      obtain ⟨m', meth9, c9, hn', h1, h2, -, -, h7, -⟩ := am_cw_spec (atoms_spec (ws := ws) B.pre _ hw)
      cases Option.some.inj (B.named.symm.trans hn')
      cases Option.some.inj (h1.symm.trans B.method)
      cases Option.some.inj (h2.symm.trans (Stand.of_body B).code)
      exact h7
    obtain ⟨t, a1, o, b1, b2, b3⟩ := body p e s m args below meth c s₁ B hml ht hP s₁ hh0 (Stand.of_body B)
    exact ⟨t, o, a1, b1, b2, b3⟩
end AmCall
end
section
/-! The five ways to a method, each up to its own entry; then a call as a row. -/
section AmInv
variable {p : Program} {l : Launch} {e : Env} {R : Room} {s : State} {m : MethodId} {args : Array Value} {below : List Frame} {meth : Method} {c : Code} {T : State} {H : Heap} {locs : List Loc} {cells slots : Nat} {Q : State → Prop}
/-- the machine comes from the frame g to the entry of y with the arguments av, what is left on the stack being rest -/
def am_Inv (p : Program) (l : Launch) (e : Env) (R : Room) (s : State) (m : MethodId) (args : Array Value) (below : List Frame) (meth : Method) (c : Code) (H : Heap) (locs : List Loc) (cells slots : Nat) (y : MethodName) (g : JFrame) (rest : List Value) (av : Array Value) : Prop :=
  ∀ T : State, T.heap = H → Stand p l e R s m args below meth c T locs cells slots → ∃ (mk : MethodId) (vm₁ : Vm), Stand p l e R s m args below meth c (T.setVm vm₁) locs cells slots ∧ s.methodNamed? y = some mk ∧
    ∀ target, (∀ acts, Steps p.tables e below (doInvoke e ((T.setVm vm₁).setTop { g with stack := rest }) acts mk av).1 target) → Steps p.tables e below (T.setTop g) target
theorem am_invV (hexec : p.tables.exec = Jvm.exec) {own C : String} {index : Nat} {y : MethodName} {bytes : ByteArray} {maxL : Nat} {ret : Option FieldType} {hh : List (Nat × Nat × Nat × Nat)}
    (hown : s.vm.findClass own = some m.cls) (hlink : (Cond.methodLink own index y).before args s = true) (hinst : (Cond.instanceMethod y).before args s = true) (hsel : (Cond.selects C y y).before args s = true)
    (hcode : (am_cw y bytes maxL ret hh).before args s = true) (hy : y.cls ≠ "java/lang/invoke/MethodHandle" ∧ y.cls ≠ "java/lang/invoke/VarHandle")
    {b : Addr} {cellB : Cell} (hcell : H[b]? = some cellB) (hobj : cellB.vm.isStatics = false) (hcls : s.vm.findClass C = some cellB.cls)
    {g : JFrame} (hg : g.method = m) {argsL rest : List Value} (hlen : ∀ sig, parseMethodDescriptor y.desc = some sig → argsL.length = sig.parameters.length)
    (hstack : g.stack = argsL.reverse ++ .ref b :: rest) (hdg : decode c.code g.pc = .ok (.invokevirtual index, 3)) :
    am_Inv p l e R s m args below meth c H locs cells slots y g rest (Value.ref b :: argsL).toArray := by
  intro T hT X
  obtain ⟨mk, methM, hnamed, hmethM, hstM, habM⟩ := Cond.instanceMethod_spec hinst
  obtain ⟨mk', methM', cM, hnamed', hmethM', -, -, -, -, -, -, hsigM⟩ := am_cw_spec hcode
  cases hnamed.symm.trans hnamed'
  cases hmethM.symm.trans hmethM'
  obtain ⟨c2, r2, m2, q1, q2, q3, q4, kP, hkP, hkPi⟩ := Cond.selects_spec hsel
  cases hcls.symm.trans q1
  cases (State.methodFound?_of_named hnamed hy).symm.trans q2
  cases hnamed.symm.trans q3
  have hselP : selectMethod e.platform s.vm cellB.cls mk = .method mk := by rw [Launch.admits_selectMethod X.admits]; exact q4
  obtain ⟨vm₁, X₁, hstep₁⟩ := X.invokevirtual hexec hown hlink hnamed hmethM hstM hkP hkPi hy (a := b) (cell := cellB) (by rw [hT]; exact hcell)
    (fun z h => by rw [h] at hobj; cases hobj) hselP hmethM habM hkP hkPi (g := g) hg (argsL := argsL) (rest := rest) (hlen _ hsigM) hstack hdg
  exact ⟨mk, vm₁, X₁, hnamed, hstep₁⟩
theorem am_invVN (hexec : p.tables.exec = Jvm.exec) {own C host : String} {index : Nat} {y : MethodName} {bytes : ByteArray} {maxL : Nat} {ret : Option FieldType} {hh : List (Nat × Nat × Nat × Nat)}
    (hown : s.vm.findClass own = some m.cls) (hlink : (Cond.methodLinkNest own index y host).before args s = true) (hinst : (Cond.instanceMethod y).before args s = true) (hsel : (Cond.selects C y y).before args s = true)
    (hcode : (am_cw y bytes maxL ret hh).before args s = true) (hy : y.cls ≠ "java/lang/invoke/MethodHandle" ∧ y.cls ≠ "java/lang/invoke/VarHandle")
    {b : Addr} {cellB : Cell} (hcell : H[b]? = some cellB) (hobj : cellB.vm.isStatics = false) (hcls : s.vm.findClass C = some cellB.cls)
    {g : JFrame} (hg : g.method = m) {argsL rest : List Value} (hlen : ∀ sig, parseMethodDescriptor y.desc = some sig → argsL.length = sig.parameters.length)
    (hstack : g.stack = argsL.reverse ++ .ref b :: rest) (hdg : decode c.code g.pc = .ok (.invokevirtual index, 3)) :
    am_Inv p l e R s m args below meth c H locs cells slots y g rest (Value.ref b :: argsL).toArray := by
  intro T hT X
  obtain ⟨mk, methM, hnamed, hmethM, hstM, habM⟩ := Cond.instanceMethod_spec hinst
  obtain ⟨mk', methM', cM, hnamed', hmethM', -, -, -, -, -, -, hsigM⟩ := am_cw_spec hcode
  cases hnamed.symm.trans hnamed'
  cases hmethM.symm.trans hmethM'
  obtain ⟨c2, r2, m2, q1, q2, q3, q4, kP, hkP, hkPi⟩ := Cond.selects_spec hsel
  cases hcls.symm.trans q1
  cases (State.methodFound?_of_named hnamed hy).symm.trans q2
  cases hnamed.symm.trans q3
  have hselP : selectMethod e.platform s.vm cellB.cls mk = .method mk := by rw [Launch.admits_selectMethod X.admits]; exact q4
  obtain ⟨vm₁, X₁, hstep₁⟩ := X.invokevirtualNest hexec hown hlink hnamed hmethM hstM hkP hkPi hy (a := b) (cell := cellB) (by rw [hT]; exact hcell)
    (fun z h => by rw [h] at hobj; cases hobj) hselP hmethM habM hkP hkPi (g := g) hg (argsL := argsL) (rest := rest) (hlen _ hsigM) hstack hdg
  exact ⟨mk, vm₁, X₁, hnamed, hstep₁⟩
theorem am_invS (hexec : p.tables.exec = Jvm.exec) {own : String} {index : Nat} {y : MethodName} {bytes : ByteArray} {maxL : Nat} {ret : Option FieldType} {hh : List (Nat × Nat × Nat × Nat)}
    (hown : s.vm.findClass own = some m.cls) (hlink : (Cond.methodLink own index y).before args s = true) (hstat : (Cond.static y).before args s = true) (hinit : (Cond.initialized y.cls).before args s = true)
    (hcode : (am_cw y bytes maxL ret hh).before args s = true) (hy : y.cls ≠ "java/lang/invoke/MethodHandle" ∧ y.cls ≠ "java/lang/invoke/VarHandle")
    {g : JFrame} (hg : g.method = m) {argsL rest : List Value} (hlen : ∀ sig, parseMethodDescriptor y.desc = some sig → argsL.length = sig.parameters.length)
    (hstack : g.stack = argsL.reverse ++ rest) (hdg : decode c.code g.pc = .ok (.invokestatic index, 3)) :
    am_Inv p l e R s m args below meth c H locs cells slots y g rest argsL.toArray := by
  intro T hT X
  obtain ⟨mk, methM, cM, hnamed, hmethM, -, -, -, -, -, -, hsigM⟩ := am_cw_spec hcode
  have hstatic : methM.isStatic = true := Cond.static_spec hnamed hmethM hstat
  obtain ⟨kP, hkP, -⟩ := className_of_methodNamed hnamed
  have hinitP : kP.init = .initialized := Cond.initialized_spec (findClass_of_methodNamed hnamed) hkP hinit
  obtain ⟨vm₁, X₁, hstep₁⟩ := X.invokestatic hexec hown hlink hnamed hmethM hstatic hkP hinitP hy (g := g) hg (argsL := argsL) (rest := rest) (hlen _ hsigM) hstack hdg
  exact ⟨mk, vm₁, X₁, hnamed, hstep₁⟩
theorem am_invI (hexec : p.tables.exec = Jvm.exec) {own : String} {index : Nat} {y : MethodName} {bytes : ByteArray} {maxL : Nat}
    (hown : s.vm.findClass own = some m.cls) (hy1 : y.name = "<init>") (hlink : (Cond.methodLink own index y).before args s = true) (hinst : (Cond.instanceMethod y).before args s = true)
    (hcode : (Cond.code y bytes maxL none).before args s = true) (hy : y.cls ≠ "java/lang/invoke/MethodHandle" ∧ y.cls ≠ "java/lang/invoke/VarHandle")
    {g : JFrame} (hg : g.method = m) {a : Addr} {argsL rest : List Value} (hlen : ∀ sig, parseMethodDescriptor y.desc = some sig → argsL.length = sig.parameters.length)
    (hstack : g.stack = argsL.reverse ++ .ref a :: rest) (hdg : decode c.code g.pc = .ok (.invokespecial index, 3)) :
    am_Inv p l e R s m args below meth c H locs cells slots y g rest (Value.ref a :: argsL).toArray := by
  intro T hT X
  subst hg
  have hpl : e.platform.magicAccessors = ({} : Platform).magicAccessors := by rw [X.admits.platform]
  obtain ⟨mk, methM, cM, kP, vm₁, hnamed, hmethM, hcodeM, -, hlocalsM, -, hkP, -, hW₁, hstep₁⟩ := Steps.initColdArgs (e := e) X.here hexec X.warmed hpl hown hy1 hy hlink hinst hcode (f := g) rfl hlen hstack hdg
  exact ⟨mk, vm₁, X.noted hW₁, hnamed, hstep₁⟩
theorem am_invIN (hexec : p.tables.exec = Jvm.exec) {own host : String} {index : Nat} {y : MethodName} {bytes : ByteArray} {maxL : Nat}
    (hown : s.vm.findClass own = some m.cls) (hy1 : y.name = "<init>") (hlink : (Cond.methodLinkNest own index y host).before args s = true) (hinst : (Cond.instanceMethod y).before args s = true)
    (hcode : (Cond.code y bytes maxL none).before args s = true) (hy : y.cls ≠ "java/lang/invoke/MethodHandle" ∧ y.cls ≠ "java/lang/invoke/VarHandle")
    {g : JFrame} (hg : g.method = m) {a : Addr} {argsL rest : List Value} (hlen : ∀ sig, parseMethodDescriptor y.desc = some sig → argsL.length = sig.parameters.length)
    (hstack : g.stack = argsL.reverse ++ .ref a :: rest) (hdg : decode c.code g.pc = .ok (.invokespecial index, 3)) :
    am_Inv p l e R s m args below meth c H locs cells slots y g rest (Value.ref a :: argsL).toArray := by
  intro T hT X
  subst hg
  have hpl : e.platform.magicAccessors = ({} : Platform).magicAccessors := by rw [X.admits.platform]
  obtain ⟨mk, methM, cM, kP, vm₁, hnamed, hmethM, hcodeM, -, hlocalsM, -, hkP, -, hW₁, hstep₁⟩ := Steps.initColdArgsNest (e := e) X.here hexec X.warmed hpl hown hy1 hy hlink hinst hcode (f := g) rfl hlen hstack hdg
  exact ⟨mk, vm₁, X.noted hW₁, hnamed, hstep₁⟩
/-- a call: on behind it, or with what was thrown over the frame -/
theorem am_row {y : MethodName} {ws : List Jvm.Cond} {rm : Room} {Pc : Array Value → State → Prop} {P : Outcome → State → State → Prop} {mc ms : Nat} {free : Addr → Prop} {bytes : ByteArray} {maxL : Nat} {ret : Option FieldType} {hh : List (Nat × Nat × Nat × Nat)}
    {pc : Nat} {ls : Array Slot} {st0 rest : List Value} {av : Array Value} {ig : Instr} (hI : am_Inv p l e R s m args below meth c H locs cells slots y (F0 m pc ls st0) rest av)
    (hM : am_Met l y ws rm Pc P mc ms free) (hblind : FrameBlind Pc) (hrc : rm.cells = mc) (hrs : rm.slots = ms) (hframes : rm.frames + 1 ≤ R.frames) (hlocals : 8 + (maxL + 11) + rm.locals ≤ R.locals)
    (hsize : ls.size = c.maxLocals) (hdg : decode c.code pc = .ok (ig, 3)) (hW : (rest.map fun v => v.category).sum ≤ 8)
    (hws : ∀ w ∈ ws, ∀ (a' : Array Value) (U : State), s.WarmedH U.vm → w.before a' U = true) (hcode : am_cw y bytes maxL ret hh ∈ ws) (hinit : (Cond.initialized y.cls).before args s = true) (h4 : cells + mc ≤ R.cells) (h5 : slots + ms ≤ R.slots)
    (hPc : ∀ U : State, U.heap = H → s.WarmedH U.vm → Pc av U)
    (kr : ∀ (v : Option Value) (st₀ t : State) (L : List Loc), st₀.heap = H → s.WarmedH t.vm → P (.returned v) st₀ t → (∀ q ∈ L, free q.base) → W p l e R s m args below meth c t.heap (locs ++ L) (cells + mc) (slots + ms) Q (F0 m (pc + 3) ls (v.toList ++ rest)))
    (kx : ∀ (q : Addr) (st₀ t : State) (L : List Loc), st₀.heap = H → s.WarmedH t.vm → P (.threw q) st₀ t → (∀ q ∈ L, free q.base) → am_WX p l e R s m args below meth c t.heap (locs ++ L) (cells + mc) (slots + ms) Q (F0 m pc ls rest) q)
    (ho : ∀ (o : Outcome) (st₀ t : State), P o st₀ t → (∃ v, o = .returned v) ∨ ∃ q, o = .threw q) : W p l e R s m args below meth c H locs cells slots Q (F0 m pc ls st0) := by
  intro T hT X
  obtain ⟨mk, vm₁, X₁, hnamed, hstep₁⟩ := hI T hT X
  obtain ⟨o, t, T', L, X', e1, e2, hPo, hL, hr, hx⟩ := am_back (bytes := bytes) (maxL := maxL) (ret := ret) (hh := hh) (W9 := 8) (len := 3) hM hblind hrc hrs hframes hlocals X₁ (g := { F0 m pc ls st0 with stack := rest }) (ig := ig) (mk := mk) (a := av) rfl hsize hdg
    (by show 2 * 0 + _ ≤ 8; simpa using hW) (X₁.named hnamed) (fun w hw => hws w hw _ _ X₁.warmed) (hws _ hcode _ _ X₁.warmed) (word_at X₁.warmed (Or.inl (by first | rfl | simp [Cond.onTables, Cond.keeps, Cond.steady])) hinit) h4 h5 (hPc _ hT X₁.warmed)
  rcases ho _ _ _ hPo with ⟨v, rfl⟩ | ⟨q, rfl⟩
  · obtain ⟨t2, a1, b1⟩ := kr v ((T.setVm vm₁).calling (F0 m pc ls rest) mk av) t L hT (by rw [← e2]; exact X'.warmed) hPo hL T' e1 X'
    exact ⟨t2, hstep₁ _ fun acts => by rw [doInvoke_state]; exact (hr v rfl).trans a1, b1⟩
  · obtain ⟨t2, a1, b1⟩ := kx q ((T.setVm vm₁).calling (F0 m pc ls rest) mk av) t L hT (by rw [← e2]; exact X'.warmed) hPo hL T' e1 X'
    exact ⟨t2, hstep₁ _ fun acts => by rw [doInvoke_state]; exact (hx q rfl).trans a1, b1⟩
end AmInv
end
section
/-! 'throw new E("text")', out of a method without handlers there. -/
/-- what Throwable's constructor reads of the class's statics, in every state like U whose cells outside A are H's -/
def am_Zs (A : Nat → Prop) (U : State) (H : Heap) : Prop := ∀ (V : State) (a : Array Value), U.vm.Alike V.vm → (∀ q : Nat, q < H.size → ¬ A q → V.heap[q]? = H[q]?) →
  (Cond.isRef (.static Bundle.tN "UNASSIGNED_STACK" Bundle.steD)).before a V = true ∧ (Cond.isRef (.static Bundle.tN "SUPPRESSED_SENTINEL" Bundle.listD)).before a V = true ∧ (Cond.laysStatic Bundle.tN "UNASSIGNED_STACK" Bundle.steD).before a V = true ∧ (Cond.laysStatic Bundle.tN "SUPPRESSED_SENTINEL" Bundle.listD).before a V = true
theorem am_Zs.moved {A : Nat → Prop} {u U : State} {H : Heap} (hvm : u.vm.Alike U.vm) (h : am_Zs A u H) : am_Zs A U H := fun V a hv hk => h V a (hvm.trans hv) hk
theorem am_Zs.kept {A : Nat → Prop} {U : State} {H H1 : Heap} (h : am_Zs A U H) (hz : H.size ≤ H1.size) (hq : ∀ q : Nat, q < H.size → ¬ A q → H1[q]? = H[q]?) : am_Zs A U H1 := fun V a hv hk => h V a hv fun q h1 h2 => (hk q (Nat.lt_of_lt_of_le h1 hz) h2).trans (hq q h1 h2)
/-- words that don't speak of the statics' cells -/
def am_nh (w : Jvm.Cond) : Bool := decide (w ≠ .isRef (.static Bundle.tN "UNASSIGNED_STACK" Bundle.steD) ∧ w ≠ .isRef (.static Bundle.tN "SUPPRESSED_SENTINEL" Bundle.listD) ∧ w ≠ .laysStatic Bundle.tN "UNASSIGNED_STACK" Bundle.steD ∧ w ≠ .laysStatic Bundle.tN "SUPPRESSED_SENTINEL" Bundle.listD)
section AmThrow
variable {p : Program} {l : Launch} {e : Env} {R : Room} {s : State} {m : MethodId} {args : Array Value} {below : List Frame} {meth : Method} {c : Code} {H : Heap} {locs : List Loc} {cells slots : Nat}
/-- the method as if it were entered now, with the cells as they are -/
theorem am_anew {T : State} (X : Stand p l e R s m args below meth c T locs cells slots) {R' : Room} (hf : R'.frames ≤ R.frames) (hl : R'.locals ≤ R.locals) (hc : cells + R'.cells ≤ R.cells) (hs : slots + R'.slots ≤ R.slots) :
    Stand p l e R' ((T.setVm s.vm).setFrames (.invoking m args :: below)) m args below meth c T [] 0 0 := by
  have htop : (T.setVm s.vm).topJava?.isSome := X.here.top
  have hF : ((T.setVm s.vm).setFrames (.invoking m args :: below)).frames = .invoking m args :: below := State.frames_setFrames _ (State.cur_lt_of_top htop)
  obtain ⟨g₀, hg0⟩ := Option.isSome_iff_exists.mp htop
  obtain ⟨r, hr⟩ := State.topJava?_eq_some.mp hg0
  have hl9 : e.platform.stackLimits (T.setVm s.vm).me = e.platform.stackLimits s.me := X.limits
  have hb9 : (T.setVm s.vm).me.stackBytes = s.me.stackBytes := X.bytes
  have hnil : T.heap.toList.drop T.heap.size = [] := List.drop_eq_nil_of_le (Nat.le_of_eq Array.length_toList)
  have hroom : ((T.setVm s.vm).setFrames (.invoking m args :: below)).hasRoom e.platform R' = true := by
    have hU : ((T.setVm s.vm).setFrames (.invoking m args :: below)).localsInUse = s.localsInUse := by
      rw [State.localsInUse_invoking hF (meth := meth) (c := c) X.method X.code, State.localsInUse_invoking X.frames X.method X.code]
    have h := X.room
    simp only [State.hasRoom, Bool.and_eq_true, decide_eq_true_eq] at h ⊢
    obtain ⟨⟨⟨⟨h1, h2, h3, h4, h5, h6⟩, h7⟩, h8⟩, h9⟩ := h
    rw [X.frames, List.length_cons] at h2 h3
    have q1 := X.heapSize
    have q2 := X.used
    simp only [hF, hU, List.length_cons, State.stackLimits_setFrames, State.stackBytes_setFrames, hl9, hb9]
    exact ⟨⟨⟨⟨by omega, by omega, by omega, by omega, by omega, h6⟩, show T.heap.size + R'.cells ≤ e.platform.maxCells by omega⟩, show T.slotsUsed + R'.slots ≤ e.platform.maxSlots by omega⟩, X.book⟩
  have hsame : ((T.setVm s.vm).setFrames (.invoking m args :: below)).sameButNew (T.setVm s.vm) [] 0 0 := by
    refine ⟨?_, Nat.le_refl _, Nat.le_refl _, ?_, ?_, fun a c9 h9 => ⟨c9, h9, rfl, rfl, fun _ _ => rfl⟩⟩
    · obtain ⟨t, ht, -⟩ := State.frames_cons hr
      show T.setVm s.vm = { ((T.setVm s.vm).setFrames (.invoking m args :: below)).setFrames (T.setVm s.vm).frames with heap := T.heap, slotsUsed := T.slotsUsed }
      rw [State.setFrames_setFrames, State.setFrames_self ht]
      rfl
    · show T.slotsUsed = T.slotsUsed + ((T.heap.toList.drop T.heap.size).map (·.slots.size)).sum
      rw [hnil]
      rfl
    · show ((T.heap.toList.drop T.heap.size).map (·.slots.size)).sum ≤ 0
      rw [hnil]
      exact Nat.le_refl _
  exact ⟨X.admits, X.cas, X.clock, hF, hroom, X.hears, X.method, X.code, X.here, X.tail, X.warmed, by rw [State.stackLimits_setFrames]; rfl, by rw [State.stackBytes_setFrames]; rfl, hsame⟩
theorem am_throw {P : Outcome → State → State → Prop} {free : Addr → Prop} {mc ms pc : Nat} {cc : ByteArray} {ls : Array Slot} {rest : List Value} (hexec : p.tables.exec = Jvm.exec) (hb : c.code = cc) (hl : l.stackTraces = false) {own cls text : String} {names : List String} {ik is ic sa : Nat} {A : Nat → Prop}
    (hown : s.vm.findClass own = some m.cls) (hcls : Bundle.fit cls = true) (hnames : ∀ n ∈ names, Bundle.fit n = true) (hk : (Cond.classLink own ik cls).before args s = true) (hini : (Cond.initialized cls).before args s = true) (hstr : vk_R own is text sa s)
    (hat : ∀ w ∈ (Bundle.ownAtoms own ic cls names).filter am_nh, w.before args s = true ∧ w.onTables = true) (hZ : am_Zs A s H) (hsize : ls.size = c.maxLocals)
    (d0 : decode cc pc = .ok (.new ik, 3)) (d3 : decode cc (pc + 3) = .ok (.dup, 1)) (d4 : decode cc (pc + 4) = .ok (.ldc is, 2)) (d6 : decode cc (pc + 6) = .ok (.invokespecial ic, 3)) (d9 : decode cc (pc + 9) = .ok (.athrow, 1))
    (hout : ∀ x ∈ c.exceptionTable.toList, covers x (pc + 9) = false) (hRframes : names.length + 3 < R.frames) (hRlocals : (rest.map fun v => v.category).sum + (13 * (names.length + 1) + 43) ≤ R.locals) (hRcells : cells + 1 ≤ R.cells) (hRslots : slots + 6 ≤ R.slots) (hlocks : meth.locks = false)
    (hq : ∀ (t : State) (ce : Cell), s.WarmedH t.vm → H.size ≤ t.heap.size → (∀ q : Nat, q < H.size → t.heap[q]? = H[q]?) → t.heap[H.size]? = some ce → ce.vm = .none → s.vm.findClass cls = some ce.cls → P (.threw H.size) s t)
    (hf : ∀ z ∈ locs, free z.base) (hc : cells + 1 ≤ mc) (hs : slots + 6 ≤ ms) :
    W p l e R s m args below meth c H locs cells slots (am_MQ below P args s mc ms free) (F0 m pc ls rest) := by
  intro T hT X
  have htr : e.platform.stackTraces = false := (show e.platform.stackTraces = l.stackTraces by rw [X.admits.platform]).trans hl
  have Y := am_anew X (R' := { frames := R.frames, locals := R.locals, cells := 1, slots := 6 }) (Nat.le_refl _) (Nat.le_refl _) hRcells hRslots
  obtain ⟨s', hA⟩ : ∃ z, z = (T.setVm s.vm).setFrames (.invoking m args :: below) := ⟨_, rfl⟩
  rw [← hA] at Y
  have hvm : s'.vm = s.vm := by rw [hA]; rfl
  have hhp : s'.heap = H := by rw [hA]; exact hT
  have hW0 : s.WarmedH s'.vm := by rw [hvm]; exact State.WarmedH.refl s
  have hall0 : ∀ w ∈ Bundle.ownAtoms own ic cls names, w.before args s' = true := by
    intro w hw
    obtain ⟨z1, z2, z3, z4⟩ := hZ s' args hW0.alike (fun q _ _ => by rw [hhp])
    by_cases e1 : am_nh w = true
    · obtain ⟨g1, g2⟩ := hat w (List.mem_filter.mpr ⟨hw, e1⟩)
      exact va_tabs g2 hvm.symm g1
    · by_cases f1 : w = .isRef (.static Bundle.tN "UNASSIGNED_STACK" Bundle.steD)
      · rw [f1]; exact z1
      · by_cases f2 : w = .isRef (.static Bundle.tN "SUPPRESSED_SENTINEL" Bundle.listD)
        · rw [f2]; exact z2
        · by_cases f3 : w = .laysStatic Bundle.tN "UNASSIGNED_STACK" Bundle.steD
          · rw [f3]; exact z3
          · by_cases f4 : w = .laysStatic Bundle.tN "SUPPRESSED_SENTINEL" Bundle.listD
            · rw [f4]; exact z4
            · exact absurd (decide_eq_true (⟨f1, f2, f3, f4⟩ : _ ∧ _ ∧ _ ∧ _)) e1
  have hk' : (Cond.classLink own ik cls).before args s' = true := word_at hW0 (Or.inl (by first | rfl | simp [Cond.onTables, Cond.keeps, Cond.steady])) hk
  have hini' : (Cond.initialized cls).before args s' = true := word_at hW0 (Or.inl (by first | rfl | simp [Cond.onTables, Cond.keeps, Cond.steady])) hini
  have hown' : s'.vm.findClass own = some m.cls := by rw [hvm]; exact hown
  have hins : (Cond.instantiable cls 6).before args s' = true := hall0 _ (by simp [Bundle.ownAtoms])
  obtain ⟨vm₁, cX, kX, hfX, hkX, -, -, X₁, st1⟩ := Y.newCold hexec (own := own) (C := cls) (index := ik) (n := 6) hown' hk' hins hini'
    (g := F0 m pc ls rest) rfl (by rw [hb]; exact d0) (Nat.le_refl _) (Nat.le_refl _)
  generalize hT1 : (T.setVm vm₁).pushCell { cls := cX, slots := kX.instanceTypes.map defaultValue, vm := .none } = T1 at X₁ st1
  have hcat : (Value.ref T.heap.size).category = 1 := rfl
  have hcellA : T1.heap[T.heap.size]? = some (freshCell cX kX) := by rw [← hT1]; exact State.heap_pushCell_size _ _
  have d3' : decode c.code (pc + 3) = .ok (.dup, 1) := by rw [hb]; exact d3
  have d4' : decode c.code (pc + 4) = .ok (.ldc is, 2) := by rw [hb]; exact d4
  have hstr' : vk_R own is text sa s' := vk_R.warm hW0 hstr
  obtain ⟨U, hsteps, hrun, hend, hW, hsame, ce, hce, hO⟩ := X₁.ctorThrowS hexec htr (own := own) (cls := cls) (names := names) (ic := ic) hown' hcls hnames hall0 (fun x hx => nomatch hx) hfX hkX hcellA (by rw [hhp, hT]; exact Nat.le_refl _) (msg := .ref sa) rfl
    (g := { method := m, pc := pc + 6, locals := ls, stack := .ref sa :: .ref T.heap.size :: .ref T.heap.size :: rest, locked := none }) rfl hsize rfl rfl (rest := rest) rfl
    (by rw [hb]; exact d6) (by rw [hb]; exact d9) hout hRframes (by simp only [List.map_cons, List.sum_cons, hcat]; omega) hlocks
  have hWs : s.WarmedH U.vm := State.WarmedH.trans hW0 hW
  have hcl : s.vm.findClass cls = some ce.cls := by
    have h9 := hO.cls
    rw [hvm] at h9
    exact h9
  have hsz : T.heap.size = H.size := by rw [hT]
  have hkeep : H.size ≤ U.heap.size ∧ ∀ q : Nat, q < H.size → U.heap[q]? = H[q]? := by
    obtain ⟨-, h2, -, -, -, h6⟩ := id hsame
    rw [hhp] at h2
    refine ⟨h2, fun q hq9 => ?_⟩
    obtain ⟨c9, g1, g2, g3, g4⟩ := h6 q (s'.heap[q]'(by rw [hhp]; exact hq9)) (Array.getElem?_eq_getElem _)
    have hs9 : c9.slots = (s'.heap[q]'(by rw [hhp]; exact hq9)).slots := Array.ext_getElem? fun i => g4 i fun hm => nomatch hm
    have h9 : c9 = s'.heap[q]'(by rw [hhp]; exact hq9) := by
      rw [hs9] at g2
      exact g2
    have e5 : U.heap[q]? = some c9 := g1
    have e6 : s'.heap[q]? = some (s'.heap[q]'(by rw [hhp]; exact hq9)) := Array.getElem?_eq_getElem _
    rw [e5, h9, ← e6, hhp]
  have hall : s.sameButNew ({ U with vm := s.vm } : State) locs mc ms := by
    subst hA
    obtain ⟨e1, e2⟩ := hsame
    rw [State.setFrames_setFrames] at e1
    have h2 : (T.setVm s.vm).sameButNew ({ U with vm := s.vm } : State) [] (0 + 1) (0 + 6) := ⟨e1, e2⟩
    have h3 := X.same.trans h2
    rw [List.append_nil] at h3
    exact h3.mono hc hs
  have hPo : P (.threw T.heap.size) s U := by
    rw [hsz]
    exact hq U ce hWs hkeep.1 hkeep.2 (by rw [← hsz]; exact hce) hO.vm hcl
  refine ⟨U, st1 _ ?_, .threw T.heap.size, hrun, hend, hPo, hWs, locs, hall, hf⟩
  show Steps p.tables e below (T1.setTop { method := m, pc := pc + 3, locals := ls, stack := .ref T.heap.size :: rest, locked := none }) _
  jvm_step X₁.here [X₁.here.top, hexec, d3', Value.category]
  exact X₁.ldcString hexec (own := own) (text := text) (index := is) (a := sa) hown' hstr'.1 hstr'.2
    (g := { method := m, pc := pc + 4, locals := ls, stack := .ref T.heap.size :: .ref T.heap.size :: rest, locked := none }) rfl d4' _ hsteps
end AmThrow
end
section
/-! What the abstract machine keeps: references within, cells that only grow. -/
def am_Ok (L : am_L) (S : List Value) (h : am_H) : Prop := am_okh h ∧ (∀ v ∈ S, am_okv h.length v) ∧ ∀ v, some v ∈ L → am_okv h.length v
def am_Gr (h h' : am_H) : Prop := h.length ≤ h'.length ∧ am_sz h ≤ am_sz h'
theorem am_Gr.rf (h : am_H) : am_Gr h h := ⟨Nat.le_refl _, Nat.le_refl _⟩
theorem am_Gr.trans {a b c : am_H} (h1 : am_Gr a b) (h2 : am_Gr b c) : am_Gr a c := ⟨Nat.le_trans h1.1 h2.1, Nat.le_trans h1.2 h2.2⟩
theorem am_Gr.set {h : am_H} {k : Nat} {e e' : am_E} (hk : h[k]? = some e) (he : am_es e' = am_es e) : am_Gr h (h.set k e') := ⟨by rw [List.length_set]; exact Nat.le_refl _, by rw [am_sz_set hk he]; exact Nat.le_refl _⟩
theorem am_Gr.push (h : am_H) (e : am_E) : am_Gr h (h ++ [e]) := ⟨by simp, by rw [am_sz_push]; exact Nat.le_add_right _ _⟩
theorem am_setL {n : Nat} {L : am_L} {k : Nat} {v : Value} (hL : ∀ w, some w ∈ L → am_okv n w) (hv : am_okv n v) : ∀ w, some w ∈ L.set k (some v) → am_okv n w := by
  intro w hw
  rcases List.mem_or_eq_of_mem_set hw with h1 | h1
  · exact hL w h1
  · rw [Option.some.inj h1]; exact hv
theorem am_Ok.set {L : am_L} {S S' : List Value} {h : am_H} (ho : am_Ok L S h) (hS : ∀ v ∈ S', am_okv h.length v) {k : Nat} {e : am_E} (he : am_oke h.length e) : am_Ok L S' (h.set k e) := ⟨ho.1.set he, by rw [List.length_set]; exact hS, by rw [List.length_set]; exact ho.2.2⟩
theorem am_Ok.push {L : am_L} {S S' : List Value} {h : am_H} (ho : am_Ok L S h) (hS : ∀ v ∈ S', am_okv h.length v) {e : am_E} (he : am_oke (h.length + 1) e) : am_Ok L (.ref h.length :: S') (h ++ [e]) :=
  ⟨ho.1.push he, am_cons (by rw [List.length_append]; exact Nat.lt_succ_self _) (fun v hv => (hS v hv).mono (by simp)), fun v hv => (ho.2.2 v hv).mono (by simp)⟩
theorem am_Ok.S {L : am_L} {S S' : List Value} {h : am_H} (ho : am_Ok L S h) (hS : ∀ v ∈ S', am_okv h.length v) : am_Ok L S' h := ⟨ho.1, hS, ho.2.2⟩
theorem am_st_ok {F : am_F} (hnw : ∀ own k ci fs, am_nw F own k = some (ci, fs) → ∀ v ∈ fs, am_isR v = false) {own : String} {ini : Bool} {i : Instr} {len pc pc' : Nat} {L L' : am_L} {S S' : List Value} {h h' : am_H} (hs : am_st F own ini i len pc L S h = some (pc', L', S', h')) :
    am_Gr h h' ∧ (am_Ok L S h → am_Ok L' S' h') := by
  unfold am_st at hs
  split at hs
  -- iconst, bipush, sipush
  · cases hs; exact ⟨.rf _, fun ho => ho.S (am_cons trivial ho.2.1)⟩
  · cases hs; exact ⟨.rf _, fun ho => ho.S (am_cons trivial ho.2.1)⟩
  · cases hs; exact ⟨.rf _, fun ho => ho.S (am_cons trivial ho.2.1)⟩
  -- ldc
  · split at hs
    · cases hs; exact ⟨.rf _, fun ho => ho.S (am_cons trivial ho.2.1)⟩
    · cases hs
  -- iload_n, iload
  · split at hs
    · cases hs; exact ⟨.rf _, fun ho => ho.S (am_cons trivial ho.2.1)⟩
    · cases hs
  · split at hs
    · cases hs; exact ⟨.rf _, fun ho => ho.S (am_cons trivial ho.2.1)⟩
    · cases hs
  -- aload_n, aload
  · split at hs
    · rename_i v hv
      split at hs
      · cases hs; exact ⟨.rf _, fun ho => ho.S (am_cons (ho.2.2 _ (List.mem_of_getElem? hv)) ho.2.1)⟩
      · cases hs
    · cases hs
  · split at hs
    · rename_i v hv
      split at hs
      · cases hs; exact ⟨.rf _, fun ho => ho.S (am_cons (ho.2.2 _ (List.mem_of_getElem? hv)) ho.2.1)⟩
      · cases hs
    · cases hs
  -- istore_n, istore, astore_n, astore
  · split at hs
    · cases hs; exact ⟨.rf _, fun ho => ⟨ho.1, am_tl ho.2.1, am_setL ho.2.2 trivial⟩⟩
    · cases hs
  · split at hs
    · cases hs; exact ⟨.rf _, fun ho => ⟨ho.1, am_tl ho.2.1, am_setL ho.2.2 trivial⟩⟩
    · cases hs
  · split at hs
    · cases hs; exact ⟨.rf _, fun ho => ⟨ho.1, am_tl ho.2.1, am_setL ho.2.2 (am_hd ho.2.1)⟩⟩
    · cases hs
  · split at hs
    · cases hs; exact ⟨.rf _, fun ho => ⟨ho.1, am_tl ho.2.1, am_setL ho.2.2 (am_hd ho.2.1)⟩⟩
    · cases hs
  -- iinc
  · split at hs
    · cases hs; exact ⟨.rf _, fun ho => ⟨ho.1, ho.2.1, am_setL ho.2.2 trivial⟩⟩
    · cases hs
  -- dup, dup2, pop
  · split at hs
    · cases hs; exact ⟨.rf _, fun ho => ho.S (am_cons (am_hd ho.2.1) ho.2.1)⟩
    · cases hs
  · split at hs
    · cases hs; exact ⟨.rf _, fun ho => ho.S (am_cons (am_hd ho.2.1) (am_cons (am_hd (am_tl ho.2.1)) ho.2.1))⟩
    · cases hs
  · split at hs
    · cases hs; exact ⟨.rf _, fun ho => ho.S (am_tl ho.2.1)⟩
    · cases hs
  -- arithmetic
  · cases hs; exact ⟨.rf _, fun ho => ho.S (am_cons trivial (am_tl (am_tl ho.2.1)))⟩
  · cases hs; exact ⟨.rf _, fun ho => ho.S (am_cons trivial (am_tl (am_tl ho.2.1)))⟩
  · cases hs; exact ⟨.rf _, fun ho => ho.S (am_cons trivial (am_tl (am_tl ho.2.1)))⟩
  · cases hs; exact ⟨.rf _, fun ho => ho.S (am_cons trivial (am_tl (am_tl ho.2.1)))⟩
  · cases hs; exact ⟨.rf _, fun ho => ho.S (am_cons trivial (am_tl ho.2.1))⟩
  · cases hs; exact ⟨.rf _, fun ho => ho.S (am_cons trivial (am_tl (am_tl ho.2.1)))⟩
  -- goto, ifs
  · split at hs
    · cases hs; exact ⟨.rf _, fun ho => ho⟩
    · cases hs
  · split at hs
    · cases hs; exact ⟨.rf _, fun ho => ho.S (am_tl ho.2.1)⟩
    · cases hs
  · split at hs
    · cases hs; exact ⟨.rf _, fun ho => ho.S (am_tl (am_tl ho.2.1))⟩
    · cases hs
  -- switches
  · split at hs
    · split at hs
      · cases hs; exact ⟨.rf _, fun ho => ho.S (am_tl ho.2.1)⟩
      · cases hs
    · split at hs
      · split at hs
        · cases hs; exact ⟨.rf _, fun ho => ho.S (am_tl ho.2.1)⟩
        · cases hs
      · cases hs
  · split at hs
    · split at hs
      · cases hs; exact ⟨.rf _, fun ho => ho.S (am_tl ho.2.1)⟩
      · cases hs
    · cases hs
  -- getfield
  · split at hs
    · rename_i ci j ty fin c2 fs hf hh
      split at hs
      · split at hs
        · rename_i v hv
          cases hs
          exact ⟨.rf _, fun ho => ho.S (am_cons (ho.1 _ (List.mem_of_getElem? hh) v (List.mem_of_getElem? hv)) (am_tl ho.2.1))⟩
        · cases hs
      · cases hs
    · cases hs
  -- putfield
  · split at hs
    · rename_i ci j ty fin c2 fs hf hh
      split at hs
      · cases hs
        refine ⟨.set hh (by simp [am_es]), fun ho => ho.set (am_tl (am_tl ho.2.1)) (fun w hw => ?_)⟩
        rcases List.mem_or_eq_of_mem_set hw with h1 | h1
        · exact ho.1 _ (List.mem_of_getElem? hh) w h1
        · rw [h1]; exact am_hd ho.2.1
      · cases hs
    · cases hs
  -- new
  · split at hs
    · rename_i ci fs hf
      cases hs
      exact ⟨.push _ _, fun ho => ho.push ho.2.1 (fun v hv => by have h3 := hnw _ _ _ _ hf v hv; cases v <;> first | trivial | cases h3)⟩
    · cases hs
  -- newarray
  · split at hs
    · cases hs
    · split at hs
      · rename_i at0 n S0 _ e9 he9
        cases hs
        refine ⟨.push _ _, fun ho => ho.push (am_tl ho.2.1) ?_⟩
        unfold am_at0 at he9
        split at he9 <;> cases he9 <;> trivial
      · cases hs
  -- arraylength
  · split at hs
    · cases hs; exact ⟨.rf _, fun ho => ho.S (am_cons trivial (am_tl ho.2.1))⟩
    · split at hs
      · cases hs; exact ⟨.rf _, fun ho => ho.S (am_cons trivial (am_tl ho.2.1))⟩
      · cases hs; exact ⟨.rf _, fun ho => ho.S (am_cons trivial (am_tl ho.2.1))⟩
      · cases hs
    · cases hs
  -- iaload
  · split at hs
    · split at hs
      · cases hs; exact ⟨.rf _, fun ho => ho.S (am_cons trivial (am_tl (am_tl ho.2.1)))⟩
      · cases hs
    · split at hs
      · split at hs
        · cases hs; exact ⟨.rf _, fun ho => ho.S (am_cons trivial (am_tl (am_tl ho.2.1)))⟩
        · cases hs
      · cases hs
    · cases hs
  -- iastore
  · split at hs
    · rename_i hh
      split at hs
      · cases hs; exact ⟨.set hh rfl, fun ho => ho.set (am_tl (am_tl (am_tl ho.2.1))) trivial⟩
      · cases hs
    · cases hs
  -- baload
  · split at hs
    · split at hs
      · cases hs; exact ⟨.rf _, fun ho => ho.S (am_cons trivial (am_tl (am_tl ho.2.1)))⟩
      · cases hs
    · cases hs
  -- bastore
  · split at hs
    · rename_i hh
      split at hs
      · cases hs; exact ⟨.set hh rfl, fun ho => ho.set (am_tl (am_tl (am_tl ho.2.1))) trivial⟩
      · cases hs
    · cases hs
  -- laload
  · split at hs
    · split at hs
      · cases hs; exact ⟨.rf _, fun ho => ho.S (am_cons trivial (am_tl (am_tl ho.2.1)))⟩
      · cases hs
    · cases hs
  -- lastore
  · split at hs
    · rename_i hh
      split at hs
      · cases hs; exact ⟨.set hh rfl, fun ho => ho.set (am_tl (am_tl (am_tl ho.2.1))) trivial⟩
      · cases hs
    · cases hs
  · cases hs
def am_okO (h : am_H) (o : am_O) : Prop := match o with
  | .inl none => True
  | .inl (some v) => am_okv h.length v
  | .inr (x, k) => h[k]? = some (am_X x)
def am_OkS (a : am_S) : Prop := am_Ok a.2.2.1 a.2.2.2.1 a.2.2.2.2 ∧ ∀ x k, a.1 = some (x, k) → a.2.2.2.2[k]? = some (am_X x)
def am_okE (E : am_EvT) : Prop := ∀ j as h o h', E j as h o h' → am_Gr h h' ∧ (am_okh h → (∀ v ∈ as, am_okv h.length v) → am_okh h' ∧ am_okO h' o)
theorem am_cp_ok {h h' : am_H} {a b : Nat} {sp dp n : Int32} (hs : am_cp h a sp b dp n = some h') : am_Gr h h' ∧ (am_okh h → am_okh h') ∧ h'.length = h.length := by
  unfold am_cp at hs
  split at hs
  · rename_i h1 h2
    split at hs
    · cases hs
      exact ⟨.set h2 rfl, fun ho => ho.set trivial, by simp⟩
    · cases hs
  · cases hs
theorem am_Stp_ok {F : am_F} (hnw : ∀ own k ci fs, am_nw F own k = some (ci, fs) → ∀ v ∈ fs, am_isR v = false) {cl : List vw_C} {ms : Nat → Option am_M} {E : am_EvT} (hE : am_okE E) {M : am_M} {a b : am_S} (hs : am_Stp F cl ms E M a b) : am_Gr a.2.2.2.2 b.2.2.2.2 ∧ (am_OkS a → am_OkS b) := by
  rcases hs with ⟨pc, L, S, h, i, len, ⟨pc', L', S', h'⟩, rfl, h2, h3, rfl⟩ | ⟨pc, L, S, h, i, len, j, w, N, as, rest, o, h', rfl, h2, h3, h4, h5, h6, rfl, h8, h9, h10, h11, rfl⟩ | ⟨pc, L, h, i, len, j, k, rest, rfl, h2, h3, h4, rfl⟩ | ⟨pc, L, h, i, len, j, k1, sp, k2, dp, n, rest, h', rfl, h2, h3, h4, h5, rfl⟩ | ⟨pc, L, h, i, len, j, w, x, y, rest, rfl, h2, h3, h4, h5, rfl⟩ | ⟨pc, L, S, h, x, k, f, t, w, rfl, h2, h3, h4, rfl⟩
  · obtain ⟨g1, g2⟩ := am_st_ok hnw h3
    exact ⟨g1, fun ho => ⟨g2 ho.1, fun x k hx => by cases hx⟩⟩
  · obtain ⟨g1, g2⟩ := hE _ _ _ _ _ h11
    rcases o with v | ⟨x, k⟩
    · refine ⟨g1, fun ho => ?_⟩
      obtain ⟨⟨o1, o2, o3⟩, -⟩ := ho
      obtain ⟨q1, q2⟩ := g2 o1 (fun v hv => o2 v (List.mem_append_left _ (List.mem_reverse.mpr hv)))
      refine ⟨⟨q1, fun u hu => ?_, fun u hu => (o3 u hu).mono g1.1⟩, fun x k hx => by cases hx⟩
      rcases List.mem_append.mp hu with h1 | h1
      · cases v with
        | none => cases h1
        | some v =>
          rw [show u = v by simpa using h1]
          exact q2
      · exact (o2 u (List.mem_append_right _ h1)).mono g1.1
    · refine ⟨g1, fun ho => ?_⟩
      obtain ⟨⟨o1, o2, o3⟩, -⟩ := ho
      obtain ⟨q1, q2⟩ := g2 o1 (fun v hv => o2 v (List.mem_append_left _ (List.mem_reverse.mpr hv)))
      exact ⟨⟨q1, fun u hu => (o2 u (List.mem_append_right _ hu)).mono g1.1, fun u hu => (o3 u hu).mono g1.1⟩, fun x' k' hx => by cases hx; exact q2⟩
  · exact ⟨.rf _, fun ho => ⟨ho.1.S (am_tl ho.1.2.1), fun x k hx => by cases hx⟩⟩
  · obtain ⟨g1, g2, g3⟩ := am_cp_ok h5
    refine ⟨g1, fun ho => ?_⟩
    obtain ⟨⟨o1, o2, o3⟩, -⟩ := ho
    exact ⟨⟨g2 o1, fun u hu => by show am_okv h'.length u; rw [g3]; exact am_tl (am_tl (am_tl (am_tl (am_tl o2)))) u hu, fun u hu => by show am_okv h'.length u; rw [g3]; exact o3 u hu⟩, fun x k hx => by cases hx⟩
  · exact ⟨.rf _, fun ho => ⟨ho.1.S (am_cons trivial (am_tl (am_tl ho.1.2.1))), fun x k hx => by cases hx⟩⟩
  · refine ⟨.rf _, fun ho => ?_⟩
    have hk : h[k]? = some (am_X x) := ho.2 x k rfl
    exact ⟨ho.1.S (am_cons ((List.getElem?_eq_some_iff.mp hk).1) (fun v hv => nomatch hv)), fun x k hx => by cases hx⟩
theorem am_fin_ok {F : am_F} {M : am_M} {a : am_S} {r : am_O × am_H} (hs : am_fin F M a r) : am_Gr a.2.2.2.2 r.2 ∧ (am_OkS a → am_okh r.2 ∧ am_okO r.2 r.1) := by
  rcases hs with ⟨pc, L, v, h, ty, rfl, h2, h3, h4, rfl⟩ | ⟨pc, L, h, rfl, h2, h3, rfl⟩ | ⟨pc, L, k, h, ty, rfl, h2, h3, h4, rfl⟩ | ⟨pc, L, S, h, ⟨x, k⟩, rfl, h2, rfl⟩ | ⟨pc, L, S, h, x, rfl, h2, h3, h4, rfl⟩
  · exact ⟨.rf _, fun ho => ⟨ho.1.1, trivial⟩⟩
  · exact ⟨.rf _, fun ho => ⟨ho.1.1, trivial⟩⟩
  · exact ⟨.rf _, fun ho => ⟨ho.1.1, am_hd ho.1.2.1⟩⟩
  · exact ⟨.rf _, fun ho => ⟨ho.1.1, ho.2 x k rfl⟩⟩
  · refine ⟨.push _ _, fun ho => ⟨ho.1.1.push (fun v hv => ?_), ?_⟩⟩
    · simp at hv
      rw [hv]
      trivial
    · show (h ++ [am_X x])[h.length]? = some (am_X x)
      simp
theorem am_Go_ok {F : am_F} (hnw : ∀ own k ci fs, am_nw F own k = some (ci, fs) → ∀ v ∈ fs, am_isR v = false) {cl : List vw_C} {ms : Nat → Option am_M} {E : am_EvT} (hE : am_okE E) {M : am_M} {a : am_S} {r : am_O × am_H} (hg : am_Go F cl ms E M r a) : am_Gr a.2.2.2.2 r.2 ∧ (am_OkS a → am_okh r.2 ∧ am_okO r.2 r.1) :=
  hg (fun a => am_Gr a.2.2.2.2 r.2 ∧ (am_OkS a → am_okh r.2 ∧ am_okO r.2 r.1)) (fun _ h => am_fin_ok h) (fun a b hs hb => by
    obtain ⟨g1, g2⟩ := am_Stp_ok hnw hE hs
    exact ⟨g1.trans hb.1, fun ho => hb.2 (g2 ho)⟩)
theorem am_ent_ok {M : am_M} {as : List Value} {n : Nat} (h : ∀ v ∈ as, am_okv n v) : ∀ v, some v ∈ am_ent M as → am_okv n v := by
  intro v hv
  rcases List.mem_append.mp hv with h1 | h1
  · obtain ⟨w, hw, e⟩ := List.mem_map.mp h1
    rw [← Option.some.inj e]
    exact h w hw
  · have := List.eq_of_mem_replicate h1
    cases this
theorem am_Ev_ok {F : am_F} (hnw : ∀ own k ci fs, am_nw F own k = some (ci, fs) → ∀ v ∈ fs, am_isR v = false) {cl : List vw_C} {ms : Nat → Option am_M} : ∀ d, am_okE (am_Ev F cl ms d)
  | 0 => fun _ _ _ _ _ h => h.elim
  | d + 1 => fun j as h o h' ⟨M, _, _, _, _, hg⟩ => by
    obtain ⟨g1, g2⟩ := am_Go_ok hnw (am_Ev_ok hnw d) hg
    exact ⟨g1, fun o1 o2 => g2 ⟨⟨o1, (fun v hv => by cases hv), am_ent_ok o2⟩, fun x k hx => by cases hx⟩⟩
end
section
/-! THE ABSTRACT MACHINE IS SOUND: a call that it says ends so, ends so in the machine. -/
def am_Kx (F : am_F) (cl : List vw_C) (D : va_G) (c3 : am_A3) (A : Nat → Prop) (b : Nat) (Ns : List Jvm.Cond) (St : List (String × Nat × String × Nat)) (U : State) : Prop :=
  va_K D cl (am_ty c3) U ∧ va_X b (am_sn F) (am_sx F) U U.heap ∧ b < U.heap.size ∧ (∀ q : Nat, U.heap.size ≤ q → A q) ∧ (∀ w ∈ Ns, va_Nw w U) ∧ (∀ q ∈ St, vk_R q.1 q.2.1 q.2.2.1 q.2.2.2 U) ∧ am_Zs A U U.heap
def am_nk (w : Jvm.Cond) : Bool := match w with
  | .methodLinkNest _ _ _ _ => true
  | .castable _ _ => true
  | .declares _ => true
  | _ => false
theorem am_nk_warm {w : Jvm.Cond} (hw : am_nk w = true) {s U : State} (hW : s.WarmedH U.vm) (h : va_Nw w s) : va_Nw w U := by
  cases w <;> first | exact va_Nw.warmM hW h | exact va_Nw.warmC hW h | exact va_Nw.warmD hW h | cases hw
theorem am_nk_tab {w : Jvm.Cond} (hw : am_nk w = true) : w.onTables = true := by
  cases w <;> first | rfl | cases hw
theorem am_Kx.at {F : am_F} {cl : List vw_C} {D : va_G} {c3 : am_A3} {A : Nat → Prop} {b : Nat} {Ns : List Jvm.Cond} {St : List (String × Nat × String × Nat)} {s U : State} {H : Heap} {locs : List Loc} (hNs : ∀ w ∈ Ns, am_nk w = true) (hbA : ¬ A b) (h : am_Kx F cl D c3 A b Ns St s) (hU : U.heap = H) (hW : s.WarmedH U.vm) (hS : va_S A s.heap H locs) : am_Kx F cl D c3 A b Ns St U := by
  obtain ⟨h1, h2, h3, h4, h5, h6, h7⟩ := h
  subst hU
  exact ⟨va_K.moved hW.alike h1, va_X.moved hW.alike (h2.kept (hS.2.1 b h3 hbA)), Nat.lt_of_lt_of_le h3 hS.1, fun q hq => h4 q (Nat.le_trans hS.1 hq), fun w hw => am_nk_warm (hNs w hw) hW (h5 w hw), fun q hq => vk_R.warm hW (h6 q hq), (h7.moved hW.alike).kept hS.1 hS.2.1⟩
def am_Pc (F : am_F) (cl : List vw_C) (D : va_G) (c3 : am_A3) (A : Nat → Prop) (b : Nat) (Ns : List Jvm.Cond) (St : List (String × Nat × String × Nat)) (ad : Nat → Nat) (h : am_H) (as : List Value) : Array Value → State → Prop := fun v U =>
  v = (as.map (am_tr b ad)).toArray ∧ va_P D cl (am_ws c3 b ad h) U.heap ∧ va_D A (am_ws c3 b ad h) ∧ am_Kx F cl D c3 A b Ns St U
def am_oc (b : Nat) (ad : Nat → Nat) (o : am_O) : Outcome := match o with
  | .inl v => .returned (v.map (am_tr b ad))
  | .inr (_, k) => .threw (ad k)
def am_P (cl : List vw_C) (D : va_G) (c3 : am_A3) (A : Nat → Prop) (b : Nat) (ad : Nat → Nat) (h : am_H) (o : am_O) (h' : am_H) : Outcome → State → State → Prop := fun oc st t =>
  ∃ ad' : Nat → Nat, (∀ k, k < h.length → ad' k = ad k) ∧ oc = am_oc b ad' o ∧ va_P D cl (am_ws c3 b ad' h') t.heap ∧ va_D A (am_ws c3 b ad' h') ∧ va_F A st t
theorem am_P_two {cl : List vw_C} {D : va_G} {c3 : am_A3} {A : Nat → Prop} {b : Nat} {ad : Nat → Nat} {h : am_H} {o : am_O} {h' : am_H} {oc : Outcome} {st t : State} (k : am_P cl D c3 A b ad h o h' oc st t) : (∃ v, oc = .returned v) ∨ ∃ q, oc = .threw q := by
  obtain ⟨ad', -, e, -⟩ := k
  rcases o with v | ⟨x, k⟩
  · exact Or.inl ⟨_, e⟩
  · exact Or.inr ⟨_, e⟩
theorem am_Pc_blind {F : am_F} {cl : List vw_C} {D : va_G} {c3 : am_A3} {A : Nat → Prop} {b : Nat} {Ns : List Jvm.Cond} {St : List (String × Nat × String × Nat)} {ad : Nat → Nat} {h : am_H} {as : List Value} (hNs : ∀ w ∈ Ns, am_nk w = true) (hbA : ¬ A b) : FrameBlind (am_Pc F cl D c3 A b Ns St ad h as) := by
  intro a U g mk ⟨h1, h2, h3, h4⟩
  exact ⟨h1, h2, h3, h4.at hNs hbA (U := U.calling g mk a) rfl (State.WarmedH.refl U) (locs := []) va_S.rf⟩
def am_rm (d mc ms : Nat) : Room := { frames := d + 10, cells := mc, slots := ms, locals := 60 * d + 200 }
/-- the methods are what the tables say -/
def am_okMs (cl : List vw_C) (ms : Nat → Option am_M) (hm : Nat → List (Nat × Nat × Nat × Nat)) (Tg Ns : List Jvm.Cond) : Prop :=
  ∀ j M, ms j = some M → (∀ e ∈ am_cd M, decode (am_b M) e.1 = .ok (e.2.1, e.2.2)) ∧ plainName (am_y M).cls = true ∧ am_cw (am_y M) (am_b M) (am_n M) (am_r M) (hm j) ∈ Tg ∧ Cond.initialized (am_y M).cls ∈ Tg ∧
    ((am_y M).cls ≠ "java/lang/invoke/MethodHandle" ∧ (am_y M).cls ≠ "java/lang/invoke/VarHandle") ∧ am_n M ≤ 40 ∧
    ((am_hs M = [] ∧ hm j = []) ∨ ∃ (f t w x ck : Nat) (E : String) (T : u_T), am_hs M = [(f, t, w, x)] ∧ hm j = [(f, t, w, ck)] ∧ ck ≠ 0 ∧ Cond.classLink (am_y M).cls ck E ∈ Tg ∧ cl[x]? = some (E, T, 0) ∧ Cond.castable E E ∈ Ns)
/-- the calls are what the tables say -/
def am_okCl (F : am_F) (ms : Nat → Option am_M) (hm : Nat → List (Nat × Nat × Nat × Nat)) (Tg Ns : List Jvm.Cond) : Prop :=
  ∀ own k j w, am_cl F own k = some (j, w) →
    (w = 5 → Cond.methodLink own k Lib.objectInit ∈ Tg ∧ Cond.instanceMethod Lib.objectInit ∈ Tg ∧ Cond.code Lib.objectInit ⟨#[0xb1]⟩ 1 none ∈ Tg) ∧
    (w = 6 → Cond.methodLink own k arraycopyName ∈ Tg ∧ Cond.native arraycopyName ∈ Tg ∧ Cond.static arraycopyName ∈ Tg ∧ Cond.initialized "java/lang/System" ∈ Tg) ∧
    (w = 7 → Cond.methodLink own k Lib.Math.max.name ∈ Tg ∧ Cond.static Lib.Math.max.name ∈ Tg ∧ Cond.initialized "java/lang/Math" ∈ Tg ∧ Cond.code Lib.Math.max.name Lib.Math.max.code 2 (some .int) ∈ Tg) ∧
    (w = 8 → Cond.methodLink own k Lib.Math.min.name ∈ Tg ∧ Cond.static Lib.Math.min.name ∈ Tg ∧ Cond.initialized "java/lang/Math" ∈ Tg ∧ Cond.code Lib.Math.min.name Lib.Math.min.code 2 (some .int) ∈ Tg) ∧
    (w < 5 → ∀ M, ms j = some M → ∃ n, (parseMethodDescriptor (am_y M).desc).map (fun d => d.parameters.length) = some n ∧
      (w = 0 → Cond.methodLink own k (am_y M) ∈ Tg ∧ Cond.instanceMethod (am_y M) ∈ Tg ∧ Cond.selects (am_y M).cls (am_y M) (am_y M) ∈ Tg ∧ am_k M = n + 1) ∧
      (w = 1 → Cond.methodLink own k (am_y M) ∈ Tg ∧ Cond.instanceMethod (am_y M) ∈ Tg ∧ (am_y M).name = "<init>" ∧ am_r M = none ∧ hm j = [] ∧ am_k M = n + 1) ∧
      (w = 2 → Cond.methodLink own k (am_y M) ∈ Tg ∧ Cond.static (am_y M) ∈ Tg ∧ am_k M = n) ∧
      (w = 3 → ∃ host, Cond.methodLinkNest own k (am_y M) host ∈ Ns ∧ Cond.instanceMethod (am_y M) ∈ Tg ∧ Cond.selects (am_y M).cls (am_y M) (am_y M) ∈ Tg ∧ am_k M = n + 1) ∧
      (w = 4 → ∃ host, Cond.methodLinkNest own k (am_y M) host ∈ Ns ∧ Cond.instanceMethod (am_y M) ∈ Tg ∧ (am_y M).name = "<init>" ∧ am_r M = none ∧ hm j = [] ∧ am_k M = n + 1))
/-- what is thrown is what the tables say -/
def am_okTh (F : am_F) (cl : List vw_C) (ms : Nat → Option am_M) (Tg Ns : List Jvm.Cond) (St : List (String × Nat × String × Nat)) : Prop :=
  ∀ j M pc ik is ic x, ms j = some M → (am_cd M).lookup pc = some (.new ik, 3) → (am_cd M).lookup (pc + 4) = some (.ldc is, 2) → (am_cd M).lookup (pc + 6) = some (.invokespecial ic, 3) → am_th F (am_y M).cls ik = some x →
    ∃ (E : String) (T : u_T) (text : String) (sa : Nat) (names : List String), cl[x]? = some (E, T, 0) ∧ Bundle.fit E = true ∧ (∀ n ∈ names, Bundle.fit n = true) ∧ names.length ≤ 4 ∧ Cond.classLink (am_y M).cls ik E ∈ Tg ∧ Cond.initialized E ∈ Tg ∧ ((am_y M).cls, is, text, sa) ∈ St ∧
      (∀ w ∈ (Bundle.ownAtoms (am_y M).cls ic E names).filter am_nh, (w ∈ Tg ∨ w ∈ Ns) ∧ w.onTables = true)
theorem am_look {cd : List (Nat × Instr × Nat)} {pc : Nat} {x : Instr × Nat} (h : cd.lookup pc = some x) : (pc, x) ∈ cd := by
  induction cd with
  | nil => cases h
  | cons a t ih =>
    obtain ⟨k, v⟩ := a
    rw [List.lookup_cons] at h
    split at h
    · rename_i hk
      cases h
      have : pc = k := by simpa using hk
      rw [this]
      exact List.mem_cons_self
    · exact List.mem_cons_of_mem _ (ih h)
section AmBody
variable {p : Program} {l : Launch} {e : Env} {s : State} {m : MethodId} {args : Array Value} {below : List Frame} {meth : Method} {c : Code}
/-- behind a call: the relation again -/
theorem am_Rl.call {cl : List vw_C} {D : va_G} {c3 : am_A3} {A : Nat → Prop} {b nL n0 : Nat} {ad0 ad ad' : Nat → Nat} {L : am_L} {S S' : List Value} {h h' : am_H} {ls : Array Slot} {H0 : Heap} {locs L9 : List Loc} {st t : State} (hR : am_Rl cl D c3 A b nL n0 ad0 ad L S h ls H0 st.heap locs) (hle : h.length ≤ h'.length) (had : ∀ k, k < h.length → ad' k = ad k) (hok : am_okh h') (hS' : ∀ v ∈ S', am_okv h'.length v)
    (hP : va_P D cl (am_ws c3 b ad' h') t.heap) (hD : va_D A (am_ws c3 b ad' h')) (hF : va_F A st t) (hL9 : ∀ q ∈ L9, A q.base) : am_Rl cl D c3 A b nL n0 ad0 ad' L S' h' ls H0 t.heap (locs ++ L9) := by
  obtain ⟨hL, hoS, hoL, hoh, hP0, hD0, hS, hn0, had0⟩ := hR
  refine ⟨hL.ext hoL had, hS', fun v hv => (hoL v hv).mono hle, hok, hP, hD, ⟨Nat.le_trans hS.1 hF.1, fun q h1 h2 => ?_, fun q hq => ?_⟩, Nat.le_trans hn0 hle, fun k hk => ?_⟩
  · rw [hF.2 q (Nat.lt_of_lt_of_le h1 hS.1) h2]
    exact hS.2.1 q h1 h2
  · rcases List.mem_append.mp hq with h1 | h1
    · exact hS.2.2 q h1
    · exact hL9 q h1
  · rw [had k (Nat.lt_of_lt_of_le hk hn0)]
    exact had0 k hk
end AmBody
end
section
section AmBody
variable {p : Program} {l : Launch} {e : Env} {s : State} {m : MethodId} {args : Array Value} {below : List Frame} {meth : Method} {c : Code}
/-- what is to be shown of a state of the abstract machine: the machine, standing there, comes to the end -/
def am_Pm (cl : List vw_C) (D : va_G) (c3 : am_A3) (A : Nat → Prop) (b nL : Nat) (ad0 : Nat → Nat) (h0 : am_H) (o : am_O) (hf : am_H) (R : Room) (p : Program) (l : Launch) (e : Env) (s : State) (m : MethodId) (args : Array Value) (below : List Frame) (meth : Method) (c : Code) (a : am_S) : Prop :=
  am_Gr a.2.2.2.2 hf ∧ ∀ (ad : Nat → Nat) (ls : Array Slot) (H : Heap) (locs : List Loc), am_Rl cl D c3 A b nL h0.length ad0 ad a.2.2.1 a.2.2.2.1 a.2.2.2.2 ls s.heap H locs → am_Gr h0 a.2.2.2.2 → (∀ x k, a.1 = some (x, k) → a.2.2.2.2[k]? = some (am_X x)) →
    match a.1 with
    | none => W p l e R s m args below meth c H locs (a.2.2.2.2.length - h0.length) (am_sz a.2.2.2.2 - am_sz h0) (am_MQ below (am_P cl D c3 A b ad0 h0 o hf) args s (hf.length - h0.length) (am_sz hf - am_sz h0) A) (F0 m a.2.1 ls (a.2.2.2.1.map (am_tr b ad)))
    | some (_, k) => am_WX p l e R s m args below meth c H locs (a.2.2.2.2.length - h0.length) (am_sz a.2.2.2.2 - am_sz h0) (am_MQ below (am_P cl D c3 A b ad0 h0 o hf) args s (hf.length - h0.length) (am_sz hf - am_sz h0) A) (F0 m a.2.1 ls (a.2.2.2.1.map (am_tr b ad))) (ad k)
/-- at the end of a method: an int -/
theorem am_fin1 {F : am_F} {cl : List vw_C} {ms : Nat → Option am_M} {hm : Nat → List (Nat × Nat × Nat × Nat)} {Tg Ns : List Jvm.Cond} {St : List (String × Nat × String × Nat)} {D : va_G} {c3 : am_A3} {A : Nat → Prop} {b : Nat} {ad0 : Nat → Nat} {h0 h : am_H} {d j : Nat} {M : am_M} {ad : Nat → Nat} {ls : Array Slot} {H : Heap} {locs : List Loc} {L : am_L} {pc : Nat} {R : Room}
    (hC : am_Cx F cl Tg D c3 A b p s m args meth c (am_b M) (am_n M) (am_y M).cls (am_ini M)) {v : Int32} {ty : FieldType} (hd : decode (am_b M) pc = .ok (.ireturn, 1)) (hr : meth.sig.returnType = some ty) (hn : narrow ty (.int v) = .int v) (hlocks : meth.locks = false) (hR : am_Rl cl D c3 A b (am_n M) h0.length ad0 ad L [.int v] h ls s.heap H locs) :
    W p l e R s m args below meth c H locs (h.length - h0.length) (am_sz h - am_sz h0) (am_MQ below (am_P cl D c3 A b ad0 h0 (.inl (some (.int v))) h) args s (h.length - h0.length) (am_sz h - am_sz h0) A) (F0 m pc ls [.int v]) := by
  obtain ⟨hx, hb, -⟩ := hC
  obtain ⟨hL, hoS, hoL, hoh, hP, hD, hS, hn0, had⟩ := hR
  exact am_end (o := .returned (some (.int v))) (W.zret hx hb hr hn (fun t ht _ => ⟨rfl, ht⟩) hS.2.2 hd hlocks) (fun t ht hW => ⟨ad, had, rfl, by rw [ht]; exact hP, hD, hS.F ht⟩) (Nat.le_refl _) (Nat.le_refl _)
theorem am_fin2 {F : am_F} {cl : List vw_C} {ms : Nat → Option am_M} {hm : Nat → List (Nat × Nat × Nat × Nat)} {Tg Ns : List Jvm.Cond} {St : List (String × Nat × String × Nat)} {D : va_G} {c3 : am_A3} {A : Nat → Prop} {b : Nat} {ad0 : Nat → Nat} {h0 h : am_H} {d j : Nat} {M : am_M} {ad : Nat → Nat} {ls : Array Slot} {H : Heap} {locs : List Loc} {L : am_L} {pc : Nat} {R : Room}
    (hC : am_Cx F cl Tg D c3 A b p s m args meth c (am_b M) (am_n M) (am_y M).cls (am_ini M)) (hd : decode (am_b M) pc = .ok (.return_, 1)) (hr : meth.sig.returnType = none) (hlocks : meth.locks = false) (hR : am_Rl cl D c3 A b (am_n M) h0.length ad0 ad L [] h ls s.heap H locs) :
    W p l e R s m args below meth c H locs (h.length - h0.length) (am_sz h - am_sz h0) (am_MQ below (am_P cl D c3 A b ad0 h0 (.inl none) h) args s (h.length - h0.length) (am_sz h - am_sz h0) A) (F0 m pc ls []) := by
  obtain ⟨hx, hb, -⟩ := hC
  obtain ⟨hL, hoS, hoL, hoh, hP, hD, hS, hn0, had⟩ := hR
  exact am_end (o := .returned none) (W.vret hx hb hr (fun t ht _ => ⟨rfl, ht⟩) hS.2.2 hd hlocks) (fun t ht hW => ⟨ad, had, rfl, by rw [ht]; exact hP, hD, hS.F ht⟩) (Nat.le_refl _) (Nat.le_refl _)
theorem am_fin3 {F : am_F} {cl : List vw_C} {ms : Nat → Option am_M} {hm : Nat → List (Nat × Nat × Nat × Nat)} {Tg Ns : List Jvm.Cond} {St : List (String × Nat × String × Nat)} {D : va_G} {c3 : am_A3} {A : Nat → Prop} {b : Nat} {ad0 : Nat → Nat} {h0 h : am_H} {d j : Nat} {M : am_M} {ad : Nat → Nat} {ls : Array Slot} {H : Heap} {locs : List Loc} {L : am_L} {pc : Nat} {R : Room}
    (hC : am_Cx F cl Tg D c3 A b p s m args meth c (am_b M) (am_n M) (am_y M).cls (am_ini M)) {k : Nat} {ty : FieldType} (hd : decode (am_b M) pc = .ok (.areturn, 1)) (hr : meth.sig.returnType = some ty) (hty : (∃ n, ty = .object n) ∨ ∃ t, ty = .array t) (hlocks : meth.locks = false) (hR : am_Rl cl D c3 A b (am_n M) h0.length ad0 ad L [.ref k] h ls s.heap H locs) :
    W p l e R s m args below meth c H locs (h.length - h0.length) (am_sz h - am_sz h0) (am_MQ below (am_P cl D c3 A b ad0 h0 (.inl (some (.ref k))) h) args s (h.length - h0.length) (am_sz h - am_sz h0) A) (F0 m pc ls [.ref (ad k)]) := by
  obtain ⟨hx, hb, -⟩ := hC
  obtain ⟨hL, hoS, hoL, hoh, hP, hD, hS, hn0, had⟩ := hR
  exact am_end (o := .returned (some (.ref (ad k)))) (W.aret hx hb hr hty (Or.inr ⟨_, rfl⟩) (fun t ht _ => ⟨rfl, ht⟩) hS.2.2 hd hlocks) (fun t ht hW => ⟨ad, had, rfl, by rw [ht]; exact hP, hD, hS.F ht⟩) (Nat.le_refl _) (Nat.le_refl _)
theorem am_fin4 {F : am_F} {cl : List vw_C} {ms : Nat → Option am_M} {hm : Nat → List (Nat × Nat × Nat × Nat)} {Tg Ns : List Jvm.Cond} {St : List (String × Nat × String × Nat)} {D : va_G} {c3 : am_A3} {A : Nat → Prop} {b : Nat} {ad0 : Nat → Nat} {h0 h : am_H} {d j : Nat} {M : am_M} {ad : Nat → Nat} {ls : Array Slot} {H : Heap} {locs : List Loc} {L : am_L} {pc : Nat} {R : Room}
    (hC : am_Cx F cl Tg D c3 A b p s m args meth c (am_b M) (am_n M) (am_y M).cls (am_ini M)) {x k : Nat} {S : List Value} (hhs : (am_hs M = [] ∧ hm j = []) ∨ ∃ (f t w x ck : Nat) (E : String) (T : u_T), am_hs M = [(f, t, w, x)] ∧ hm j = [(f, t, w, ck)] ∧ ck ≠ 0 ∧ Cond.classLink (am_y M).cls ck E ∈ Tg ∧ cl[x]? = some (E, T, 0) ∧ Cond.castable E E ∈ Ns)
    (htab : c.exceptionTable.toList.map (fun h => (h.startPc, h.endPc, h.handlerPc, h.catchType)) = hm j) (h2 : ∀ q ∈ am_hs M, ¬ (q.1 ≤ pc ∧ pc < q.2.1)) (hlocks : meth.locks = false) (hR : am_Rl cl D c3 A b (am_n M) h0.length ad0 ad L S h ls s.heap H locs) :
    am_WX p l e R s m args below meth c H locs (h.length - h0.length) (am_sz h - am_sz h0) (am_MQ below (am_P cl D c3 A b ad0 h0 (.inr (x, k)) h) args s (h.length - h0.length) (am_sz h - am_sz h0) A) (F0 m pc ls (S.map (am_tr b ad))) (ad k) := by
  obtain ⟨hL, hoS, hoL, hoh, hP, hD, hS, hn0, had⟩ := hR
  refine am_out (fun z hz => ?_) hlocks (fun t ht hW => ⟨ad, had, rfl, by rw [ht]; exact hP, hD, hS.F ht⟩) hS.2.2 (Nat.le_refl _) (Nat.le_refl _)
  have hz' : (z.startPc, z.endPc, z.handlerPc, z.catchType) ∈ hm j := by rw [← htab]; exact List.mem_map.mpr ⟨z, hz, rfl⟩
  rcases hhs with ⟨q1, q2⟩ | ⟨f, t, w, x', ck, E, T, q1, q2, -⟩
  · rw [q2] at hz'
    cases hz'
  · rw [q2] at hz'
    have e1 : (z.startPc, z.endPc, z.handlerPc, z.catchType) = (f, t, w, ck) := List.mem_singleton.mp hz'
    have h9 := h2 (f, t, w, x') (by rw [q1]; exact List.mem_cons_self)
    have e2 : z.startPc = f := congrArg (fun q => q.1) e1
    have e3 : z.endPc = t := congrArg (fun q => q.2.1) e1
    show (decide (z.startPc ≤ pc) && decide (pc < z.endPc)) = false
    rw [e2, e3]
    by_cases h10 : f ≤ pc
    · rw [decide_eq_false (fun h11 : pc < t => h9 ⟨h10, h11⟩), Bool.and_false]
    · rw [decide_eq_false h10, Bool.false_and]
theorem am_fin5 {F : am_F} {cl : List vw_C} {ms : Nat → Option am_M} {hm : Nat → List (Nat × Nat × Nat × Nat)} {Tg Ns : List Jvm.Cond} {St : List (String × Nat × String × Nat)} {D : va_G} {c3 : am_A3} {A : Nat → Prop} {b : Nat} {ad0 : Nat → Nat} {h0 h : am_H} {d j : Nat} {M : am_M} {ad : Nat → Nat} {ls : Array Slot} {H : Heap} {locs : List Loc} {L : am_L} {pc : Nat} {R : Room}
    (hC : am_Cx F cl Tg D c3 A b p s m args meth c (am_b M) (am_n M) (am_y M).cls (am_ini M)) {x : Nat} {S : List Value} (hKx : am_Kx F cl D c3 A b Ns St s) (hl : l.stackTraces = false) {ik is ic : Nat} {E : String} {T : u_T} {text : String} {sa : Nat} {names : List String} (hcx : cl[x]? = some (E, T, 0)) (g2 : Bundle.fit E = true) (g3 : ∀ n ∈ names, Bundle.fit n = true) (g4 : names.length ≤ 4) (g5 : Cond.classLink (am_y M).cls ik E ∈ Tg) (g6 : Cond.initialized E ∈ Tg) (g7 : ((am_y M).cls, is, text, sa) ∈ St) (g8 : ∀ w ∈ (Bundle.ownAtoms (am_y M).cls ic E names).filter am_nh, (w ∈ Tg ∨ w ∈ Ns) ∧ w.onTables = true)
    (d0 : decode (am_b M) pc = .ok (.new ik, 3)) (d3 : decode (am_b M) (pc + 3) = .ok (.dup, 1)) (d4 : decode (am_b M) (pc + 4) = .ok (.ldc is, 2)) (d6 : decode (am_b M) (pc + 6) = .ok (.invokespecial ic, 3)) (d9 : decode (am_b M) (pc + 9) = .ok (.athrow, 1)) (hempty : c.exceptionTable.toList = []) (h4 : (S.map fun v => v.category).sum ≤ 8) (hlocks : meth.locks = false)
    (hRf : 8 ≤ R.frames) (hRl : 200 ≤ R.locals) (hRc : h.length + 1 - h0.length ≤ R.cells) (hRs : am_sz h + 6 - am_sz h0 ≤ R.slots) (hg0 : am_Gr h0 h) (hR : am_Rl cl D c3 A b (am_n M) h0.length ad0 ad L S h ls s.heap H locs) :
    W p l e R s m args below meth c H locs (h.length - h0.length) (am_sz h - am_sz h0) (am_MQ below (am_P cl D c3 A b ad0 h0 (.inr (x, h.length)) (h ++ [am_X x])) args s (h.length + 1 - h0.length) (am_sz h + 6 - am_sz h0) A) (F0 m pc ls (S.map (am_tr b ad))) := by
  obtain ⟨hx, hb, hml, hown, hts, hin, hA, hK, hX, hbl, hbA, hT⟩ := hC
  obtain ⟨hL, hoS, hoL, hoh, hP, hD, hS, hn0, had⟩ := hR
  obtain ⟨hg1, hg2⟩ := hg0
  have hsum : ((S.map (am_tr b ad)).map fun v => v.category).sum ≤ 8 := by rw [am_cat_sum]; exact h4
  have hcls : s.vm.findClass E = some (D.1 x) := (hK.1 x _ hcx).2.1
  have hat : ∀ w ∈ (Bundle.ownAtoms (am_y M).cls ic E names).filter am_nh, w.before args s = true ∧ w.onTables = true := by
    intro w hw
    obtain ⟨k1, k2⟩ := g8 w hw
    refine ⟨?_, k2⟩
    rcases k1 with k1 | k1
    · exact hts _ k1
    · exact va_Nw.use k2 (hKx.2.2.2.2.1 w k1)
  have hq9 : ∀ (t : State) (ce : Cell), s.WarmedH t.vm → H.size ≤ t.heap.size → (∀ q : Nat, q < H.size → t.heap[q]? = H[q]?) → t.heap[H.size]? = some ce → ce.vm = .none → s.vm.findClass E = some ce.cls → am_P cl D c3 A b ad0 h0 (.inr (x, h.length)) (h ++ [am_X x]) (.threw H.size) s t := by
    intro t ce hW hz hq hce hcv hcl
    have e1 : am_te c3 b (va_up ad h.length H.size) (am_X x) = .inr (x, [.null, .null, .null, .null, .null, .null]) := rfl
    refine ⟨va_up ad h.length H.size, fun k hk => ?_, ?_, ?_, ?_, Nat.le_trans hS.1 hz, fun q h1 h2 => ?_⟩
    · rw [am_up_lt (Nat.lt_of_lt_of_le hk hn0)]
      exact had k hk
    · show Outcome.threw H.size = .threw (va_up ad h.length H.size h.length)
      simp [va_up]
    · rw [am_ws_push hoh, e1]
      refine va_P.app (fun k q hk => (hP k q hk).kept (hq q.1 (hP k q hk).lt)) (fun k q hk => ?_)
      cases k with
      | zero =>
        cases hk
        exact ⟨_, hcx, ce, hce, Option.some.inj (hcl.symm.trans hcls), hcv, fun k hk => absurd hk (Nat.not_lt_zero _)⟩
      | succ k => simp at hk
    · rw [am_ws_push hoh, e1]
      exact va_D.push hD hP rfl (hA _ hS.1)
    · rw [hq q (Nat.lt_of_lt_of_le h1 hS.1)]
      exact hS.2.1 q h1 h2
  have hstr : vk_R (am_y M).cls is text sa s := hKx.2.2.2.2.2.1 ((am_y M).cls, is, text, sa) g7
  have hZ : am_Zs A s H := hKx.2.2.2.2.2.2.kept hS.1 hS.2.1
  have hout : ∀ x ∈ c.exceptionTable.toList, covers x (pc + 9) = false := fun z hz => by rw [hempty] at hz; cases hz
  exact am_throw (own := (am_y M).cls) (cls := E) (ik := ik) (is := is) (ic := ic) (A := A) (sa := sa) (text := text) (names := names) hx hb hl hown g2 g3 (hts _ g5) (hts _ g6) hstr hat hZ (hL.2.2.1.trans hml.symm) d0 d3 d4 d6 d9
    hout (by omega) (by omega) (by omega) (by omega) hlocks hq9 hS.2.2 (by omega) (by omega)
end AmBody
end
section
section AmStep
variable {p : Program} {l : Launch} {e : Env} {s : State} {m : MethodId} {args : Array Value} {below : List Frame} {meth : Method} {c : Code}
theorem am_body_fin {F : am_F} {cl : List vw_C} {hm : Nat → List (Nat × Nat × Nat × Nat)} {Tg Ns : List Jvm.Cond} {St : List (String × Nat × String × Nat)} {D : va_G} {c3 : am_A3} {A : Nat → Prop} {b : Nat} {ad0 : Nat → Nat} {h0 : am_H} {o : am_O} {hf : am_H} {d j : Nat} {M : am_M} {R : Room} (hRf : d + 11 ≤ R.frames) (hRl : 60 * (d + 1) + 200 ≤ R.locals) (hRc : hf.length - h0.length ≤ R.cells) (hRs : am_sz hf - am_sz h0 ≤ R.slots)
    (hl : l.stackTraces = false) (hcd : ∀ e ∈ am_cd M, decode (am_b M) e.1 = .ok (e.2.1, e.2.2)) (hhs : (am_hs M = [] ∧ hm j = []) ∨ ∃ (f t w x ck : Nat) (E : String) (T : u_T), am_hs M = [(f, t, w, x)] ∧ hm j = [(f, t, w, ck)] ∧ ck ≠ 0 ∧ Cond.classLink (am_y M).cls ck E ∈ Tg ∧ cl[x]? = some (E, T, 0) ∧ Cond.castable E E ∈ Ns) (hThM : ∀ pc ik is ic x, (am_cd M).lookup pc = some (.new ik, 3) → (am_cd M).lookup (pc + 4) = some (.ldc is, 2) → (am_cd M).lookup (pc + 6) = some (.invokespecial ic, 3) → am_th F (am_y M).cls ik = some x → ∃ (E : String) (T : u_T) (text : String) (sa : Nat) (names : List String), cl[x]? = some (E, T, 0) ∧ Bundle.fit E = true ∧ (∀ n ∈ names, Bundle.fit n = true) ∧ names.length ≤ 4 ∧ Cond.classLink (am_y M).cls ik E ∈ Tg ∧ Cond.initialized E ∈ Tg ∧ ((am_y M).cls, is, text, sa) ∈ St ∧ (∀ w ∈ (Bundle.ownAtoms (am_y M).cls ic E names).filter am_nh, (w ∈ Tg ∨ w ∈ Ns) ∧ w.onTables = true))
    (hC : am_Cx F cl Tg D c3 A b p s m args meth c (am_b M) (am_n M) (am_y M).cls (am_ini M)) (hKx : am_Kx F cl D c3 A b Ns St s) (hr : meth.sig.returnType = am_r M) (hlocks : meth.locks = false) (htab : c.exceptionTable.toList.map (fun h => (h.startPc, h.endPc, h.handlerPc, h.catchType)) = hm j)
    {a : am_S} (hfin : am_fin F M a (o, hf)) : am_Pm cl D c3 A b (am_n M) ad0 h0 o hf R p l e s m args below meth c a := by
  have dec : ∀ {pc : Nat} {i : Instr} {len : Nat}, (am_cd M).lookup pc = some (i, len) → decode (am_b M) pc = .ok (i, len) := fun {pc i len} h => hcd (pc, i, len) (am_look h)
  refine ⟨(am_fin_ok hfin).1, ?_⟩
  rcases hfin with ⟨pc, L, v, h, ty, rfl, h2, h3, h4, h5⟩ | ⟨pc, L, h, rfl, h2, h3, h5⟩ | ⟨pc, L, k, h, ty, rfl, h2, h3, h4, h5⟩ | ⟨pc, L, S, h, ⟨x, k⟩, rfl, h2, h5⟩ | ⟨pc, L, S, h, x, rfl, h2, h3, h4, h5⟩
  · obtain ⟨rfl, rfl⟩ := Prod.mk.inj h5
    intro ad ls H locs hR hg0 hthr
    dsimp only at hR hg0 hthr ⊢
    exact am_fin1 (ms := fun _ => none) (hm := hm) (Ns := Ns) (St := St) (d := d) (j := j) hC (dec h2) (hr.trans h3) h4 hlocks hR
  · obtain ⟨rfl, rfl⟩ := Prod.mk.inj h5
    intro ad ls H locs hR hg0 hthr
    dsimp only at hR hg0 hthr ⊢
    exact am_fin2 (ms := fun _ => none) (hm := hm) (Ns := Ns) (St := St) (d := d) (j := j) hC (dec h2) (hr.trans h3) hlocks hR
  · obtain ⟨rfl, rfl⟩ := Prod.mk.inj h5
    intro ad ls H locs hR hg0 hthr
    dsimp only at hR hg0 hthr ⊢
    exact am_fin3 (ms := fun _ => none) (hm := hm) (Ns := Ns) (St := St) (d := d) (j := j) hC (dec h2) (hr.trans h3) h4 hlocks hR
  · obtain ⟨rfl, rfl⟩ := Prod.mk.inj h5
    intro ad ls H locs hR hg0 hthr
    dsimp only at hR hg0 hthr ⊢
    exact am_fin4 (ms := fun _ => none) (hm := hm) (Ns := Ns) (St := St) (d := d) (j := j) hC hhs htab h2 hlocks hR
  · obtain ⟨rfl, rfl⟩ := Prod.mk.inj h5
    have hlen : (h ++ [am_X x]).length = h.length + 1 := by simp
    have hsz : am_sz (h ++ [am_X x]) = am_sz h + 6 := by rw [am_sz_push]; rfl
    obtain ⟨ik, is, ic, l0, l3, l4, l6, l9, l10⟩ := am_tw_eq h2
    obtain ⟨E, T, text, sa, names, g1, g2, g3, g4, g5, g6, g7, g8⟩ := hThM pc ik is ic x l0 l4 l6 l10
    have hempty : c.exceptionTable.toList = [] := by
      rcases hhs with ⟨q1, q2⟩ | ⟨f, t, w, x', ck, E, T, q1, q2, -⟩
      · rw [q2] at htab
        exact List.map_eq_nil_iff.mp htab
      · rw [h3] at q1
        cases q1
    intro ad ls H locs hR hg0 hthr
    dsimp only at hR hg0 hthr ⊢
    rw [hlen, hsz]
    exact am_fin5 (ms := fun _ => none) (hm := hm) (Ns := Ns) (St := St) (d := d) (j := j) hC hKx hl g1 g2 g3 g4 g5 g6 g7 g8 (dec l0) (dec l3) (dec l4) (dec l6) (dec l9) hempty h4 hlocks (by omega) (by omega) (by rw [hlen] at hRc; exact hRc) (by rw [hsz] at hRs; exact hRs) hg0 hR
end AmStep
end
section
theorem am_call_eq {F : am_F} {own : String} {i : Instr} {len j w : Nat} (h : am_call F own i len = some (j, w)) : len = 3 ∧ ∃ k, am_cl F own k = some (j, w) ∧ ((w = 0 ∨ w = 3) ∧ i = .invokevirtual k ∨ (w = 1 ∨ w = 4 ∨ w = 5) ∧ i = .invokespecial k ∨ (w = 2 ∨ w = 6 ∨ w = 7 ∨ w = 8) ∧ i = .invokestatic k) := by
  unfold am_call at h
  split at h
  · split at h
    · rename_i hk
      split at h
      · rename_i hw
        cases h
        exact ⟨rfl, _, hk, Or.inl ⟨hw, rfl⟩⟩
      · cases h
    · cases h
  · split at h
    · rename_i hk
      split at h
      · rename_i hw
        cases h
        exact ⟨rfl, _, hk, Or.inr (Or.inl ⟨hw, rfl⟩)⟩
      · cases h
    · cases h
  · split at h
    · rename_i hk
      split at h
      · rename_i hw
        cases h
        exact ⟨rfl, _, hk, Or.inr (Or.inr ⟨hw, rfl⟩)⟩
      · cases h
    · cases h
  · cases h
theorem am_par {d : String} {n : Nat} (h : (parseMethodDescriptor d).map (fun d => d.parameters.length) = some n) {k : Nat} (hk : k = n) : ∀ sig, parseMethodDescriptor d = some sig → k = sig.parameters.length := by
  intro sig hs
  rw [hs] at h
  rw [hk]
  exact (Option.some.inj h).symm
section AmStep
variable {p : Program} {l : Launch} {e : Env} {s : State} {m : MethodId} {args : Array Value} {below : List Frame} {meth : Method} {c : Code}
/-- the way to a method, by the kind of the call -/
theorem am_way {F : am_F} {cl : List vw_C} {ms : Nat → Option am_M} {hm : Nat → List (Nat × Nat × Nat × Nat)} {Tg Ns : List Jvm.Cond} {St : List (String × Nat × String × Nat)} {D : va_G} {c3 : am_A3} {A : Nat → Prop} {b : Nat} {M N : am_M} {j w k : Nat} {i : Instr} {R : Room}
    (hC : am_Cx F cl Tg D c3 A b p s m args meth c (am_b M) (am_n M) (am_y M).cls (am_ini M)) (hKx : am_Kx F cl D c3 A b Ns St s) (hNs : ∀ w ∈ Ns, am_nk w = true) (hMs : am_okMs cl ms hm Tg Ns) (hCl : am_okCl F ms hm Tg Ns) (hj : ms j = some N)
    (hk : am_cl F (am_y M).cls k = some (j, w)) (hw : w < 5) (hi : (w = 0 ∨ w = 3) ∧ i = .invokevirtual k ∨ (w = 1 ∨ w = 4 ∨ w = 5) ∧ i = .invokespecial k ∨ (w = 2 ∨ w = 6 ∨ w = 7 ∨ w = 8) ∧ i = .invokestatic k)
    {as rest : List Value} {ad : Nat → Nat} {h : am_H} {H : Heap} {locs : List Loc} {cells slots pc : Nat} {ls : Array Slot} (hlen : as.length = am_k N) (hrc : w = 0 ∨ w = 3 → am_rc cl N as h) (hri : w = 1 ∨ w = 4 → ∃ (k : Nat) (t : List Value), as = .ref k :: t) (hP : va_P D cl (am_ws c3 b ad h) H) (hd : decode (am_b M) pc = .ok (i, 3)) :
    am_Inv p l e R s m args below meth c H locs cells slots (am_y N) (F0 m pc ls (((as.reverse ++ rest).map (am_tr b ad)))) (rest.map (am_tr b ad)) (as.map (am_tr b ad)).toArray := by
  obtain ⟨hx, hb, hml, hown, hts, hin, hA, hK, hX, hbl, hbA, hT⟩ := hC
  obtain ⟨-, -, hcw, hini, hy, -, -⟩ := hMs j N hj
  obtain ⟨n, hpar, w0, w1, w2, w3, w4⟩ := (hCl _ _ _ _ hk).2.2.2.2 hw N hj
  have hd' : ∀ i', i = i' → decode c.code pc = .ok (i', 3) := fun i' e1 => by rw [hb, ← e1]; exact hd
  have hcode := hts _ hcw
  rcases hi with ⟨hw1, rfl⟩ | ⟨hw1, rfl⟩ | ⟨hw1, rfl⟩
  · obtain ⟨a0, ci, fs, r0, q, rfl, hh, hq, hqc⟩ := hrc hw1
    obtain ⟨cell, z1, z2, z3⟩ := va_recv hK hP hq (am_ws_at hh)
    rw [hqc] at z3
    have hl2 : r0.length + 1 = am_k N := by simpa using hlen
    rcases hw1 with rfl | rfl
    · obtain ⟨x1, x2, x3, x4⟩ := w0 rfl
      exact am_invV (argsL := r0.map (am_tr b ad)) hx hown (hts _ x1) (hts _ x2) (hts _ x3) hcode hy z1 z2 z3 rfl (am_par hpar (by rw [List.length_map]; omega)) (by simp [am_tr]) (hd' _ rfl)
    · obtain ⟨host, x1, x2, x3, x4⟩ := w3 rfl
      exact am_invVN (argsL := r0.map (am_tr b ad)) hx hown (va_Nw.use (am_nk_tab (hNs _ x1)) (hKx.2.2.2.2.1 _ x1)) (hts _ x2) (hts _ x3) hcode hy z1 z2 z3 rfl (am_par hpar (by rw [List.length_map]; omega)) (by simp [am_tr]) (hd' _ rfl)
  · have hw2 : w = 1 ∨ w = 4 := by omega
    obtain ⟨k0, r0, rfl⟩ := hri hw2
    have hl2 : r0.length + 1 = am_k N := by simpa using hlen
    rcases hw2 with rfl | rfl
    · obtain ⟨x1, x2, x3, x4, x5, x6⟩ := w1 rfl
      rw [x4, x5] at hcode
      exact am_invI (argsL := r0.map (am_tr b ad)) hx hown x3 (hts _ x1) (hts _ x2) hcode hy rfl (am_par hpar (by rw [List.length_map]; omega)) (by simp [am_tr]) (hd' _ rfl)
    · obtain ⟨host, x1, x2, x3, x4, x5, x6⟩ := w4 rfl
      rw [x4, x5] at hcode
      exact am_invIN (argsL := r0.map (am_tr b ad)) hx hown x3 (va_Nw.use (am_nk_tab (hNs _ x1)) (hKx.2.2.2.2.1 _ x1)) (hts _ x2) hcode hy rfl (am_par hpar (by rw [List.length_map]; omega)) (by simp [am_tr]) (hd' _ rfl)
  · have hw2 : w = 2 := by omega
    subst hw2
    obtain ⟨x1, x2, x3⟩ := w2 rfl
    exact am_invS (argsL := as.map (am_tr b ad)) hx hown (hts _ x1) (hts _ x2) (hts _ hini) hcode hy rfl (am_par hpar (by rw [List.length_map]; omega)) (by simp) (hd' _ rfl)
theorem am_body_call {F : am_F} {cl : List vw_C} {ms : Nat → Option am_M} {hm : Nat → List (Nat × Nat × Nat × Nat)} {Tg Ns : List Jvm.Cond} {St : List (String × Nat × String × Nat)} {D : va_G} {c3 : am_A3} {A : Nat → Prop} {b : Nat} {ad0 : Nat → Nat} {h0 : am_H} {o : am_O} {hf : am_H} {d : Nat} {M N : am_M} {R : Room} (hRf : d + 11 ≤ R.frames) (hRl : 60 * (d + 1) + 200 ≤ R.locals) (hRc : hf.length - h0.length ≤ R.cells) (hRs : am_sz hf - am_sz h0 ≤ R.slots)
    (hG : ∀ w ∈ Tg, goodWord w = true) (hNs : ∀ w ∈ Ns, am_nk w = true) (hMs : am_okMs cl ms hm Tg Ns) (hCl : am_okCl F ms hm Tg Ns)
    (hC : am_Cx F cl Tg D c3 A b p s m args meth c (am_b M) (am_n M) (am_y M).cls (am_ini M)) (hKx : am_Kx F cl D c3 A b Ns St s)
    {pc : Nat} {L : am_L} {h : am_H} {i : Instr} {j w : Nat} {as rest : List Value} {oc : am_O} {h' : am_H} (hd : decode (am_b M) pc = .ok (i, 3)) {k : Nat} (hk : am_cl F (am_y M).cls k = some (j, w)) (hw : w < 5) (hi : (w = 0 ∨ w = 3) ∧ i = .invokevirtual k ∨ (w = 1 ∨ w = 4 ∨ w = 5) ∧ i = .invokespecial k ∨ (w = 2 ∨ w = 6 ∨ w = 7 ∨ w = 8) ∧ i = .invokestatic k) (hj : ms j = some N) (hlen : as.length = am_k N) (hrc : w = 0 ∨ w = 3 → am_rc cl N as h) (hri : w = 1 ∨ w = 4 → ∃ (k : Nat) (t : List Value), as = .ref k :: t) (hsum : (rest.map fun v => v.category).sum ≤ 8)
    (hgr : am_Gr h h') (hok : am_okh h → (∀ v ∈ as, am_okv h.length v) → am_okh h' ∧ am_okO h' oc)
    (IH : am_okh h → (∀ v ∈ as, am_okv h.length v) → ∀ ad, am_Met l (am_y N) Tg (am_rm d (h'.length - h.length) (am_sz h' - am_sz h)) (am_Pc F cl D c3 A b Ns St ad h as) (am_P cl D c3 A b ad h oc h') (h'.length - h.length) (am_sz h' - am_sz h) A)
    (hb : am_Pm cl D c3 A b (am_n M) ad0 h0 o hf R p l e s m args below meth c (am_bk pc L rest oc h')) :
    am_Pm cl D c3 A b (am_n M) ad0 h0 o hf R p l e s m args below meth c (none, pc, L, as.reverse ++ rest, h) := by
  have hbh : (am_bk pc L rest oc h').2.2.2.2 = h' := by rcases oc with v | x <;> rfl
  obtain ⟨g1, kk⟩ := hb
  rw [hbh] at g1
  refine ⟨hgr.trans g1, ?_⟩
  intro ad ls H locs hR hg0 hthr
  dsimp only at hR hg0 hthr ⊢
  obtain ⟨hL, hoS, hoL, hoh, hP, hD, hS, hn0, had⟩ := id hR
  have hoA : ∀ v ∈ as, am_okv h.length v := fun v hv => hoS v (List.mem_append_left _ (List.mem_reverse.mpr hv))
  have hoR : ∀ v ∈ rest, am_okv h.length v := fun v hv => hoS v (List.mem_append_right _ hv)
  obtain ⟨hok1, hok2⟩ := hok hoh hoA
  obtain ⟨hx, hbb, hml, hown, hts, hin, hA, hK, hX, hbl, hbA, hT⟩ := id hC
  obtain ⟨-, -, hcw, hini, hy, hn40, -⟩ := hMs j N hj
  have q1 : h0.length ≤ h.length := hg0.1
  have q2 : am_sz h0 ≤ am_sz h := hg0.2
  have q3 : h.length ≤ h'.length := hgr.1
  have q4 : am_sz h ≤ am_sz h' := hgr.2
  have q5 : h'.length ≤ hf.length := g1.1
  have q6 : am_sz h' ≤ am_sz hf := g1.2
  have e1 : h.length - h0.length + (h'.length - h.length) = h'.length - h0.length := by omega
  have e2 : am_sz h - am_sz h0 + (am_sz h' - am_sz h) = am_sz h' - am_sz h0 := by omega
  refine am_row (bytes := am_b N) (maxL := am_n N) (ret := am_r N) (hh := hm j) (ws := Tg) (av := (as.map (am_tr b ad)).toArray) (am_way hC hKx hNs hMs hCl hj hk hw hi hlen hrc hri hP hd) (IH hoh hoA ad) (am_Pc_blind hNs hbA) rfl rfl (by show d + 10 + 1 ≤ _; omega) (by show 8 + (am_n N + 11) + (60 * d + 200) ≤ _; omega)
    (hL.2.2.1.trans hml.symm) (by rw [hbb]; exact hd) (by rw [am_cat_sum]; exact hsum) (fun w hw a' U hW => word_at hW (good_of_word (hG w hw)) (hts w hw)) hcw (hts _ hini) (by omega) (by omega)
    (fun U hU hW => ⟨rfl, by rw [hU]; exact hP, hD, hKx.at hNs hbA hU hW hS⟩) ?_ ?_ (fun _ _ _ => am_P_two)
  · intro v st₀ t L9 hst hW hPo hL9
    obtain ⟨ad', had', e3, z1, z2, z3⟩ := hPo
    rcases oc with v0 | ⟨x, kx⟩
    · have e4 : v = v0.map (am_tr b ad') := Outcome.returned.inj e3
      subst e4
      have hRn : am_Rl cl D c3 A b (am_n M) h0.length ad0 ad' L (v0.toList ++ rest) h' ls s.heap t.heap (locs ++ L9) := am_Rl.call (st := st₀) (by rw [hst]; exact hR) q3 had' hok1 (fun u hu => by
        rcases List.mem_append.mp hu with h1 | h1
        · cases v0 with
          | none => cases h1
          | some v1 =>
            rw [show u = v1 by simpa using h1]
            exact hok2
        · exact (hoR u h1).mono q3) z1 z2 z3 hL9
      have k3 := kk ad' ls t.heap (locs ++ L9) hRn (hg0.trans hgr) (fun x k hx => by cases hx)
      have e5 : (v0.toList ++ rest).map (am_tr b ad') = (v0.map (am_tr b ad')).toList ++ rest.map (am_tr b ad) := by
        rw [List.map_append, am_map_ext hoR had']
        cases v0 <;> rfl
      rw [e1, e2, ← e5]
      exact k3
    · cases e3
  · intro q st₀ t L9 hst hW hPo hL9
    obtain ⟨ad', had', e3, z1, z2, z3⟩ := hPo
    rcases oc with v0 | ⟨x, kx⟩
    · cases e3
    · have e4 : q = ad' kx := Outcome.threw.inj e3
      subst e4
      have hRn : am_Rl cl D c3 A b (am_n M) h0.length ad0 ad' L rest h' ls s.heap t.heap (locs ++ L9) := am_Rl.call (st := st₀) (by rw [hst]; exact hR) q3 had' hok1 (fun u hu => (hoR u hu).mono q3) z1 z2 z3 hL9
      have k3 := kk ad' ls t.heap (locs ++ L9) hRn (hg0.trans hgr) (fun x' k' hx => by cases hx; exact hok2)
      rw [e1, e2, ← am_map_ext hoR had']
      exact k3
end AmStep
end
section
section AmSound
variable {p : Program} {l : Launch} {e : Env} {s : State} {m : MethodId} {args : Array Value} {below : List Frame} {meth : Method} {c : Code}
theorem am_body_step {F : am_F} {cl : List vw_C} {ms : Nat → Option am_M} {hm : Nat → List (Nat × Nat × Nat × Nat)} {Tg Ns : List Jvm.Cond} {St : List (String × Nat × String × Nat)} {D : va_G} {c3 : am_A3} {A : Nat → Prop} {b : Nat} {ad0 : Nat → Nat} {h0 : am_H} {o : am_O} {hf : am_H} {d j : Nat} {M : am_M} {R : Room} (hRf : d + 11 ≤ R.frames) (hRl : 60 * (d + 1) + 200 ≤ R.locals) (hRc : hf.length - h0.length ≤ R.cells) (hRs : am_sz hf - am_sz h0 ≤ R.slots)
    (hG : ∀ w ∈ Tg, goodWord w = true) (hNs : ∀ w ∈ Ns, am_nk w = true) (hMs : am_okMs cl ms hm Tg Ns) (hCl : am_okCl F ms hm Tg Ns) (hcd : ∀ e ∈ am_cd M, decode (am_b M) e.1 = .ok (e.2.1, e.2.2)) (hhs : (am_hs M = [] ∧ hm j = []) ∨ ∃ (f t w x ck : Nat) (E : String) (T : u_T), am_hs M = [(f, t, w, x)] ∧ hm j = [(f, t, w, ck)] ∧ ck ≠ 0 ∧ Cond.classLink (am_y M).cls ck E ∈ Tg ∧ cl[x]? = some (E, T, 0) ∧ Cond.castable E E ∈ Ns)
    (hC : am_Cx F cl Tg D c3 A b p s m args meth c (am_b M) (am_n M) (am_y M).cls (am_ini M)) (hKx : am_Kx F cl D c3 A b Ns St s) (htab : c.exceptionTable.toList.map (fun h => (h.startPc, h.endPc, h.handlerPc, h.catchType)) = hm j)
    (IH : ∀ j as h o h' N ad, am_Ev F cl ms d j as h o h' → ms j = some N → am_okh h → (∀ v ∈ as, am_okv h.length v) → am_Met l (am_y N) Tg (am_rm d (h'.length - h.length) (am_sz h' - am_sz h)) (am_Pc F cl D c3 A b Ns St ad h as) (am_P cl D c3 A b ad h o h') (h'.length - h.length) (am_sz h' - am_sz h) A)
    {a a' : am_S} (hs : am_Stp F cl ms (am_Ev F cl ms d) M a a') (hb : am_Pm cl D c3 A b (am_n M) ad0 h0 o hf R p l e s m args below meth c a') :
    am_Pm cl D c3 A b (am_n M) ad0 h0 o hf R p l e s m args below meth c a := by
  have dec : ∀ {pc : Nat} {i : Instr} {len : Nat}, (am_cd M).lookup pc = some (i, len) → decode (am_b M) pc = .ok (i, len) := fun {pc i len} h => hcd (pc, i, len) (am_look h)
  obtain ⟨hx, hbb, hml, hown, hts, hin, hA, hK, hX, hbl, hbA, hT⟩ := id hC
  have hnw : ∀ own k ci fs, am_nw F own k = some (ci, fs) → ∀ v ∈ fs, am_isR v = false := fun own k ci fs h => by
    obtain ⟨C, T, N, ty, -, -, -, -, -, h1, -⟩ := hT.2.2.1 own k ci fs h
    exact h1
  rcases hs with ⟨pc, L, S, h, i, len, ⟨pc', L', S', h'⟩, rfl, h2, h3, rfl⟩ | ⟨pc, L, S, h, i, len, j', w, N, as, rest, oc, h', rfl, h2, h3, h4, h5, h6, rfl, h8, h9, h10, h11, rfl⟩ | ⟨pc, L, h, i, len, j', k, rest, rfl, h2, h3, h4, rfl⟩ | ⟨pc, L, h, i, len, j', k1, sp, k2, dp, n, rest, h', rfl, h2, h3, h4, h5, rfl⟩ | ⟨pc, L, h, i, len, j', w, x, y, rest, rfl, h2, h3, h4, h5, rfl⟩ | ⟨pc, L, S, h, x, k, f, t, w, rfl, h2, h3, h4, rfl⟩
  · obtain ⟨g1, kk⟩ := hb
    obtain ⟨g2, -⟩ := am_st_ok hnw h3
    dsimp only at g1 kk
    refine ⟨g2.trans g1, ?_⟩
    intro ad ls H locs hR hg0 hthr
    dsimp only at hR hg0 hthr ⊢
    exact am_one hC h3 (dec h2) hR (Nat.le_trans (Nat.sub_le_sub_right g1.1 _) hRc) (Nat.le_trans (Nat.sub_le_sub_right g1.2 _) hRs) hg0.1 hg0.2 (fun ad' ls' H' locs' hR' => kk ad' ls' H' locs' hR' (hg0.trans g2) (fun x k hx => by cases hx))
  · obtain ⟨rfl, k, hk, hi⟩ := am_call_eq h3
    obtain ⟨g1, g2⟩ := am_Ev_ok hnw (cl := cl) (ms := ms) d _ _ _ _ _ h11
    exact am_body_call hRf hRl hRc hRs hG hNs hMs hCl hC hKx (dec h2) hk h4 hi h5 h6 h8 h9 h10 g1 g2 (fun o1 o2 ad => IH _ _ _ _ _ _ ad h11 h5 o1 o2) hb
  · obtain ⟨rfl, k', hk, hi⟩ := am_call_eq h3
    have hi' : i = .invokespecial k' := by
      rcases hi with ⟨h1, -⟩ | ⟨-, h1⟩ | ⟨h1, -⟩
      · omega
      · exact h1
      · omega
    subst hi'
    obtain ⟨x1, x2, x3⟩ := (hCl _ _ _ _ hk).1 rfl
    obtain ⟨g1, kk⟩ := hb
    dsimp only at g1 kk
    refine ⟨g1, ?_⟩
    intro ad ls H locs hR hg0 hthr
    dsimp only at hR hg0 hthr ⊢
    exact W.objInit hx hbb hown (hts _ x1) (hts _ x2) (hts _ x3) rfl (hR.1.2.2.1.trans hml.symm) rfl (dec h2) (by omega) (by
      show 2 * 0 + ((rest.map (am_tr b ad)).map fun v => v.category).sum + 12 ≤ _
      rw [am_cat_sum]
      omega) (kk ad ls H locs (hR.S (am_tl hR.2.1)) hg0 (fun x k hx => by cases hx))
  · obtain ⟨rfl, k', hk, hi⟩ := am_call_eq h3
    have hi' : i = .invokestatic k' := by
      rcases hi with ⟨h1, -⟩ | ⟨h1, -⟩ | ⟨-, h1⟩
      · omega
      · omega
      · exact h1
    subst hi'
    obtain ⟨x1, x2, x3, x4⟩ := (hCl _ _ _ _ hk).2.1 rfl
    obtain ⟨g1, kk⟩ := hb
    obtain ⟨g2, -, g3⟩ := am_cp_ok h5
    dsimp only at g1 kk
    refine ⟨g2.trans g1, ?_⟩
    intro ad ls H locs hR hg0 hthr
    dsimp only at hR hg0 hthr ⊢
    obtain ⟨hL, hoS, hoL, hoh, hP, hD, hS, hn0, had⟩ := id hR
    unfold am_cp at h5
    split at h5
    · rename_i n0 f n1 g hh1 hh2
      split at h5
      · rename_i hc5
        obtain ⟨y1, y2, y3, y4, y5, y6⟩ := hc5
        cases h5
        have hz : am_sz (h.set k2 (.inr (.inl (false, n1, va_cpy f g sp.toNatClampNeg dp.toNatClampNeg n.toNatClampNeg)))) = am_sz h := am_sz_set hh2 rfl
        refine va_copyi (D := D) (cl := cl) (ty := .int) hx hbb (hml.trans hL.2.2.1.symm) hown (hts _ x1) (hts _ x2) (hts _ x3) (hts _ x4) hK hP hD hS k1 k2 0 0 (am_ws_at hh1) (am_ws_at hh2) rfl rfl rfl y1 y2 y3 y4 y5 (fun _ _ => rfl) (by omega) (by
          rw [am_cat_sum]
          show _ + (7 + 11) ≤ _
          omega) (dec h2) (fun H1 locs1 z1 z2 z3 => ?_)
        have k3 := kk ad ls H1 locs1 (hR.set (am_tl (am_tl (am_tl (am_tl (am_tl hoS))))) (e := .inr (.inl (false, n1, va_cpy f g sp.toNatClampNeg dp.toNatClampNeg n.toNatClampNeg))) trivial z1 z2 z3) (hg0.trans g2) (fun x k hx => by cases hx)
        rw [hz, List.length_set] at k3
        exact k3
      · cases h5
    · cases h5
  · obtain ⟨rfl, k', hk, hi⟩ := am_call_eq h3
    have hi' : i = .invokestatic k' := by
      rcases hi with ⟨h1, -⟩ | ⟨h1, -⟩ | ⟨-, h1⟩
      · omega
      · omega
      · exact h1
    subst hi'
    obtain ⟨g1, kk⟩ := hb
    dsimp only at g1 kk
    refine ⟨g1, ?_⟩
    intro ad ls H locs hR hg0 hthr
    dsimp only at hR hg0 hthr ⊢
    have k3 := kk ad ls H locs (hR.S (am_cons trivial (am_tl (am_tl hR.2.1)))) hg0 (fun x k hx => by cases hx)
    have hcl : h.length - h0.length ≤ R.cells := Nat.le_trans (Nat.sub_le_sub_right g1.1 _) hRc
    have hsl : am_sz h - am_sz h0 ≤ R.slots := Nat.le_trans (Nat.sub_le_sub_right g1.2 _) hRs
    have hlo : ((rest.map (am_tr b ad)).map fun v => v.category).sum + 13 ≤ R.locals := by rw [am_cat_sum]; omega
    rcases h4 with rfl | rfl
    · obtain ⟨x1, x2, x3, x4⟩ := (hCl _ _ _ _ hk).2.2.1 rfl
      exact va_mmax hx hbb (hml.trans hR.1.2.2.1.symm) hown (hts _ x1) (hts _ x2) (hts _ x3) (hts _ x4) (by omega) hlo hcl hsl (dec h2) k3
    · obtain ⟨x1, x2, x3, x4⟩ := (hCl _ _ _ _ hk).2.2.2.1 rfl
      exact va_mmin hx hbb (hml.trans hR.1.2.2.1.symm) hown (hts _ x1) (hts _ x2) (hts _ x3) (hts _ x4) (by omega) hlo hcl hsl (dec h2) k3
  · obtain ⟨g1, kk⟩ := hb
    dsimp only at g1 kk
    refine ⟨g1, ?_⟩
    intro ad ls H locs hR hg0 hthr
    have hxk : h[k]? = some (am_X x) := hthr x k rfl
    dsimp only at hR hg0 hthr ⊢
    rcases hhs with ⟨q1, q2⟩ | ⟨f', t', w', x', ck, E, T, q1, q2, q3, q4, q5, q6⟩
    · rw [h2] at q1
      cases q1
    · rw [h2] at q1
      cases q1
      rw [q2] at htab
      obtain ⟨xx, hxx, hxe⟩ : ∃ xx, c.exceptionTable.toList = [xx] ∧ (xx.startPc, xx.endPc, xx.handlerPc, xx.catchType) = (f, t, w, ck) := by
        cases hq : c.exceptionTable.toList with
        | nil => rw [hq] at htab; cases htab
        | cons xx tl =>
          rw [hq] at htab
          cases tl with
          | nil => exact ⟨xx, rfl, (List.cons.inj htab).1⟩
          | cons y z => exact absurd (congrArg List.length htab) (by simp)
      have e1 : xx.startPc = f := congrArg (fun q => q.1) hxe
      have e2 : xx.endPc = t := congrArg (fun q => q.2.1) hxe
      have e3 : xx.handlerPc = w := congrArg (fun q => q.2.2.1) hxe
      have e4 : xx.catchType = ck := congrArg (fun q => q.2.2.2) hxe
      obtain ⟨hL, hoS, hoL, hoh, hP, hD, hS, hn0, had⟩ := id hR
      obtain ⟨r9, w1, ce, w2, w3, w4, -⟩ := hP k _ (am_ws_at hxk)
      cases Option.some.inj (w1.symm.trans q5)
      have hcls : s.vm.findClass E = some (D.1 x) := (hK.1 x _ q5).2.1
      have k3 := kk ad ls H locs (hR.S (am_cons ((List.getElem?_eq_some_iff.mp hxk).1) (fun v hv => by cases hv))) hg0 (fun x k hx => by cases hx)
      refine am_caught hown hxx ?_ (by rw [e4]; exact q3) (by rw [e4]; exact hts _ q4) (hKx.2.2.2.2.1 _ q6) w2 w4 (by rw [w3]; exact hcls) (by rw [e3]; exact k3)
      show (decide (xx.startPc ≤ pc) && decide (pc < xx.endPc)) = true
      rw [e1, e2, decide_eq_true h3, decide_eq_true h4]
      rfl
end AmSound
theorem am_args_mem : ∀ {vs : List Value} {i k : Nat} {v : Value}, (∀ v ∈ vs, v.category = 1) → vs[k]? = some v → (i + k, v) ∈ lv_args i vs
  | [], _, _, _, _, h => by cases h
  | w :: t, i, 0, v, hc, h => by
    have e : w = v := by simpa using h
    rw [lv_args, e]
    exact List.mem_cons_self
  | w :: t, i, k + 1, v, hc, h => by
    have h1 : ¬ w.category = 2 := by rw [hc w List.mem_cons_self]; decide
    rw [lv_args, if_neg h1, show i + (k + 1) = i + 1 + k by omega]
    exact List.mem_cons_of_mem _ (am_args_mem (fun v hv => hc v (List.mem_cons_of_mem _ hv)) h)
theorem am_sl_len : ∀ {vs : List Value}, (∀ v ∈ vs, v.category = 1) → (lg_sl vs).length = vs.length
  | [], _ => rfl
  | w :: t, hc => by
    have h1 : ¬ w.category = 2 := by rw [hc w List.mem_cons_self]; decide
    show ((if w.category = 2 then [Slot.val w, .second] else [Slot.val w]) ++ lg_sl t).length = _
    rw [if_neg h1, List.length_append, am_sl_len (fun v hv => hc v (List.mem_cons_of_mem _ hv))]
    simp only [List.length_cons, List.length_nil]
    omega
theorem am_entry {M : am_M} {as : List Value} {b : Nat} {ad : Nat → Nat} (hc : ∀ v ∈ as, v.category = 1) (hn : as.length ≤ am_n M) : am_LR b ad (am_n M) (am_ent M as) ((lg_sl (as.map (am_tr b ad)) ++ List.replicate (am_n M - (lg_sl (as.map (am_tr b ad))).length) Slot.unset).toArray) := by
  have hc' : ∀ v ∈ as.map (am_tr b ad), v.category = 1 := fun v hv => by
    obtain ⟨w, hw, rfl⟩ := List.mem_map.mp hv
    rw [am_tr_cat]
    exact hc w hw
  have hl : (lg_sl (as.map (am_tr b ad))).length ≤ am_n M := by rw [am_sl_len hc', List.length_map]; exact hn
  refine ⟨?_, ?_, am_has_sub (lv_entry (as.map (am_tr b ad)) hl) fun q hq => ?_⟩
  · rw [am_ent, List.length_append, List.length_map, List.length_replicate]
    omega
  · intro v hv
    rcases List.mem_append.mp hv with h1 | h1
    · obtain ⟨w, hw, e⟩ := List.mem_map.mp h1
      rw [← Option.some.inj e]
      exact hc w hw
    · cases List.eq_of_mem_replicate h1
  · obtain ⟨k, v, h1, rfl⟩ := am_lv_mem.mp hq
    apply am_args_mem hc'
    rw [List.getElem?_map]
    have h2 : as[k]? = some v := by
      by_cases hk : k < (as.map some).length
      · rw [am_ent, List.getElem?_append_left hk, List.getElem?_map] at h1
        cases h3 : as[k]? with
        | none => rw [h3] at h1; cases h1
        | some w =>
          rw [h3] at h1
          exact congrArg some (Option.some.inj (Option.some.inj h1))
      · rw [am_ent, List.getElem?_append_right (Nat.not_lt.mp hk)] at h1
        have h4 := List.eq_of_mem_replicate (List.mem_of_getElem? h1)
        cases h4
    rw [h2]
    rfl
/-- THE ABSTRACT MACHINE IS SOUND -/
theorem am_sound {l : Launch} {F : am_F} {cl : List vw_C} {ms : Nat → Option am_M} {hm : Nat → List (Nat × Nat × Nat × Nat)} {Tg Ns : List Jvm.Cond} {St : List (String × Nat × String × Nat)} {D : va_G} {c3 : am_A3} {A : Nat → Prop} {b : Nat}
    (hl : l.stackTraces = false) (hbA : ¬ A b) (hG : ∀ w ∈ Tg, goodWord w = true) (hNs : ∀ w ∈ Ns, am_nk w = true) (hT : am_okT F cl Tg) (hMs : am_okMs cl ms hm Tg Ns) (hCl : am_okCl F ms hm Tg Ns) (hTh : am_okTh F cl ms Tg Ns St) :
    ∀ d j as h o h' M ad, am_Ev F cl ms d j as h o h' → ms j = some M → am_okh h → (∀ v ∈ as, am_okv h.length v) → am_Met l (am_y M) Tg (am_rm d (h'.length - h.length) (am_sz h' - am_sz h)) (am_Pc F cl D c3 A b Ns St ad h as) (am_P cl D c3 A b ad h o h') (h'.length - h.length) (am_sz h' - am_sz h) A := by
  intro d
  induction d with
  | zero => intro j as h o h' M ad hev; exact hev.elim
  | succ d IH =>
    intro j as h o h' M ad hev hj hoh hoA
    obtain ⟨M', hj', hk, hkn, hcat, hgo⟩ := hev
    cases Option.some.inj (hj'.symm.trans hj)
    obtain ⟨hcd, hpl, hcw, -, -, -, hhs⟩ := hMs j M hj
    refine am_ofW hpl hcw ?_
    intro p e s m args below meth c s₁ B hml htab hPc
    obtain ⟨rfl, hP, hD, hKx⟩ := hPc
    have hC : am_Cx F cl Tg D c3 A b p s m (as.map (am_tr b ad)).toArray meth c (am_b M) (am_n M) (am_y M).cls (am_ini M) :=
      ⟨B.exec, B.bytes, hml, findClass_of_methodNamed B.named, atoms_spec (ws := Tg) B.pre, fun hi => ((name_of_methodNamed B.named B.method).1).trans (of_decide_eq_true hi), hKx.2.2.2.1, hKx.1, hKx.2.1, hKx.2.2.1, hbA, hT⟩
    have hst := hgo (am_Pm cl D c3 A b (am_n M) ad h o h' (am_rm (d + 1) (h'.length - h.length) (am_sz h' - am_sz h)) p l e s m (as.map (am_tr b ad)).toArray below meth c)
      (fun a hfin => am_body_fin (d := d) (Nat.le_of_eq (by show d + 11 = d + 1 + 10; omega)) (Nat.le_refl _) (Nat.le_refl _) (Nat.le_refl _) hl hcd hhs (fun pc ik is ic x => hTh j M pc ik is ic x hj) hC hKx B.returns B.notSynchronized htab hfin)
      (fun a a' hs hb => am_body_step (d := d) (Nat.le_of_eq (by show d + 11 = d + 1 + 10; omega)) (Nat.le_refl _) (Nat.le_refl _) (Nat.le_refl _) hG hNs hMs hCl hcd hhs hC hKx htab IH hs hb)
    obtain ⟨-, kk⟩ := hst
    dsimp only at kk
    rw [lg_entry_eq]
    have k3 := kk ad _ s.heap [] ⟨am_entry hcat (by rw [hk]; exact hkn), (fun v hv => by cases hv), am_ent_ok hoA, hoh, hP, hD, va_S.rf, Nat.le_refl _, fun _ _ => rfl⟩ (am_Gr.rf h) (fun x k hx => by cases hx)
    rw [Nat.sub_self, Nat.sub_self] at k3
    exact k3
end
section
-- ===== PART A: goes FIRST, ahead of the names: the tables' words, and 'selects' of the private methods out of them =====
/-- a private method of a class that the tables say can be made, by its rows of tables_1 -/
def lw_okq (q : MethodName × Nat) : Prop := (q.1.cls ≠ "java/lang/invoke/MethodHandle" ∧ q.1.cls ≠ "java/lang/invoke/VarHandle") ∧ Cond.instantiable q.1.cls q.2 ∈ tables_1 ∧ Cond.privateMethod q.1 ∈ tables_1 ∧ Cond.instanceMethod q.1 ∈ tables_1
theorem lw_p0 : lw_okq (⟨"CobolParser$Tree", "handleOf", "(I)I"⟩, 5) := ⟨⟨by decide +kernel, by decide +kernel⟩, List.mem_of_getElem? (i := 60) (by decide +kernel), List.mem_of_getElem? (i := 273) (by decide +kernel), List.mem_of_getElem? (i := 274) (by decide +kernel)⟩
theorem lw_p1 : lw_okq (⟨"CobolParser$Tree", "numberOf", "(I)I"⟩, 5) := ⟨⟨by decide +kernel, by decide +kernel⟩, List.mem_of_getElem? (i := 60) (by decide +kernel), List.mem_of_getElem? (i := 297) (by decide +kernel), List.mem_of_getElem? (i := 298) (by decide +kernel)⟩
theorem lw_p2 : lw_okq (⟨"CobolParser$Tree", "isUnit", "(I)Z"⟩, 5) := ⟨⟨by decide +kernel, by decide +kernel⟩, List.mem_of_getElem? (i := 60) (by decide +kernel), List.mem_of_getElem? (i := 342) (by decide +kernel), List.mem_of_getElem? (i := 343) (by decide +kernel)⟩
theorem lw_p3 : lw_okq (⟨"CobolParser$Clauses", "sectionOrParagraph", "()V"⟩, 10) := ⟨⟨by decide +kernel, by decide +kernel⟩, List.mem_of_getElem? (i := 136) (by decide +kernel), List.mem_of_getElem? (i := 416) (by decide +kernel), List.mem_of_getElem? (i := 417) (by decide +kernel)⟩
theorem lw_p4 : lw_okq (⟨"CobolParser$Clauses", "requireState", "(II)V"⟩, 10) := ⟨⟨by decide +kernel, by decide +kernel⟩, List.mem_of_getElem? (i := 136) (by decide +kernel), List.mem_of_getElem? (i := 424) (by decide +kernel), List.mem_of_getElem? (i := 425) (by decide +kernel)⟩
theorem lw_p5 : lw_okq (⟨"CobolParser$Clauses", "requireThat", "(Z)V"⟩, 10) := ⟨⟨by decide +kernel, by decide +kernel⟩, List.mem_of_getElem? (i := 136) (by decide +kernel), List.mem_of_getElem? (i := 432) (by decide +kernel), List.mem_of_getElem? (i := 433) (by decide +kernel)⟩
theorem lw_p6 : lw_okq (⟨"java/lang/Throwable", "fillInStackTrace", "(I)Ljava/lang/Throwable;"⟩, 6) := ⟨⟨by decide +kernel, by decide +kernel⟩, List.mem_of_getElem? (i := 477) (by decide +kernel), List.mem_of_getElem? (i := 475) (by decide +kernel), List.mem_of_getElem? (i := 476) (by decide +kernel)⟩
theorem lw_p7 : lw_okq (⟨"CobolParser$Clauses", "mayHoldSentences", "()Z"⟩, 10) := ⟨⟨by decide +kernel, by decide +kernel⟩, List.mem_of_getElem? (i := 136) (by decide +kernel), List.mem_of_getElem? (i := 507) (by decide +kernel), List.mem_of_getElem? (i := 508) (by decide +kernel)⟩
theorem lw_p8 : lw_okq (⟨"CobolParser$Clauses", "enterBody", "()V"⟩, 10) := ⟨⟨by decide +kernel, by decide +kernel⟩, List.mem_of_getElem? (i := 136) (by decide +kernel), List.mem_of_getElem? (i := 538) (by decide +kernel), List.mem_of_getElem? (i := 539) (by decide +kernel)⟩
theorem lw_p9 : lw_okq (⟨"CobolParser$Items", "keptOpen", "(I)I"⟩, 7) := ⟨⟨by decide +kernel, by decide +kernel⟩, List.mem_of_getElem? (i := 138) (by decide +kernel), List.mem_of_getElem? (i := 551) (by decide +kernel), List.mem_of_getElem? (i := 552) (by decide +kernel)⟩
theorem lw_p10 : lw_okq (⟨"CobolParser$Items", "nameOrFiller", "()I"⟩, 7) := ⟨⟨by decide +kernel, by decide +kernel⟩, List.mem_of_getElem? (i := 138) (by decide +kernel), List.mem_of_getElem? (i := 559) (by decide +kernel), List.mem_of_getElem? (i := 560) (by decide +kernel)⟩
theorem lw_p11 : lw_okq (⟨"CobolParser$Items", "itemClause", "(I)V"⟩, 7) := ⟨⟨by decide +kernel, by decide +kernel⟩, List.mem_of_getElem? (i := 138) (by decide +kernel), List.mem_of_getElem? (i := 570) (by decide +kernel), List.mem_of_getElem? (i := 571) (by decide +kernel)⟩
theorem lw_p12 : lw_okq (⟨"CobolParser$Items", "picture", "(I)V"⟩, 7) := ⟨⟨by decide +kernel, by decide +kernel⟩, List.mem_of_getElem? (i := 138) (by decide +kernel), List.mem_of_getElem? (i := 574) (by decide +kernel), List.mem_of_getElem? (i := 575) (by decide +kernel)⟩
theorem lw_p13 : lw_okq (⟨"CobolParser$Items", "beginIn", "(II)I"⟩, 7) := ⟨⟨by decide +kernel, by decide +kernel⟩, List.mem_of_getElem? (i := 138) (by decide +kernel), List.mem_of_getElem? (i := 578) (by decide +kernel), List.mem_of_getElem? (i := 579) (by decide +kernel)⟩
theorem lw_p14 : lw_okq (⟨"CobolParser$Items", "literals", "(I)V"⟩, 7) := ⟨⟨by decide +kernel, by decide +kernel⟩, List.mem_of_getElem? (i := 138) (by decide +kernel), List.mem_of_getElem? (i := 583) (by decide +kernel), List.mem_of_getElem? (i := 584) (by decide +kernel)⟩
theorem lw_p15 : lw_okq (⟨"CobolParser$Items", "literal", "(I)V"⟩, 7) := ⟨⟨by decide +kernel, by decide +kernel⟩, List.mem_of_getElem? (i := 138) (by decide +kernel), List.mem_of_getElem? (i := 587) (by decide +kernel), List.mem_of_getElem? (i := 588) (by decide +kernel)⟩
def lw_privs_1 : List (MethodName × Nat) := [(⟨"CobolParser$Tree", "handleOf", "(I)I"⟩, 5), (⟨"CobolParser$Tree", "numberOf", "(I)I"⟩, 5), (⟨"CobolParser$Tree", "isUnit", "(I)Z"⟩, 5), (⟨"CobolParser$Clauses", "sectionOrParagraph", "()V"⟩, 10), (⟨"CobolParser$Clauses", "requireState", "(II)V"⟩, 10), (⟨"CobolParser$Clauses", "requireThat", "(Z)V"⟩, 10), (⟨"java/lang/Throwable", "fillInStackTrace", "(I)Ljava/lang/Throwable;"⟩, 6), (⟨"CobolParser$Clauses", "mayHoldSentences", "()Z"⟩, 10), (⟨"CobolParser$Clauses", "enterBody", "()V"⟩, 10), (⟨"CobolParser$Items", "keptOpen", "(I)I"⟩, 7), (⟨"CobolParser$Items", "nameOrFiller", "()I"⟩, 7), (⟨"CobolParser$Items", "itemClause", "(I)V"⟩, 7), (⟨"CobolParser$Items", "picture", "(I)V"⟩, 7), (⟨"CobolParser$Items", "beginIn", "(II)I"⟩, 7), (⟨"CobolParser$Items", "literals", "(I)V"⟩, 7), (⟨"CobolParser$Items", "literal", "(I)V"⟩, 7)]
theorem lw_r1 : ∀ q ∈ lw_privs_1, lw_okq q := List.forall_mem_cons.mpr ⟨lw_p0, List.forall_mem_cons.mpr ⟨lw_p1, List.forall_mem_cons.mpr ⟨lw_p2, List.forall_mem_cons.mpr ⟨lw_p3, List.forall_mem_cons.mpr ⟨lw_p4, List.forall_mem_cons.mpr ⟨lw_p5, List.forall_mem_cons.mpr ⟨lw_p6, List.forall_mem_cons.mpr ⟨lw_p7, List.forall_mem_cons.mpr ⟨lw_p8, List.forall_mem_cons.mpr ⟨lw_p9, List.forall_mem_cons.mpr ⟨lw_p10, List.forall_mem_cons.mpr ⟨lw_p11, List.forall_mem_cons.mpr ⟨lw_p12, List.forall_mem_cons.mpr ⟨lw_p13, List.forall_mem_cons.mpr ⟨lw_p14, List.forall_mem_cons.mpr ⟨lw_p15, fun _ h => absurd h List.not_mem_nil⟩⟩⟩⟩⟩⟩⟩⟩⟩⟩⟩⟩⟩⟩⟩⟩
theorem lw_p16 : lw_okq (⟨"CobolParser$Items", "occurs", "(I)V"⟩, 7) := ⟨⟨by decide +kernel, by decide +kernel⟩, List.mem_of_getElem? (i := 138) (by decide +kernel), List.mem_of_getElem? (i := 609) (by decide +kernel), List.mem_of_getElem? (i := 610) (by decide +kernel)⟩
theorem lw_p17 : lw_okq (⟨"CobolParser$Items", "redefines", "(I)V"⟩, 7) := ⟨⟨by decide +kernel, by decide +kernel⟩, List.mem_of_getElem? (i := 138) (by decide +kernel), List.mem_of_getElem? (i := 624) (by decide +kernel), List.mem_of_getElem? (i := 625) (by decide +kernel)⟩
theorem lw_p18 : lw_okq (⟨"CobolParser$Items", "usage", "(I)V"⟩, 7) := ⟨⟨by decide +kernel, by decide +kernel⟩, List.mem_of_getElem? (i := 138) (by decide +kernel), List.mem_of_getElem? (i := 628) (by decide +kernel), List.mem_of_getElem? (i := 629) (by decide +kernel)⟩
theorem lw_p19 : lw_okq (⟨"CobolParser$Items", "place", "(III)V"⟩, 7) := ⟨⟨by decide +kernel, by decide +kernel⟩, List.mem_of_getElem? (i := 138) (by decide +kernel), List.mem_of_getElem? (i := 637) (by decide +kernel), List.mem_of_getElem? (i := 638) (by decide +kernel)⟩
theorem lw_p20 : lw_okq (⟨"CobolParser$Clauses", "sentence", "()V"⟩, 10) := ⟨⟨by decide +kernel, by decide +kernel⟩, List.mem_of_getElem? (i := 136) (by decide +kernel), List.mem_of_getElem? (i := 647) (by decide +kernel), List.mem_of_getElem? (i := 648) (by decide +kernel)⟩
theorem lw_p21 : lw_okq (⟨"CobolParser$Statements", "list", "(II)I"⟩, 4) := ⟨⟨by decide +kernel, by decide +kernel⟩, List.mem_of_getElem? (i := 95) (by decide +kernel), List.mem_of_getElem? (i := 651) (by decide +kernel), List.mem_of_getElem? (i := 652) (by decide +kernel)⟩
theorem lw_p22 : lw_okq (⟨"CobolParser$Statements", "statement", "(I)I"⟩, 4) := ⟨⟨by decide +kernel, by decide +kernel⟩, List.mem_of_getElem? (i := 95) (by decide +kernel), List.mem_of_getElem? (i := 659) (by decide +kernel), List.mem_of_getElem? (i := 660) (by decide +kernel)⟩
theorem lw_p23 : lw_okq (⟨"CobolParser$Statements", "move", "()I"⟩, 4) := ⟨⟨by decide +kernel, by decide +kernel⟩, List.mem_of_getElem? (i := 95) (by decide +kernel), List.mem_of_getElem? (i := 663) (by decide +kernel), List.mem_of_getElem? (i := 664) (by decide +kernel)⟩
theorem lw_p24 : lw_okq (⟨"CobolParser$Statements", "begin", "(I)I"⟩, 4) := ⟨⟨by decide +kernel, by decide +kernel⟩, List.mem_of_getElem? (i := 95) (by decide +kernel), List.mem_of_getElem? (i := 667) (by decide +kernel), List.mem_of_getElem? (i := 668) (by decide +kernel)⟩
theorem lw_p25 : lw_okq (⟨"CobolParser$Statements", "add", "(I)I"⟩, 4) := ⟨⟨by decide +kernel, by decide +kernel⟩, List.mem_of_getElem? (i := 95) (by decide +kernel), List.mem_of_getElem? (i := 680) (by decide +kernel), List.mem_of_getElem? (i := 681) (by decide +kernel)⟩
theorem lw_p26 : lw_okq (⟨"CobolParser$Statements", "operandsIn", "(I)V"⟩, 4) := ⟨⟨by decide +kernel, by decide +kernel⟩, List.mem_of_getElem? (i := 95) (by decide +kernel), List.mem_of_getElem? (i := 684) (by decide +kernel), List.mem_of_getElem? (i := 685) (by decide +kernel)⟩
theorem lw_p27 : lw_okq (⟨"CobolParser$Statements", "scopeEnd", "(II)V"⟩, 4) := ⟨⟨by decide +kernel, by decide +kernel⟩, List.mem_of_getElem? (i := 95) (by decide +kernel), List.mem_of_getElem? (i := 694) (by decide +kernel), List.mem_of_getElem? (i := 695) (by decide +kernel)⟩
theorem lw_p28 : lw_okq (⟨"CobolParser$Statements", "ifElse", "(I)I"⟩, 4) := ⟨⟨by decide +kernel, by decide +kernel⟩, List.mem_of_getElem? (i := 95) (by decide +kernel), List.mem_of_getElem? (i := 698) (by decide +kernel), List.mem_of_getElem? (i := 699) (by decide +kernel)⟩
theorem lw_p29 : lw_okq (⟨"CobolParser$Expressions", "condition", "(I)I"⟩, 5) := ⟨⟨by decide +kernel, by decide +kernel⟩, List.mem_of_getElem? (i := 97) (by decide +kernel), List.mem_of_getElem? (i := 702) (by decide +kernel), List.mem_of_getElem? (i := 703) (by decide +kernel)⟩
theorem lw_p30 : lw_okq (⟨"CobolParser$Expressions", "conjunction", "(I)I"⟩, 5) := ⟨⟨by decide +kernel, by decide +kernel⟩, List.mem_of_getElem? (i := 97) (by decide +kernel), List.mem_of_getElem? (i := 706) (by decide +kernel), List.mem_of_getElem? (i := 707) (by decide +kernel)⟩
theorem lw_p31 : lw_okq (⟨"CobolParser$Expressions", "factor", "(I)I"⟩, 5) := ⟨⟨by decide +kernel, by decide +kernel⟩, List.mem_of_getElem? (i := 97) (by decide +kernel), List.mem_of_getElem? (i := 710) (by decide +kernel), List.mem_of_getElem? (i := 711) (by decide +kernel)⟩
def lw_privs_2 : List (MethodName × Nat) := [(⟨"CobolParser$Items", "occurs", "(I)V"⟩, 7), (⟨"CobolParser$Items", "redefines", "(I)V"⟩, 7), (⟨"CobolParser$Items", "usage", "(I)V"⟩, 7), (⟨"CobolParser$Items", "place", "(III)V"⟩, 7), (⟨"CobolParser$Clauses", "sentence", "()V"⟩, 10), (⟨"CobolParser$Statements", "list", "(II)I"⟩, 4), (⟨"CobolParser$Statements", "statement", "(I)I"⟩, 4), (⟨"CobolParser$Statements", "move", "()I"⟩, 4), (⟨"CobolParser$Statements", "begin", "(I)I"⟩, 4), (⟨"CobolParser$Statements", "add", "(I)I"⟩, 4), (⟨"CobolParser$Statements", "operandsIn", "(I)V"⟩, 4), (⟨"CobolParser$Statements", "scopeEnd", "(II)V"⟩, 4), (⟨"CobolParser$Statements", "ifElse", "(I)I"⟩, 4), (⟨"CobolParser$Expressions", "condition", "(I)I"⟩, 5), (⟨"CobolParser$Expressions", "conjunction", "(I)I"⟩, 5), (⟨"CobolParser$Expressions", "factor", "(I)I"⟩, 5)]
theorem lw_r2 : ∀ q ∈ lw_privs_2, lw_okq q := List.forall_mem_cons.mpr ⟨lw_p16, List.forall_mem_cons.mpr ⟨lw_p17, List.forall_mem_cons.mpr ⟨lw_p18, List.forall_mem_cons.mpr ⟨lw_p19, List.forall_mem_cons.mpr ⟨lw_p20, List.forall_mem_cons.mpr ⟨lw_p21, List.forall_mem_cons.mpr ⟨lw_p22, List.forall_mem_cons.mpr ⟨lw_p23, List.forall_mem_cons.mpr ⟨lw_p24, List.forall_mem_cons.mpr ⟨lw_p25, List.forall_mem_cons.mpr ⟨lw_p26, List.forall_mem_cons.mpr ⟨lw_p27, List.forall_mem_cons.mpr ⟨lw_p28, List.forall_mem_cons.mpr ⟨lw_p29, List.forall_mem_cons.mpr ⟨lw_p30, List.forall_mem_cons.mpr ⟨lw_p31, fun _ h => absurd h List.not_mem_nil⟩⟩⟩⟩⟩⟩⟩⟩⟩⟩⟩⟩⟩⟩⟩⟩
theorem lw_p32 : lw_okq (⟨"CobolParser$Expressions", "goDeeper", "(I)V"⟩, 5) := ⟨⟨by decide +kernel, by decide +kernel⟩, List.mem_of_getElem? (i := 97) (by decide +kernel), List.mem_of_getElem? (i := 721) (by decide +kernel), List.mem_of_getElem? (i := 722) (by decide +kernel)⟩
theorem lw_p33 : lw_okq (⟨"CobolParser$Expressions", "relation", "()I"⟩, 5) := ⟨⟨by decide +kernel, by decide +kernel⟩, List.mem_of_getElem? (i := 97) (by decide +kernel), List.mem_of_getElem? (i := 738) (by decide +kernel), List.mem_of_getElem? (i := 739) (by decide +kernel)⟩
theorem lw_p34 : lw_okq (⟨"CobolParser$Expressions", "isComparing", "(I)Z"⟩, 5) := ⟨⟨by decide +kernel, by decide +kernel⟩, List.mem_of_getElem? (i := 97) (by decide +kernel), List.mem_of_getElem? (i := 743) (by decide +kernel), List.mem_of_getElem? (i := 744) (by decide +kernel)⟩
theorem lw_p35 : lw_okq (⟨"CobolParser$Expressions", "conditionName", "(I)I"⟩, 5) := ⟨⟨by decide +kernel, by decide +kernel⟩, List.mem_of_getElem? (i := 97) (by decide +kernel), List.mem_of_getElem? (i := 747) (by decide +kernel), List.mem_of_getElem? (i := 748) (by decide +kernel)⟩
theorem lw_p36 : lw_okq (⟨"CobolParser$Expressions", "comparing", "()I"⟩, 5) := ⟨⟨by decide +kernel, by decide +kernel⟩, List.mem_of_getElem? (i := 97) (by decide +kernel), List.mem_of_getElem? (i := 754) (by decide +kernel), List.mem_of_getElem? (i := 755) (by decide +kernel)⟩
theorem lw_p37 : lw_okq (⟨"CobolParser$Expressions", "join", "(III)I"⟩, 5) := ⟨⟨by decide +kernel, by decide +kernel⟩, List.mem_of_getElem? (i := 97) (by decide +kernel), List.mem_of_getElem? (i := 760) (by decide +kernel), List.mem_of_getElem? (i := 761) (by decide +kernel)⟩
theorem lw_p38 : lw_okq (⟨"CobolParser$Statements", "branch", "(I)I"⟩, 4) := ⟨⟨by decide +kernel, by decide +kernel⟩, List.mem_of_getElem? (i := 95) (by decide +kernel), List.mem_of_getElem? (i := 765) (by decide +kernel), List.mem_of_getElem? (i := 766) (by decide +kernel)⟩
theorem lw_p39 : lw_okq (⟨"CobolParser$Statements", "perform", "(I)I"⟩, 4) := ⟨⟨by decide +kernel, by decide +kernel⟩, List.mem_of_getElem? (i := 95) (by decide +kernel), List.mem_of_getElem? (i := 770) (by decide +kernel), List.mem_of_getElem? (i := 771) (by decide +kernel)⟩
theorem lw_p40 : lw_okq (⟨"CobolParser$Statements", "times", "(I)V"⟩, 4) := ⟨⟨by decide +kernel, by decide +kernel⟩, List.mem_of_getElem? (i := 95) (by decide +kernel), List.mem_of_getElem? (i := 774) (by decide +kernel), List.mem_of_getElem? (i := 775) (by decide +kernel)⟩
theorem lw_p41 : lw_okq (⟨"CobolParser$Statements", "phraseIn", "(II)I"⟩, 4) := ⟨⟨by decide +kernel, by decide +kernel⟩, List.mem_of_getElem? (i := 95) (by decide +kernel), List.mem_of_getElem? (i := 778) (by decide +kernel), List.mem_of_getElem? (i := 779) (by decide +kernel)⟩
theorem lw_p42 : lw_okq (⟨"CobolParser$Statements", "varying", "(I)I"⟩, 4) := ⟨⟨by decide +kernel, by decide +kernel⟩, List.mem_of_getElem? (i := 95) (by decide +kernel), List.mem_of_getElem? (i := 782) (by decide +kernel), List.mem_of_getElem? (i := 783) (by decide +kernel)⟩
theorem lw_p43 : lw_okq (⟨"CobolParser$Statements", "evaluate", "(I)I"⟩, 4) := ⟨⟨by decide +kernel, by decide +kernel⟩, List.mem_of_getElem? (i := 95) (by decide +kernel), List.mem_of_getElem? (i := 786) (by decide +kernel), List.mem_of_getElem? (i := 787) (by decide +kernel)⟩
theorem lw_p44 : lw_okq (⟨"CobolParser$Statements", "when", "(I)I"⟩, 4) := ⟨⟨by decide +kernel, by decide +kernel⟩, List.mem_of_getElem? (i := 95) (by decide +kernel), List.mem_of_getElem? (i := 790) (by decide +kernel), List.mem_of_getElem? (i := 791) (by decide +kernel)⟩
theorem lw_p45 : lw_okq (⟨"CobolParser$Statements", "read", "(I)I"⟩, 4) := ⟨⟨by decide +kernel, by decide +kernel⟩, List.mem_of_getElem? (i := 95) (by decide +kernel), List.mem_of_getElem? (i := 794) (by decide +kernel), List.mem_of_getElem? (i := 795) (by decide +kernel)⟩
theorem lw_p46 : lw_okq (⟨"CobolParser$Statements", "call", "(I)I"⟩, 4) := ⟨⟨by decide +kernel, by decide +kernel⟩, List.mem_of_getElem? (i := 95) (by decide +kernel), List.mem_of_getElem? (i := 799) (by decide +kernel), List.mem_of_getElem? (i := 800) (by decide +kernel)⟩
theorem lw_p47 : lw_okq (⟨"CobolParser$Statements", "display", "()I"⟩, 4) := ⟨⟨by decide +kernel, by decide +kernel⟩, List.mem_of_getElem? (i := 95) (by decide +kernel), List.mem_of_getElem? (i := 803) (by decide +kernel), List.mem_of_getElem? (i := 804) (by decide +kernel)⟩
def lw_privs_3 : List (MethodName × Nat) := [(⟨"CobolParser$Expressions", "goDeeper", "(I)V"⟩, 5), (⟨"CobolParser$Expressions", "relation", "()I"⟩, 5), (⟨"CobolParser$Expressions", "isComparing", "(I)Z"⟩, 5), (⟨"CobolParser$Expressions", "conditionName", "(I)I"⟩, 5), (⟨"CobolParser$Expressions", "comparing", "()I"⟩, 5), (⟨"CobolParser$Expressions", "join", "(III)I"⟩, 5), (⟨"CobolParser$Statements", "branch", "(I)I"⟩, 4), (⟨"CobolParser$Statements", "perform", "(I)I"⟩, 4), (⟨"CobolParser$Statements", "times", "(I)V"⟩, 4), (⟨"CobolParser$Statements", "phraseIn", "(II)I"⟩, 4), (⟨"CobolParser$Statements", "varying", "(I)I"⟩, 4), (⟨"CobolParser$Statements", "evaluate", "(I)I"⟩, 4), (⟨"CobolParser$Statements", "when", "(I)I"⟩, 4), (⟨"CobolParser$Statements", "read", "(I)I"⟩, 4), (⟨"CobolParser$Statements", "call", "(I)I"⟩, 4), (⟨"CobolParser$Statements", "display", "()I"⟩, 4)]
theorem lw_r3 : ∀ q ∈ lw_privs_3, lw_okq q := List.forall_mem_cons.mpr ⟨lw_p32, List.forall_mem_cons.mpr ⟨lw_p33, List.forall_mem_cons.mpr ⟨lw_p34, List.forall_mem_cons.mpr ⟨lw_p35, List.forall_mem_cons.mpr ⟨lw_p36, List.forall_mem_cons.mpr ⟨lw_p37, List.forall_mem_cons.mpr ⟨lw_p38, List.forall_mem_cons.mpr ⟨lw_p39, List.forall_mem_cons.mpr ⟨lw_p40, List.forall_mem_cons.mpr ⟨lw_p41, List.forall_mem_cons.mpr ⟨lw_p42, List.forall_mem_cons.mpr ⟨lw_p43, List.forall_mem_cons.mpr ⟨lw_p44, List.forall_mem_cons.mpr ⟨lw_p45, List.forall_mem_cons.mpr ⟨lw_p46, List.forall_mem_cons.mpr ⟨lw_p47, fun _ h => absurd h List.not_mem_nil⟩⟩⟩⟩⟩⟩⟩⟩⟩⟩⟩⟩⟩⟩⟩⟩
theorem lw_p48 : lw_okq (⟨"CobolParser$Statements", "goTo", "()I"⟩, 4) := ⟨⟨by decide +kernel, by decide +kernel⟩, List.mem_of_getElem? (i := 95) (by decide +kernel), List.mem_of_getElem? (i := 807) (by decide +kernel), List.mem_of_getElem? (i := 808) (by decide +kernel)⟩
theorem lw_p49 : lw_okq (⟨"CobolParser$Statements", "stop", "()I"⟩, 4) := ⟨⟨by decide +kernel, by decide +kernel⟩, List.mem_of_getElem? (i := 95) (by decide +kernel), List.mem_of_getElem? (i := 811) (by decide +kernel), List.mem_of_getElem? (i := 812) (by decide +kernel)⟩
theorem lw_p50 : lw_okq (⟨"CobolParser$Statements", "compute", "(I)I"⟩, 4) := ⟨⟨by decide +kernel, by decide +kernel⟩, List.mem_of_getElem? (i := 95) (by decide +kernel), List.mem_of_getElem? (i := 815) (by decide +kernel), List.mem_of_getElem? (i := 816) (by decide +kernel)⟩
theorem lw_p51 : lw_okq (⟨"CobolParser$Expressions", "sum", "(I)I"⟩, 5) := ⟨⟨by decide +kernel, by decide +kernel⟩, List.mem_of_getElem? (i := 97) (by decide +kernel), List.mem_of_getElem? (i := 820) (by decide +kernel), List.mem_of_getElem? (i := 821) (by decide +kernel)⟩
theorem lw_p52 : lw_okq (⟨"CobolParser$Expressions", "product", "(I)I"⟩, 5) := ⟨⟨by decide +kernel, by decide +kernel⟩, List.mem_of_getElem? (i := 97) (by decide +kernel), List.mem_of_getElem? (i := 824) (by decide +kernel), List.mem_of_getElem? (i := 825) (by decide +kernel)⟩
theorem lw_p53 : lw_okq (⟨"CobolParser$Expressions", "sumUnit", "(I)I"⟩, 5) := ⟨⟨by decide +kernel, by decide +kernel⟩, List.mem_of_getElem? (i := 97) (by decide +kernel), List.mem_of_getElem? (i := 828) (by decide +kernel), List.mem_of_getElem? (i := 829) (by decide +kernel)⟩
theorem lw_p54 : lw_okq (⟨"CobolParser$Clauses", "reservedClause", "()V"⟩, 10) := ⟨⟨by decide +kernel, by decide +kernel⟩, List.mem_of_getElem? (i := 136) (by decide +kernel), List.mem_of_getElem? (i := 833) (by decide +kernel), List.mem_of_getElem? (i := 834) (by decide +kernel)⟩
theorem lw_p55 : lw_okq (⟨"CobolParser$Clauses", "identification", "()V"⟩, 10) := ⟨⟨by decide +kernel, by decide +kernel⟩, List.mem_of_getElem? (i := 136) (by decide +kernel), List.mem_of_getElem? (i := 838) (by decide +kernel), List.mem_of_getElem? (i := 839) (by decide +kernel)⟩
theorem lw_p56 : lw_okq (⟨"CobolParser$Clauses", "mayEndOrContain", "()Z"⟩, 10) := ⟨⟨by decide +kernel, by decide +kernel⟩, List.mem_of_getElem? (i := 136) (by decide +kernel), List.mem_of_getElem? (i := 850) (by decide +kernel), List.mem_of_getElem? (i := 851) (by decide +kernel)⟩
theorem lw_p57 : lw_okq (⟨"CobolParser$Clauses", "heading", "(III)I"⟩, 10) := ⟨⟨by decide +kernel, by decide +kernel⟩, List.mem_of_getElem? (i := 136) (by decide +kernel), List.mem_of_getElem? (i := 862) (by decide +kernel), List.mem_of_getElem? (i := 863) (by decide +kernel)⟩
theorem lw_p58 : lw_okq (⟨"CobolParser$Clauses", "unitName", "(I)V"⟩, 10) := ⟨⟨by decide +kernel, by decide +kernel⟩, List.mem_of_getElem? (i := 136) (by decide +kernel), List.mem_of_getElem? (i := 872) (by decide +kernel), List.mem_of_getElem? (i := 873) (by decide +kernel)⟩
theorem lw_p59 : lw_okq (⟨"CobolParser$Clauses", "select", "()V"⟩, 10) := ⟨⟨by decide +kernel, by decide +kernel⟩, List.mem_of_getElem? (i := 136) (by decide +kernel), List.mem_of_getElem? (i := 881) (by decide +kernel), List.mem_of_getElem? (i := 882) (by decide +kernel)⟩
theorem lw_p60 : lw_okq (⟨"CobolParser$Clauses", "organization", "(I)V"⟩, 10) := ⟨⟨by decide +kernel, by decide +kernel⟩, List.mem_of_getElem? (i := 136) (by decide +kernel), List.mem_of_getElem? (i := 886) (by decide +kernel), List.mem_of_getElem? (i := 887) (by decide +kernel)⟩
theorem lw_p61 : lw_okq (⟨"CobolParser$Clauses", "key", "(I)V"⟩, 10) := ⟨⟨by decide +kernel, by decide +kernel⟩, List.mem_of_getElem? (i := 136) (by decide +kernel), List.mem_of_getElem? (i := 890) (by decide +kernel), List.mem_of_getElem? (i := 891) (by decide +kernel)⟩
theorem lw_p62 : lw_okq (⟨"CobolParser$Clauses", "procedure", "()V"⟩, 10) := ⟨⟨by decide +kernel, by decide +kernel⟩, List.mem_of_getElem? (i := 136) (by decide +kernel), List.mem_of_getElem? (i := 894) (by decide +kernel), List.mem_of_getElem? (i := 895) (by decide +kernel)⟩
theorem lw_p63 : lw_okq (⟨"CobolParser$Clauses", "beginDeclaratives", "()V"⟩, 10) := ⟨⟨by decide +kernel, by decide +kernel⟩, List.mem_of_getElem? (i := 136) (by decide +kernel), List.mem_of_getElem? (i := 899) (by decide +kernel), List.mem_of_getElem? (i := 900) (by decide +kernel)⟩
def lw_privs_4 : List (MethodName × Nat) := [(⟨"CobolParser$Statements", "goTo", "()I"⟩, 4), (⟨"CobolParser$Statements", "stop", "()I"⟩, 4), (⟨"CobolParser$Statements", "compute", "(I)I"⟩, 4), (⟨"CobolParser$Expressions", "sum", "(I)I"⟩, 5), (⟨"CobolParser$Expressions", "product", "(I)I"⟩, 5), (⟨"CobolParser$Expressions", "sumUnit", "(I)I"⟩, 5), (⟨"CobolParser$Clauses", "reservedClause", "()V"⟩, 10), (⟨"CobolParser$Clauses", "identification", "()V"⟩, 10), (⟨"CobolParser$Clauses", "mayEndOrContain", "()Z"⟩, 10), (⟨"CobolParser$Clauses", "heading", "(III)I"⟩, 10), (⟨"CobolParser$Clauses", "unitName", "(I)V"⟩, 10), (⟨"CobolParser$Clauses", "select", "()V"⟩, 10), (⟨"CobolParser$Clauses", "organization", "(I)V"⟩, 10), (⟨"CobolParser$Clauses", "key", "(I)V"⟩, 10), (⟨"CobolParser$Clauses", "procedure", "()V"⟩, 10), (⟨"CobolParser$Clauses", "beginDeclaratives", "()V"⟩, 10)]
theorem lw_r4 : ∀ q ∈ lw_privs_4, lw_okq q := List.forall_mem_cons.mpr ⟨lw_p48, List.forall_mem_cons.mpr ⟨lw_p49, List.forall_mem_cons.mpr ⟨lw_p50, List.forall_mem_cons.mpr ⟨lw_p51, List.forall_mem_cons.mpr ⟨lw_p52, List.forall_mem_cons.mpr ⟨lw_p53, List.forall_mem_cons.mpr ⟨lw_p54, List.forall_mem_cons.mpr ⟨lw_p55, List.forall_mem_cons.mpr ⟨lw_p56, List.forall_mem_cons.mpr ⟨lw_p57, List.forall_mem_cons.mpr ⟨lw_p58, List.forall_mem_cons.mpr ⟨lw_p59, List.forall_mem_cons.mpr ⟨lw_p60, List.forall_mem_cons.mpr ⟨lw_p61, List.forall_mem_cons.mpr ⟨lw_p62, List.forall_mem_cons.mpr ⟨lw_p63, fun _ h => absurd h List.not_mem_nil⟩⟩⟩⟩⟩⟩⟩⟩⟩⟩⟩⟩⟩⟩⟩⟩
theorem lw_p64 : lw_okq (⟨"CobolParser$Clauses", "endSomething", "()V"⟩, 10) := ⟨⟨by decide +kernel, by decide +kernel⟩, List.mem_of_getElem? (i := 136) (by decide +kernel), List.mem_of_getElem? (i := 903) (by decide +kernel), List.mem_of_getElem? (i := 904) (by decide +kernel)⟩
theorem lw_p65 : lw_okq (⟨"CobolParser$Clauses", "endDeclaratives", "()V"⟩, 10) := ⟨⟨by decide +kernel, by decide +kernel⟩, List.mem_of_getElem? (i := 136) (by decide +kernel), List.mem_of_getElem? (i := 907) (by decide +kernel), List.mem_of_getElem? (i := 908) (by decide +kernel)⟩
theorem lw_p66 : lw_okq (⟨"CobolParser$Clauses", "endUnit", "()V"⟩, 10) := ⟨⟨by decide +kernel, by decide +kernel⟩, List.mem_of_getElem? (i := 136) (by decide +kernel), List.mem_of_getElem? (i := 911) (by decide +kernel), List.mem_of_getElem? (i := 912) (by decide +kernel)⟩
theorem lw_p67 : lw_okq (⟨"CobolParser$Clauses", "dataClause", "()V"⟩, 10) := ⟨⟨by decide +kernel, by decide +kernel⟩, List.mem_of_getElem? (i := 136) (by decide +kernel), List.mem_of_getElem? (i := 927) (by decide +kernel), List.mem_of_getElem? (i := 928) (by decide +kernel)⟩
theorem lw_p68 : lw_okq (⟨"CobolParser$Clauses", "dataSection", "(II)V"⟩, 10) := ⟨⟨by decide +kernel, by decide +kernel⟩, List.mem_of_getElem? (i := 136) (by decide +kernel), List.mem_of_getElem? (i := 931) (by decide +kernel), List.mem_of_getElem? (i := 932) (by decide +kernel)⟩
theorem lw_p69 : lw_okq (⟨"CobolParser$Clauses", "fileDescription", "()V"⟩, 10) := ⟨⟨by decide +kernel, by decide +kernel⟩, List.mem_of_getElem? (i := 136) (by decide +kernel), List.mem_of_getElem? (i := 939) (by decide +kernel), List.mem_of_getElem? (i := 940) (by decide +kernel)⟩
theorem lw_p70 : lw_okq (⟨"CobolParser", "finish", "()I"⟩, 3) := ⟨⟨by decide +kernel, by decide +kernel⟩, List.mem_of_getElem? (i := 20) (by decide +kernel), List.mem_of_getElem? (i := 952) (by decide +kernel), List.mem_of_getElem? (i := 953) (by decide +kernel)⟩
theorem lw_p71 : lw_okq (⟨"CobolParser$Tree", "follower", "(I)I"⟩, 5) := ⟨⟨by decide +kernel, by decide +kernel⟩, List.mem_of_getElem? (i := 60) (by decide +kernel), List.mem_of_getElem? (i := 984) (by decide +kernel), List.mem_of_getElem? (i := 985) (by decide +kernel)⟩
theorem lw_p72 : lw_okq (⟨"CobolParserModel", "make", "(III)I"⟩, 65) := ⟨⟨by decide +kernel, by decide +kernel⟩, List.mem_of_getElem? (i := 988) (by decide +kernel), List.mem_of_getElem? (i := 1207) (by decide +kernel), List.mem_of_getElem? (i := 1208) (by decide +kernel)⟩
theorem lw_p73 : lw_okq (⟨"CobolParserModel", "clause", "()V"⟩, 65) := ⟨⟨by decide +kernel, by decide +kernel⟩, List.mem_of_getElem? (i := 988) (by decide +kernel), List.mem_of_getElem? (i := 1211) (by decide +kernel), List.mem_of_getElem? (i := 1212) (by decide +kernel)⟩
theorem lw_p74 : lw_okq (⟨"CobolParserModel", "item", "()V"⟩, 65) := ⟨⟨by decide +kernel, by decide +kernel⟩, List.mem_of_getElem? (i := 988) (by decide +kernel), List.mem_of_getElem? (i := 1215) (by decide +kernel), List.mem_of_getElem? (i := 1216) (by decide +kernel)⟩
theorem lw_p75 : lw_okq (⟨"CobolParserModel", "within", "(I)I"⟩, 65) := ⟨⟨by decide +kernel, by decide +kernel⟩, List.mem_of_getElem? (i := 988) (by decide +kernel), List.mem_of_getElem? (i := 1219) (by decide +kernel), List.mem_of_getElem? (i := 1220) (by decide +kernel)⟩
theorem lw_p76 : lw_okq (⟨"CobolParserModel", "fail", "(II)Z"⟩, 65) := ⟨⟨by decide +kernel, by decide +kernel⟩, List.mem_of_getElem? (i := 988) (by decide +kernel), List.mem_of_getElem? (i := 1223) (by decide +kernel), List.mem_of_getElem? (i := 1224) (by decide +kernel)⟩
theorem lw_p77 : lw_okq (⟨"CobolParserModel", "note", "(II)V"⟩, 65) := ⟨⟨by decide +kernel, by decide +kernel⟩, List.mem_of_getElem? (i := 988) (by decide +kernel), List.mem_of_getElem? (i := 1227) (by decide +kernel), List.mem_of_getElem? (i := 1228) (by decide +kernel)⟩
theorem lw_p78 : lw_okq (⟨"CobolParserModel", "isKind", "(II)Z"⟩, 65) := ⟨⟨by decide +kernel, by decide +kernel⟩, List.mem_of_getElem? (i := 988) (by decide +kernel), List.mem_of_getElem? (i := 1231) (by decide +kernel), List.mem_of_getElem? (i := 1232) (by decide +kernel)⟩
theorem lw_p79 : lw_okq (⟨"CobolParserModel", "isWord", "(II)Z"⟩, 65) := ⟨⟨by decide +kernel, by decide +kernel⟩, List.mem_of_getElem? (i := 988) (by decide +kernel), List.mem_of_getElem? (i := 1235) (by decide +kernel), List.mem_of_getElem? (i := 1236) (by decide +kernel)⟩
def lw_privs_5 : List (MethodName × Nat) := [(⟨"CobolParser$Clauses", "endSomething", "()V"⟩, 10), (⟨"CobolParser$Clauses", "endDeclaratives", "()V"⟩, 10), (⟨"CobolParser$Clauses", "endUnit", "()V"⟩, 10), (⟨"CobolParser$Clauses", "dataClause", "()V"⟩, 10), (⟨"CobolParser$Clauses", "dataSection", "(II)V"⟩, 10), (⟨"CobolParser$Clauses", "fileDescription", "()V"⟩, 10), (⟨"CobolParser", "finish", "()I"⟩, 3), (⟨"CobolParser$Tree", "follower", "(I)I"⟩, 5), (⟨"CobolParserModel", "make", "(III)I"⟩, 65), (⟨"CobolParserModel", "clause", "()V"⟩, 65), (⟨"CobolParserModel", "item", "()V"⟩, 65), (⟨"CobolParserModel", "within", "(I)I"⟩, 65), (⟨"CobolParserModel", "fail", "(II)Z"⟩, 65), (⟨"CobolParserModel", "note", "(II)V"⟩, 65), (⟨"CobolParserModel", "isKind", "(II)Z"⟩, 65), (⟨"CobolParserModel", "isWord", "(II)Z"⟩, 65)]
theorem lw_r5 : ∀ q ∈ lw_privs_5, lw_okq q := List.forall_mem_cons.mpr ⟨lw_p64, List.forall_mem_cons.mpr ⟨lw_p65, List.forall_mem_cons.mpr ⟨lw_p66, List.forall_mem_cons.mpr ⟨lw_p67, List.forall_mem_cons.mpr ⟨lw_p68, List.forall_mem_cons.mpr ⟨lw_p69, List.forall_mem_cons.mpr ⟨lw_p70, List.forall_mem_cons.mpr ⟨lw_p71, List.forall_mem_cons.mpr ⟨lw_p72, List.forall_mem_cons.mpr ⟨lw_p73, List.forall_mem_cons.mpr ⟨lw_p74, List.forall_mem_cons.mpr ⟨lw_p75, List.forall_mem_cons.mpr ⟨lw_p76, List.forall_mem_cons.mpr ⟨lw_p77, List.forall_mem_cons.mpr ⟨lw_p78, List.forall_mem_cons.mpr ⟨lw_p79, fun _ h => absurd h List.not_mem_nil⟩⟩⟩⟩⟩⟩⟩⟩⟩⟩⟩⟩⟩⟩⟩⟩
theorem lw_p80 : lw_okq (⟨"CobolParserModel", "described2", "(I)V"⟩, 65) := ⟨⟨by decide +kernel, by decide +kernel⟩, List.mem_of_getElem? (i := 988) (by decide +kernel), List.mem_of_getElem? (i := 1239) (by decide +kernel), List.mem_of_getElem? (i := 1240) (by decide +kernel)⟩
theorem lw_p81 : lw_okq (⟨"CobolParserModel", "meets", "(I)Z"⟩, 65) := ⟨⟨by decide +kernel, by decide +kernel⟩, List.mem_of_getElem? (i := 988) (by decide +kernel), List.mem_of_getElem? (i := 1243) (by decide +kernel), List.mem_of_getElem? (i := 1244) (by decide +kernel)⟩
theorem lw_p82 : lw_okq (⟨"CobolParserModel", "mustBe", "(I)Z"⟩, 65) := ⟨⟨by decide +kernel, by decide +kernel⟩, List.mem_of_getElem? (i := 988) (by decide +kernel), List.mem_of_getElem? (i := 1247) (by decide +kernel), List.mem_of_getElem? (i := 1248) (by decide +kernel)⟩
theorem lw_p83 : lw_okq (⟨"CobolParserModel", "passed", "()I"⟩, 65) := ⟨⟨by decide +kernel, by decide +kernel⟩, List.mem_of_getElem? (i := 988) (by decide +kernel), List.mem_of_getElem? (i := 1251) (by decide +kernel), List.mem_of_getElem? (i := 1252) (by decide +kernel)⟩
theorem lw_p84 : lw_okq (⟨"CobolParserModel", "child", "(IIII)V"⟩, 65) := ⟨⟨by decide +kernel, by decide +kernel⟩, List.mem_of_getElem? (i := 988) (by decide +kernel), List.mem_of_getElem? (i := 1255) (by decide +kernel), List.mem_of_getElem? (i := 1256) (by decide +kernel)⟩
theorem lw_p85 : lw_okq (⟨"CobolParserModel", "attach", "(II)V"⟩, 65) := ⟨⟨by decide +kernel, by decide +kernel⟩, List.mem_of_getElem? (i := 988) (by decide +kernel), List.mem_of_getElem? (i := 1259) (by decide +kernel), List.mem_of_getElem? (i := 1260) (by decide +kernel)⟩
theorem lw_p86 : lw_okq (⟨"CobolParserModel", "literal", "(I)V"⟩, 65) := ⟨⟨by decide +kernel, by decide +kernel⟩, List.mem_of_getElem? (i := 988) (by decide +kernel), List.mem_of_getElem? (i := 1263) (by decide +kernel), List.mem_of_getElem? (i := 1264) (by decide +kernel)⟩
theorem lw_p87 : lw_okq (⟨"CobolParserModel", "operandOf", "(I)V"⟩, 65) := ⟨⟨by decide +kernel, by decide +kernel⟩, List.mem_of_getElem? (i := 988) (by decide +kernel), List.mem_of_getElem? (i := 1267) (by decide +kernel), List.mem_of_getElem? (i := 1268) (by decide +kernel)⟩
theorem lw_p88 : lw_okq (⟨"CobolParserModel", "operand", "()I"⟩, 65) := ⟨⟨by decide +kernel, by decide +kernel⟩, List.mem_of_getElem? (i := 988) (by decide +kernel), List.mem_of_getElem? (i := 1271) (by decide +kernel), List.mem_of_getElem? (i := 1272) (by decide +kernel)⟩
theorem lw_p89 : lw_okq (⟨"CobolParserModel", "isOperand", "(I)Z"⟩, 65) := ⟨⟨by decide +kernel, by decide +kernel⟩, List.mem_of_getElem? (i := 988) (by decide +kernel), List.mem_of_getElem? (i := 1275) (by decide +kernel), List.mem_of_getElem? (i := 1276) (by decide +kernel)⟩
theorem lw_p90 : lw_okq (⟨"CobolParserModel", "occurs", "(II)V"⟩, 65) := ⟨⟨by decide +kernel, by decide +kernel⟩, List.mem_of_getElem? (i := 988) (by decide +kernel), List.mem_of_getElem? (i := 1280) (by decide +kernel), List.mem_of_getElem? (i := 1281) (by decide +kernel)⟩
theorem lw_p91 : lw_okq (⟨"CobolParserModel", "names", "(II)V"⟩, 65) := ⟨⟨by decide +kernel, by decide +kernel⟩, List.mem_of_getElem? (i := 988) (by decide +kernel), List.mem_of_getElem? (i := 1284) (by decide +kernel), List.mem_of_getElem? (i := 1285) (by decide +kernel)⟩
theorem lw_p92 : lw_okq (⟨"CobolParserModel", "named", "(I)V"⟩, 65) := ⟨⟨by decide +kernel, by decide +kernel⟩, List.mem_of_getElem? (i := 988) (by decide +kernel), List.mem_of_getElem? (i := 1288) (by decide +kernel), List.mem_of_getElem? (i := 1289) (by decide +kernel)⟩
theorem lw_p93 : lw_okq (⟨"CobolParserModel", "here", "()I"⟩, 65) := ⟨⟨by decide +kernel, by decide +kernel⟩, List.mem_of_getElem? (i := 988) (by decide +kernel), List.mem_of_getElem? (i := 1292) (by decide +kernel), List.mem_of_getElem? (i := 1293) (by decide +kernel)⟩
theorem lw_p94 : lw_okq (⟨"CobolParserModel", "to", "(I)V"⟩, 65) := ⟨⟨by decide +kernel, by decide +kernel⟩, List.mem_of_getElem? (i := 988) (by decide +kernel), List.mem_of_getElem? (i := 1296) (by decide +kernel), List.mem_of_getElem? (i := 1297) (by decide +kernel)⟩
theorem lw_p95 : lw_okq (⟨"CobolParserModel", "reserved", "(II)V"⟩, 65) := ⟨⟨by decide +kernel, by decide +kernel⟩, List.mem_of_getElem? (i := 988) (by decide +kernel), List.mem_of_getElem? (i := 1300) (by decide +kernel), List.mem_of_getElem? (i := 1301) (by decide +kernel)⟩
def lw_privs_6 : List (MethodName × Nat) := [(⟨"CobolParserModel", "described2", "(I)V"⟩, 65), (⟨"CobolParserModel", "meets", "(I)Z"⟩, 65), (⟨"CobolParserModel", "mustBe", "(I)Z"⟩, 65), (⟨"CobolParserModel", "passed", "()I"⟩, 65), (⟨"CobolParserModel", "child", "(IIII)V"⟩, 65), (⟨"CobolParserModel", "attach", "(II)V"⟩, 65), (⟨"CobolParserModel", "literal", "(I)V"⟩, 65), (⟨"CobolParserModel", "operandOf", "(I)V"⟩, 65), (⟨"CobolParserModel", "operand", "()I"⟩, 65), (⟨"CobolParserModel", "isOperand", "(I)Z"⟩, 65), (⟨"CobolParserModel", "occurs", "(II)V"⟩, 65), (⟨"CobolParserModel", "names", "(II)V"⟩, 65), (⟨"CobolParserModel", "named", "(I)V"⟩, 65), (⟨"CobolParserModel", "here", "()I"⟩, 65), (⟨"CobolParserModel", "to", "(I)V"⟩, 65), (⟨"CobolParserModel", "reserved", "(II)V"⟩, 65)]
theorem lw_r6 : ∀ q ∈ lw_privs_6, lw_okq q := List.forall_mem_cons.mpr ⟨lw_p80, List.forall_mem_cons.mpr ⟨lw_p81, List.forall_mem_cons.mpr ⟨lw_p82, List.forall_mem_cons.mpr ⟨lw_p83, List.forall_mem_cons.mpr ⟨lw_p84, List.forall_mem_cons.mpr ⟨lw_p85, List.forall_mem_cons.mpr ⟨lw_p86, List.forall_mem_cons.mpr ⟨lw_p87, List.forall_mem_cons.mpr ⟨lw_p88, List.forall_mem_cons.mpr ⟨lw_p89, List.forall_mem_cons.mpr ⟨lw_p90, List.forall_mem_cons.mpr ⟨lw_p91, List.forall_mem_cons.mpr ⟨lw_p92, List.forall_mem_cons.mpr ⟨lw_p93, List.forall_mem_cons.mpr ⟨lw_p94, List.forall_mem_cons.mpr ⟨lw_p95, fun _ h => absurd h List.not_mem_nil⟩⟩⟩⟩⟩⟩⟩⟩⟩⟩⟩⟩⟩⟩⟩⟩
theorem lw_p96 : lw_okq (⟨"CobolParserModel", "begins", "(I)Z"⟩, 65) := ⟨⟨by decide +kernel, by decide +kernel⟩, List.mem_of_getElem? (i := 988) (by decide +kernel), List.mem_of_getElem? (i := 1304) (by decide +kernel), List.mem_of_getElem? (i := 1305) (by decide +kernel)⟩
theorem lw_p97 : lw_okq (⟨"CobolParserModel", "sentence", "(I)V"⟩, 65) := ⟨⟨by decide +kernel, by decide +kernel⟩, List.mem_of_getElem? (i := 988) (by decide +kernel), List.mem_of_getElem? (i := 1308) (by decide +kernel), List.mem_of_getElem? (i := 1309) (by decide +kernel)⟩
theorem lw_p98 : lw_okq (⟨"CobolParserModel", "statements", "(I)V"⟩, 65) := ⟨⟨by decide +kernel, by decide +kernel⟩, List.mem_of_getElem? (i := 988) (by decide +kernel), List.mem_of_getElem? (i := 1312) (by decide +kernel), List.mem_of_getElem? (i := 1313) (by decide +kernel)⟩
theorem lw_p99 : lw_okq (⟨"CobolParserModel", "pile", "(II)V"⟩, 65) := ⟨⟨by decide +kernel, by decide +kernel⟩, List.mem_of_getElem? (i := 988) (by decide +kernel), List.mem_of_getElem? (i := 1316) (by decide +kernel), List.mem_of_getElem? (i := 1317) (by decide +kernel)⟩
theorem lw_p100 : lw_okq (⟨"CobolParserModel", "goOn", "(II)V"⟩, 65) := ⟨⟨by decide +kernel, by decide +kernel⟩, List.mem_of_getElem? (i := 988) (by decide +kernel), List.mem_of_getElem? (i := 1320) (by decide +kernel), List.mem_of_getElem? (i := 1321) (by decide +kernel)⟩
theorem lw_p101 : lw_okq (⟨"CobolParserModel", "asked", "(IIIII)V"⟩, 65) := ⟨⟨by decide +kernel, by decide +kernel⟩, List.mem_of_getElem? (i := 988) (by decide +kernel), List.mem_of_getElem? (i := 1324) (by decide +kernel), List.mem_of_getElem? (i := 1325) (by decide +kernel)⟩
theorem lw_p102 : lw_okq (⟨"CobolParserModel", "scope", "(IIZ)V"⟩, 65) := ⟨⟨by decide +kernel, by decide +kernel⟩, List.mem_of_getElem? (i := 988) (by decide +kernel), List.mem_of_getElem? (i := 1328) (by decide +kernel), List.mem_of_getElem? (i := 1329) (by decide +kernel)⟩
theorem lw_p103 : lw_okq (⟨"CobolParserModel", "must", "(I)Z"⟩, 65) := ⟨⟨by decide +kernel, by decide +kernel⟩, List.mem_of_getElem? (i := 988) (by decide +kernel), List.mem_of_getElem? (i := 1332) (by decide +kernel), List.mem_of_getElem? (i := 1333) (by decide +kernel)⟩
theorem lw_p104 : lw_okq (⟨"CobolParserModel", "list", "(I)V"⟩, 65) := ⟨⟨by decide +kernel, by decide +kernel⟩, List.mem_of_getElem? (i := 988) (by decide +kernel), List.mem_of_getElem? (i := 1336) (by decide +kernel), List.mem_of_getElem? (i := 1337) (by decide +kernel)⟩
theorem lw_p105 : lw_okq (⟨"CobolParserModel", "branch", "(III)V"⟩, 65) := ⟨⟨by decide +kernel, by decide +kernel⟩, List.mem_of_getElem? (i := 988) (by decide +kernel), List.mem_of_getElem? (i := 1340) (by decide +kernel), List.mem_of_getElem? (i := 1341) (by decide +kernel)⟩
theorem lw_p106 : lw_okq (⟨"CobolParserModel", "whens", "(III)V"⟩, 65) := ⟨⟨by decide +kernel, by decide +kernel⟩, List.mem_of_getElem? (i := 988) (by decide +kernel), List.mem_of_getElem? (i := 1344) (by decide +kernel), List.mem_of_getElem? (i := 1345) (by decide +kernel)⟩
theorem lw_p107 : lw_okq (⟨"CobolParserModel", "statement", "(I)V"⟩, 65) := ⟨⟨by decide +kernel, by decide +kernel⟩, List.mem_of_getElem? (i := 988) (by decide +kernel), List.mem_of_getElem? (i := 1348) (by decide +kernel), List.mem_of_getElem? (i := 1349) (by decide +kernel)⟩
theorem lw_p108 : lw_okq (⟨"CobolParserModel", "add", "(I)V"⟩, 65) := ⟨⟨by decide +kernel, by decide +kernel⟩, List.mem_of_getElem? (i := 988) (by decide +kernel), List.mem_of_getElem? (i := 1352) (by decide +kernel), List.mem_of_getElem? (i := 1353) (by decide +kernel)⟩
theorem lw_p109 : lw_okq (⟨"CobolParserModel", "conditionOf", "(I)V"⟩, 65) := ⟨⟨by decide +kernel, by decide +kernel⟩, List.mem_of_getElem? (i := 988) (by decide +kernel), List.mem_of_getElem? (i := 1356) (by decide +kernel), List.mem_of_getElem? (i := 1357) (by decide +kernel)⟩
theorem lw_p110 : lw_okq (⟨"CobolParserModel", "condition", "()I"⟩, 65) := ⟨⟨by decide +kernel, by decide +kernel⟩, List.mem_of_getElem? (i := 988) (by decide +kernel), List.mem_of_getElem? (i := 1360) (by decide +kernel), List.mem_of_getElem? (i := 1361) (by decide +kernel)⟩
theorem lw_p111 : lw_okq (⟨"CobolParserModel", "joint", "()V"⟩, 65) := ⟨⟨by decide +kernel, by decide +kernel⟩, List.mem_of_getElem? (i := 988) (by decide +kernel), List.mem_of_getElem? (i := 1364) (by decide +kernel), List.mem_of_getElem? (i := 1365) (by decide +kernel)⟩
def lw_privs_7 : List (MethodName × Nat) := [(⟨"CobolParserModel", "begins", "(I)Z"⟩, 65), (⟨"CobolParserModel", "sentence", "(I)V"⟩, 65), (⟨"CobolParserModel", "statements", "(I)V"⟩, 65), (⟨"CobolParserModel", "pile", "(II)V"⟩, 65), (⟨"CobolParserModel", "goOn", "(II)V"⟩, 65), (⟨"CobolParserModel", "asked", "(IIIII)V"⟩, 65), (⟨"CobolParserModel", "scope", "(IIZ)V"⟩, 65), (⟨"CobolParserModel", "must", "(I)Z"⟩, 65), (⟨"CobolParserModel", "list", "(I)V"⟩, 65), (⟨"CobolParserModel", "branch", "(III)V"⟩, 65), (⟨"CobolParserModel", "whens", "(III)V"⟩, 65), (⟨"CobolParserModel", "statement", "(I)V"⟩, 65), (⟨"CobolParserModel", "add", "(I)V"⟩, 65), (⟨"CobolParserModel", "conditionOf", "(I)V"⟩, 65), (⟨"CobolParserModel", "condition", "()I"⟩, 65), (⟨"CobolParserModel", "joint", "()V"⟩, 65)]
theorem lw_r7 : ∀ q ∈ lw_privs_7, lw_okq q := List.forall_mem_cons.mpr ⟨lw_p96, List.forall_mem_cons.mpr ⟨lw_p97, List.forall_mem_cons.mpr ⟨lw_p98, List.forall_mem_cons.mpr ⟨lw_p99, List.forall_mem_cons.mpr ⟨lw_p100, List.forall_mem_cons.mpr ⟨lw_p101, List.forall_mem_cons.mpr ⟨lw_p102, List.forall_mem_cons.mpr ⟨lw_p103, List.forall_mem_cons.mpr ⟨lw_p104, List.forall_mem_cons.mpr ⟨lw_p105, List.forall_mem_cons.mpr ⟨lw_p106, List.forall_mem_cons.mpr ⟨lw_p107, List.forall_mem_cons.mpr ⟨lw_p108, List.forall_mem_cons.mpr ⟨lw_p109, List.forall_mem_cons.mpr ⟨lw_p110, List.forall_mem_cons.mpr ⟨lw_p111, fun _ h => absurd h List.not_mem_nil⟩⟩⟩⟩⟩⟩⟩⟩⟩⟩⟩⟩⟩⟩⟩⟩
theorem lw_p112 : lw_okq (⟨"CobolParserModel", "factor", "()I"⟩, 65) := ⟨⟨by decide +kernel, by decide +kernel⟩, List.mem_of_getElem? (i := 988) (by decide +kernel), List.mem_of_getElem? (i := 1368) (by decide +kernel), List.mem_of_getElem? (i := 1369) (by decide +kernel)⟩
theorem lw_p113 : lw_okq (⟨"CobolParserModel", "isComparing", "(I)Z"⟩, 65) := ⟨⟨by decide +kernel, by decide +kernel⟩, List.mem_of_getElem? (i := 988) (by decide +kernel), List.mem_of_getElem? (i := 1372) (by decide +kernel), List.mem_of_getElem? (i := 1373) (by decide +kernel)⟩
theorem lw_p114 : lw_okq (⟨"CobolParserModel", "deeper", "(I)V"⟩, 65) := ⟨⟨by decide +kernel, by decide +kernel⟩, List.mem_of_getElem? (i := 988) (by decide +kernel), List.mem_of_getElem? (i := 1376) (by decide +kernel), List.mem_of_getElem? (i := 1377) (by decide +kernel)⟩
theorem lw_p115 : lw_okq (⟨"CobolParserModel", "isSign", "(II)Z"⟩, 65) := ⟨⟨by decide +kernel, by decide +kernel⟩, List.mem_of_getElem? (i := 988) (by decide +kernel), List.mem_of_getElem? (i := 1380) (by decide +kernel), List.mem_of_getElem? (i := 1381) (by decide +kernel)⟩
theorem lw_p116 : lw_okq (⟨"CobolParserModel", "isBehind", "()Z"⟩, 65) := ⟨⟨by decide +kernel, by decide +kernel⟩, List.mem_of_getElem? (i := 988) (by decide +kernel), List.mem_of_getElem? (i := 1384) (by decide +kernel), List.mem_of_getElem? (i := 1385) (by decide +kernel)⟩
theorem lw_p117 : lw_okq (⟨"CobolParserModel", "compare", "(I)V"⟩, 65) := ⟨⟨by decide +kernel, by decide +kernel⟩, List.mem_of_getElem? (i := 988) (by decide +kernel), List.mem_of_getElem? (i := 1388) (by decide +kernel), List.mem_of_getElem? (i := 1389) (by decide +kernel)⟩
theorem lw_p118 : lw_okq (⟨"CobolParserModel", "behindFactor", "(I)I"⟩, 65) := ⟨⟨by decide +kernel, by decide +kernel⟩, List.mem_of_getElem? (i := 988) (by decide +kernel), List.mem_of_getElem? (i := 1392) (by decide +kernel), List.mem_of_getElem? (i := 1393) (by decide +kernel)⟩
theorem lw_p119 : lw_okq (⟨"CobolParserModel", "closeAnds", "()V"⟩, 65) := ⟨⟨by decide +kernel, by decide +kernel⟩, List.mem_of_getElem? (i := 988) (by decide +kernel), List.mem_of_getElem? (i := 1396) (by decide +kernel), List.mem_of_getElem? (i := 1397) (by decide +kernel)⟩
theorem lw_p120 : lw_okq (⟨"CobolParserModel", "whole", "(IIII)I"⟩, 65) := ⟨⟨by decide +kernel, by decide +kernel⟩, List.mem_of_getElem? (i := 988) (by decide +kernel), List.mem_of_getElem? (i := 1400) (by decide +kernel), List.mem_of_getElem? (i := 1401) (by decide +kernel)⟩
theorem lw_p121 : lw_okq (⟨"CobolParserModel", "perform", "(I)V"⟩, 65) := ⟨⟨by decide +kernel, by decide +kernel⟩, List.mem_of_getElem? (i := 988) (by decide +kernel), List.mem_of_getElem? (i := 1404) (by decide +kernel), List.mem_of_getElem? (i := 1405) (by decide +kernel)⟩
theorem lw_p122 : lw_okq (⟨"CobolParserModel", "phrase", "(I)V"⟩, 65) := ⟨⟨by decide +kernel, by decide +kernel⟩, List.mem_of_getElem? (i := 988) (by decide +kernel), List.mem_of_getElem? (i := 1408) (by decide +kernel), List.mem_of_getElem? (i := 1409) (by decide +kernel)⟩
theorem lw_p123 : lw_okq (⟨"CobolParserModel", "isTimes", "()Z"⟩, 65) := ⟨⟨by decide +kernel, by decide +kernel⟩, List.mem_of_getElem? (i := 988) (by decide +kernel), List.mem_of_getElem? (i := 1412) (by decide +kernel), List.mem_of_getElem? (i := 1413) (by decide +kernel)⟩
theorem lw_p124 : lw_okq (⟨"CobolParserModel", "call", "(I)V"⟩, 65) := ⟨⟨by decide +kernel, by decide +kernel⟩, List.mem_of_getElem? (i := 988) (by decide +kernel), List.mem_of_getElem? (i := 1416) (by decide +kernel), List.mem_of_getElem? (i := 1417) (by decide +kernel)⟩
theorem lw_p125 : lw_okq (⟨"CobolParserModel", "compute", "(I)V"⟩, 65) := ⟨⟨by decide +kernel, by decide +kernel⟩, List.mem_of_getElem? (i := 988) (by decide +kernel), List.mem_of_getElem? (i := 1420) (by decide +kernel), List.mem_of_getElem? (i := 1421) (by decide +kernel)⟩
theorem lw_p126 : lw_okq (⟨"CobolParserModel", "sum", "()I"⟩, 65) := ⟨⟨by decide +kernel, by decide +kernel⟩, List.mem_of_getElem? (i := 988) (by decide +kernel), List.mem_of_getElem? (i := 1424) (by decide +kernel), List.mem_of_getElem? (i := 1425) (by decide +kernel)⟩
theorem lw_p127 : lw_okq (⟨"CobolParserModel", "context", "()V"⟩, 65) := ⟨⟨by decide +kernel, by decide +kernel⟩, List.mem_of_getElem? (i := 988) (by decide +kernel), List.mem_of_getElem? (i := 1428) (by decide +kernel), List.mem_of_getElem? (i := 1429) (by decide +kernel)⟩
def lw_privs_8 : List (MethodName × Nat) := [(⟨"CobolParserModel", "factor", "()I"⟩, 65), (⟨"CobolParserModel", "isComparing", "(I)Z"⟩, 65), (⟨"CobolParserModel", "deeper", "(I)V"⟩, 65), (⟨"CobolParserModel", "isSign", "(II)Z"⟩, 65), (⟨"CobolParserModel", "isBehind", "()Z"⟩, 65), (⟨"CobolParserModel", "compare", "(I)V"⟩, 65), (⟨"CobolParserModel", "behindFactor", "(I)I"⟩, 65), (⟨"CobolParserModel", "closeAnds", "()V"⟩, 65), (⟨"CobolParserModel", "whole", "(IIII)I"⟩, 65), (⟨"CobolParserModel", "perform", "(I)V"⟩, 65), (⟨"CobolParserModel", "phrase", "(I)V"⟩, 65), (⟨"CobolParserModel", "isTimes", "()Z"⟩, 65), (⟨"CobolParserModel", "call", "(I)V"⟩, 65), (⟨"CobolParserModel", "compute", "(I)V"⟩, 65), (⟨"CobolParserModel", "sum", "()I"⟩, 65), (⟨"CobolParserModel", "context", "()V"⟩, 65)]
theorem lw_r8 : ∀ q ∈ lw_privs_8, lw_okq q := List.forall_mem_cons.mpr ⟨lw_p112, List.forall_mem_cons.mpr ⟨lw_p113, List.forall_mem_cons.mpr ⟨lw_p114, List.forall_mem_cons.mpr ⟨lw_p115, List.forall_mem_cons.mpr ⟨lw_p116, List.forall_mem_cons.mpr ⟨lw_p117, List.forall_mem_cons.mpr ⟨lw_p118, List.forall_mem_cons.mpr ⟨lw_p119, List.forall_mem_cons.mpr ⟨lw_p120, List.forall_mem_cons.mpr ⟨lw_p121, List.forall_mem_cons.mpr ⟨lw_p122, List.forall_mem_cons.mpr ⟨lw_p123, List.forall_mem_cons.mpr ⟨lw_p124, List.forall_mem_cons.mpr ⟨lw_p125, List.forall_mem_cons.mpr ⟨lw_p126, List.forall_mem_cons.mpr ⟨lw_p127, fun _ h => absurd h List.not_mem_nil⟩⟩⟩⟩⟩⟩⟩⟩⟩⟩⟩⟩⟩⟩⟩⟩
theorem lw_p128 : lw_okq (⟨"CobolParserModel", "behindUnit", "(I)I"⟩, 65) := ⟨⟨by decide +kernel, by decide +kernel⟩, List.mem_of_getElem? (i := 988) (by decide +kernel), List.mem_of_getElem? (i := 1432) (by decide +kernel), List.mem_of_getElem? (i := 1433) (by decide +kernel)⟩
theorem lw_p129 : lw_okq (⟨"CobolParserModel", "joined", "(III)I"⟩, 65) := ⟨⟨by decide +kernel, by decide +kernel⟩, List.mem_of_getElem? (i := 988) (by decide +kernel), List.mem_of_getElem? (i := 1436) (by decide +kernel), List.mem_of_getElem? (i := 1437) (by decide +kernel)⟩
theorem lw_p130 : lw_okq (⟨"CobolParserModel", "identified", "(I)V"⟩, 65) := ⟨⟨by decide +kernel, by decide +kernel⟩, List.mem_of_getElem? (i := 988) (by decide +kernel), List.mem_of_getElem? (i := 1440) (by decide +kernel), List.mem_of_getElem? (i := 1441) (by decide +kernel)⟩
theorem lw_p131 : lw_okq (⟨"CobolParserModel", "unitNamed", "(Z)V"⟩, 65) := ⟨⟨by decide +kernel, by decide +kernel⟩, List.mem_of_getElem? (i := 988) (by decide +kernel), List.mem_of_getElem? (i := 1444) (by decide +kernel), List.mem_of_getElem? (i := 1445) (by decide +kernel)⟩
theorem lw_p132 : lw_okq (⟨"CobolParserModel", "select", "(I)V"⟩, 65) := ⟨⟨by decide +kernel, by decide +kernel⟩, List.mem_of_getElem? (i := 988) (by decide +kernel), List.mem_of_getElem? (i := 1448) (by decide +kernel), List.mem_of_getElem? (i := 1449) (by decide +kernel)⟩
theorem lw_p133 : lw_okq (⟨"CobolParserModel", "described", "(I)V"⟩, 65) := ⟨⟨by decide +kernel, by decide +kernel⟩, List.mem_of_getElem? (i := 988) (by decide +kernel), List.mem_of_getElem? (i := 1452) (by decide +kernel), List.mem_of_getElem? (i := 1453) (by decide +kernel)⟩
theorem lw_p134 : lw_okq (⟨"CobolParserModel", "begun", "(I)V"⟩, 65) := ⟨⟨by decide +kernel, by decide +kernel⟩, List.mem_of_getElem? (i := 988) (by decide +kernel), List.mem_of_getElem? (i := 1456) (by decide +kernel), List.mem_of_getElem? (i := 1457) (by decide +kernel)⟩
theorem lw_p135 : lw_okq (⟨"CobolParserModel", "ended", "(I)V"⟩, 65) := ⟨⟨by decide +kernel, by decide +kernel⟩, List.mem_of_getElem? (i := 988) (by decide +kernel), List.mem_of_getElem? (i := 1460) (by decide +kernel), List.mem_of_getElem? (i := 1461) (by decide +kernel)⟩
theorem lw_p136 : lw_okq (⟨"CobolParserModel", "division2", "(II)V"⟩, 65) := ⟨⟨by decide +kernel, by decide +kernel⟩, List.mem_of_getElem? (i := 988) (by decide +kernel), List.mem_of_getElem? (i := 1464) (by decide +kernel), List.mem_of_getElem? (i := 1465) (by decide +kernel)⟩
theorem lw_p137 : lw_okq (⟨"CobolParserModel", "numberAll", "(I)V"⟩, 65) := ⟨⟨by decide +kernel, by decide +kernel⟩, List.mem_of_getElem? (i := 988) (by decide +kernel), List.mem_of_getElem? (i := 1468) (by decide +kernel), List.mem_of_getElem? (i := 1469) (by decide +kernel)⟩
def lw_privs_9 : List (MethodName × Nat) := [(⟨"CobolParserModel", "behindUnit", "(I)I"⟩, 65), (⟨"CobolParserModel", "joined", "(III)I"⟩, 65), (⟨"CobolParserModel", "identified", "(I)V"⟩, 65), (⟨"CobolParserModel", "unitNamed", "(Z)V"⟩, 65), (⟨"CobolParserModel", "select", "(I)V"⟩, 65), (⟨"CobolParserModel", "described", "(I)V"⟩, 65), (⟨"CobolParserModel", "begun", "(I)V"⟩, 65), (⟨"CobolParserModel", "ended", "(I)V"⟩, 65), (⟨"CobolParserModel", "division2", "(II)V"⟩, 65), (⟨"CobolParserModel", "numberAll", "(I)V"⟩, 65)]
theorem lw_r9 : ∀ q ∈ lw_privs_9, lw_okq q := List.forall_mem_cons.mpr ⟨lw_p128, List.forall_mem_cons.mpr ⟨lw_p129, List.forall_mem_cons.mpr ⟨lw_p130, List.forall_mem_cons.mpr ⟨lw_p131, List.forall_mem_cons.mpr ⟨lw_p132, List.forall_mem_cons.mpr ⟨lw_p133, List.forall_mem_cons.mpr ⟨lw_p134, List.forall_mem_cons.mpr ⟨lw_p135, List.forall_mem_cons.mpr ⟨lw_p136, List.forall_mem_cons.mpr ⟨lw_p137, fun _ h => absurd h List.not_mem_nil⟩⟩⟩⟩⟩⟩⟩⟩⟩⟩
def lw_privs : List (MethodName × Nat) := lw_privs_1 ++ (lw_privs_2 ++ (lw_privs_3 ++ (lw_privs_4 ++ (lw_privs_5 ++ (lw_privs_6 ++ (lw_privs_7 ++ (lw_privs_8 ++ (lw_privs_9))))))))
def lw_tbl : List Cond := k2_sels lw_privs ++ tables_1
theorem lw_privs_ok : ∀ q ∈ lw_privs, lw_okq q := by
  show ∀ q ∈ lw_privs_1 ++ (lw_privs_2 ++ (lw_privs_3 ++ (lw_privs_4 ++ (lw_privs_5 ++ (lw_privs_6 ++ (lw_privs_7 ++ (lw_privs_8 ++ (lw_privs_9)))))))), lw_okq q
  exact List.forall_mem_append.mpr ⟨lw_r1, List.forall_mem_append.mpr ⟨lw_r2, List.forall_mem_append.mpr ⟨lw_r3, List.forall_mem_append.mpr ⟨lw_r4, List.forall_mem_append.mpr ⟨lw_r5, List.forall_mem_append.mpr ⟨lw_r6, List.forall_mem_append.mpr ⟨lw_r7, List.forall_mem_append.mpr ⟨lw_r8, lw_r9⟩⟩⟩⟩⟩⟩⟩⟩
-- ===== end of PART A; then your names; then what follows =====
end
section
/-! names and tables of the class files, by wip/whole/gen.py -/
def nm_Tg : List Jvm.Cond := lw_tbl.filter goodWord
theorem nm_in1 {w : Jvm.Cond} (h : w ∈ tables_1_1) (g : goodWord w = true) : w ∈ nm_Tg := List.mem_filter.mpr ⟨List.mem_append_right _ (List.mem_append_left _ h), g⟩
theorem nm_in2 {w : Jvm.Cond} (h : w ∈ tables_1_2) (g : goodWord w = true) : w ∈ nm_Tg := List.mem_filter.mpr ⟨List.mem_append_right _ (List.mem_append_right _ (List.mem_append_left _ h)), g⟩
theorem nm_in3 {w : Jvm.Cond} (h : w ∈ tables_1_3) (g : goodWord w = true) : w ∈ nm_Tg := List.mem_filter.mpr ⟨List.mem_append_right _ (List.mem_append_right _ (List.mem_append_right _ (List.mem_append_left _ h))), g⟩
theorem nm_in4 {w : Jvm.Cond} (h : w ∈ tables_1_4) (g : goodWord w = true) : w ∈ nm_Tg := List.mem_filter.mpr ⟨List.mem_append_right _ (List.mem_append_right _ (List.mem_append_right _ (List.mem_append_right _ (List.mem_append_left _ h)))), g⟩
theorem nm_in5 {w : Jvm.Cond} (h : w ∈ tables_1_5) (g : goodWord w = true) : w ∈ nm_Tg := List.mem_filter.mpr ⟨List.mem_append_right _ (List.mem_append_right _ (List.mem_append_right _ (List.mem_append_right _ (List.mem_append_right _ (List.mem_append_left _ h))))), g⟩
theorem nm_in6 {w : Jvm.Cond} (h : w ∈ tables_1_6) (g : goodWord w = true) : w ∈ nm_Tg := List.mem_filter.mpr ⟨List.mem_append_right _ (List.mem_append_right _ (List.mem_append_right _ (List.mem_append_right _ (List.mem_append_right _ (List.mem_append_right _ (List.mem_append_left _ h)))))), g⟩
theorem nm_in7 {w : Jvm.Cond} (h : w ∈ tables_1_7) (g : goodWord w = true) : w ∈ nm_Tg := List.mem_filter.mpr ⟨List.mem_append_right _ (List.mem_append_right _ (List.mem_append_right _ (List.mem_append_right _ (List.mem_append_right _ (List.mem_append_right _ (List.mem_append_right _ h)))))), g⟩
theorem nm_se1 {y : MethodName} {n : Nat} (h : (y, n) ∈ lw_privs_1) : Cond.selects y.cls y y ∈ nm_Tg := List.mem_filter.mpr ⟨List.mem_append_left _ (List.mem_map.mpr ⟨(y, n), (List.mem_append_left _ h), rfl⟩), rfl⟩
theorem nm_se2 {y : MethodName} {n : Nat} (h : (y, n) ∈ lw_privs_2) : Cond.selects y.cls y y ∈ nm_Tg := List.mem_filter.mpr ⟨List.mem_append_left _ (List.mem_map.mpr ⟨(y, n), (List.mem_append_right _ (List.mem_append_left _ h)), rfl⟩), rfl⟩
theorem nm_se3 {y : MethodName} {n : Nat} (h : (y, n) ∈ lw_privs_3) : Cond.selects y.cls y y ∈ nm_Tg := List.mem_filter.mpr ⟨List.mem_append_left _ (List.mem_map.mpr ⟨(y, n), (List.mem_append_right _ (List.mem_append_right _ (List.mem_append_left _ h))), rfl⟩), rfl⟩
theorem nm_se4 {y : MethodName} {n : Nat} (h : (y, n) ∈ lw_privs_4) : Cond.selects y.cls y y ∈ nm_Tg := List.mem_filter.mpr ⟨List.mem_append_left _ (List.mem_map.mpr ⟨(y, n), (List.mem_append_right _ (List.mem_append_right _ (List.mem_append_right _ (List.mem_append_left _ h)))), rfl⟩), rfl⟩
theorem nm_se5 {y : MethodName} {n : Nat} (h : (y, n) ∈ lw_privs_5) : Cond.selects y.cls y y ∈ nm_Tg := List.mem_filter.mpr ⟨List.mem_append_left _ (List.mem_map.mpr ⟨(y, n), (List.mem_append_right _ (List.mem_append_right _ (List.mem_append_right _ (List.mem_append_right _ (List.mem_append_left _ h))))), rfl⟩), rfl⟩
theorem nm_se6 {y : MethodName} {n : Nat} (h : (y, n) ∈ lw_privs_6) : Cond.selects y.cls y y ∈ nm_Tg := List.mem_filter.mpr ⟨List.mem_append_left _ (List.mem_map.mpr ⟨(y, n), (List.mem_append_right _ (List.mem_append_right _ (List.mem_append_right _ (List.mem_append_right _ (List.mem_append_right _ (List.mem_append_left _ h)))))), rfl⟩), rfl⟩
theorem nm_se7 {y : MethodName} {n : Nat} (h : (y, n) ∈ lw_privs_7) : Cond.selects y.cls y y ∈ nm_Tg := List.mem_filter.mpr ⟨List.mem_append_left _ (List.mem_map.mpr ⟨(y, n), (List.mem_append_right _ (List.mem_append_right _ (List.mem_append_right _ (List.mem_append_right _ (List.mem_append_right _ (List.mem_append_right _ (List.mem_append_left _ h))))))), rfl⟩), rfl⟩
theorem nm_se8 {y : MethodName} {n : Nat} (h : (y, n) ∈ lw_privs_8) : Cond.selects y.cls y y ∈ nm_Tg := List.mem_filter.mpr ⟨List.mem_append_left _ (List.mem_map.mpr ⟨(y, n), (List.mem_append_right _ (List.mem_append_right _ (List.mem_append_right _ (List.mem_append_right _ (List.mem_append_right _ (List.mem_append_right _ (List.mem_append_right _ (List.mem_append_left _ h)))))))), rfl⟩), rfl⟩
theorem nm_se9 {y : MethodName} {n : Nat} (h : (y, n) ∈ lw_privs_9) : Cond.selects y.cls y y ∈ nm_Tg := List.mem_filter.mpr ⟨List.mem_append_left _ (List.mem_map.mpr ⟨(y, n), (List.mem_append_right _ (List.mem_append_right _ (List.mem_append_right _ (List.mem_append_right _ (List.mem_append_right _ (List.mem_append_right _ (List.mem_append_right _ (List.mem_append_right _ h)))))))), rfl⟩), rfl⟩
theorem nm_fc {α : Type} {P : α → Prop} {a : α} {l : List α} (h : P a) (t : ∀ x ∈ l, P x) : ∀ x ∈ a :: l, P x := List.forall_mem_cons.mpr ⟨h, t⟩
theorem nm_fa {α : Type} {P : α → Prop} {l l2 : List α} (h : ∀ x ∈ l, P x) (t : ∀ x ∈ l2, P x) : ∀ x ∈ l ++ l2, P x := fun x hx => (List.mem_append.mp hx).elim (h x) (t x)
theorem nm_lk {α : Type} {l : List ((String × Nat) × α)} {k : String × Nat} {x : α} (h : l.lookup k = some x) : (k, x) ∈ l := by
  induction l with
  | nil => cases h
  | cons a t ih =>
    obtain ⟨k2, v⟩ := a
    rw [List.lookup_cons] at h
    split at h
    · rename_i hk
      cases h
      have e : k = k2 := by simpa using hk
      rw [e]
      exact List.mem_cons_self
    · exact List.mem_cons_of_mem _ (ih h)
theorem nm_pd0 : parseFieldDescriptor "I" = some .int := by decide +kernel
theorem nm_pd1 : parseFieldDescriptor "LCobolParser$Clauses;" = some (.object "CobolParser$Clauses") := by decide +kernel
theorem nm_pd2 : parseFieldDescriptor "LCobolParser$Expressions;" = some (.object "CobolParser$Expressions") := by decide +kernel
theorem nm_pd3 : parseFieldDescriptor "LCobolParser$Items;" = some (.object "CobolParser$Items") := by decide +kernel
theorem nm_pd4 : parseFieldDescriptor "LCobolParser$Leaves;" = some (.object "CobolParser$Leaves") := by decide +kernel
theorem nm_pd5 : parseFieldDescriptor "LCobolParser$Row;" = some (.object "CobolParser$Row") := by decide +kernel
theorem nm_pd6 : parseFieldDescriptor "LCobolParser$Statements;" = some (.object "CobolParser$Statements") := by decide +kernel
theorem nm_pd7 : parseFieldDescriptor "LCobolParser$Tree;" = some (.object "CobolParser$Tree") := by decide +kernel
theorem nm_pd8 : parseFieldDescriptor "LCobolParser$Units;" = some (.object "CobolParser$Units") := by decide +kernel
theorem nm_pd9 : parseFieldDescriptor "Z" = some .boolean := by decide +kernel
theorem nm_pd10 : parseFieldDescriptor "[I" = some (.array .int) := by decide +kernel
theorem nm_pd11 : parseFieldDescriptor "[Z" = some (.array .boolean) := by decide +kernel
def nm_T0 : u_T := fun k => match k with
  | 0 => ("CobolParser", "row", "LCobolParser$Row;", true)
  | 1 => ("CobolParser", "tree", "LCobolParser$Tree;", true)
  | _ => ("CobolParser", "clauses", "LCobolParser$Clauses;", true)
def nm_ty0 : Nat → FieldType := fun k => match k with
  | 0 => (.object "CobolParser$Row")
  | 1 => (.object "CobolParser$Tree")
  | _ => (.object "CobolParser$Clauses")
theorem nm_nm0 : ∀ a, a < 3 → ∀ b, b < 3 → a ≠ b → (nm_T0 a).2.1 ≠ (nm_T0 b).2.1 := by decide +kernel
theorem nm_to0 : ∀ k, k < 3 → parseFieldDescriptor (nm_T0 k).2.2.1 = some (nm_ty0 k) := by decide +kernel
def nm_T1 : u_T := fun k => match k with
  | 0 => ("CobolParser$Row", "kinds", "[I", false)
  | 1 => ("CobolParser$Row", "values", "[I", false)
  | 2 => ("CobolParser$Row", "size", "I", false)
  | 3 => ("CobolParser$Row", "at", "I", false)
  | 4 => ("CobolParser$Row", "refusal", "I", false)
  | 5 => ("CobolParser$Row", "faultNumbers", "[I", true)
  | 6 => ("CobolParser$Row", "faultPlaces", "[I", true)
  | _ => ("CobolParser$Row", "faultSize", "I", false)
def nm_ty1 : Nat → FieldType := fun k => match k with
  | 0 => (.array .int)
  | 1 => (.array .int)
  | 2 => .int
  | 3 => .int
  | 4 => .int
  | 5 => (.array .int)
  | 6 => (.array .int)
  | _ => .int
theorem nm_nm1 : ∀ a, a < 8 → ∀ b, b < 8 → a ≠ b → (nm_T1 a).2.1 ≠ (nm_T1 b).2.1 := by decide +kernel
theorem nm_to1 : ∀ k, k < 8 → parseFieldDescriptor (nm_T1 k).2.2.1 = some (nm_ty1 k) := by decide +kernel
def nm_T2 : u_T := fun k => match k with
  | 0 => ("CobolParser$Tree", "cells", "[I", false)
  | 1 => ("CobolParser$Tree", "made", "I", false)
  | 2 => ("CobolParser$Tree", "numbered", "I", false)
  | 3 => ("CobolParser$Tree", "units", "I", false)
  | _ => ("CobolParser$Tree", "greatestLevel", "I", false)
def nm_ty2 : Nat → FieldType := fun k => match k with
  | 0 => (.array .int)
  | 1 => .int
  | 2 => .int
  | 3 => .int
  | _ => .int
theorem nm_nm2 : ∀ a, a < 5 → ∀ b, b < 5 → a ≠ b → (nm_T2 a).2.1 ≠ (nm_T2 b).2.1 := by decide +kernel
theorem nm_to2 : ∀ k, k < 5 → parseFieldDescriptor (nm_T2 k).2.2.1 = some (nm_ty2 k) := by decide +kernel
def nm_T3 : u_T := fun k => match k with
  | 0 => ("CobolParser$Leaves", "row", "LCobolParser$Row;", true)
  | _ => ("CobolParser$Leaves", "tree", "LCobolParser$Tree;", true)
def nm_ty3 : Nat → FieldType := fun k => match k with
  | 0 => (.object "CobolParser$Row")
  | _ => (.object "CobolParser$Tree")
theorem nm_nm3 : ∀ a, a < 2 → ∀ b, b < 2 → a ≠ b → (nm_T3 a).2.1 ≠ (nm_T3 b).2.1 := by decide +kernel
theorem nm_to3 : ∀ k, k < 2 → parseFieldDescriptor (nm_T3 k).2.2.1 = some (nm_ty3 k) := by decide +kernel
def nm_T4 : u_T := fun k => match k with
  | 0 => ("CobolParser$Statements", "row", "LCobolParser$Row;", true)
  | 1 => ("CobolParser$Statements", "tree", "LCobolParser$Tree;", true)
  | 2 => ("CobolParser$Statements", "leaves", "LCobolParser$Leaves;", true)
  | _ => ("CobolParser$Statements", "expressions", "LCobolParser$Expressions;", true)
def nm_ty4 : Nat → FieldType := fun k => match k with
  | 0 => (.object "CobolParser$Row")
  | 1 => (.object "CobolParser$Tree")
  | 2 => (.object "CobolParser$Leaves")
  | _ => (.object "CobolParser$Expressions")
theorem nm_nm4 : ∀ a, a < 4 → ∀ b, b < 4 → a ≠ b → (nm_T4 a).2.1 ≠ (nm_T4 b).2.1 := by decide +kernel
theorem nm_to4 : ∀ k, k < 4 → parseFieldDescriptor (nm_T4 k).2.2.1 = some (nm_ty4 k) := by decide +kernel
def nm_T5 : u_T := fun k => match k with
  | 0 => ("CobolParser$Expressions", "row", "LCobolParser$Row;", true)
  | 1 => ("CobolParser$Expressions", "tree", "LCobolParser$Tree;", true)
  | 2 => ("CobolParser$Expressions", "leaves", "LCobolParser$Leaves;", true)
  | 3 => ("CobolParser$Expressions", "subject", "I", false)
  | _ => ("CobolParser$Expressions", "latestHow", "I", false)
def nm_ty5 : Nat → FieldType := fun k => match k with
  | 0 => (.object "CobolParser$Row")
  | 1 => (.object "CobolParser$Tree")
  | 2 => (.object "CobolParser$Leaves")
  | 3 => .int
  | _ => .int
theorem nm_nm5 : ∀ a, a < 5 → ∀ b, b < 5 → a ≠ b → (nm_T5 a).2.1 ≠ (nm_T5 b).2.1 := by decide +kernel
theorem nm_to5 : ∀ k, k < 5 → parseFieldDescriptor (nm_T5 k).2.2.1 = some (nm_ty5 k) := by decide +kernel
def nm_T6 : u_T := fun k => match k with
  | 0 => ("CobolParser$Clauses", "row", "LCobolParser$Row;", true)
  | 1 => ("CobolParser$Clauses", "tree", "LCobolParser$Tree;", true)
  | 2 => ("CobolParser$Clauses", "leaves", "LCobolParser$Leaves;", true)
  | 3 => ("CobolParser$Clauses", "statements", "LCobolParser$Statements;", true)
  | 4 => ("CobolParser$Clauses", "items", "LCobolParser$Items;", true)
  | 5 => ("CobolParser$Clauses", "units", "LCobolParser$Units;", true)
  | 6 => ("CobolParser$Clauses", "openDivision", "I", false)
  | 7 => ("CobolParser$Clauses", "declaratives", "I", false)
  | 8 => ("CobolParser$Clauses", "section", "I", false)
  | _ => ("CobolParser$Clauses", "paragraph", "I", false)
def nm_ty6 : Nat → FieldType := fun k => match k with
  | 0 => (.object "CobolParser$Row")
  | 1 => (.object "CobolParser$Tree")
  | 2 => (.object "CobolParser$Leaves")
  | 3 => (.object "CobolParser$Statements")
  | 4 => (.object "CobolParser$Items")
  | 5 => (.object "CobolParser$Units")
  | 6 => .int
  | 7 => .int
  | 8 => .int
  | _ => .int
theorem nm_nm6 : ∀ a, a < 10 → ∀ b, b < 10 → a ≠ b → (nm_T6 a).2.1 ≠ (nm_T6 b).2.1 := by decide +kernel
theorem nm_to6 : ∀ k, k < 10 → parseFieldDescriptor (nm_T6 k).2.2.1 = some (nm_ty6 k) := by decide +kernel
def nm_T7 : u_T := fun k => match k with
  | 0 => ("CobolParser$Items", "row", "LCobolParser$Row;", true)
  | 1 => ("CobolParser$Items", "tree", "LCobolParser$Tree;", true)
  | 2 => ("CobolParser$Items", "leaves", "LCobolParser$Leaves;", true)
  | 3 => ("CobolParser$Items", "openLevels", "[I", true)
  | 4 => ("CobolParser$Items", "openHandles", "[I", true)
  | 5 => ("CobolParser$Items", "openSize", "I", false)
  | _ => ("CobolParser$Items", "holder", "I", false)
def nm_ty7 : Nat → FieldType := fun k => match k with
  | 0 => (.object "CobolParser$Row")
  | 1 => (.object "CobolParser$Tree")
  | 2 => (.object "CobolParser$Leaves")
  | 3 => (.array .int)
  | 4 => (.array .int)
  | 5 => .int
  | _ => .int
theorem nm_nm7 : ∀ a, a < 7 → ∀ b, b < 7 → a ≠ b → (nm_T7 a).2.1 ≠ (nm_T7 b).2.1 := by decide +kernel
theorem nm_to7 : ∀ k, k < 7 → parseFieldDescriptor (nm_T7 k).2.2.1 = some (nm_ty7 k) := by decide +kernel
def nm_T8 : u_T := fun k => match k with
  | 0 => ("CobolParser$Units", "states", "[I", true)
  | 1 => ("CobolParser$Units", "kinds", "[I", true)
  | 2 => ("CobolParser$Units", "names", "[I", true)
  | 3 => ("CobolParser$Units", "handles", "[I", true)
  | _ => ("CobolParser$Units", "size", "I", false)
def nm_ty8 : Nat → FieldType := fun k => match k with
  | 0 => (.array .int)
  | 1 => (.array .int)
  | 2 => (.array .int)
  | 3 => (.array .int)
  | _ => .int
theorem nm_nm8 : ∀ a, a < 5 → ∀ b, b < 5 → a ≠ b → (nm_T8 a).2.1 ≠ (nm_T8 b).2.1 := by decide +kernel
theorem nm_to8 : ∀ k, k < 5 → parseFieldDescriptor (nm_T8 k).2.2.1 = some (nm_ty8 k) := by decide +kernel
def nm_T9 : u_T := fun k => match k with
  | 0 => ("CobolParserModel", "thrown", "I", false)
  | 1 => ("CobolParserModel", "size", "I", false)
  | 2 => ("CobolParserModel", "kinds", "[I", true)
  | 3 => ("CobolParserModel", "values", "[I", true)
  | 4 => ("CobolParserModel", "n", "I", false)
  | 5 => ("CobolParserModel", "faults", "I", false)
  | 6 => ("CobolParserModel", "faultNumber", "[I", true)
  | 7 => ("CobolParserModel", "faultWord", "[I", true)
  | 8 => ("CobolParserModel", "nodes", "I", false)
  | 9 => ("CobolParserModel", "kind", "[I", true)
  | 10 => ("CobolParserModel", "value", "[I", true)
  | 11 => ("CobolParserModel", "place", "[I", true)
  | 12 => ("CobolParserModel", "extra", "[I", true)
  | 13 => ("CobolParserModel", "first", "[I", true)
  | 14 => ("CobolParserModel", "last", "[I", true)
  | 15 => ("CobolParserModel", "next", "[I", true)
  | 16 => ("CobolParserModel", "above", "[I", true)
  | 17 => ("CobolParserModel", "number", "[I", true)
  | 18 => ("CobolParserModel", "order", "[I", true)
  | 19 => ("CobolParserModel", "told", "I", false)
  | 20 => ("CobolParserModel", "units", "I", false)
  | 21 => ("CobolParserModel", "deepest", "I", false)
  | 22 => ("CobolParserModel", "unitNode", "[I", true)
  | 23 => ("CobolParserModel", "environment", "[I", true)
  | 24 => ("CobolParserModel", "data", "[I", true)
  | 25 => ("CobolParserModel", "procedure", "[I", true)
  | 26 => ("CobolParserModel", "open", "I", false)
  | 27 => ("CobolParserModel", "state", "[I", true)
  | 28 => ("CobolParserModel", "unit", "[I", true)
  | 29 => ("CobolParserModel", "its", "[I", true)
  | 30 => ("CobolParserModel", "function", "[Z", true)
  | 31 => ("CobolParserModel", "had", "[Z", true)
  | 32 => ("CobolParserModel", "files", "I", false)
  | 33 => ("CobolParserModel", "holder", "I", false)
  | 34 => ("CobolParserModel", "declaratives", "I", false)
  | 35 => ("CobolParserModel", "section", "I", false)
  | 36 => ("CobolParserModel", "paragraph", "I", false)
  | 37 => ("CobolParserModel", "items", "I", false)
  | 38 => ("CobolParserModel", "latest", "I", false)
  | 39 => ("CobolParserModel", "levels", "[I", true)
  | 40 => ("CobolParserModel", "itemNode", "[I", true)
  | 41 => ("CobolParserModel", "at", "I", false)
  | 42 => ("CobolParserModel", "failed", "I", false)
  | 43 => ("CobolParserModel", "bad", "Z", false)
  | 44 => ("CobolParserModel", "level", "I", false)
  | 45 => ("CobolParserModel", "piled", "I", false)
  | 46 => ("CobolParserModel", "pileKind", "[I", true)
  | 47 => ("CobolParserModel", "pileNode", "[I", true)
  | 48 => ("CobolParserModel", "pilePhase", "[I", true)
  | 49 => ("CobolParserModel", "contexts", "I", false)
  | 50 => ("CobolParserModel", "sums", "[I", true)
  | 51 => ("CobolParserModel", "sumSign", "[I", true)
  | 52 => ("CobolParserModel", "products", "[I", true)
  | 53 => ("CobolParserModel", "productSign", "[I", true)
  | 54 => ("CobolParserModel", "marks", "I", false)
  | 55 => ("CobolParserModel", "subject", "I", false)
  | 56 => ("CobolParserModel", "compared", "I", false)
  | 57 => ("CobolParserModel", "joints", "I", false)
  | 58 => ("CobolParserModel", "mark", "[I", true)
  | 59 => ("CobolParserModel", "andFirst", "[I", true)
  | 60 => ("CobolParserModel", "andLast", "[I", true)
  | 61 => ("CobolParserModel", "andMany", "[I", true)
  | 62 => ("CobolParserModel", "orFirst", "[I", true)
  | 63 => ("CobolParserModel", "orLast", "[I", true)
  | _ => ("CobolParserModel", "orMany", "[I", true)
def nm_ty9 : Nat → FieldType := fun k => match k with
  | 0 => .int
  | 1 => .int
  | 2 => (.array .int)
  | 3 => (.array .int)
  | 4 => .int
  | 5 => .int
  | 6 => (.array .int)
  | 7 => (.array .int)
  | 8 => .int
  | 9 => (.array .int)
  | 10 => (.array .int)
  | 11 => (.array .int)
  | 12 => (.array .int)
  | 13 => (.array .int)
  | 14 => (.array .int)
  | 15 => (.array .int)
  | 16 => (.array .int)
  | 17 => (.array .int)
  | 18 => (.array .int)
  | 19 => .int
  | 20 => .int
  | 21 => .int
  | 22 => (.array .int)
  | 23 => (.array .int)
  | 24 => (.array .int)
  | 25 => (.array .int)
  | 26 => .int
  | 27 => (.array .int)
  | 28 => (.array .int)
  | 29 => (.array .int)
  | 30 => (.array .boolean)
  | 31 => (.array .boolean)
  | 32 => .int
  | 33 => .int
  | 34 => .int
  | 35 => .int
  | 36 => .int
  | 37 => .int
  | 38 => .int
  | 39 => (.array .int)
  | 40 => (.array .int)
  | 41 => .int
  | 42 => .int
  | 43 => .boolean
  | 44 => .int
  | 45 => .int
  | 46 => (.array .int)
  | 47 => (.array .int)
  | 48 => (.array .int)
  | 49 => .int
  | 50 => (.array .int)
  | 51 => (.array .int)
  | 52 => (.array .int)
  | 53 => (.array .int)
  | 54 => .int
  | 55 => .int
  | 56 => .int
  | 57 => .int
  | 58 => (.array .int)
  | 59 => (.array .int)
  | 60 => (.array .int)
  | 61 => (.array .int)
  | 62 => (.array .int)
  | 63 => (.array .int)
  | _ => (.array .int)
theorem nm_nm9 : ∀ a, a < 65 → ∀ b, b < 65 → a ≠ b → (nm_T9 a).2.1 ≠ (nm_T9 b).2.1 := by decide +kernel
theorem nm_to9 : ∀ k, k < 65 → parseFieldDescriptor (nm_T9 k).2.2.1 = some (nm_ty9 k) := by decide +kernel
def nm_T10 : u_T := fun _ => ("", "", "", false)
def nm_T11 : u_T := fun _ => ("", "", "", false)
abbrev nm_cls : List vw_C := [("CobolParser", nm_T0, 3), ("CobolParser$Row", nm_T1, 8), ("CobolParser$Tree", nm_T2, 5), ("CobolParser$Leaves", nm_T3, 2), ("CobolParser$Statements", nm_T4, 4), ("CobolParser$Expressions", nm_T5, 5), ("CobolParser$Clauses", nm_T6, 10), ("CobolParser$Items", nm_T7, 7), ("CobolParser$Units", nm_T8, 5), ("CobolParserModel", nm_T9, 65), ("java/lang/IllegalArgumentException", nm_T10, 0), ("java/lang/IllegalStateException", nm_T11, 0)]
theorem nm_cw0 : ∀ w ∈ ([Cond.laysFinal "CobolParser" "CobolParser" "row" "LCobolParser$Row;", Cond.laysFinal "CobolParser" "CobolParser" "tree" "LCobolParser$Tree;", Cond.laysFinal "CobolParser" "CobolParser" "clauses" "LCobolParser$Clauses;"] : List Jvm.Cond), w ∈ nm_Tg := (nm_fc (nm_in1 (List.mem_of_getElem? (i := 225) rfl) rfl) (nm_fc (nm_in1 (List.mem_of_getElem? (i := 227) rfl) rfl) (nm_fc (nm_in1 (List.mem_of_getElem? (i := 229) rfl) rfl) (fun _ h => nomatch h))))
theorem nm_co0 : (∀ w ∈ u_ws "CobolParser" nm_T0 3, w ∈ nm_Tg) ∧ (∃ ty : Nat → FieldType, ∀ k, k < 3 → parseFieldDescriptor (nm_T0 k).2.2.1 = some (ty k)) ∧ (∀ a, a < 3 → ∀ b, b < 3 → a ≠ b → (nm_T0 a).2.1 ≠ (nm_T0 b).2.1) := ⟨nm_cw0, ⟨nm_ty0, nm_to0⟩, nm_nm0⟩
theorem nm_cw1 : ∀ w ∈ ([Cond.lays "CobolParser$Row" "CobolParser$Row" "kinds" "[I", Cond.lays "CobolParser$Row" "CobolParser$Row" "values" "[I", Cond.lays "CobolParser$Row" "CobolParser$Row" "size" "I", Cond.lays "CobolParser$Row" "CobolParser$Row" "at" "I", Cond.lays "CobolParser$Row" "CobolParser$Row" "refusal" "I", Cond.laysFinal "CobolParser$Row" "CobolParser$Row" "faultNumbers" "[I", Cond.laysFinal "CobolParser$Row" "CobolParser$Row" "faultPlaces" "[I", Cond.lays "CobolParser$Row" "CobolParser$Row" "faultSize" "I"] : List Jvm.Cond), w ∈ nm_Tg := (nm_fc (nm_in1 (List.mem_of_getElem? (i := 41) rfl) rfl) (nm_fc (nm_in1 (List.mem_of_getElem? (i := 43) rfl) rfl) (nm_fc (nm_in1 (List.mem_of_getElem? (i := 45) rfl) rfl) (nm_fc (nm_in1 (List.mem_of_getElem? (i := 47) rfl) rfl) (nm_fc (nm_in1 (List.mem_of_getElem? (i := 49) rfl) rfl) (nm_fc (nm_in1 (List.mem_of_getElem? (i := 51) rfl) rfl) (nm_fc (nm_in1 (List.mem_of_getElem? (i := 53) rfl) rfl) (nm_fc (nm_in1 (List.mem_of_getElem? (i := 55) rfl) rfl) (fun _ h => nomatch h)))))))))
theorem nm_co1 : (∀ w ∈ u_ws "CobolParser$Row" nm_T1 8, w ∈ nm_Tg) ∧ (∃ ty : Nat → FieldType, ∀ k, k < 8 → parseFieldDescriptor (nm_T1 k).2.2.1 = some (ty k)) ∧ (∀ a, a < 8 → ∀ b, b < 8 → a ≠ b → (nm_T1 a).2.1 ≠ (nm_T1 b).2.1) := ⟨nm_cw1, ⟨nm_ty1, nm_to1⟩, nm_nm1⟩
theorem nm_cw2 : ∀ w ∈ ([Cond.lays "CobolParser$Tree" "CobolParser$Tree" "cells" "[I", Cond.lays "CobolParser$Tree" "CobolParser$Tree" "made" "I", Cond.lays "CobolParser$Tree" "CobolParser$Tree" "numbered" "I", Cond.lays "CobolParser$Tree" "CobolParser$Tree" "units" "I", Cond.lays "CobolParser$Tree" "CobolParser$Tree" "greatestLevel" "I"] : List Jvm.Cond), w ∈ nm_Tg := (nm_fc (nm_in1 (List.mem_of_getElem? (i := 70) rfl) rfl) (nm_fc (nm_in1 (List.mem_of_getElem? (i := 72) rfl) rfl) (nm_fc (nm_in1 (List.mem_of_getElem? (i := 74) rfl) rfl) (nm_fc (nm_in1 (List.mem_of_getElem? (i := 76) rfl) rfl) (nm_fc (nm_in1 (List.mem_of_getElem? (i := 78) rfl) rfl) (fun _ h => nomatch h))))))
theorem nm_co2 : (∀ w ∈ u_ws "CobolParser$Tree" nm_T2 5, w ∈ nm_Tg) ∧ (∃ ty : Nat → FieldType, ∀ k, k < 5 → parseFieldDescriptor (nm_T2 k).2.2.1 = some (ty k)) ∧ (∀ a, a < 5 → ∀ b, b < 5 → a ≠ b → (nm_T2 a).2.1 ≠ (nm_T2 b).2.1) := ⟨nm_cw2, ⟨nm_ty2, nm_to2⟩, nm_nm2⟩
theorem nm_cw3 : ∀ w ∈ ([Cond.laysFinal "CobolParser$Leaves" "CobolParser$Leaves" "row" "LCobolParser$Row;", Cond.laysFinal "CobolParser$Leaves" "CobolParser$Leaves" "tree" "LCobolParser$Tree;"] : List Jvm.Cond), w ∈ nm_Tg := (nm_fc (nm_in1 (List.mem_of_getElem? (i := 89) rfl) rfl) (nm_fc (nm_in1 (List.mem_of_getElem? (i := 91) rfl) rfl) (fun _ h => nomatch h)))
theorem nm_co3 : (∀ w ∈ u_ws "CobolParser$Leaves" nm_T3 2, w ∈ nm_Tg) ∧ (∃ ty : Nat → FieldType, ∀ k, k < 2 → parseFieldDescriptor (nm_T3 k).2.2.1 = some (ty k)) ∧ (∀ a, a < 2 → ∀ b, b < 2 → a ≠ b → (nm_T3 a).2.1 ≠ (nm_T3 b).2.1) := ⟨nm_cw3, ⟨nm_ty3, nm_to3⟩, nm_nm3⟩
theorem nm_cw4 : ∀ w ∈ ([Cond.laysFinal "CobolParser$Statements" "CobolParser$Statements" "row" "LCobolParser$Row;", Cond.laysFinal "CobolParser$Statements" "CobolParser$Statements" "tree" "LCobolParser$Tree;", Cond.laysFinal "CobolParser$Statements" "CobolParser$Statements" "leaves" "LCobolParser$Leaves;", Cond.laysFinal "CobolParser$Statements" "CobolParser$Statements" "expressions" "LCobolParser$Expressions;"] : List Jvm.Cond), w ∈ nm_Tg := (nm_fc (nm_in1 (List.mem_of_getElem? (i := 126) rfl) rfl) (nm_fc (nm_in1 (List.mem_of_getElem? (i := 128) rfl) rfl) (nm_fc (nm_in1 (List.mem_of_getElem? (i := 130) rfl) rfl) (nm_fc (nm_in1 (List.mem_of_getElem? (i := 132) rfl) rfl) (fun _ h => nomatch h)))))
theorem nm_co4 : (∀ w ∈ u_ws "CobolParser$Statements" nm_T4 4, w ∈ nm_Tg) ∧ (∃ ty : Nat → FieldType, ∀ k, k < 4 → parseFieldDescriptor (nm_T4 k).2.2.1 = some (ty k)) ∧ (∀ a, a < 4 → ∀ b, b < 4 → a ≠ b → (nm_T4 a).2.1 ≠ (nm_T4 b).2.1) := ⟨nm_cw4, ⟨nm_ty4, nm_to4⟩, nm_nm4⟩
theorem nm_cw5 : ∀ w ∈ ([Cond.laysFinal "CobolParser$Expressions" "CobolParser$Expressions" "row" "LCobolParser$Row;", Cond.laysFinal "CobolParser$Expressions" "CobolParser$Expressions" "tree" "LCobolParser$Tree;", Cond.laysFinal "CobolParser$Expressions" "CobolParser$Expressions" "leaves" "LCobolParser$Leaves;", Cond.lays "CobolParser$Expressions" "CobolParser$Expressions" "subject" "I", Cond.lays "CobolParser$Expressions" "CobolParser$Expressions" "latestHow" "I"] : List Jvm.Cond), w ∈ nm_Tg := (nm_fc (nm_in1 (List.mem_of_getElem? (i := 107) rfl) rfl) (nm_fc (nm_in1 (List.mem_of_getElem? (i := 109) rfl) rfl) (nm_fc (nm_in1 (List.mem_of_getElem? (i := 111) rfl) rfl) (nm_fc (nm_in1 (List.mem_of_getElem? (i := 113) rfl) rfl) (nm_fc (nm_in1 (List.mem_of_getElem? (i := 115) rfl) rfl) (fun _ h => nomatch h))))))
theorem nm_co5 : (∀ w ∈ u_ws "CobolParser$Expressions" nm_T5 5, w ∈ nm_Tg) ∧ (∃ ty : Nat → FieldType, ∀ k, k < 5 → parseFieldDescriptor (nm_T5 k).2.2.1 = some (ty k)) ∧ (∀ a, a < 5 → ∀ b, b < 5 → a ≠ b → (nm_T5 a).2.1 ≠ (nm_T5 b).2.1) := ⟨nm_cw5, ⟨nm_ty5, nm_to5⟩, nm_nm5⟩
theorem nm_cw6 : ∀ w ∈ ([Cond.laysFinal "CobolParser$Clauses" "CobolParser$Clauses" "row" "LCobolParser$Row;", Cond.laysFinal "CobolParser$Clauses" "CobolParser$Clauses" "tree" "LCobolParser$Tree;", Cond.laysFinal "CobolParser$Clauses" "CobolParser$Clauses" "leaves" "LCobolParser$Leaves;", Cond.laysFinal "CobolParser$Clauses" "CobolParser$Clauses" "statements" "LCobolParser$Statements;", Cond.laysFinal "CobolParser$Clauses" "CobolParser$Clauses" "items" "LCobolParser$Items;", Cond.laysFinal "CobolParser$Clauses" "CobolParser$Clauses" "units" "LCobolParser$Units;", Cond.lays "CobolParser$Clauses" "CobolParser$Clauses" "openDivision" "I", Cond.lays "CobolParser$Clauses" "CobolParser$Clauses" "declaratives" "I", Cond.lays "CobolParser$Clauses" "CobolParser$Clauses" "section" "I", Cond.lays "CobolParser$Clauses" "CobolParser$Clauses" "paragraph" "I"] : List Jvm.Cond), w ∈ nm_Tg := (nm_fc (nm_in1 (List.mem_of_getElem? (i := 201) rfl) rfl) (nm_fc (nm_in1 (List.mem_of_getElem? (i := 203) rfl) rfl) (nm_fc (nm_in1 (List.mem_of_getElem? (i := 205) rfl) rfl) (nm_fc (nm_in1 (List.mem_of_getElem? (i := 207) rfl) rfl) (nm_fc (nm_in1 (List.mem_of_getElem? (i := 209) rfl) rfl) (nm_fc (nm_in1 (List.mem_of_getElem? (i := 211) rfl) rfl) (nm_fc (nm_in1 (List.mem_of_getElem? (i := 213) rfl) rfl) (nm_fc (nm_in1 (List.mem_of_getElem? (i := 215) rfl) rfl) (nm_fc (nm_in1 (List.mem_of_getElem? (i := 217) rfl) rfl) (nm_fc (nm_in1 (List.mem_of_getElem? (i := 219) rfl) rfl) (fun _ h => nomatch h)))))))))))
theorem nm_co6 : (∀ w ∈ u_ws "CobolParser$Clauses" nm_T6 10, w ∈ nm_Tg) ∧ (∃ ty : Nat → FieldType, ∀ k, k < 10 → parseFieldDescriptor (nm_T6 k).2.2.1 = some (ty k)) ∧ (∀ a, a < 10 → ∀ b, b < 10 → a ≠ b → (nm_T6 a).2.1 ≠ (nm_T6 b).2.1) := ⟨nm_cw6, ⟨nm_ty6, nm_to6⟩, nm_nm6⟩
theorem nm_cw7 : ∀ w ∈ ([Cond.laysFinal "CobolParser$Items" "CobolParser$Items" "row" "LCobolParser$Row;", Cond.laysFinal "CobolParser$Items" "CobolParser$Items" "tree" "LCobolParser$Tree;", Cond.laysFinal "CobolParser$Items" "CobolParser$Items" "leaves" "LCobolParser$Leaves;", Cond.laysFinal "CobolParser$Items" "CobolParser$Items" "openLevels" "[I", Cond.laysFinal "CobolParser$Items" "CobolParser$Items" "openHandles" "[I", Cond.lays "CobolParser$Items" "CobolParser$Items" "openSize" "I", Cond.lays "CobolParser$Items" "CobolParser$Items" "holder" "I"] : List Jvm.Cond), w ∈ nm_Tg := (nm_fc (nm_in1 (List.mem_of_getElem? (i := 150) rfl) rfl) (nm_fc (nm_in1 (List.mem_of_getElem? (i := 152) rfl) rfl) (nm_fc (nm_in1 (List.mem_of_getElem? (i := 154) rfl) rfl) (nm_fc (nm_in1 (List.mem_of_getElem? (i := 156) rfl) rfl) (nm_fc (nm_in1 (List.mem_of_getElem? (i := 158) rfl) rfl) (nm_fc (nm_in1 (List.mem_of_getElem? (i := 160) rfl) rfl) (nm_fc (nm_in1 (List.mem_of_getElem? (i := 162) rfl) rfl) (fun _ h => nomatch h))))))))
theorem nm_co7 : (∀ w ∈ u_ws "CobolParser$Items" nm_T7 7, w ∈ nm_Tg) ∧ (∃ ty : Nat → FieldType, ∀ k, k < 7 → parseFieldDescriptor (nm_T7 k).2.2.1 = some (ty k)) ∧ (∀ a, a < 7 → ∀ b, b < 7 → a ≠ b → (nm_T7 a).2.1 ≠ (nm_T7 b).2.1) := ⟨nm_cw7, ⟨nm_ty7, nm_to7⟩, nm_nm7⟩
theorem nm_cw8 : ∀ w ∈ ([Cond.laysFinal "CobolParser$Units" "CobolParser$Units" "states" "[I", Cond.laysFinal "CobolParser$Units" "CobolParser$Units" "kinds" "[I", Cond.laysFinal "CobolParser$Units" "CobolParser$Units" "names" "[I", Cond.laysFinal "CobolParser$Units" "CobolParser$Units" "handles" "[I", Cond.lays "CobolParser$Units" "CobolParser$Units" "size" "I"] : List Jvm.Cond), w ∈ nm_Tg := (nm_fc (nm_in1 (List.mem_of_getElem? (i := 180) rfl) rfl) (nm_fc (nm_in1 (List.mem_of_getElem? (i := 182) rfl) rfl) (nm_fc (nm_in1 (List.mem_of_getElem? (i := 184) rfl) rfl) (nm_fc (nm_in1 (List.mem_of_getElem? (i := 186) rfl) rfl) (nm_fc (nm_in1 (List.mem_of_getElem? (i := 188) rfl) rfl) (fun _ h => nomatch h))))))
theorem nm_co8 : (∀ w ∈ u_ws "CobolParser$Units" nm_T8 5, w ∈ nm_Tg) ∧ (∃ ty : Nat → FieldType, ∀ k, k < 5 → parseFieldDescriptor (nm_T8 k).2.2.1 = some (ty k)) ∧ (∀ a, a < 5 → ∀ b, b < 5 → a ≠ b → (nm_T8 a).2.1 ≠ (nm_T8 b).2.1) := ⟨nm_cw8, ⟨nm_ty8, nm_to8⟩, nm_nm8⟩
theorem nm_cw9 : ∀ w ∈ ([Cond.lays "CobolParserModel" "CobolParserModel" "thrown" "I", Cond.lays "CobolParserModel" "CobolParserModel" "size" "I", Cond.laysFinal "CobolParserModel" "CobolParserModel" "kinds" "[I", Cond.laysFinal "CobolParserModel" "CobolParserModel" "values" "[I", Cond.lays "CobolParserModel" "CobolParserModel" "n" "I", Cond.lays "CobolParserModel" "CobolParserModel" "faults" "I", Cond.laysFinal "CobolParserModel" "CobolParserModel" "faultNumber" "[I", Cond.laysFinal "CobolParserModel" "CobolParserModel" "faultWord" "[I", Cond.lays "CobolParserModel" "CobolParserModel" "nodes" "I", Cond.laysFinal "CobolParserModel" "CobolParserModel" "kind" "[I", Cond.laysFinal "CobolParserModel" "CobolParserModel" "value" "[I", Cond.laysFinal "CobolParserModel" "CobolParserModel" "place" "[I", Cond.laysFinal "CobolParserModel" "CobolParserModel" "extra" "[I", Cond.laysFinal "CobolParserModel" "CobolParserModel" "first" "[I", Cond.laysFinal "CobolParserModel" "CobolParserModel" "last" "[I", Cond.laysFinal "CobolParserModel" "CobolParserModel" "next" "[I", Cond.laysFinal "CobolParserModel" "CobolParserModel" "above" "[I", Cond.laysFinal "CobolParserModel" "CobolParserModel" "number" "[I", Cond.laysFinal "CobolParserModel" "CobolParserModel" "order" "[I", Cond.lays "CobolParserModel" "CobolParserModel" "told" "I", Cond.lays "CobolParserModel" "CobolParserModel" "units" "I", Cond.lays "CobolParserModel" "CobolParserModel" "deepest" "I", Cond.laysFinal "CobolParserModel" "CobolParserModel" "unitNode" "[I", Cond.laysFinal "CobolParserModel" "CobolParserModel" "environment" "[I", Cond.laysFinal "CobolParserModel" "CobolParserModel" "data" "[I", Cond.laysFinal "CobolParserModel" "CobolParserModel" "procedure" "[I", Cond.lays "CobolParserModel" "CobolParserModel" "open" "I", Cond.laysFinal "CobolParserModel" "CobolParserModel" "state" "[I", Cond.laysFinal "CobolParserModel" "CobolParserModel" "unit" "[I", Cond.laysFinal "CobolParserModel" "CobolParserModel" "its" "[I", Cond.laysFinal "CobolParserModel" "CobolParserModel" "function" "[Z", Cond.laysFinal "CobolParserModel" "CobolParserModel" "had" "[Z", Cond.lays "CobolParserModel" "CobolParserModel" "files" "I", Cond.lays "CobolParserModel" "CobolParserModel" "holder" "I", Cond.lays "CobolParserModel" "CobolParserModel" "declaratives" "I", Cond.lays "CobolParserModel" "CobolParserModel" "section" "I", Cond.lays "CobolParserModel" "CobolParserModel" "paragraph" "I", Cond.lays "CobolParserModel" "CobolParserModel" "items" "I", Cond.lays "CobolParserModel" "CobolParserModel" "latest" "I", Cond.laysFinal "CobolParserModel" "CobolParserModel" "levels" "[I", Cond.laysFinal "CobolParserModel" "CobolParserModel" "itemNode" "[I", Cond.lays "CobolParserModel" "CobolParserModel" "at" "I", Cond.lays "CobolParserModel" "CobolParserModel" "failed" "I", Cond.lays "CobolParserModel" "CobolParserModel" "bad" "Z", Cond.lays "CobolParserModel" "CobolParserModel" "level" "I", Cond.lays "CobolParserModel" "CobolParserModel" "piled" "I", Cond.laysFinal "CobolParserModel" "CobolParserModel" "pileKind" "[I", Cond.laysFinal "CobolParserModel" "CobolParserModel" "pileNode" "[I", Cond.laysFinal "CobolParserModel" "CobolParserModel" "pilePhase" "[I", Cond.lays "CobolParserModel" "CobolParserModel" "contexts" "I", Cond.laysFinal "CobolParserModel" "CobolParserModel" "sums" "[I", Cond.laysFinal "CobolParserModel" "CobolParserModel" "sumSign" "[I", Cond.laysFinal "CobolParserModel" "CobolParserModel" "products" "[I", Cond.laysFinal "CobolParserModel" "CobolParserModel" "productSign" "[I", Cond.lays "CobolParserModel" "CobolParserModel" "marks" "I", Cond.lays "CobolParserModel" "CobolParserModel" "subject" "I", Cond.lays "CobolParserModel" "CobolParserModel" "compared" "I", Cond.lays "CobolParserModel" "CobolParserModel" "joints" "I", Cond.laysFinal "CobolParserModel" "CobolParserModel" "mark" "[I", Cond.laysFinal "CobolParserModel" "CobolParserModel" "andFirst" "[I", Cond.laysFinal "CobolParserModel" "CobolParserModel" "andLast" "[I", Cond.laysFinal "CobolParserModel" "CobolParserModel" "andMany" "[I", Cond.laysFinal "CobolParserModel" "CobolParserModel" "orFirst" "[I", Cond.laysFinal "CobolParserModel" "CobolParserModel" "orLast" "[I", Cond.laysFinal "CobolParserModel" "CobolParserModel" "orMany" "[I"] : List Jvm.Cond), w ∈ nm_Tg := (nm_fc (nm_in5 (List.mem_of_getElem? (i := 98) rfl) rfl) (nm_fc (nm_in5 (List.mem_of_getElem? (i := 100) rfl) rfl) (nm_fc (nm_in5 (List.mem_of_getElem? (i := 102) rfl) rfl) (nm_fc (nm_in5 (List.mem_of_getElem? (i := 104) rfl) rfl) (nm_fc (nm_in5 (List.mem_of_getElem? (i := 106) rfl) rfl) (nm_fc (nm_in5 (List.mem_of_getElem? (i := 108) rfl) rfl) (nm_fc (nm_in5 (List.mem_of_getElem? (i := 110) rfl) rfl) (nm_fc (nm_in5 (List.mem_of_getElem? (i := 112) rfl) rfl) (nm_fc (nm_in5 (List.mem_of_getElem? (i := 114) rfl) rfl) (nm_fc (nm_in5 (List.mem_of_getElem? (i := 116) rfl) rfl) (nm_fc (nm_in5 (List.mem_of_getElem? (i := 118) rfl) rfl) (nm_fc (nm_in5 (List.mem_of_getElem? (i := 120) rfl) rfl) (nm_fc (nm_in5 (List.mem_of_getElem? (i := 122) rfl) rfl) (nm_fc (nm_in5 (List.mem_of_getElem? (i := 124) rfl) rfl) (nm_fc (nm_in5 (List.mem_of_getElem? (i := 126) rfl) rfl) (nm_fc (nm_in5 (List.mem_of_getElem? (i := 128) rfl) rfl) (nm_fc (nm_in5 (List.mem_of_getElem? (i := 130) rfl) rfl) (nm_fc (nm_in5 (List.mem_of_getElem? (i := 132) rfl) rfl) (nm_fc (nm_in5 (List.mem_of_getElem? (i := 134) rfl) rfl) (nm_fc (nm_in5 (List.mem_of_getElem? (i := 136) rfl) rfl) (nm_fc (nm_in5 (List.mem_of_getElem? (i := 138) rfl) rfl) (nm_fc (nm_in5 (List.mem_of_getElem? (i := 140) rfl) rfl) (nm_fc (nm_in5 (List.mem_of_getElem? (i := 142) rfl) rfl) (nm_fc (nm_in5 (List.mem_of_getElem? (i := 144) rfl) rfl) (nm_fc (nm_in5 (List.mem_of_getElem? (i := 146) rfl) rfl) (nm_fc (nm_in5 (List.mem_of_getElem? (i := 148) rfl) rfl) (nm_fc (nm_in5 (List.mem_of_getElem? (i := 150) rfl) rfl) (nm_fc (nm_in5 (List.mem_of_getElem? (i := 152) rfl) rfl) (nm_fc (nm_in5 (List.mem_of_getElem? (i := 154) rfl) rfl) (nm_fc (nm_in5 (List.mem_of_getElem? (i := 156) rfl) rfl) (nm_fc (nm_in5 (List.mem_of_getElem? (i := 158) rfl) rfl) (nm_fc (nm_in5 (List.mem_of_getElem? (i := 160) rfl) rfl) (nm_fc (nm_in5 (List.mem_of_getElem? (i := 162) rfl) rfl) (nm_fc (nm_in5 (List.mem_of_getElem? (i := 164) rfl) rfl) (nm_fc (nm_in5 (List.mem_of_getElem? (i := 166) rfl) rfl) (nm_fc (nm_in5 (List.mem_of_getElem? (i := 168) rfl) rfl) (nm_fc (nm_in5 (List.mem_of_getElem? (i := 170) rfl) rfl) (nm_fc (nm_in5 (List.mem_of_getElem? (i := 172) rfl) rfl) (nm_fc (nm_in5 (List.mem_of_getElem? (i := 174) rfl) rfl) (nm_fc (nm_in5 (List.mem_of_getElem? (i := 176) rfl) rfl) (nm_fc (nm_in5 (List.mem_of_getElem? (i := 178) rfl) rfl) (nm_fc (nm_in5 (List.mem_of_getElem? (i := 180) rfl) rfl) (nm_fc (nm_in5 (List.mem_of_getElem? (i := 182) rfl) rfl) (nm_fc (nm_in5 (List.mem_of_getElem? (i := 184) rfl) rfl) (nm_fc (nm_in5 (List.mem_of_getElem? (i := 186) rfl) rfl) (nm_fc (nm_in5 (List.mem_of_getElem? (i := 188) rfl) rfl) (nm_fc (nm_in5 (List.mem_of_getElem? (i := 190) rfl) rfl) (nm_fc (nm_in5 (List.mem_of_getElem? (i := 192) rfl) rfl) (nm_fc (nm_in5 (List.mem_of_getElem? (i := 194) rfl) rfl) (nm_fc (nm_in5 (List.mem_of_getElem? (i := 196) rfl) rfl) (nm_fc (nm_in5 (List.mem_of_getElem? (i := 198) rfl) rfl) (nm_fc (nm_in5 (List.mem_of_getElem? (i := 200) rfl) rfl) (nm_fc (nm_in5 (List.mem_of_getElem? (i := 202) rfl) rfl) (nm_fc (nm_in5 (List.mem_of_getElem? (i := 204) rfl) rfl) (nm_fc (nm_in5 (List.mem_of_getElem? (i := 206) rfl) rfl) (nm_fc (nm_in5 (List.mem_of_getElem? (i := 208) rfl) rfl) (nm_fc (nm_in5 (List.mem_of_getElem? (i := 210) rfl) rfl) (nm_fc (nm_in5 (List.mem_of_getElem? (i := 212) rfl) rfl) (nm_fc (nm_in5 (List.mem_of_getElem? (i := 214) rfl) rfl) (nm_fc (nm_in5 (List.mem_of_getElem? (i := 216) rfl) rfl) (nm_fc (nm_in5 (List.mem_of_getElem? (i := 218) rfl) rfl) (nm_fc (nm_in5 (List.mem_of_getElem? (i := 220) rfl) rfl) (nm_fc (nm_in5 (List.mem_of_getElem? (i := 222) rfl) rfl) (nm_fc (nm_in5 (List.mem_of_getElem? (i := 224) rfl) rfl) (nm_fc (nm_in5 (List.mem_of_getElem? (i := 226) rfl) rfl) (fun _ h => nomatch h))))))))))))))))))))))))))))))))))))))))))))))))))))))))))))))))))
theorem nm_co9 : (∀ w ∈ u_ws "CobolParserModel" nm_T9 65, w ∈ nm_Tg) ∧ (∃ ty : Nat → FieldType, ∀ k, k < 65 → parseFieldDescriptor (nm_T9 k).2.2.1 = some (ty k)) ∧ (∀ a, a < 65 → ∀ b, b < 65 → a ≠ b → (nm_T9 a).2.1 ≠ (nm_T9 b).2.1) := ⟨nm_cw9, ⟨nm_ty9, nm_to9⟩, nm_nm9⟩
theorem nm_co10 : (∀ w ∈ u_ws "java/lang/IllegalArgumentException" nm_T10 0, w ∈ nm_Tg) ∧ (∃ ty : Nat → FieldType, ∀ k, k < 0 → parseFieldDescriptor (nm_T10 k).2.2.1 = some (ty k)) ∧ (∀ a, a < 0 → ∀ b, b < 0 → a ≠ b → (nm_T10 a).2.1 ≠ (nm_T10 b).2.1) := ⟨(fun _ h => (nomatch h)), ⟨fun _ => .int, fun _ h => absurd h (Nat.not_lt_zero _)⟩, fun _ h => absurd h (Nat.not_lt_zero _)⟩
theorem nm_co11 : (∀ w ∈ u_ws "java/lang/IllegalStateException" nm_T11 0, w ∈ nm_Tg) ∧ (∃ ty : Nat → FieldType, ∀ k, k < 0 → parseFieldDescriptor (nm_T11 k).2.2.1 = some (ty k)) ∧ (∀ a, a < 0 → ∀ b, b < 0 → a ≠ b → (nm_T11 a).2.1 ≠ (nm_T11 b).2.1) := ⟨(fun _ h => (nomatch h)), ⟨fun _ => .int, fun _ h => absurd h (Nat.not_lt_zero _)⟩, fun _ h => absurd h (Nat.not_lt_zero _)⟩
theorem nm_cl_ok : ∀ q ∈ nm_cls, (∀ w ∈ u_ws q.1 q.2.1 q.2.2, w ∈ nm_Tg) ∧ (∃ ty : Nat → FieldType, ∀ k, k < q.2.2 → parseFieldDescriptor (q.2.1 k).2.2.1 = some (ty k)) ∧ (∀ a, a < q.2.2 → ∀ b, b < q.2.2 → a ≠ b → (q.2.1 a).2.1 ≠ (q.2.1 b).2.1) := (nm_fc nm_co0 (nm_fc nm_co1 (nm_fc nm_co2 (nm_fc nm_co3 (nm_fc nm_co4 (nm_fc nm_co5 (nm_fc nm_co6 (nm_fc nm_co7 (nm_fc nm_co8 (nm_fc nm_co9 (nm_fc nm_co10 (nm_fc nm_co11 (fun _ h => nomatch h)))))))))))))
def nm_fl_0 : List ((String × Nat) × (Nat × Nat × FieldType × Bool)) := [(("CobolParser$Row", 11), (1, 0, (.array .int), false)), (("CobolParser$Row", 15), (1, 1, (.array .int), false)), (("CobolParser$Row", 18), (1, 2, .int, false)), (("CobolParser$Row", 22), (1, 3, .int, false)), (("CobolParser$Row", 25), (1, 4, .int, false)), (("CobolParser$Row", 28), (1, 5, (.array .int), true)), (("CobolParser$Row", 31), (1, 6, (.array .int), true)), (("CobolParser$Row", 34), (1, 7, .int, false)), (("CobolParser$Tree", 11), (2, 0, (.array .int), false)), (("CobolParser$Tree", 15), (2, 1, .int, false)), (("CobolParser$Tree", 19), (2, 2, .int, false)), (("CobolParser$Tree", 22), (2, 3, .int, false)), (("CobolParser$Tree", 25), (2, 4, .int, false)), (("CobolParser$Leaves", 9), (3, 0, (.object "CobolParser$Row"), true)), (("CobolParser$Leaves", 15), (3, 1, (.object "CobolParser$Tree"), true)), (("CobolParser$Expressions", 18), (5, 0, (.object "CobolParser$Row"), true)), (("CobolParser$Expressions", 22), (5, 1, (.object "CobolParser$Tree"), true)), (("CobolParser$Expressions", 26), (5, 2, (.object "CobolParser$Leaves"), true)), (("CobolParser$Expressions", 9), (5, 3, .int, false)), (("CobolParser$Expressions", 15), (5, 4, .int, false)), (("CobolParser$Statements", 9), (4, 0, (.object "CobolParser$Row"), true)), (("CobolParser$Statements", 15), (4, 1, (.object "CobolParser$Tree"), true)), (("CobolParser$Statements", 19), (4, 2, (.object "CobolParser$Leaves"), true)), (("CobolParser$Statements", 23), (4, 3, (.object "CobolParser$Expressions"), true)), (("CobolParser$Items", 25), (7, 0, (.object "CobolParser$Row"), true)), (("CobolParser$Items", 29), (7, 1, (.object "CobolParser$Tree"), true)), (("CobolParser$Items", 33), (7, 2, (.object "CobolParser$Leaves"), true)), (("CobolParser$Items", 11), (7, 3, (.array .int), true)), (("CobolParser$Items", 15), (7, 4, (.array .int), true)), (("CobolParser$Items", 18), (7, 5, .int, false))]
theorem nm_fl_ok_0 : ∀ q ∈ nm_fl_0, ∃ (C : String) (T : u_T) (N : Nat), nm_cls[q.2.1]? = some (C, T, N) ∧ q.2.2.1 < N ∧ (T q.2.2.1).2.2.2 = q.2.2.2.2 ∧ (q.2.2.2.2 = true → (T q.2.2.1).1 = q.1.1) ∧ parseFieldDescriptor (T q.2.2.1).2.2.1 = some q.2.2.2.1 ∧ Cond.fieldLink q.1.1 q.1.2 (T q.2.2.1).1 (T q.2.2.1).2.1 (T q.2.2.1).2.2.1 ∈ nm_Tg := (nm_fc ⟨_, _, _, rfl, Nat.le_of_ble_eq_true rfl, rfl, (fun h => (nomatch h)), nm_pd10, (nm_in1 (List.mem_of_getElem? (i := 33) rfl) rfl)⟩ (nm_fc ⟨_, _, _, rfl, Nat.le_of_ble_eq_true rfl, rfl, (fun h => (nomatch h)), nm_pd10, (nm_in1 (List.mem_of_getElem? (i := 34) rfl) rfl)⟩ (nm_fc ⟨_, _, _, rfl, Nat.le_of_ble_eq_true rfl, rfl, (fun h => (nomatch h)), nm_pd0, (nm_in1 (List.mem_of_getElem? (i := 35) rfl) rfl)⟩ (nm_fc ⟨_, _, _, rfl, Nat.le_of_ble_eq_true rfl, rfl, (fun h => (nomatch h)), nm_pd0, (nm_in1 (List.mem_of_getElem? (i := 36) rfl) rfl)⟩ (nm_fc ⟨_, _, _, rfl, Nat.le_of_ble_eq_true rfl, rfl, (fun h => (nomatch h)), nm_pd0, (nm_in1 (List.mem_of_getElem? (i := 37) rfl) rfl)⟩ (nm_fc ⟨_, _, _, rfl, Nat.le_of_ble_eq_true rfl, rfl, (fun _ => rfl), nm_pd10, (nm_in1 (List.mem_of_getElem? (i := 38) rfl) rfl)⟩ (nm_fc ⟨_, _, _, rfl, Nat.le_of_ble_eq_true rfl, rfl, (fun _ => rfl), nm_pd10, (nm_in1 (List.mem_of_getElem? (i := 39) rfl) rfl)⟩ (nm_fc ⟨_, _, _, rfl, Nat.le_of_ble_eq_true rfl, rfl, (fun h => (nomatch h)), nm_pd0, (nm_in1 (List.mem_of_getElem? (i := 40) rfl) rfl)⟩ (nm_fc ⟨_, _, _, rfl, Nat.le_of_ble_eq_true rfl, rfl, (fun h => (nomatch h)), nm_pd10, (nm_in1 (List.mem_of_getElem? (i := 65) rfl) rfl)⟩ (nm_fc ⟨_, _, _, rfl, Nat.le_of_ble_eq_true rfl, rfl, (fun h => (nomatch h)), nm_pd0, (nm_in1 (List.mem_of_getElem? (i := 66) rfl) rfl)⟩ (nm_fc ⟨_, _, _, rfl, Nat.le_of_ble_eq_true rfl, rfl, (fun h => (nomatch h)), nm_pd0, (nm_in1 (List.mem_of_getElem? (i := 67) rfl) rfl)⟩ (nm_fc ⟨_, _, _, rfl, Nat.le_of_ble_eq_true rfl, rfl, (fun h => (nomatch h)), nm_pd0, (nm_in1 (List.mem_of_getElem? (i := 68) rfl) rfl)⟩ (nm_fc ⟨_, _, _, rfl, Nat.le_of_ble_eq_true rfl, rfl, (fun h => (nomatch h)), nm_pd0, (nm_in1 (List.mem_of_getElem? (i := 69) rfl) rfl)⟩ (nm_fc ⟨_, _, _, rfl, Nat.le_of_ble_eq_true rfl, rfl, (fun _ => rfl), nm_pd5, (nm_in1 (List.mem_of_getElem? (i := 87) rfl) rfl)⟩ (nm_fc ⟨_, _, _, rfl, Nat.le_of_ble_eq_true rfl, rfl, (fun _ => rfl), nm_pd7, (nm_in1 (List.mem_of_getElem? (i := 88) rfl) rfl)⟩ (nm_fc ⟨_, _, _, rfl, Nat.le_of_ble_eq_true rfl, rfl, (fun _ => rfl), nm_pd5, (nm_in1 (List.mem_of_getElem? (i := 102) rfl) rfl)⟩ (nm_fc ⟨_, _, _, rfl, Nat.le_of_ble_eq_true rfl, rfl, (fun _ => rfl), nm_pd7, (nm_in1 (List.mem_of_getElem? (i := 103) rfl) rfl)⟩ (nm_fc ⟨_, _, _, rfl, Nat.le_of_ble_eq_true rfl, rfl, (fun _ => rfl), nm_pd4, (nm_in1 (List.mem_of_getElem? (i := 104) rfl) rfl)⟩ (nm_fc ⟨_, _, _, rfl, Nat.le_of_ble_eq_true rfl, rfl, (fun h => (nomatch h)), nm_pd0, (nm_in1 (List.mem_of_getElem? (i := 105) rfl) rfl)⟩ (nm_fc ⟨_, _, _, rfl, Nat.le_of_ble_eq_true rfl, rfl, (fun h => (nomatch h)), nm_pd0, (nm_in1 (List.mem_of_getElem? (i := 106) rfl) rfl)⟩ (nm_fc ⟨_, _, _, rfl, Nat.le_of_ble_eq_true rfl, rfl, (fun _ => rfl), nm_pd5, (nm_in1 (List.mem_of_getElem? (i := 122) rfl) rfl)⟩ (nm_fc ⟨_, _, _, rfl, Nat.le_of_ble_eq_true rfl, rfl, (fun _ => rfl), nm_pd7, (nm_in1 (List.mem_of_getElem? (i := 123) rfl) rfl)⟩ (nm_fc ⟨_, _, _, rfl, Nat.le_of_ble_eq_true rfl, rfl, (fun _ => rfl), nm_pd4, (nm_in1 (List.mem_of_getElem? (i := 124) rfl) rfl)⟩ (nm_fc ⟨_, _, _, rfl, Nat.le_of_ble_eq_true rfl, rfl, (fun _ => rfl), nm_pd2, (nm_in1 (List.mem_of_getElem? (i := 125) rfl) rfl)⟩ (nm_fc ⟨_, _, _, rfl, Nat.le_of_ble_eq_true rfl, rfl, (fun _ => rfl), nm_pd5, (nm_in1 (List.mem_of_getElem? (i := 143) rfl) rfl)⟩ (nm_fc ⟨_, _, _, rfl, Nat.le_of_ble_eq_true rfl, rfl, (fun _ => rfl), nm_pd7, (nm_in1 (List.mem_of_getElem? (i := 144) rfl) rfl)⟩ (nm_fc ⟨_, _, _, rfl, Nat.le_of_ble_eq_true rfl, rfl, (fun _ => rfl), nm_pd4, (nm_in1 (List.mem_of_getElem? (i := 145) rfl) rfl)⟩ (nm_fc ⟨_, _, _, rfl, Nat.le_of_ble_eq_true rfl, rfl, (fun _ => rfl), nm_pd10, (nm_in1 (List.mem_of_getElem? (i := 146) rfl) rfl)⟩ (nm_fc ⟨_, _, _, rfl, Nat.le_of_ble_eq_true rfl, rfl, (fun _ => rfl), nm_pd10, (nm_in1 (List.mem_of_getElem? (i := 147) rfl) rfl)⟩ (nm_fc ⟨_, _, _, rfl, Nat.le_of_ble_eq_true rfl, rfl, (fun h => (nomatch h)), nm_pd0, (nm_in1 (List.mem_of_getElem? (i := 148) rfl) rfl)⟩ (fun _ h => nomatch h)))))))))))))))))))))))))))))))
def nm_fl_1 : List ((String × Nat) × (Nat × Nat × FieldType × Bool)) := [(("CobolParser$Items", 22), (7, 6, .int, false)), (("CobolParser$Units", 9), (8, 0, (.array .int), true)), (("CobolParser$Units", 15), (8, 1, (.array .int), true)), (("CobolParser$Units", 18), (8, 2, (.array .int), true)), (("CobolParser$Units", 21), (8, 3, (.array .int), true)), (("CobolParser$Units", 24), (8, 4, .int, false)), (("CobolParser$Clauses", 31), (6, 0, (.object "CobolParser$Row"), true)), (("CobolParser$Clauses", 35), (6, 1, (.object "CobolParser$Tree"), true)), (("CobolParser$Clauses", 39), (6, 2, (.object "CobolParser$Leaves"), true)), (("CobolParser$Clauses", 43), (6, 3, (.object "CobolParser$Statements"), true)), (("CobolParser$Clauses", 47), (6, 4, (.object "CobolParser$Items"), true)), (("CobolParser$Clauses", 12), (6, 5, (.object "CobolParser$Units"), true)), (("CobolParser$Clauses", 18), (6, 6, .int, false)), (("CobolParser$Clauses", 22), (6, 7, .int, false)), (("CobolParser$Clauses", 25), (6, 8, .int, false)), (("CobolParser$Clauses", 28), (6, 9, .int, false)), (("CobolParser", 10), (0, 0, (.object "CobolParser$Row"), true)), (("CobolParser", 19), (0, 1, (.object "CobolParser$Tree"), true)), (("CobolParser", 46), (0, 2, (.object "CobolParser$Clauses"), true)), (("CobolParserModel", 128), (9, 0, .int, false)), (("CobolParserModel", 137), (9, 1, .int, false)), (("CobolParserModel", 7), (9, 2, (.array .int), true)), (("CobolParserModel", 13), (9, 3, (.array .int), true)), (("CobolParserModel", 140), (9, 4, .int, false)), (("CobolParserModel", 147), (9, 5, .int, false)), (("CobolParserModel", 16), (9, 6, (.array .int), true)), (("CobolParserModel", 19), (9, 7, (.array .int), true)), (("CobolParserModel", 174), (9, 8, .int, false)), (("CobolParserModel", 22), (9, 9, (.array .int), true)), (("CobolParserModel", 25), (9, 10, (.array .int), true))]
theorem nm_fl_ok_1 : ∀ q ∈ nm_fl_1, ∃ (C : String) (T : u_T) (N : Nat), nm_cls[q.2.1]? = some (C, T, N) ∧ q.2.2.1 < N ∧ (T q.2.2.1).2.2.2 = q.2.2.2.2 ∧ (q.2.2.2.2 = true → (T q.2.2.1).1 = q.1.1) ∧ parseFieldDescriptor (T q.2.2.1).2.2.1 = some q.2.2.2.1 ∧ Cond.fieldLink q.1.1 q.1.2 (T q.2.2.1).1 (T q.2.2.1).2.1 (T q.2.2.1).2.2.1 ∈ nm_Tg := (nm_fc ⟨_, _, _, rfl, Nat.le_of_ble_eq_true rfl, rfl, (fun h => (nomatch h)), nm_pd0, (nm_in1 (List.mem_of_getElem? (i := 149) rfl) rfl)⟩ (nm_fc ⟨_, _, _, rfl, Nat.le_of_ble_eq_true rfl, rfl, (fun _ => rfl), nm_pd10, (nm_in1 (List.mem_of_getElem? (i := 175) rfl) rfl)⟩ (nm_fc ⟨_, _, _, rfl, Nat.le_of_ble_eq_true rfl, rfl, (fun _ => rfl), nm_pd10, (nm_in1 (List.mem_of_getElem? (i := 176) rfl) rfl)⟩ (nm_fc ⟨_, _, _, rfl, Nat.le_of_ble_eq_true rfl, rfl, (fun _ => rfl), nm_pd10, (nm_in1 (List.mem_of_getElem? (i := 177) rfl) rfl)⟩ (nm_fc ⟨_, _, _, rfl, Nat.le_of_ble_eq_true rfl, rfl, (fun _ => rfl), nm_pd10, (nm_in1 (List.mem_of_getElem? (i := 178) rfl) rfl)⟩ (nm_fc ⟨_, _, _, rfl, Nat.le_of_ble_eq_true rfl, rfl, (fun h => (nomatch h)), nm_pd0, (nm_in1 (List.mem_of_getElem? (i := 179) rfl) rfl)⟩ (nm_fc ⟨_, _, _, rfl, Nat.le_of_ble_eq_true rfl, rfl, (fun _ => rfl), nm_pd5, (nm_in1 (List.mem_of_getElem? (i := 191) rfl) rfl)⟩ (nm_fc ⟨_, _, _, rfl, Nat.le_of_ble_eq_true rfl, rfl, (fun _ => rfl), nm_pd7, (nm_in1 (List.mem_of_getElem? (i := 192) rfl) rfl)⟩ (nm_fc ⟨_, _, _, rfl, Nat.le_of_ble_eq_true rfl, rfl, (fun _ => rfl), nm_pd4, (nm_in1 (List.mem_of_getElem? (i := 193) rfl) rfl)⟩ (nm_fc ⟨_, _, _, rfl, Nat.le_of_ble_eq_true rfl, rfl, (fun _ => rfl), nm_pd6, (nm_in1 (List.mem_of_getElem? (i := 194) rfl) rfl)⟩ (nm_fc ⟨_, _, _, rfl, Nat.le_of_ble_eq_true rfl, rfl, (fun _ => rfl), nm_pd3, (nm_in1 (List.mem_of_getElem? (i := 195) rfl) rfl)⟩ (nm_fc ⟨_, _, _, rfl, Nat.le_of_ble_eq_true rfl, rfl, (fun _ => rfl), nm_pd8, (nm_in1 (List.mem_of_getElem? (i := 196) rfl) rfl)⟩ (nm_fc ⟨_, _, _, rfl, Nat.le_of_ble_eq_true rfl, rfl, (fun h => (nomatch h)), nm_pd0, (nm_in1 (List.mem_of_getElem? (i := 197) rfl) rfl)⟩ (nm_fc ⟨_, _, _, rfl, Nat.le_of_ble_eq_true rfl, rfl, (fun h => (nomatch h)), nm_pd0, (nm_in1 (List.mem_of_getElem? (i := 198) rfl) rfl)⟩ (nm_fc ⟨_, _, _, rfl, Nat.le_of_ble_eq_true rfl, rfl, (fun h => (nomatch h)), nm_pd0, (nm_in1 (List.mem_of_getElem? (i := 199) rfl) rfl)⟩ (nm_fc ⟨_, _, _, rfl, Nat.le_of_ble_eq_true rfl, rfl, (fun h => (nomatch h)), nm_pd0, (nm_in1 (List.mem_of_getElem? (i := 200) rfl) rfl)⟩ (nm_fc ⟨_, _, _, rfl, Nat.le_of_ble_eq_true rfl, rfl, (fun _ => rfl), nm_pd5, (nm_in1 (List.mem_of_getElem? (i := 222) rfl) rfl)⟩ (nm_fc ⟨_, _, _, rfl, Nat.le_of_ble_eq_true rfl, rfl, (fun _ => rfl), nm_pd7, (nm_in1 (List.mem_of_getElem? (i := 223) rfl) rfl)⟩ (nm_fc ⟨_, _, _, rfl, Nat.le_of_ble_eq_true rfl, rfl, (fun _ => rfl), nm_pd1, (nm_in1 (List.mem_of_getElem? (i := 224) rfl) rfl)⟩ (nm_fc ⟨_, _, _, rfl, Nat.le_of_ble_eq_true rfl, rfl, (fun h => (nomatch h)), nm_pd0, (nm_in5 (List.mem_of_getElem? (i := 33) rfl) rfl)⟩ (nm_fc ⟨_, _, _, rfl, Nat.le_of_ble_eq_true rfl, rfl, (fun h => (nomatch h)), nm_pd0, (nm_in5 (List.mem_of_getElem? (i := 34) rfl) rfl)⟩ (nm_fc ⟨_, _, _, rfl, Nat.le_of_ble_eq_true rfl, rfl, (fun _ => rfl), nm_pd10, (nm_in5 (List.mem_of_getElem? (i := 35) rfl) rfl)⟩ (nm_fc ⟨_, _, _, rfl, Nat.le_of_ble_eq_true rfl, rfl, (fun _ => rfl), nm_pd10, (nm_in5 (List.mem_of_getElem? (i := 36) rfl) rfl)⟩ (nm_fc ⟨_, _, _, rfl, Nat.le_of_ble_eq_true rfl, rfl, (fun h => (nomatch h)), nm_pd0, (nm_in5 (List.mem_of_getElem? (i := 37) rfl) rfl)⟩ (nm_fc ⟨_, _, _, rfl, Nat.le_of_ble_eq_true rfl, rfl, (fun h => (nomatch h)), nm_pd0, (nm_in5 (List.mem_of_getElem? (i := 38) rfl) rfl)⟩ (nm_fc ⟨_, _, _, rfl, Nat.le_of_ble_eq_true rfl, rfl, (fun _ => rfl), nm_pd10, (nm_in5 (List.mem_of_getElem? (i := 39) rfl) rfl)⟩ (nm_fc ⟨_, _, _, rfl, Nat.le_of_ble_eq_true rfl, rfl, (fun _ => rfl), nm_pd10, (nm_in5 (List.mem_of_getElem? (i := 40) rfl) rfl)⟩ (nm_fc ⟨_, _, _, rfl, Nat.le_of_ble_eq_true rfl, rfl, (fun h => (nomatch h)), nm_pd0, (nm_in5 (List.mem_of_getElem? (i := 41) rfl) rfl)⟩ (nm_fc ⟨_, _, _, rfl, Nat.le_of_ble_eq_true rfl, rfl, (fun _ => rfl), nm_pd10, (nm_in5 (List.mem_of_getElem? (i := 42) rfl) rfl)⟩ (nm_fc ⟨_, _, _, rfl, Nat.le_of_ble_eq_true rfl, rfl, (fun _ => rfl), nm_pd10, (nm_in5 (List.mem_of_getElem? (i := 43) rfl) rfl)⟩ (fun _ h => nomatch h)))))))))))))))))))))))))))))))
def nm_fl_2 : List ((String × Nat) × (Nat × Nat × FieldType × Bool)) := [(("CobolParserModel", 28), (9, 11, (.array .int), true)), (("CobolParserModel", 31), (9, 12, (.array .int), true)), (("CobolParserModel", 34), (9, 13, (.array .int), true)), (("CobolParserModel", 37), (9, 14, (.array .int), true)), (("CobolParserModel", 40), (9, 15, (.array .int), true)), (("CobolParserModel", 43), (9, 16, (.array .int), true)), (("CobolParserModel", 46), (9, 17, (.array .int), true)), (("CobolParserModel", 49), (9, 18, (.array .int), true)), (("CobolParserModel", 208), (9, 19, .int, false)), (("CobolParserModel", 202), (9, 20, .int, false)), (("CobolParserModel", 211), (9, 21, .int, false)), (("CobolParserModel", 52), (9, 22, (.array .int), true)), (("CobolParserModel", 55), (9, 23, (.array .int), true)), (("CobolParserModel", 58), (9, 24, (.array .int), true)), (("CobolParserModel", 61), (9, 25, (.array .int), true)), (("CobolParserModel", 205), (9, 26, .int, false)), (("CobolParserModel", 64), (9, 27, (.array .int), true)), (("CobolParserModel", 67), (9, 28, (.array .int), true)), (("CobolParserModel", 70), (9, 29, (.array .int), true)), (("CobolParserModel", 73), (9, 30, (.array .boolean), true)), (("CobolParserModel", 77), (9, 31, (.array .boolean), true)), (("CobolParserModel", 273), (9, 32, .int, false)), (("CobolParserModel", 276), (9, 33, .int, false)), (("CobolParserModel", 255), (9, 34, .int, false)), (("CobolParserModel", 233), (9, 35, .int, false)), (("CobolParserModel", 291), (9, 36, .int, false)), (("CobolParserModel", 279), (9, 37, .int, false)), (("CobolParserModel", 282), (9, 38, .int, false)), (("CobolParserModel", 80), (9, 39, (.array .int), true)), (("CobolParserModel", 83), (9, 40, (.array .int), true))]
theorem nm_fl_ok_2 : ∀ q ∈ nm_fl_2, ∃ (C : String) (T : u_T) (N : Nat), nm_cls[q.2.1]? = some (C, T, N) ∧ q.2.2.1 < N ∧ (T q.2.2.1).2.2.2 = q.2.2.2.2 ∧ (q.2.2.2.2 = true → (T q.2.2.1).1 = q.1.1) ∧ parseFieldDescriptor (T q.2.2.1).2.2.1 = some q.2.2.2.1 ∧ Cond.fieldLink q.1.1 q.1.2 (T q.2.2.1).1 (T q.2.2.1).2.1 (T q.2.2.1).2.2.1 ∈ nm_Tg := (nm_fc ⟨_, _, _, rfl, Nat.le_of_ble_eq_true rfl, rfl, (fun _ => rfl), nm_pd10, (nm_in5 (List.mem_of_getElem? (i := 44) rfl) rfl)⟩ (nm_fc ⟨_, _, _, rfl, Nat.le_of_ble_eq_true rfl, rfl, (fun _ => rfl), nm_pd10, (nm_in5 (List.mem_of_getElem? (i := 45) rfl) rfl)⟩ (nm_fc ⟨_, _, _, rfl, Nat.le_of_ble_eq_true rfl, rfl, (fun _ => rfl), nm_pd10, (nm_in5 (List.mem_of_getElem? (i := 46) rfl) rfl)⟩ (nm_fc ⟨_, _, _, rfl, Nat.le_of_ble_eq_true rfl, rfl, (fun _ => rfl), nm_pd10, (nm_in5 (List.mem_of_getElem? (i := 47) rfl) rfl)⟩ (nm_fc ⟨_, _, _, rfl, Nat.le_of_ble_eq_true rfl, rfl, (fun _ => rfl), nm_pd10, (nm_in5 (List.mem_of_getElem? (i := 48) rfl) rfl)⟩ (nm_fc ⟨_, _, _, rfl, Nat.le_of_ble_eq_true rfl, rfl, (fun _ => rfl), nm_pd10, (nm_in5 (List.mem_of_getElem? (i := 49) rfl) rfl)⟩ (nm_fc ⟨_, _, _, rfl, Nat.le_of_ble_eq_true rfl, rfl, (fun _ => rfl), nm_pd10, (nm_in5 (List.mem_of_getElem? (i := 50) rfl) rfl)⟩ (nm_fc ⟨_, _, _, rfl, Nat.le_of_ble_eq_true rfl, rfl, (fun _ => rfl), nm_pd10, (nm_in5 (List.mem_of_getElem? (i := 51) rfl) rfl)⟩ (nm_fc ⟨_, _, _, rfl, Nat.le_of_ble_eq_true rfl, rfl, (fun h => (nomatch h)), nm_pd0, (nm_in5 (List.mem_of_getElem? (i := 52) rfl) rfl)⟩ (nm_fc ⟨_, _, _, rfl, Nat.le_of_ble_eq_true rfl, rfl, (fun h => (nomatch h)), nm_pd0, (nm_in5 (List.mem_of_getElem? (i := 53) rfl) rfl)⟩ (nm_fc ⟨_, _, _, rfl, Nat.le_of_ble_eq_true rfl, rfl, (fun h => (nomatch h)), nm_pd0, (nm_in5 (List.mem_of_getElem? (i := 54) rfl) rfl)⟩ (nm_fc ⟨_, _, _, rfl, Nat.le_of_ble_eq_true rfl, rfl, (fun _ => rfl), nm_pd10, (nm_in5 (List.mem_of_getElem? (i := 55) rfl) rfl)⟩ (nm_fc ⟨_, _, _, rfl, Nat.le_of_ble_eq_true rfl, rfl, (fun _ => rfl), nm_pd10, (nm_in5 (List.mem_of_getElem? (i := 56) rfl) rfl)⟩ (nm_fc ⟨_, _, _, rfl, Nat.le_of_ble_eq_true rfl, rfl, (fun _ => rfl), nm_pd10, (nm_in5 (List.mem_of_getElem? (i := 57) rfl) rfl)⟩ (nm_fc ⟨_, _, _, rfl, Nat.le_of_ble_eq_true rfl, rfl, (fun _ => rfl), nm_pd10, (nm_in5 (List.mem_of_getElem? (i := 58) rfl) rfl)⟩ (nm_fc ⟨_, _, _, rfl, Nat.le_of_ble_eq_true rfl, rfl, (fun h => (nomatch h)), nm_pd0, (nm_in5 (List.mem_of_getElem? (i := 59) rfl) rfl)⟩ (nm_fc ⟨_, _, _, rfl, Nat.le_of_ble_eq_true rfl, rfl, (fun _ => rfl), nm_pd10, (nm_in5 (List.mem_of_getElem? (i := 60) rfl) rfl)⟩ (nm_fc ⟨_, _, _, rfl, Nat.le_of_ble_eq_true rfl, rfl, (fun _ => rfl), nm_pd10, (nm_in5 (List.mem_of_getElem? (i := 61) rfl) rfl)⟩ (nm_fc ⟨_, _, _, rfl, Nat.le_of_ble_eq_true rfl, rfl, (fun _ => rfl), nm_pd10, (nm_in5 (List.mem_of_getElem? (i := 62) rfl) rfl)⟩ (nm_fc ⟨_, _, _, rfl, Nat.le_of_ble_eq_true rfl, rfl, (fun _ => rfl), nm_pd11, (nm_in5 (List.mem_of_getElem? (i := 63) rfl) rfl)⟩ (nm_fc ⟨_, _, _, rfl, Nat.le_of_ble_eq_true rfl, rfl, (fun _ => rfl), nm_pd11, (nm_in5 (List.mem_of_getElem? (i := 64) rfl) rfl)⟩ (nm_fc ⟨_, _, _, rfl, Nat.le_of_ble_eq_true rfl, rfl, (fun h => (nomatch h)), nm_pd0, (nm_in5 (List.mem_of_getElem? (i := 65) rfl) rfl)⟩ (nm_fc ⟨_, _, _, rfl, Nat.le_of_ble_eq_true rfl, rfl, (fun h => (nomatch h)), nm_pd0, (nm_in5 (List.mem_of_getElem? (i := 66) rfl) rfl)⟩ (nm_fc ⟨_, _, _, rfl, Nat.le_of_ble_eq_true rfl, rfl, (fun h => (nomatch h)), nm_pd0, (nm_in5 (List.mem_of_getElem? (i := 67) rfl) rfl)⟩ (nm_fc ⟨_, _, _, rfl, Nat.le_of_ble_eq_true rfl, rfl, (fun h => (nomatch h)), nm_pd0, (nm_in5 (List.mem_of_getElem? (i := 68) rfl) rfl)⟩ (nm_fc ⟨_, _, _, rfl, Nat.le_of_ble_eq_true rfl, rfl, (fun h => (nomatch h)), nm_pd0, (nm_in5 (List.mem_of_getElem? (i := 69) rfl) rfl)⟩ (nm_fc ⟨_, _, _, rfl, Nat.le_of_ble_eq_true rfl, rfl, (fun h => (nomatch h)), nm_pd0, (nm_in5 (List.mem_of_getElem? (i := 70) rfl) rfl)⟩ (nm_fc ⟨_, _, _, rfl, Nat.le_of_ble_eq_true rfl, rfl, (fun h => (nomatch h)), nm_pd0, (nm_in5 (List.mem_of_getElem? (i := 71) rfl) rfl)⟩ (nm_fc ⟨_, _, _, rfl, Nat.le_of_ble_eq_true rfl, rfl, (fun _ => rfl), nm_pd10, (nm_in5 (List.mem_of_getElem? (i := 72) rfl) rfl)⟩ (nm_fc ⟨_, _, _, rfl, Nat.le_of_ble_eq_true rfl, rfl, (fun _ => rfl), nm_pd10, (nm_in5 (List.mem_of_getElem? (i := 73) rfl) rfl)⟩ (fun _ h => nomatch h)))))))))))))))))))))))))))))))
def nm_fl_3 : List ((String × Nat) × (Nat × Nat × FieldType × Bool)) := [(("CobolParserModel", 161), (9, 41, .int, false)), (("CobolParserModel", 158), (9, 42, .int, false)), (("CobolParserModel", 150), (9, 43, .boolean, false)), (("CobolParserModel", 313), (9, 44, .int, false)), (("CobolParserModel", 310), (9, 45, .int, false)), (("CobolParserModel", 86), (9, 46, (.array .int), true)), (("CobolParserModel", 89), (9, 47, (.array .int), true)), (("CobolParserModel", 92), (9, 48, (.array .int), true)), (("CobolParserModel", 371), (9, 49, .int, false)), (("CobolParserModel", 95), (9, 50, (.array .int), true)), (("CobolParserModel", 98), (9, 51, (.array .int), true)), (("CobolParserModel", 101), (9, 52, (.array .int), true)), (("CobolParserModel", 104), (9, 53, (.array .int), true)), (("CobolParserModel", 392), (9, 54, .int, false)), (("CobolParserModel", 386), (9, 55, .int, false)), (("CobolParserModel", 416), (9, 56, .int, false)), (("CobolParserModel", 383), (9, 57, .int, false)), (("CobolParserModel", 107), (9, 58, (.array .int), true)), (("CobolParserModel", 110), (9, 59, (.array .int), true)), (("CobolParserModel", 113), (9, 60, (.array .int), true)), (("CobolParserModel", 116), (9, 61, (.array .int), true)), (("CobolParserModel", 119), (9, 62, (.array .int), true)), (("CobolParserModel", 122), (9, 63, (.array .int), true)), (("CobolParserModel", 125), (9, 64, (.array .int), true))]
theorem nm_fl_ok_3 : ∀ q ∈ nm_fl_3, ∃ (C : String) (T : u_T) (N : Nat), nm_cls[q.2.1]? = some (C, T, N) ∧ q.2.2.1 < N ∧ (T q.2.2.1).2.2.2 = q.2.2.2.2 ∧ (q.2.2.2.2 = true → (T q.2.2.1).1 = q.1.1) ∧ parseFieldDescriptor (T q.2.2.1).2.2.1 = some q.2.2.2.1 ∧ Cond.fieldLink q.1.1 q.1.2 (T q.2.2.1).1 (T q.2.2.1).2.1 (T q.2.2.1).2.2.1 ∈ nm_Tg := (nm_fc ⟨_, _, _, rfl, Nat.le_of_ble_eq_true rfl, rfl, (fun h => (nomatch h)), nm_pd0, (nm_in5 (List.mem_of_getElem? (i := 74) rfl) rfl)⟩ (nm_fc ⟨_, _, _, rfl, Nat.le_of_ble_eq_true rfl, rfl, (fun h => (nomatch h)), nm_pd0, (nm_in5 (List.mem_of_getElem? (i := 75) rfl) rfl)⟩ (nm_fc ⟨_, _, _, rfl, Nat.le_of_ble_eq_true rfl, rfl, (fun h => (nomatch h)), nm_pd9, (nm_in5 (List.mem_of_getElem? (i := 76) rfl) rfl)⟩ (nm_fc ⟨_, _, _, rfl, Nat.le_of_ble_eq_true rfl, rfl, (fun h => (nomatch h)), nm_pd0, (nm_in5 (List.mem_of_getElem? (i := 77) rfl) rfl)⟩ (nm_fc ⟨_, _, _, rfl, Nat.le_of_ble_eq_true rfl, rfl, (fun h => (nomatch h)), nm_pd0, (nm_in5 (List.mem_of_getElem? (i := 78) rfl) rfl)⟩ (nm_fc ⟨_, _, _, rfl, Nat.le_of_ble_eq_true rfl, rfl, (fun _ => rfl), nm_pd10, (nm_in5 (List.mem_of_getElem? (i := 79) rfl) rfl)⟩ (nm_fc ⟨_, _, _, rfl, Nat.le_of_ble_eq_true rfl, rfl, (fun _ => rfl), nm_pd10, (nm_in5 (List.mem_of_getElem? (i := 80) rfl) rfl)⟩ (nm_fc ⟨_, _, _, rfl, Nat.le_of_ble_eq_true rfl, rfl, (fun _ => rfl), nm_pd10, (nm_in5 (List.mem_of_getElem? (i := 81) rfl) rfl)⟩ (nm_fc ⟨_, _, _, rfl, Nat.le_of_ble_eq_true rfl, rfl, (fun h => (nomatch h)), nm_pd0, (nm_in5 (List.mem_of_getElem? (i := 82) rfl) rfl)⟩ (nm_fc ⟨_, _, _, rfl, Nat.le_of_ble_eq_true rfl, rfl, (fun _ => rfl), nm_pd10, (nm_in5 (List.mem_of_getElem? (i := 83) rfl) rfl)⟩ (nm_fc ⟨_, _, _, rfl, Nat.le_of_ble_eq_true rfl, rfl, (fun _ => rfl), nm_pd10, (nm_in5 (List.mem_of_getElem? (i := 84) rfl) rfl)⟩ (nm_fc ⟨_, _, _, rfl, Nat.le_of_ble_eq_true rfl, rfl, (fun _ => rfl), nm_pd10, (nm_in5 (List.mem_of_getElem? (i := 85) rfl) rfl)⟩ (nm_fc ⟨_, _, _, rfl, Nat.le_of_ble_eq_true rfl, rfl, (fun _ => rfl), nm_pd10, (nm_in5 (List.mem_of_getElem? (i := 86) rfl) rfl)⟩ (nm_fc ⟨_, _, _, rfl, Nat.le_of_ble_eq_true rfl, rfl, (fun h => (nomatch h)), nm_pd0, (nm_in5 (List.mem_of_getElem? (i := 87) rfl) rfl)⟩ (nm_fc ⟨_, _, _, rfl, Nat.le_of_ble_eq_true rfl, rfl, (fun h => (nomatch h)), nm_pd0, (nm_in5 (List.mem_of_getElem? (i := 88) rfl) rfl)⟩ (nm_fc ⟨_, _, _, rfl, Nat.le_of_ble_eq_true rfl, rfl, (fun h => (nomatch h)), nm_pd0, (nm_in5 (List.mem_of_getElem? (i := 89) rfl) rfl)⟩ (nm_fc ⟨_, _, _, rfl, Nat.le_of_ble_eq_true rfl, rfl, (fun h => (nomatch h)), nm_pd0, (nm_in5 (List.mem_of_getElem? (i := 90) rfl) rfl)⟩ (nm_fc ⟨_, _, _, rfl, Nat.le_of_ble_eq_true rfl, rfl, (fun _ => rfl), nm_pd10, (nm_in5 (List.mem_of_getElem? (i := 91) rfl) rfl)⟩ (nm_fc ⟨_, _, _, rfl, Nat.le_of_ble_eq_true rfl, rfl, (fun _ => rfl), nm_pd10, (nm_in5 (List.mem_of_getElem? (i := 92) rfl) rfl)⟩ (nm_fc ⟨_, _, _, rfl, Nat.le_of_ble_eq_true rfl, rfl, (fun _ => rfl), nm_pd10, (nm_in5 (List.mem_of_getElem? (i := 93) rfl) rfl)⟩ (nm_fc ⟨_, _, _, rfl, Nat.le_of_ble_eq_true rfl, rfl, (fun _ => rfl), nm_pd10, (nm_in5 (List.mem_of_getElem? (i := 94) rfl) rfl)⟩ (nm_fc ⟨_, _, _, rfl, Nat.le_of_ble_eq_true rfl, rfl, (fun _ => rfl), nm_pd10, (nm_in5 (List.mem_of_getElem? (i := 95) rfl) rfl)⟩ (nm_fc ⟨_, _, _, rfl, Nat.le_of_ble_eq_true rfl, rfl, (fun _ => rfl), nm_pd10, (nm_in5 (List.mem_of_getElem? (i := 96) rfl) rfl)⟩ (nm_fc ⟨_, _, _, rfl, Nat.le_of_ble_eq_true rfl, rfl, (fun _ => rfl), nm_pd10, (nm_in5 (List.mem_of_getElem? (i := 97) rfl) rfl)⟩ (fun _ h => nomatch h)))))))))))))))))))))))))
def nm_fl : List ((String × Nat) × (Nat × Nat × FieldType × Bool)) := nm_fl_0 ++ nm_fl_1 ++ nm_fl_2 ++ nm_fl_3
theorem nm_fl_ok : ∀ q ∈ nm_fl, ∃ (C : String) (T : u_T) (N : Nat), nm_cls[q.2.1]? = some (C, T, N) ∧ q.2.2.1 < N ∧ (T q.2.2.1).2.2.2 = q.2.2.2.2 ∧ (q.2.2.2.2 = true → (T q.2.2.1).1 = q.1.1) ∧ parseFieldDescriptor (T q.2.2.1).2.2.1 = some q.2.2.2.1 ∧ Cond.fieldLink q.1.1 q.1.2 (T q.2.2.1).1 (T q.2.2.1).2.1 (T q.2.2.1).2.2.1 ∈ nm_Tg := (nm_fa (nm_fa (nm_fa nm_fl_ok_0 nm_fl_ok_1) nm_fl_ok_2) nm_fl_ok_3)
def nm_nw_0 : List ((String × Nat) × (Nat × List Value)) := [(("CobolParserLaw", 8), (0, [.null, .null, .null])), (("CobolParser", 7), (1, [.null, .null, .int 0, .int 0, .int 0, .null, .null, .int 0])), (("CobolParser", 16), (2, [.null, .int 0, .int 0, .int 0, .int 0])), (("CobolParser", 23), (3, [.null, .null])), (("CobolParser", 28), (4, [.null, .null, .null, .null])), (("CobolParser", 30), (5, [.null, .null, .null, .int 0, .int 0])), (("CobolParser", 38), (6, [.null, .null, .null, .null, .null, .null, .int 0, .int 0, .int 0, .int 0])), (("CobolParser", 40), (7, [.null, .null, .null, .null, .null, .int 0, .int 0])), (("CobolParser$Clauses", 9), (8, [.null, .null, .null, .null, .int 0])), (("CobolParserLaw", 16), (9, [.int 0, .int 0, .null, .null, .int 0, .int 0, .null, .null, .int 0, .null, .null, .null, .null, .null, .null, .null, .null, .null, .null, .int 0, .int 0, .int 0, .null, .null, .null, .null, .int 0, .null, .null, .null, .null, .null, .int 0, .int 0, .int 0, .int 0, .int 0, .int 0, .int 0, .null, .null, .int 0, .int 0, .int 0, .int 0, .int 0, .null, .null, .null, .int 0, .null, .null, .null, .null, .int 0, .int 0, .int 0, .int 0, .null, .null, .null, .null, .null, .null, .null]))]
theorem nm_nw_ok_0 : ∀ q ∈ nm_nw_0, ∃ (C : String) (T : u_T) (N : Nat) (ty : Nat → FieldType), nm_cls[q.2.1]? = some (C, T, N) ∧ Cond.classLink q.1.1 q.1.2 C ∈ nm_Tg ∧ Cond.instantiable C N ∈ nm_Tg ∧ Cond.initialized C ∈ nm_Tg ∧ q.2.2.length = N ∧ (∀ v ∈ q.2.2, am_isR v = false) ∧ (∀ k, k < N → parseFieldDescriptor (T k).2.2.1 = some (ty k)) ∧ ∀ j, j < N → defaultValue (ty j) = vp_V q.2.2 j := (nm_fc ⟨_, _, _, nm_ty0, rfl, (nm_in1 (List.mem_of_getElem? (i := 19) rfl) rfl), (nm_in1 (List.mem_of_getElem? (i := 20) rfl) rfl), (nm_in1 (List.mem_of_getElem? (i := 1) rfl) rfl), rfl, by decide +kernel, nm_to0, by decide +kernel⟩ (nm_fc ⟨_, _, _, nm_ty1, rfl, (nm_in1 (List.mem_of_getElem? (i := 27) rfl) rfl), (nm_in1 (List.mem_of_getElem? (i := 28) rfl) rfl), (nm_in1 (List.mem_of_getElem? (i := 2) rfl) rfl), rfl, by decide +kernel, nm_to1, by decide +kernel⟩ (nm_fc ⟨_, _, _, nm_ty2, rfl, (nm_in1 (List.mem_of_getElem? (i := 59) rfl) rfl), (nm_in1 (List.mem_of_getElem? (i := 60) rfl) rfl), (nm_in1 (List.mem_of_getElem? (i := 3) rfl) rfl), rfl, by decide +kernel, nm_to2, by decide +kernel⟩ (nm_fc ⟨_, _, _, nm_ty3, rfl, (nm_in1 (List.mem_of_getElem? (i := 81) rfl) rfl), (nm_in1 (List.mem_of_getElem? (i := 82) rfl) rfl), (nm_in1 (List.mem_of_getElem? (i := 4) rfl) rfl), rfl, by decide +kernel, nm_to3, by decide +kernel⟩ (nm_fc ⟨_, _, _, nm_ty4, rfl, (nm_in1 (List.mem_of_getElem? (i := 94) rfl) rfl), (nm_in1 (List.mem_of_getElem? (i := 95) rfl) rfl), (nm_in1 (List.mem_of_getElem? (i := 5) rfl) rfl), rfl, by decide +kernel, nm_to4, by decide +kernel⟩ (nm_fc ⟨_, _, _, nm_ty5, rfl, (nm_in1 (List.mem_of_getElem? (i := 96) rfl) rfl), (nm_in1 (List.mem_of_getElem? (i := 97) rfl) rfl), (nm_in1 (List.mem_of_getElem? (i := 6) rfl) rfl), rfl, by decide +kernel, nm_to5, by decide +kernel⟩ (nm_fc ⟨_, _, _, nm_ty6, rfl, (nm_in1 (List.mem_of_getElem? (i := 135) rfl) rfl), (nm_in1 (List.mem_of_getElem? (i := 136) rfl) rfl), (nm_in1 (List.mem_of_getElem? (i := 7) rfl) rfl), rfl, by decide +kernel, nm_to6, by decide +kernel⟩ (nm_fc ⟨_, _, _, nm_ty7, rfl, (nm_in1 (List.mem_of_getElem? (i := 137) rfl) rfl), (nm_in1 (List.mem_of_getElem? (i := 138) rfl) rfl), (nm_in1 (List.mem_of_getElem? (i := 8) rfl) rfl), rfl, by decide +kernel, nm_to7, by decide +kernel⟩ (nm_fc ⟨_, _, _, nm_ty8, rfl, (nm_in1 (List.mem_of_getElem? (i := 169) rfl) rfl), (nm_in1 (List.mem_of_getElem? (i := 170) rfl) rfl), (nm_in1 (List.mem_of_getElem? (i := 9) rfl) rfl), rfl, by decide +kernel, nm_to8, by decide +kernel⟩ (nm_fc ⟨_, _, _, nm_ty9, rfl, (nm_in5 (List.mem_of_getElem? (i := 27) rfl) rfl), (nm_in5 (List.mem_of_getElem? (i := 28) rfl) rfl), (nm_in1 (List.mem_of_getElem? (i := 10) rfl) rfl), rfl, by decide +kernel, nm_to9, by decide +kernel⟩ (fun _ h => nomatch h)))))))))))
def nm_nw : List ((String × Nat) × (Nat × List Value)) := nm_nw_0
theorem nm_nw_ok : ∀ q ∈ nm_nw, ∃ (C : String) (T : u_T) (N : Nat) (ty : Nat → FieldType), nm_cls[q.2.1]? = some (C, T, N) ∧ Cond.classLink q.1.1 q.1.2 C ∈ nm_Tg ∧ Cond.instantiable C N ∈ nm_Tg ∧ Cond.initialized C ∈ nm_Tg ∧ q.2.2.length = N ∧ (∀ v ∈ q.2.2, am_isR v = false) ∧ (∀ k, k < N → parseFieldDescriptor (T k).2.2.1 = some (ty k)) ∧ ∀ j, j < N → defaultValue (ty j) = vp_V q.2.2 j := nm_nw_ok_0
def nm_ld_0 : List ((String × Nat) × Int32) := [(("CobolParser", 138), 99999), (("CobolParser$Leaves", 31), 100000), (("CobolParserModel", 136), 99999), (("CobolParserModel", 187), 100000)]
theorem nm_ld_ok_0 : ∀ q ∈ nm_ld_0, Cond.constant q.1.1 q.1.2 q.2 ∈ nm_Tg := (nm_fc (nm_in1 (List.mem_of_getElem? (i := 239) rfl) rfl) (nm_fc (nm_in3 (List.mem_of_getElem? (i := 119) rfl) rfl) (nm_fc (nm_in6 (List.mem_of_getElem? (i := 1) rfl) rfl) (nm_fc (nm_in6 (List.mem_of_getElem? (i := 78) rfl) rfl) (fun _ h => nomatch h)))))
def nm_ld : List ((String × Nat) × Int32) := nm_ld_0
theorem nm_ld_ok : ∀ q ∈ nm_ld, Cond.constant q.1.1 q.1.2 q.2 ∈ nm_Tg := nm_ld_ok_0
end
section
/-! methods, their code decoded, by wip/whole/gen.py -/
def nm_Ns : List Jvm.Cond := [(Cond.methodLinkNest "CobolParser" (9 : Nat) ({ cls := "CobolParser$Row", name := "<init>", desc := "()V" } : Jvm.MethodName) "CobolParser"), (Cond.methodLinkNest "CobolParser" (18 : Nat) ({ cls := "CobolParser$Tree", name := "<init>", desc := "()V" } : Jvm.MethodName) "CobolParser"), (Cond.methodLinkNest "CobolParser$Clauses" (11 : Nat) ({ cls := "CobolParser$Units", name := "<init>", desc := "()V" } : Jvm.MethodName) "CobolParser"), (Cond.methodLinkNest "CobolParser$Clauses" (228 : Nat) ({ cls := "CobolParser$Statements", name := "list", desc := "(II)I" } : Jvm.MethodName) "CobolParser"), (Cond.methodLinkNest "CobolParser$Statements" (153 : Nat) ({ cls := "CobolParser$Expressions", name := "condition", desc := "(I)I" } : Jvm.MethodName) "CobolParser"), (Cond.methodLinkNest "CobolParser$Statements" (138 : Nat) ({ cls := "CobolParser$Expressions", name := "sum", desc := "(I)I" } : Jvm.MethodName) "CobolParser"), Cond.castable "java/lang/IllegalArgumentException" "java/lang/IllegalArgumentException", Cond.castable "java/lang/IllegalStateException" "java/lang/IllegalStateException", (Cond.declares ({ cls := "java/lang/RuntimeException", name := "<init>", desc := "()V" } : Jvm.MethodName)), (Cond.declares ({ cls := "java/lang/RuntimeException", name := "<init>", desc := "(Ljava/lang/String;)V" } : Jvm.MethodName)), (Cond.declares ({ cls := "java/lang/Exception", name := "<init>", desc := "()V" } : Jvm.MethodName)), (Cond.declares ({ cls := "java/lang/Exception", name := "<init>", desc := "(Ljava/lang/String;)V" } : Jvm.MethodName)), (Cond.declares ({ cls := "java/lang/Throwable", name := "<init>", desc := "()V" } : Jvm.MethodName)), (Cond.declares ({ cls := "java/lang/Throwable", name := "<init>", desc := "(Ljava/lang/String;)V" } : Jvm.MethodName))]
theorem nm_ca10 : Cond.castable "java/lang/IllegalArgumentException" "java/lang/IllegalArgumentException" ∈ nm_Ns := List.mem_of_getElem? (i := 6) rfl
theorem nm_ca11 : Cond.castable "java/lang/IllegalStateException" "java/lang/IllegalStateException" ∈ nm_Ns := List.mem_of_getElem? (i := 7) rfl
/-- what is asked of a method, with the machine's table of handlers -/
def nm_okM (M : am_M) (hh : List (Nat × Nat × Nat × Nat)) : Prop := (∀ e ∈ am_cd M, decode (am_b M) e.1 = .ok (e.2.1, e.2.2)) ∧ plainName (am_y M).cls = true ∧ am_cw (am_y M) (am_b M) (am_n M) (am_r M) hh ∈ nm_Tg ∧ Cond.initialized (am_y M).cls ∈ nm_Tg ∧ ((am_y M).cls ≠ "java/lang/invoke/MethodHandle" ∧ (am_y M).cls ≠ "java/lang/invoke/VarHandle") ∧ am_n M ≤ 40 ∧ ((am_hs M = [] ∧ hh = []) ∨ ∃ (f t w x ck : Nat) (E : String) (T : u_T), am_hs M = [(f, t, w, x)] ∧ hh = [(f, t, w, ck)] ∧ ck ≠ 0 ∧ Cond.classLink (am_y M).cls ck E ∈ nm_Tg ∧ nm_cls[x]? = some (E, T, 0) ∧ Cond.castable E E ∈ nm_Ns)
theorem nm_pn0 : plainName "CobolParser" = true := by decide +kernel
theorem nm_ne0 : ("CobolParser" : String) ≠ "java/lang/invoke/MethodHandle" ∧ ("CobolParser" : String) ≠ "java/lang/invoke/VarHandle" := by decide +kernel
theorem nm_ii0 : Cond.initialized "CobolParser" ∈ nm_Tg := (nm_in1 (List.mem_of_getElem? (i := 1) rfl) rfl)
theorem nm_pn1 : plainName "CobolParser$Clauses" = true := by decide +kernel
theorem nm_ne1 : ("CobolParser$Clauses" : String) ≠ "java/lang/invoke/MethodHandle" ∧ ("CobolParser$Clauses" : String) ≠ "java/lang/invoke/VarHandle" := by decide +kernel
theorem nm_ii1 : Cond.initialized "CobolParser$Clauses" ∈ nm_Tg := (nm_in1 (List.mem_of_getElem? (i := 7) rfl) rfl)
theorem nm_pn2 : plainName "CobolParser$Expressions" = true := by decide +kernel
theorem nm_ne2 : ("CobolParser$Expressions" : String) ≠ "java/lang/invoke/MethodHandle" ∧ ("CobolParser$Expressions" : String) ≠ "java/lang/invoke/VarHandle" := by decide +kernel
theorem nm_ii2 : Cond.initialized "CobolParser$Expressions" ∈ nm_Tg := (nm_in1 (List.mem_of_getElem? (i := 6) rfl) rfl)
theorem nm_pn3 : plainName "CobolParser$Items" = true := by decide +kernel
theorem nm_ne3 : ("CobolParser$Items" : String) ≠ "java/lang/invoke/MethodHandle" ∧ ("CobolParser$Items" : String) ≠ "java/lang/invoke/VarHandle" := by decide +kernel
theorem nm_ii3 : Cond.initialized "CobolParser$Items" ∈ nm_Tg := (nm_in1 (List.mem_of_getElem? (i := 8) rfl) rfl)
theorem nm_pn4 : plainName "CobolParser$Leaves" = true := by decide +kernel
theorem nm_ne4 : ("CobolParser$Leaves" : String) ≠ "java/lang/invoke/MethodHandle" ∧ ("CobolParser$Leaves" : String) ≠ "java/lang/invoke/VarHandle" := by decide +kernel
theorem nm_ii4 : Cond.initialized "CobolParser$Leaves" ∈ nm_Tg := (nm_in1 (List.mem_of_getElem? (i := 4) rfl) rfl)
theorem nm_pn5 : plainName "CobolParser$Row" = true := by decide +kernel
theorem nm_ne5 : ("CobolParser$Row" : String) ≠ "java/lang/invoke/MethodHandle" ∧ ("CobolParser$Row" : String) ≠ "java/lang/invoke/VarHandle" := by decide +kernel
theorem nm_ii5 : Cond.initialized "CobolParser$Row" ∈ nm_Tg := (nm_in1 (List.mem_of_getElem? (i := 2) rfl) rfl)
theorem nm_pn6 : plainName "CobolParser$Statements" = true := by decide +kernel
theorem nm_ne6 : ("CobolParser$Statements" : String) ≠ "java/lang/invoke/MethodHandle" ∧ ("CobolParser$Statements" : String) ≠ "java/lang/invoke/VarHandle" := by decide +kernel
theorem nm_ii6 : Cond.initialized "CobolParser$Statements" ∈ nm_Tg := (nm_in1 (List.mem_of_getElem? (i := 5) rfl) rfl)
theorem nm_pn7 : plainName "CobolParser$Tree" = true := by decide +kernel
theorem nm_ne7 : ("CobolParser$Tree" : String) ≠ "java/lang/invoke/MethodHandle" ∧ ("CobolParser$Tree" : String) ≠ "java/lang/invoke/VarHandle" := by decide +kernel
theorem nm_ii7 : Cond.initialized "CobolParser$Tree" ∈ nm_Tg := (nm_in1 (List.mem_of_getElem? (i := 3) rfl) rfl)
theorem nm_pn8 : plainName "CobolParser$Units" = true := by decide +kernel
theorem nm_ne8 : ("CobolParser$Units" : String) ≠ "java/lang/invoke/MethodHandle" ∧ ("CobolParser$Units" : String) ≠ "java/lang/invoke/VarHandle" := by decide +kernel
theorem nm_ii8 : Cond.initialized "CobolParser$Units" ∈ nm_Tg := (nm_in1 (List.mem_of_getElem? (i := 9) rfl) rfl)
theorem nm_pn9 : plainName "CobolParserLaw" = true := by decide +kernel
theorem nm_ne9 : ("CobolParserLaw" : String) ≠ "java/lang/invoke/MethodHandle" ∧ ("CobolParserLaw" : String) ≠ "java/lang/invoke/VarHandle" := by decide +kernel
theorem nm_ii9 : Cond.initialized "CobolParserLaw" ∈ nm_Tg := (nm_in1 (List.mem_of_getElem? (i := 0) rfl) rfl)
theorem nm_pn10 : plainName "CobolParserModel" = true := by decide +kernel
theorem nm_ne10 : ("CobolParserModel" : String) ≠ "java/lang/invoke/MethodHandle" ∧ ("CobolParserModel" : String) ≠ "java/lang/invoke/VarHandle" := by decide +kernel
theorem nm_ii10 : Cond.initialized "CobolParserModel" ∈ nm_Tg := (nm_in1 (List.mem_of_getElem? (i := 10) rfl) rfl)
theorem nm_pn11 : plainName "java/util/Arrays" = true := by decide +kernel
theorem nm_ne11 : ("java/util/Arrays" : String) ≠ "java/lang/invoke/MethodHandle" ∧ ("java/util/Arrays" : String) ≠ "java/lang/invoke/VarHandle" := by decide +kernel
theorem nm_ii11 : Cond.initialized "java/util/Arrays" ∈ nm_Tg := (nm_in1 (List.mem_of_getElem? (i := 11) rfl) rfl)
def nm_m0 : am_M := (⟨"CobolParser", "<init>", "()V"⟩, prog_1_method_1_code, 3, none, [], 1, [(0, .aload_n 0, 1), (1, .invokespecial 1, 3), (4, .aload_n 0, 1), (5, .new 7, 3), (8, .dup, 1), (9, .invokespecial 9, 3), (12, .putfield 10, 3), (15, .aload_n 0, 1), (16, .new 16, 3), (19, .dup, 1), (20, .invokespecial 18, 3), (23, .putfield 19, 3), (26, .new 23, 3), (29, .dup, 1), (30, .aload_n 0, 1), (31, .getfield 10, 3), (34, .aload_n 0, 1), (35, .getfield 19, 3), (38, .invokespecial 25, 3), (41, .astore_n 1, 1), (42, .new 28, 3), (45, .dup, 1), (46, .aload_n 0, 1), (47, .getfield 10, 3), (50, .aload_n 0, 1), (51, .getfield 19, 3), (54, .aload_n 1, 1), (55, .new 30, 3), (58, .dup, 1), (59, .aload_n 0, 1), (60, .getfield 10, 3), (63, .aload_n 0, 1), (64, .getfield 19, 3), (67, .aload_n 1, 1), (68, .invokespecial 32, 3), (71, .invokespecial 35, 3), (74, .astore_n 2, 1), (75, .aload_n 0, 1), (76, .new 38, 3), (79, .dup, 1), (80, .aload_n 0, 1), (81, .getfield 10, 3), (84, .aload_n 0, 1), (85, .getfield 19, 3), (88, .aload_n 1, 1), (89, .aload_n 2, 1), (90, .new 40, 3), (93, .dup, 1), (94, .aload_n 0, 1), (95, .getfield 10, 3), (98, .aload_n 0, 1), (99, .getfield 19, 3), (102, .aload_n 1, 1), (103, .invokespecial 42, 3), (106, .invokespecial 43, 3), (109, .putfield 46, 3), (112, .return_, 1)])
set_option maxRecDepth 100000 in
theorem nm_d0 : ∀ e ∈ am_cd nm_m0, decode (am_b nm_m0) e.1 = .ok (e.2.1, e.2.2) := by decide +kernel
theorem nm_o0 : nm_okM nm_m0 [] := ⟨nm_d0, nm_pn0, (nm_in1 (List.mem_of_getElem? (i := 23) rfl) rfl), nm_ii0, nm_ne0, Nat.le_of_ble_eq_true rfl, Or.inl ⟨rfl, rfl⟩⟩
def nm_m1 : am_M := (⟨"CobolParser$Row", "<init>", "()V"⟩, prog_8_method_1_code, 1, none, [], 1, [(0, .aload_n 0, 1), (1, .invokespecial 3, 3), (4, .aload_n 0, 1), (5, .bipush 64, 2), (7, .newarray .int, 2), (9, .putfield 11, 3), (12, .aload_n 0, 1), (13, .bipush 64, 2), (15, .newarray .int, 2), (17, .putfield 15, 3), (20, .aload_n 0, 1), (21, .iconst 0, 1), (22, .putfield 18, 3), (25, .aload_n 0, 1), (26, .iconst 0, 1), (27, .putfield 22, 3), (30, .aload_n 0, 1), (31, .iconst 0, 1), (32, .putfield 25, 3), (35, .aload_n 0, 1), (36, .bipush 20, 2), (38, .newarray .int, 2), (40, .putfield 28, 3), (43, .aload_n 0, 1), (44, .bipush 20, 2), (46, .newarray .int, 2), (48, .putfield 31, 3), (51, .aload_n 0, 1), (52, .iconst 0, 1), (53, .putfield 34, 3), (56, .return_, 1)])
set_option maxRecDepth 100000 in
theorem nm_d1 : ∀ e ∈ am_cd nm_m1, decode (am_b nm_m1) e.1 = .ok (e.2.1, e.2.2) := by decide +kernel
theorem nm_o1 : nm_okM nm_m1 [] := ⟨nm_d1, nm_pn5, (nm_in1 (List.mem_of_getElem? (i := 31) rfl) rfl), nm_ii5, nm_ne5, Nat.le_of_ble_eq_true rfl, Or.inl ⟨rfl, rfl⟩⟩
def nm_m2 : am_M := (⟨"CobolParser$Tree", "<init>", "()V"⟩, prog_10_method_1_code, 1, none, [], 1, [(0, .aload_n 0, 1), (1, .invokespecial 3, 3), (4, .aload_n 0, 1), (5, .sipush 1152, 3), (8, .newarray .int, 2), (10, .putfield 11, 3), (13, .aload_n 0, 1), (14, .iconst 0, 1), (15, .putfield 15, 3), (18, .aload_n 0, 1), (19, .iconst 0, 1), (20, .putfield 19, 3), (23, .aload_n 0, 1), (24, .iconst 0, 1), (25, .putfield 22, 3), (28, .aload_n 0, 1), (29, .iconst 0, 1), (30, .putfield 25, 3), (33, .return_, 1)])
set_option maxRecDepth 100000 in
theorem nm_d2 : ∀ e ∈ am_cd nm_m2, decode (am_b nm_m2) e.1 = .ok (e.2.1, e.2.2) := by decide +kernel
theorem nm_o2 : nm_okM nm_m2 [] := ⟨nm_d2, nm_pn7, (nm_in1 (List.mem_of_getElem? (i := 63) rfl) rfl), nm_ii7, nm_ne7, Nat.le_of_ble_eq_true rfl, Or.inl ⟨rfl, rfl⟩⟩
def nm_m3 : am_M := (⟨"CobolParser$Leaves", "<init>", "(LCobolParser$Row;LCobolParser$Tree;)V"⟩, prog_5_method_1_code, 3, none, [], 3, [(0, .aload_n 0, 1), (1, .invokespecial 3, 3), (4, .aload_n 0, 1), (5, .aload_n 1, 1), (6, .putfield 9, 3), (9, .aload_n 0, 1), (10, .aload_n 2, 1), (11, .putfield 15, 3), (14, .return_, 1)])
set_option maxRecDepth 100000 in
theorem nm_d3 : ∀ e ∈ am_cd nm_m3, decode (am_b nm_m3) e.1 = .ok (e.2.1, e.2.2) := by decide +kernel
theorem nm_o3 : nm_okM nm_m3 [] := ⟨nm_d3, nm_pn4, (nm_in1 (List.mem_of_getElem? (i := 85) rfl) rfl), nm_ii4, nm_ne4, Nat.le_of_ble_eq_true rfl, Or.inl ⟨rfl, rfl⟩⟩
def nm_m4 : am_M := (⟨"CobolParser$Expressions", "<init>", "(LCobolParser$Row;LCobolParser$Tree;LCobolParser$Leaves;)V"⟩, prog_3_method_1_code, 4, none, [], 4, [(0, .aload_n 0, 1), (1, .invokespecial 3, 3), (4, .aload_n 0, 1), (5, .iconst (-1), 1), (6, .putfield 9, 3), (9, .aload_n 0, 1), (10, .iconst 0, 1), (11, .putfield 15, 3), (14, .aload_n 0, 1), (15, .aload_n 1, 1), (16, .putfield 18, 3), (19, .aload_n 0, 1), (20, .aload_n 2, 1), (21, .putfield 22, 3), (24, .aload_n 0, 1), (25, .aload_n 3, 1), (26, .putfield 26, 3), (29, .return_, 1)])
set_option maxRecDepth 100000 in
theorem nm_d4 : ∀ e ∈ am_cd nm_m4, decode (am_b nm_m4) e.1 = .ok (e.2.1, e.2.2) := by decide +kernel
theorem nm_o4 : nm_okM nm_m4 [] := ⟨nm_d4, nm_pn2, (nm_in1 (List.mem_of_getElem? (i := 100) rfl) rfl), nm_ii2, nm_ne2, Nat.le_of_ble_eq_true rfl, Or.inl ⟨rfl, rfl⟩⟩
def nm_m5 : am_M := (⟨"CobolParser$Statements", "<init>", "(LCobolParser$Row;LCobolParser$Tree;LCobolParser$Leaves;LCobolParser$Expressions;)V"⟩, prog_9_method_1_code, 5, none, [], 5, [(0, .aload_n 0, 1), (1, .invokespecial 3, 3), (4, .aload_n 0, 1), (5, .aload_n 1, 1), (6, .putfield 9, 3), (9, .aload_n 0, 1), (10, .aload_n 2, 1), (11, .putfield 15, 3), (14, .aload_n 0, 1), (15, .aload_n 3, 1), (16, .putfield 19, 3), (19, .aload_n 0, 1), (20, .aload 4, 2), (22, .putfield 23, 3), (25, .return_, 1)])
set_option maxRecDepth 100000 in
theorem nm_d5 : ∀ e ∈ am_cd nm_m5, decode (am_b nm_m5) e.1 = .ok (e.2.1, e.2.2) := by decide +kernel
theorem nm_o5 : nm_okM nm_m5 [] := ⟨nm_d5, nm_pn6, (nm_in1 (List.mem_of_getElem? (i := 120) rfl) rfl), nm_ii6, nm_ne6, Nat.le_of_ble_eq_true rfl, Or.inl ⟨rfl, rfl⟩⟩
def nm_m6 : am_M := (⟨"CobolParser$Items", "<init>", "(LCobolParser$Row;LCobolParser$Tree;LCobolParser$Leaves;)V"⟩, prog_4_method_1_code, 4, none, [], 4, [(0, .aload_n 0, 1), (1, .invokespecial 3, 3), (4, .aload_n 0, 1), (5, .bipush 49, 2), (7, .newarray .int, 2), (9, .putfield 11, 3), (12, .aload_n 0, 1), (13, .bipush 49, 2), (15, .newarray .int, 2), (17, .putfield 15, 3), (20, .aload_n 0, 1), (21, .iconst 0, 1), (22, .putfield 18, 3), (25, .aload_n 0, 1), (26, .iconst (-1), 1), (27, .putfield 22, 3), (30, .aload_n 0, 1), (31, .aload_n 1, 1), (32, .putfield 25, 3), (35, .aload_n 0, 1), (36, .aload_n 2, 1), (37, .putfield 29, 3), (40, .aload_n 0, 1), (41, .aload_n 3, 1), (42, .putfield 33, 3), (45, .return_, 1)])
set_option maxRecDepth 100000 in
theorem nm_d6 : ∀ e ∈ am_cd nm_m6, decode (am_b nm_m6) e.1 = .ok (e.2.1, e.2.2) := by decide +kernel
theorem nm_o6 : nm_okM nm_m6 [] := ⟨nm_d6, nm_pn3, (nm_in1 (List.mem_of_getElem? (i := 141) rfl) rfl), nm_ii3, nm_ne3, Nat.le_of_ble_eq_true rfl, Or.inl ⟨rfl, rfl⟩⟩
def nm_m7 : am_M := (⟨"CobolParser$Clauses", "<init>", "(LCobolParser$Row;LCobolParser$Tree;LCobolParser$Leaves;LCobolParser$Statements;LCobolParser$Items;)V"⟩, prog_2_method_1_code, 6, none, [], 6, [(0, .aload_n 0, 1), (1, .invokespecial 3, 3), (4, .aload_n 0, 1), (5, .new 9, 3), (8, .dup, 1), (9, .invokespecial 11, 3), (12, .putfield 12, 3), (15, .aload_n 0, 1), (16, .iconst (-1), 1), (17, .putfield 18, 3), (20, .aload_n 0, 1), (21, .iconst (-1), 1), (22, .putfield 22, 3), (25, .aload_n 0, 1), (26, .iconst (-1), 1), (27, .putfield 25, 3), (30, .aload_n 0, 1), (31, .iconst (-1), 1), (32, .putfield 28, 3), (35, .aload_n 0, 1), (36, .aload_n 1, 1), (37, .putfield 31, 3), (40, .aload_n 0, 1), (41, .aload_n 2, 1), (42, .putfield 35, 3), (45, .aload_n 0, 1), (46, .aload_n 3, 1), (47, .putfield 39, 3), (50, .aload_n 0, 1), (51, .aload 4, 2), (53, .putfield 43, 3), (56, .aload_n 0, 1), (57, .aload 5, 2), (59, .putfield 47, 3), (62, .return_, 1)])
set_option maxRecDepth 100000 in
theorem nm_d7 : ∀ e ∈ am_cd nm_m7, decode (am_b nm_m7) e.1 = .ok (e.2.1, e.2.2) := by decide +kernel
theorem nm_o7 : nm_okM nm_m7 [] := ⟨nm_d7, nm_pn1, (nm_in1 (List.mem_of_getElem? (i := 167) rfl) rfl), nm_ii1, nm_ne1, Nat.le_of_ble_eq_true rfl, Or.inl ⟨rfl, rfl⟩⟩
def nm_m8 : am_M := (⟨"CobolParser$Units", "<init>", "()V"⟩, prog_11_method_1_code, 1, none, [], 1, [(0, .aload_n 0, 1), (1, .invokespecial 3, 3), (4, .aload_n 0, 1), (5, .bipush 10, 2), (7, .newarray .int, 2), (9, .putfield 9, 3), (12, .aload_n 0, 1), (13, .bipush 10, 2), (15, .newarray .int, 2), (17, .putfield 15, 3), (20, .aload_n 0, 1), (21, .bipush 10, 2), (23, .newarray .int, 2), (25, .putfield 18, 3), (28, .aload_n 0, 1), (29, .bipush 10, 2), (31, .newarray .int, 2), (33, .putfield 21, 3), (36, .aload_n 0, 1), (37, .iconst 0, 1), (38, .putfield 24, 3), (41, .return_, 1)])
set_option maxRecDepth 100000 in
theorem nm_d8 : ∀ e ∈ am_cd nm_m8, decode (am_b nm_m8) e.1 = .ok (e.2.1, e.2.2) := by decide +kernel
theorem nm_o8 : nm_okM nm_m8 [] := ⟨nm_d8, nm_pn8, (nm_in1 (List.mem_of_getElem? (i := 173) rfl) rfl), nm_ii8, nm_ne8, Nat.le_of_ble_eq_true rfl, Or.inl ⟨rfl, rfl⟩⟩
def nm_m9 : am_M := (⟨"CobolParser", "word", "(II)I"⟩, prog_1_method_2_code, 3, (some .int), [], 3, [(0, .iload_n 1, 1), (1, .iload_n 2, 1), (2, .invokestatic 50, 3), (5, .ifCond .ne 6, 3), (8, .bipush (-4), 2), (10, .ireturn, 1), (11, .aload_n 0, 1), (12, .getfield 10, 3), (15, .invokevirtual 54, 3), (18, .ifCond .eq 7, 3), (21, .iconst (-1), 1), (22, .goto 12, 3), (25, .aload_n 0, 1), (26, .getfield 10, 3), (29, .iload_n 1, 1), (30, .iload_n 2, 1), (31, .invokevirtual 58, 3), (34, .ireturn, 1)])
set_option maxRecDepth 100000 in
theorem nm_d9 : ∀ e ∈ am_cd nm_m9, decode (am_b nm_m9) e.1 = .ok (e.2.1, e.2.2) := by decide +kernel
theorem nm_o9 : nm_okM nm_m9 [] := ⟨nm_d9, nm_pn0, (nm_in1 (List.mem_of_getElem? (i := 235) rfl) rfl), nm_ii0, nm_ne0, Nat.le_of_ble_eq_true rfl, Or.inl ⟨rfl, rfl⟩⟩
def nm_m10 : am_M := (⟨"CobolParser", "isWord", "(II)Z"⟩, prog_1_method_11_code, 2, (some .boolean), [], 2, [(0, .iload_n 0, 1), (1, .tableswitch 105 0 5 #[39, 55, 71, 55, 87, 89], 39), (40, .iload_n 1, 1), (41, .ifCond .lt 13, 3), (44, .iload_n 1, 1), (45, .bipush 78, 2), (47, .if_icmp .gt 7, 3), (50, .iconst 1, 1), (51, .goto 4, 3), (54, .iconst 0, 1), (55, .ireturn, 1), (56, .iload_n 1, 1), (57, .ifCond .lt 13, 3), (60, .iload_n 1, 1), (61, .bipush 99, 2), (63, .if_icmp .gt 7, 3), (66, .iconst 1, 1), (67, .goto 4, 3), (70, .iconst 0, 1), (71, .ireturn, 1), (72, .iload_n 1, 1), (73, .ifCond .lt 13, 3), (76, .iload_n 1, 1), (77, .ldc 138, 2), (79, .if_icmp .gt 7, 3), (82, .iconst 1, 1), (83, .goto 4, 3), (86, .iconst 0, 1), (87, .ireturn, 1), (88, .iconst 1, 1), (89, .ireturn, 1), (90, .iload_n 1, 1), (91, .ifCond .lt 13, 3), (94, .iload_n 1, 1), (95, .bipush 8, 2), (97, .if_icmp .gt 7, 3), (100, .iconst 1, 1), (101, .goto 4, 3), (104, .iconst 0, 1), (105, .ireturn, 1), (106, .iconst 0, 1), (107, .ireturn, 1)])
set_option maxRecDepth 100000 in
theorem nm_d10 : ∀ e ∈ am_cd nm_m10, decode (am_b nm_m10) e.1 = .ok (e.2.1, e.2.2) := by decide +kernel
theorem nm_o10 : nm_okM nm_m10 [] := ⟨nm_d10, nm_pn0, (nm_in1 (List.mem_of_getElem? (i := 238) rfl) rfl), nm_ii0, nm_ne0, Nat.le_of_ble_eq_true rfl, Or.inl ⟨rfl, rfl⟩⟩
def nm_m11 : am_M := (⟨"CobolParser$Row", "isFull", "()Z"⟩, prog_8_method_2_code, 1, (some .boolean), [], 1, [(0, .aload_n 0, 1), (1, .getfield 18, 3), (4, .sipush 1500, 3), (7, .if_icmp .lt 7, 3), (10, .iconst 1, 1), (11, .goto 4, 3), (14, .iconst 0, 1), (15, .ireturn, 1)])
set_option maxRecDepth 100000 in
theorem nm_d11 : ∀ e ∈ am_cd nm_m11, decode (am_b nm_m11) e.1 = .ok (e.2.1, e.2.2) := by decide +kernel
theorem nm_o11 : nm_okM nm_m11 [] := ⟨nm_d11, nm_pn5, (nm_in2 (List.mem_of_getElem? (i := 3) rfl) rfl), nm_ii5, nm_ne5, Nat.le_of_ble_eq_true rfl, Or.inl ⟨rfl, rfl⟩⟩
def nm_m12 : am_M := (⟨"CobolParser$Row", "add", "(II)I"⟩, prog_8_method_3_code, 3, (some .int), [], 3, [(0, .aload_n 0, 1), (1, .getfield 18, 3), (4, .aload_n 0, 1), (5, .getfield 11, 3), (8, .arraylength, 1), (9, .if_icmp .lt 37, 3), (12, .aload_n 0, 1), (13, .aload_n 0, 1), (14, .getfield 11, 3), (17, .iconst 2, 1), (18, .aload_n 0, 1), (19, .getfield 18, 3), (22, .imul, 1), (23, .invokestatic 37, 3), (26, .putfield 11, 3), (29, .aload_n 0, 1), (30, .aload_n 0, 1), (31, .getfield 15, 3), (34, .iconst 2, 1), (35, .aload_n 0, 1), (36, .getfield 18, 3), (39, .imul, 1), (40, .invokestatic 37, 3), (43, .putfield 15, 3), (46, .aload_n 0, 1), (47, .getfield 11, 3), (50, .aload_n 0, 1), (51, .getfield 18, 3), (54, .iload_n 1, 1), (55, .iastore, 1), (56, .aload_n 0, 1), (57, .getfield 15, 3), (60, .aload_n 0, 1), (61, .getfield 18, 3), (64, .iload_n 2, 1), (65, .iastore, 1), (66, .aload_n 0, 1), (67, .dup, 1), (68, .getfield 18, 3), (71, .iconst 1, 1), (72, .iadd, 1), (73, .putfield 18, 3), (76, .aload_n 0, 1), (77, .getfield 18, 3), (80, .ireturn, 1)])
set_option maxRecDepth 100000 in
theorem nm_d12 : ∀ e ∈ am_cd nm_m12, decode (am_b nm_m12) e.1 = .ok (e.2.1, e.2.2) := by decide +kernel
theorem nm_o12 : nm_okM nm_m12 [] := ⟨nm_d12, nm_pn5, (nm_in2 (List.mem_of_getElem? (i := 7) rfl) rfl), nm_ii5, nm_ne5, Nat.le_of_ble_eq_true rfl, Or.inl ⟨rfl, rfl⟩⟩
def nm_m13 : am_M := (⟨"java/util/Arrays", "copyOf", "([II)[I"⟩, prog_23_method_123_code, 3, (some (.array .int)), [], 2, [(0, .iload_n 1, 1), (1, .aload_n 0, 1), (2, .arraylength, 1), (3, .if_icmp .ne 11, 3), (6, .aload_n 0, 1), (7, .invokevirtual 316, 3), (10, .checkcast 317, 3), (13, .areturn, 1), (14, .iload_n 1, 1), (15, .newarray .int, 2), (17, .astore_n 2, 1), (18, .aload_n 0, 1), (19, .iconst 0, 1), (20, .aload_n 2, 1), (21, .iconst 0, 1), (22, .aload_n 0, 1), (23, .arraylength, 1), (24, .iload_n 1, 1), (25, .invokestatic 304, 3), (28, .invokestatic 150, 3), (31, .aload_n 2, 1), (32, .areturn, 1)])
set_option maxRecDepth 100000 in
theorem nm_d13 : ∀ e ∈ am_cd nm_m13, decode (am_b nm_m13) e.1 = .ok (e.2.1, e.2.2) := by decide +kernel
theorem nm_o13 : nm_okM nm_m13 [] := ⟨nm_d13, nm_pn11, (nm_in2 (List.mem_of_getElem? (i := 10) rfl) rfl), nm_ii11, nm_ne11, Nat.le_of_ble_eq_true rfl, Or.inl ⟨rfl, rfl⟩⟩
def nm_m14 : am_M := (⟨"CobolParser", "node", "(II)I"⟩, prog_1_method_4_code, 3, (some .int), [], 3, [(0, .iload_n 2, 1), (1, .tableswitch 93 0 5 #[39, 48, 57, 66, 75, 84], 39), (40, .aload_n 0, 1), (41, .getfield 19, 3), (44, .iload_n 1, 1), (45, .invokevirtual 85, 3), (48, .ireturn, 1), (49, .aload_n 0, 1), (50, .getfield 19, 3), (53, .iload_n 1, 1), (54, .invokevirtual 89, 3), (57, .ireturn, 1), (58, .aload_n 0, 1), (59, .getfield 19, 3), (62, .iload_n 1, 1), (63, .invokevirtual 92, 3), (66, .ireturn, 1), (67, .aload_n 0, 1), (68, .getfield 19, 3), (71, .iload_n 1, 1), (72, .invokevirtual 95, 3), (75, .ireturn, 1), (76, .aload_n 0, 1), (77, .getfield 19, 3), (80, .iload_n 1, 1), (81, .invokevirtual 98, 3), (84, .ireturn, 1), (85, .aload_n 0, 1), (86, .getfield 19, 3), (89, .iload_n 1, 1), (90, .invokevirtual 101, 3), (93, .ireturn, 1), (94, .iconst (-1), 1), (95, .ireturn, 1)])
set_option maxRecDepth 100000 in
theorem nm_d14 : ∀ e ∈ am_cd nm_m14, decode (am_b nm_m14) e.1 = .ok (e.2.1, e.2.2) := by decide +kernel
theorem nm_o14 : nm_okM nm_m14 [] := ⟨nm_d14, nm_pn0, (nm_in2 (List.mem_of_getElem? (i := 27) rfl) rfl), nm_ii0, nm_ne0, Nat.le_of_ble_eq_true rfl, Or.inl ⟨rfl, rfl⟩⟩
def nm_m15 : am_M := (⟨"CobolParser$Tree", "kindOf", "(I)I"⟩, prog_10_method_11_code, 2, (some .int), [], 2, [(0, .aload_n 0, 1), (1, .aload_n 0, 1), (2, .iload_n 1, 1), (3, .invokevirtual 59, 3), (6, .iconst 0, 1), (7, .invokevirtual 38, 3), (10, .ireturn, 1)])
set_option maxRecDepth 100000 in
theorem nm_d15 : ∀ e ∈ am_cd nm_m15, decode (am_b nm_m15) e.1 = .ok (e.2.1, e.2.2) := by decide +kernel
theorem nm_o15 : nm_okM nm_m15 [] := ⟨nm_d15, nm_pn7, (nm_in2 (List.mem_of_getElem? (i := 31) rfl) rfl), nm_ii7, nm_ne7, Nat.le_of_ble_eq_true rfl, Or.inl ⟨rfl, rfl⟩⟩
def nm_m16 : am_M := (⟨"CobolParser$Tree", "handleOf", "(I)I"⟩, prog_10_method_21_code, 2, (some .int), [], 2, [(0, .iload_n 1, 1), (1, .ifCond .lt 21, 3), (4, .iload_n 1, 1), (5, .aload_n 0, 1), (6, .getfield 19, 3), (9, .if_icmp .ge 13, 3), (12, .aload_n 0, 1), (13, .iload_n 1, 1), (14, .bipush 11, 2), (16, .invokevirtual 38, 3), (19, .goto 4, 3), (22, .iconst (-1), 1), (23, .ireturn, 1)])
set_option maxRecDepth 100000 in
theorem nm_d16 : ∀ e ∈ am_cd nm_m16, decode (am_b nm_m16) e.1 = .ok (e.2.1, e.2.2) := by decide +kernel
theorem nm_o16 : nm_okM nm_m16 [] := ⟨nm_d16, nm_pn7, (nm_in2 (List.mem_of_getElem? (i := 35) rfl) rfl), nm_ii7, nm_ne7, Nat.le_of_ble_eq_true rfl, Or.inl ⟨rfl, rfl⟩⟩
def nm_m17 : am_M := (⟨"CobolParser$Tree", "get", "(II)I"⟩, prog_10_method_5_code, 3, (some .int), [], 3, [(0, .iload_n 1, 1), (1, .ifCond .lt 35, 3), (4, .iload_n 1, 1), (5, .aload_n 0, 1), (6, .getfield 15, 3), (9, .if_icmp .ge 27, 3), (12, .iload_n 2, 1), (13, .ifCond .lt 23, 3), (16, .iload_n 2, 1), (17, .bipush 12, 2), (19, .if_icmp .ge 17, 3), (22, .aload_n 0, 1), (23, .getfield 11, 3), (26, .iload_n 1, 1), (27, .bipush 12, 2), (29, .imul, 1), (30, .iload_n 2, 1), (31, .iadd, 1), (32, .iaload, 1), (33, .goto 4, 3), (36, .iconst (-1), 1), (37, .ireturn, 1)])
set_option maxRecDepth 100000 in
theorem nm_d17 : ∀ e ∈ am_cd nm_m17, decode (am_b nm_m17) e.1 = .ok (e.2.1, e.2.2) := by decide +kernel
theorem nm_o17 : nm_okM nm_m17 [] := ⟨nm_d17, nm_pn7, (nm_in2 (List.mem_of_getElem? (i := 39) rfl) rfl), nm_ii7, nm_ne7, Nat.le_of_ble_eq_true rfl, Or.inl ⟨rfl, rfl⟩⟩
def nm_m18 : am_M := (⟨"CobolParser$Tree", "valueOf", "(I)I"⟩, prog_10_method_12_code, 2, (some .int), [], 2, [(0, .aload_n 0, 1), (1, .aload_n 0, 1), (2, .iload_n 1, 1), (3, .invokevirtual 59, 3), (6, .iconst 1, 1), (7, .invokevirtual 38, 3), (10, .ireturn, 1)])
set_option maxRecDepth 100000 in
theorem nm_d18 : ∀ e ∈ am_cd nm_m18, decode (am_b nm_m18) e.1 = .ok (e.2.1, e.2.2) := by decide +kernel
theorem nm_o18 : nm_okM nm_m18 [] := ⟨nm_d18, nm_pn7, (nm_in2 (List.mem_of_getElem? (i := 43) rfl) rfl), nm_ii7, nm_ne7, Nat.le_of_ble_eq_true rfl, Or.inl ⟨rfl, rfl⟩⟩
def nm_m19 : am_M := (⟨"CobolParser$Tree", "placeOf", "(I)I"⟩, prog_10_method_13_code, 2, (some .int), [], 2, [(0, .aload_n 0, 1), (1, .aload_n 0, 1), (2, .iload_n 1, 1), (3, .invokevirtual 59, 3), (6, .iconst 2, 1), (7, .invokevirtual 38, 3), (10, .ireturn, 1)])
set_option maxRecDepth 100000 in
theorem nm_d19 : ∀ e ∈ am_cd nm_m19, decode (am_b nm_m19) e.1 = .ok (e.2.1, e.2.2) := by decide +kernel
theorem nm_o19 : nm_okM nm_m19 [] := ⟨nm_d19, nm_pn7, (nm_in2 (List.mem_of_getElem? (i := 47) rfl) rfl), nm_ii7, nm_ne7, Nat.le_of_ble_eq_true rfl, Or.inl ⟨rfl, rfl⟩⟩
def nm_m20 : am_M := (⟨"CobolParser$Tree", "childrenOf", "(I)I"⟩, prog_10_method_14_code, 2, (some .int), [], 2, [(0, .aload_n 0, 1), (1, .aload_n 0, 1), (2, .iload_n 1, 1), (3, .invokevirtual 59, 3), (6, .bipush 8, 2), (8, .invokevirtual 38, 3), (11, .ireturn, 1)])
set_option maxRecDepth 100000 in
theorem nm_d20 : ∀ e ∈ am_cd nm_m20, decode (am_b nm_m20) e.1 = .ok (e.2.1, e.2.2) := by decide +kernel
theorem nm_o20 : nm_okM nm_m20 [] := ⟨nm_d20, nm_pn7, (nm_in2 (List.mem_of_getElem? (i := 51) rfl) rfl), nm_ii7, nm_ne7, Nat.le_of_ble_eq_true rfl, Or.inl ⟨rfl, rfl⟩⟩
def nm_m21 : am_M := (⟨"CobolParser$Tree", "parentOf", "(I)I"⟩, prog_10_method_15_code, 2, (some .int), [], 2, [(0, .aload_n 0, 1), (1, .aload_n 0, 1), (2, .aload_n 0, 1), (3, .iload_n 1, 1), (4, .invokevirtual 59, 3), (7, .iconst 4, 1), (8, .invokevirtual 38, 3), (11, .invokevirtual 62, 3), (14, .ireturn, 1)])
set_option maxRecDepth 100000 in
theorem nm_d21 : ∀ e ∈ am_cd nm_m21, decode (am_b nm_m21) e.1 = .ok (e.2.1, e.2.2) := by decide +kernel
theorem nm_o21 : nm_okM nm_m21 [] := ⟨nm_d21, nm_pn7, (nm_in2 (List.mem_of_getElem? (i := 55) rfl) rfl), nm_ii7, nm_ne7, Nat.le_of_ble_eq_true rfl, Or.inl ⟨rfl, rfl⟩⟩
def nm_m22 : am_M := (⟨"CobolParser$Tree", "numberOf", "(I)I"⟩, prog_10_method_22_code, 2, (some .int), [], 2, [(0, .aload_n 0, 1), (1, .iload_n 1, 1), (2, .bipush 10, 2), (4, .invokevirtual 38, 3), (7, .ireturn, 1)])
set_option maxRecDepth 100000 in
theorem nm_d22 : ∀ e ∈ am_cd nm_m22, decode (am_b nm_m22) e.1 = .ok (e.2.1, e.2.2) := by decide +kernel
theorem nm_o22 : nm_okM nm_m22 [] := ⟨nm_d22, nm_pn7, (nm_in2 (List.mem_of_getElem? (i := 59) rfl) rfl), nm_ii7, nm_ne7, Nat.le_of_ble_eq_true rfl, Or.inl ⟨rfl, rfl⟩⟩
def nm_m23 : am_M := (⟨"CobolParser$Tree", "extraOf", "(I)I"⟩, prog_10_method_16_code, 3, (some .int), [], 2, [(0, .aload_n 0, 1), (1, .aload_n 0, 1), (2, .iload_n 1, 1), (3, .invokevirtual 59, 3), (6, .iconst 3, 1), (7, .invokevirtual 38, 3), (10, .istore_n 2, 1), (11, .aload_n 0, 1), (12, .iload_n 1, 1), (13, .invokevirtual 65, 3), (16, .bipush 53, 2), (18, .if_icmp .ne 11, 3), (21, .aload_n 0, 1), (22, .iload_n 2, 1), (23, .invokevirtual 62, 3), (26, .goto 4, 3), (29, .iload_n 2, 1), (30, .ireturn, 1)])
set_option maxRecDepth 100000 in
theorem nm_d23 : ∀ e ∈ am_cd nm_m23, decode (am_b nm_m23) e.1 = .ok (e.2.1, e.2.2) := by decide +kernel
theorem nm_o23 : nm_okM nm_m23 [] := ⟨nm_d23, nm_pn7, (nm_in2 (List.mem_of_getElem? (i := 63) rfl) rfl), nm_ii7, nm_ne7, Nat.le_of_ble_eq_true rfl, Or.inl ⟨rfl, rfl⟩⟩
def nm_m24 : am_M := (⟨"CobolParser", "child", "(II)I"⟩, prog_1_method_5_code, 3, (some .int), [], 3, [(0, .aload_n 0, 1), (1, .getfield 19, 3), (4, .iload_n 1, 1), (5, .iload_n 2, 1), (6, .invokevirtual 104, 3), (9, .ireturn, 1)])
set_option maxRecDepth 100000 in
theorem nm_d24 : ∀ e ∈ am_cd nm_m24, decode (am_b nm_m24) e.1 = .ok (e.2.1, e.2.2) := by decide +kernel
theorem nm_o24 : nm_okM nm_m24 [] := ⟨nm_d24, nm_pn0, (nm_in2 (List.mem_of_getElem? (i := 68) rfl) rfl), nm_ii0, nm_ne0, Nat.le_of_ble_eq_true rfl, Or.inl ⟨rfl, rfl⟩⟩
def nm_m25 : am_M := (⟨"CobolParser$Tree", "childOf", "(II)I"⟩, prog_10_method_17_code, 6, (some .int), [], 3, [(0, .aload_n 0, 1), (1, .iload_n 1, 1), (2, .invokevirtual 59, 3), (5, .istore_n 3, 1), (6, .iload_n 2, 1), (7, .ifCond .lt 14, 3), (10, .iload_n 2, 1), (11, .aload_n 0, 1), (12, .iload_n 3, 1), (13, .bipush 8, 2), (15, .invokevirtual 38, 3), (18, .if_icmp .lt 5, 3), (21, .iconst (-1), 1), (22, .ireturn, 1), (23, .aload_n 0, 1), (24, .iload_n 3, 1), (25, .iconst 5, 1), (26, .invokevirtual 38, 3), (29, .istore 4, 2), (31, .iconst 0, 1), (32, .istore 5, 2), (34, .iload 5, 2), (36, .iload_n 2, 1), (37, .if_icmp .ge 19, 3), (40, .aload_n 0, 1), (41, .iload 4, 2), (43, .bipush 7, 2), (45, .invokevirtual 38, 3), (48, .istore 4, 2), (50, .iinc 5 1, 3), (53, .goto (-19), 3), (56, .aload_n 0, 1), (57, .iload 4, 2), (59, .invokevirtual 62, 3), (62, .ireturn, 1)])
set_option maxRecDepth 100000 in
theorem nm_d25 : ∀ e ∈ am_cd nm_m25, decode (am_b nm_m25) e.1 = .ok (e.2.1, e.2.2) := by decide +kernel
theorem nm_o25 : nm_okM nm_m25 [] := ⟨nm_d25, nm_pn7, (nm_in2 (List.mem_of_getElem? (i := 72) rfl) rfl), nm_ii7, nm_ne7, Nat.le_of_ble_eq_true rfl, Or.inl ⟨rfl, rfl⟩⟩
def nm_m26 : am_M := (⟨"CobolParser", "faults", "()I"⟩, prog_1_method_6_code, 1, (some .int), [], 1, [(0, .aload_n 0, 1), (1, .getfield 10, 3), (4, .invokevirtual 107, 3), (7, .ireturn, 1)])
set_option maxRecDepth 100000 in
theorem nm_d26 : ∀ e ∈ am_cd nm_m26, decode (am_b nm_m26) e.1 = .ok (e.2.1, e.2.2) := by decide +kernel
theorem nm_o26 : nm_okM nm_m26 [] := ⟨nm_d26, nm_pn0, (nm_in2 (List.mem_of_getElem? (i := 76) rfl) rfl), nm_ii0, nm_ne0, Nat.le_of_ble_eq_true rfl, Or.inl ⟨rfl, rfl⟩⟩
def nm_m27 : am_M := (⟨"CobolParser$Row", "faultCount", "()I"⟩, prog_8_method_24_code, 1, (some .int), [], 1, [(0, .aload_n 0, 1), (1, .getfield 34, 3), (4, .ireturn, 1)])
set_option maxRecDepth 100000 in
theorem nm_d27 : ∀ e ∈ am_cd nm_m27, decode (am_b nm_m27) e.1 = .ok (e.2.1, e.2.2) := by decide +kernel
theorem nm_o27 : nm_okM nm_m27 [] := ⟨nm_d27, nm_pn5, (nm_in2 (List.mem_of_getElem? (i := 80) rfl) rfl), nm_ii5, nm_ne5, Nat.le_of_ble_eq_true rfl, Or.inl ⟨rfl, rfl⟩⟩
def nm_m28 : am_M := (⟨"CobolParser", "fault", "(II)I"⟩, prog_1_method_7_code, 3, (some .int), [], 3, [(0, .iload_n 2, 1), (1, .lookupswitch 45 #[(0, 27), (1, 36)], 27), (28, .aload_n 0, 1), (29, .getfield 10, 3), (32, .iload_n 1, 1), (33, .invokevirtual 110, 3), (36, .ireturn, 1), (37, .aload_n 0, 1), (38, .getfield 10, 3), (41, .iload_n 1, 1), (42, .invokevirtual 113, 3), (45, .ireturn, 1), (46, .iconst (-1), 1), (47, .ireturn, 1)])
set_option maxRecDepth 100000 in
theorem nm_d28 : ∀ e ∈ am_cd nm_m28, decode (am_b nm_m28) e.1 = .ok (e.2.1, e.2.2) := by decide +kernel
theorem nm_o28 : nm_okM nm_m28 [] := ⟨nm_d28, nm_pn0, (nm_in2 (List.mem_of_getElem? (i := 84) rfl) rfl), nm_ii0, nm_ne0, Nat.le_of_ble_eq_true rfl, Or.inl ⟨rfl, rfl⟩⟩
def nm_m29 : am_M := (⟨"CobolParser$Row", "faultNumber", "(I)I"⟩, prog_8_method_25_code, 2, (some .int), [], 2, [(0, .iload_n 1, 1), (1, .ifCond .lt 20, 3), (4, .iload_n 1, 1), (5, .aload_n 0, 1), (6, .getfield 34, 3), (9, .if_icmp .ge 12, 3), (12, .aload_n 0, 1), (13, .getfield 28, 3), (16, .iload_n 1, 1), (17, .iaload, 1), (18, .goto 4, 3), (21, .iconst (-1), 1), (22, .ireturn, 1)])
set_option maxRecDepth 100000 in
theorem nm_d29 : ∀ e ∈ am_cd nm_m29, decode (am_b nm_m29) e.1 = .ok (e.2.1, e.2.2) := by decide +kernel
theorem nm_o29 : nm_okM nm_m29 [] := ⟨nm_d29, nm_pn5, (nm_in2 (List.mem_of_getElem? (i := 88) rfl) rfl), nm_ii5, nm_ne5, Nat.le_of_ble_eq_true rfl, Or.inl ⟨rfl, rfl⟩⟩
def nm_m30 : am_M := (⟨"CobolParser$Row", "faultPlace", "(I)I"⟩, prog_8_method_26_code, 2, (some .int), [], 2, [(0, .iload_n 1, 1), (1, .ifCond .lt 20, 3), (4, .iload_n 1, 1), (5, .aload_n 0, 1), (6, .getfield 34, 3), (9, .if_icmp .ge 12, 3), (12, .aload_n 0, 1), (13, .getfield 31, 3), (16, .iload_n 1, 1), (17, .iaload, 1), (18, .goto 4, 3), (21, .iconst (-1), 1), (22, .ireturn, 1)])
set_option maxRecDepth 100000 in
theorem nm_d30 : ∀ e ∈ am_cd nm_m30, decode (am_b nm_m30) e.1 = .ok (e.2.1, e.2.2) := by decide +kernel
theorem nm_o30 : nm_okM nm_m30 [] := ⟨nm_d30, nm_pn5, (nm_in2 (List.mem_of_getElem? (i := 92) rfl) rfl), nm_ii5, nm_ne5, Nat.le_of_ble_eq_true rfl, Or.inl ⟨rfl, rfl⟩⟩
def nm_m31 : am_M := (⟨"CobolParser", "division", "(II)I"⟩, prog_1_method_8_code, 4, (some .int), [], 3, [(0, .aload_n 0, 1), (1, .getfield 19, 3), (4, .iload_n 1, 1), (5, .invokevirtual 116, 3), (8, .istore_n 3, 1), (9, .iload_n 2, 1), (10, .tableswitch 64 0 3 #[30, 32, 42, 53], 30), (40, .iload_n 3, 1), (41, .ireturn, 1), (42, .aload_n 0, 1), (43, .getfield 19, 3), (46, .iload_n 3, 1), (47, .iconst 3, 1), (48, .invokevirtual 121, 3), (51, .ireturn, 1), (52, .aload_n 0, 1), (53, .getfield 19, 3), (56, .iload_n 3, 1), (57, .bipush 7, 2), (59, .invokevirtual 121, 3), (62, .ireturn, 1), (63, .aload_n 0, 1), (64, .getfield 19, 3), (67, .iload_n 3, 1), (68, .bipush 20, 2), (70, .invokevirtual 121, 3), (73, .ireturn, 1), (74, .iconst (-1), 1), (75, .ireturn, 1)])
set_option maxRecDepth 100000 in
theorem nm_d31 : ∀ e ∈ am_cd nm_m31, decode (am_b nm_m31) e.1 = .ok (e.2.1, e.2.2) := by decide +kernel
theorem nm_o31 : nm_okM nm_m31 [] := ⟨nm_d31, nm_pn0, (nm_in2 (List.mem_of_getElem? (i := 96) rfl) rfl), nm_ii0, nm_ne0, Nat.le_of_ble_eq_true rfl, Or.inl ⟨rfl, rfl⟩⟩
def nm_m32 : am_M := (⟨"CobolParser$Tree", "unitAt", "(I)I"⟩, prog_10_method_19_code, 4, (some .int), [], 2, [(0, .iconst 0, 1), (1, .istore_n 2, 1), (2, .iconst 0, 1), (3, .istore_n 3, 1), (4, .iload_n 3, 1), (5, .aload_n 0, 1), (6, .getfield 19, 3), (9, .if_icmp .ge 31, 3), (12, .aload_n 0, 1), (13, .aload_n 0, 1), (14, .iload_n 3, 1), (15, .invokevirtual 59, 3), (18, .invokevirtual 51, 3), (21, .ifCond .eq 13, 3), (24, .iload_n 2, 1), (25, .iload_n 1, 1), (26, .if_icmp .ne 5, 3), (29, .iload_n 3, 1), (30, .ireturn, 1), (31, .iinc 2 1, 3), (34, .iinc 3 1, 3), (37, .goto (-33), 3), (40, .iconst (-1), 1), (41, .ireturn, 1)])
set_option maxRecDepth 100000 in
theorem nm_d32 : ∀ e ∈ am_cd nm_m32, decode (am_b nm_m32) e.1 = .ok (e.2.1, e.2.2) := by decide +kernel
theorem nm_o32 : nm_okM nm_m32 [] := ⟨nm_d32, nm_pn7, (nm_in2 (List.mem_of_getElem? (i := 100) rfl) rfl), nm_ii7, nm_ne7, Nat.le_of_ble_eq_true rfl, Or.inl ⟨rfl, rfl⟩⟩
def nm_m33 : am_M := (⟨"CobolParser$Tree", "isUnit", "(I)Z"⟩, prog_10_method_20_code, 3, (some .boolean), [], 2, [(0, .aload_n 0, 1), (1, .iload_n 1, 1), (2, .iconst 0, 1), (3, .invokevirtual 38, 3), (6, .istore_n 2, 1), (7, .iload_n 2, 1), (8, .iconst 1, 1), (9, .if_icmp .eq 8, 3), (12, .iload_n 2, 1), (13, .iconst 2, 1), (14, .if_icmp .ne 7, 3), (17, .iconst 1, 1), (18, .goto 4, 3), (21, .iconst 0, 1), (22, .ireturn, 1)])
set_option maxRecDepth 100000 in
theorem nm_d33 : ∀ e ∈ am_cd nm_m33, decode (am_b nm_m33) e.1 = .ok (e.2.1, e.2.2) := by decide +kernel
theorem nm_o33 : nm_okM nm_m33 [] := ⟨nm_d33, nm_pn7, (nm_in2 (List.mem_of_getElem? (i := 104) rfl) rfl), nm_ii7, nm_ne7, Nat.le_of_ble_eq_true rfl, Or.inl ⟨rfl, rfl⟩⟩
def nm_m34 : am_M := (⟨"CobolParser$Tree", "childOfKind", "(II)I"⟩, prog_10_method_18_code, 6, (some .int), [], 3, [(0, .aload_n 0, 1), (1, .iload_n 1, 1), (2, .invokevirtual 59, 3), (5, .istore_n 3, 1), (6, .aload_n 0, 1), (7, .iload_n 3, 1), (8, .iconst 5, 1), (9, .invokevirtual 38, 3), (12, .istore 4, 2), (14, .iconst 0, 1), (15, .istore 5, 2), (17, .iload 5, 2), (19, .aload_n 0, 1), (20, .iload_n 3, 1), (21, .bipush 8, 2), (23, .invokevirtual 38, 3), (26, .if_icmp .ge 37, 3), (29, .aload_n 0, 1), (30, .iload 4, 2), (32, .iconst 0, 1), (33, .invokevirtual 38, 3), (36, .iload_n 2, 1), (37, .if_icmp .ne 10, 3), (40, .aload_n 0, 1), (41, .iload 4, 2), (43, .invokevirtual 62, 3), (46, .ireturn, 1), (47, .aload_n 0, 1), (48, .iload 4, 2), (50, .bipush 7, 2), (52, .invokevirtual 38, 3), (55, .istore 4, 2), (57, .iinc 5 1, 3), (60, .goto (-43), 3), (63, .iconst (-1), 1), (64, .ireturn, 1)])
set_option maxRecDepth 100000 in
theorem nm_d34 : ∀ e ∈ am_cd nm_m34, decode (am_b nm_m34) e.1 = .ok (e.2.1, e.2.2) := by decide +kernel
theorem nm_o34 : nm_okM nm_m34 [] := ⟨nm_d34, nm_pn7, (nm_in2 (List.mem_of_getElem? (i := 108) rfl) rfl), nm_ii7, nm_ne7, Nat.le_of_ble_eq_true rfl, Or.inl ⟨rfl, rfl⟩⟩
def nm_m35 : am_M := (⟨"CobolParser", "depth", "()I"⟩, prog_1_method_9_code, 1, (some .int), [], 1, [(0, .aload_n 0, 1), (1, .getfield 19, 3), (4, .invokevirtual 124, 3), (7, .ireturn, 1)])
set_option maxRecDepth 100000 in
theorem nm_d35 : ∀ e ∈ am_cd nm_m35, decode (am_b nm_m35) e.1 = .ok (e.2.1, e.2.2) := by decide +kernel
theorem nm_o35 : nm_okM nm_m35 [] := ⟨nm_d35, nm_pn0, (nm_in2 (List.mem_of_getElem? (i := 112) rfl) rfl), nm_ii0, nm_ne0, Nat.le_of_ble_eq_true rfl, Or.inl ⟨rfl, rfl⟩⟩
def nm_m36 : am_M := (⟨"CobolParser$Tree", "deepest", "()I"⟩, prog_10_method_10_code, 1, (some .int), [], 1, [(0, .aload_n 0, 1), (1, .getfield 25, 3), (4, .ireturn, 1)])
set_option maxRecDepth 100000 in
theorem nm_d36 : ∀ e ∈ am_cd nm_m36, decode (am_b nm_m36) e.1 = .ok (e.2.1, e.2.2) := by decide +kernel
theorem nm_o36 : nm_okM nm_m36 [] := ⟨nm_d36, nm_pn7, (nm_in2 (List.mem_of_getElem? (i := 116) rfl) rfl), nm_ii7, nm_ne7, Nat.le_of_ble_eq_true rfl, Or.inl ⟨rfl, rfl⟩⟩
def nm_m37 : am_M := (⟨"CobolParser", "count", "(I)I"⟩, prog_1_method_10_code, 2, (some .int), [], 2, [(0, .iload_n 1, 1), (1, .tableswitch 51 0 2 #[27, 35, 43], 27), (28, .aload_n 0, 1), (29, .getfield 10, 3), (32, .invokevirtual 127, 3), (35, .ireturn, 1), (36, .aload_n 0, 1), (37, .getfield 19, 3), (40, .invokevirtual 130, 3), (43, .ireturn, 1), (44, .aload_n 0, 1), (45, .getfield 19, 3), (48, .invokevirtual 133, 3), (51, .ireturn, 1), (52, .iconst (-1), 1), (53, .ireturn, 1)])
set_option maxRecDepth 100000 in
theorem nm_d37 : ∀ e ∈ am_cd nm_m37, decode (am_b nm_m37) e.1 = .ok (e.2.1, e.2.2) := by decide +kernel
theorem nm_o37 : nm_okM nm_m37 [] := ⟨nm_d37, nm_pn0, (nm_in2 (List.mem_of_getElem? (i := 120) rfl) rfl), nm_ii0, nm_ne0, Nat.le_of_ble_eq_true rfl, Or.inl ⟨rfl, rfl⟩⟩
def nm_m38 : am_M := (⟨"CobolParser$Row", "wordCount", "()I"⟩, prog_8_method_4_code, 1, (some .int), [], 1, [(0, .aload_n 0, 1), (1, .getfield 18, 3), (4, .ireturn, 1)])
set_option maxRecDepth 100000 in
theorem nm_d38 : ∀ e ∈ am_cd nm_m38, decode (am_b nm_m38) e.1 = .ok (e.2.1, e.2.2) := by decide +kernel
theorem nm_o38 : nm_okM nm_m38 [] := ⟨nm_d38, nm_pn5, (nm_in2 (List.mem_of_getElem? (i := 124) rfl) rfl), nm_ii5, nm_ne5, Nat.le_of_ble_eq_true rfl, Or.inl ⟨rfl, rfl⟩⟩
def nm_m39 : am_M := (⟨"CobolParser$Tree", "nodeCount", "()I"⟩, prog_10_method_8_code, 1, (some .int), [], 1, [(0, .aload_n 0, 1), (1, .getfield 19, 3), (4, .ireturn, 1)])
set_option maxRecDepth 100000 in
theorem nm_d39 : ∀ e ∈ am_cd nm_m39, decode (am_b nm_m39) e.1 = .ok (e.2.1, e.2.2) := by decide +kernel
theorem nm_o39 : nm_okM nm_m39 [] := ⟨nm_d39, nm_pn7, (nm_in2 (List.mem_of_getElem? (i := 128) rfl) rfl), nm_ii7, nm_ne7, Nat.le_of_ble_eq_true rfl, Or.inl ⟨rfl, rfl⟩⟩
end
section
/-! methods, their code decoded, by wip/whole/gen.py -/
def nm_m40 : am_M := (⟨"CobolParser$Tree", "unitCount", "()I"⟩, prog_10_method_9_code, 1, (some .int), [], 1, [(0, .aload_n 0, 1), (1, .getfield 22, 3), (4, .ireturn, 1)])
set_option maxRecDepth 100000 in
theorem nm_d40 : ∀ e ∈ am_cd nm_m40, decode (am_b nm_m40) e.1 = .ok (e.2.1, e.2.2) := by decide +kernel
theorem nm_o40 : nm_okM nm_m40 [] := ⟨nm_d40, nm_pn7, (nm_in2 (List.mem_of_getElem? (i := 132) rfl) rfl), nm_ii7, nm_ne7, Nat.le_of_ble_eq_true rfl, Or.inl ⟨rfl, rfl⟩⟩
def nm_m41 : am_M := (⟨"CobolParserLaw", "parse", "(LCobolParser;[J)I"⟩, method_3_code, 3, (some .int), [(0, 8, 11, 11)], 2, [(0, .aload_n 1, 1), (1, .iconst 0, 1), (2, .aload_n 0, 1), (3, .invokevirtual 7, 3), (6, .i2l, 1), (7, .lastore, 1), (8, .goto 6, 3), (11, .astore_n 2, 1), (12, .iconst 1, 1), (13, .ireturn, 1), (14, .iconst 0, 1), (15, .ireturn, 1)])
set_option maxRecDepth 100000 in
theorem nm_d41 : ∀ e ∈ am_cd nm_m41, decode (am_b nm_m41) e.1 = .ok (e.2.1, e.2.2) := by decide +kernel
theorem nm_o41 : nm_okM nm_m41 [(0, 8, 11, 13)] := ⟨nm_d41, nm_pn9, (nm_in2 (List.mem_of_getElem? (i := 135) rfl) rfl), nm_ii9, nm_ne9, Nat.le_of_ble_eq_true rfl, Or.inr ⟨0, 8, 11, 11, 13, "java/lang/IllegalStateException", nm_T11, rfl, rfl, by decide, (nm_in2 (List.mem_of_getElem? (i := 136) rfl) rfl), rfl, nm_ca11⟩⟩
def nm_m42 : am_M := (⟨"CobolParser", "parse", "()I"⟩, prog_1_method_3_code, 3, (some .int), [(40, 47, 50, 10)], 1, [(0, .aload_n 0, 1), (1, .getfield 10, 3), (4, .invokevirtual 62, 3), (7, .aload_n 0, 1), (8, .getfield 19, 3), (11, .invokevirtual 65, 3), (14, .aload_n 0, 1), (15, .getfield 46, 3), (18, .invokevirtual 66, 3), (21, .iconst 0, 1), (22, .istore_n 1, 1), (23, .iload_n 1, 1), (24, .sipush 1500, 3), (27, .if_icmp .ge 37, 3), (30, .aload_n 0, 1), (31, .getfield 10, 3), (34, .invokevirtual 67, 3), (37, .ifCond .eq 27, 3), (40, .aload_n 0, 1), (41, .getfield 46, 3), (44, .invokevirtual 70, 3), (47, .goto 11, 3), (50, .astore_n 2, 1), (51, .aload_n 0, 1), (52, .getfield 10, 3), (55, .invokevirtual 75, 3), (58, .iinc 1 1, 3), (61, .goto (-38), 3), (64, .aload_n 0, 1), (65, .getfield 46, 3), (68, .invokevirtual 78, 3), (71, .aload_n 0, 1), (72, .invokevirtual 81, 3), (75, .ireturn, 1)])
set_option maxRecDepth 100000 in
theorem nm_d42 : ∀ e ∈ am_cd nm_m42, decode (am_b nm_m42) e.1 = .ok (e.2.1, e.2.2) := by decide +kernel
theorem nm_o42 : nm_okM nm_m42 [(40, 47, 50, 73)] := ⟨nm_d42, nm_pn0, (nm_in2 (List.mem_of_getElem? (i := 140) rfl) rfl), nm_ii0, nm_ne0, Nat.le_of_ble_eq_true rfl, Or.inr ⟨40, 47, 50, 10, 73, "java/lang/IllegalArgumentException", nm_T10, rfl, rfl, by decide, (nm_in2 (List.mem_of_getElem? (i := 141) rfl) rfl), rfl, nm_ca10⟩⟩
def nm_m43 : am_M := (⟨"CobolParser$Row", "start", "()V"⟩, prog_8_method_5_code, 1, none, [], 1, [(0, .aload_n 0, 1), (1, .iconst 0, 1), (2, .putfield 22, 3), (5, .aload_n 0, 1), (6, .iconst 0, 1), (7, .putfield 34, 3), (10, .return_, 1)])
set_option maxRecDepth 100000 in
theorem nm_d43 : ∀ e ∈ am_cd nm_m43, decode (am_b nm_m43) e.1 = .ok (e.2.1, e.2.2) := by decide +kernel
theorem nm_o43 : nm_okM nm_m43 [] := ⟨nm_d43, nm_pn5, (nm_in2 (List.mem_of_getElem? (i := 145) rfl) rfl), nm_ii5, nm_ne5, Nat.le_of_ble_eq_true rfl, Or.inl ⟨rfl, rfl⟩⟩
def nm_m44 : am_M := (⟨"CobolParser$Tree", "start", "()V"⟩, prog_10_method_2_code, 1, none, [], 1, [(0, .aload_n 0, 1), (1, .iconst 0, 1), (2, .putfield 15, 3), (5, .aload_n 0, 1), (6, .iconst 0, 1), (7, .putfield 19, 3), (10, .aload_n 0, 1), (11, .iconst 0, 1), (12, .putfield 22, 3), (15, .aload_n 0, 1), (16, .iconst 0, 1), (17, .putfield 25, 3), (20, .aload_n 0, 1), (21, .iconst (-1), 1), (22, .iconst 0, 1), (23, .iconst (-1), 1), (24, .invokevirtual 28, 3), (27, .pop, 1), (28, .return_, 1)])
set_option maxRecDepth 100000 in
theorem nm_d44 : ∀ e ∈ am_cd nm_m44, decode (am_b nm_m44) e.1 = .ok (e.2.1, e.2.2) := by decide +kernel
theorem nm_o44 : nm_okM nm_m44 [] := ⟨nm_d44, nm_pn7, (nm_in2 (List.mem_of_getElem? (i := 149) rfl) rfl), nm_ii7, nm_ne7, Nat.le_of_ble_eq_true rfl, Or.inl ⟨rfl, rfl⟩⟩
def nm_m45 : am_M := (⟨"CobolParser$Tree", "make", "(III)I"⟩, prog_10_method_3_code, 6, (some .int), [], 4, [(0, .aload_n 0, 1), (1, .getfield 15, 3), (4, .bipush 12, 2), (6, .imul, 1), (7, .istore 4, 2), (9, .iload 4, 2), (11, .bipush 12, 2), (13, .iadd, 1), (14, .aload_n 0, 1), (15, .getfield 11, 3), (18, .arraylength, 1), (19, .if_icmp .le 21, 3), (22, .aload_n 0, 1), (23, .aload_n 0, 1), (24, .getfield 11, 3), (27, .iconst 2, 1), (28, .aload_n 0, 1), (29, .getfield 11, 3), (32, .arraylength, 1), (33, .imul, 1), (34, .invokestatic 32, 3), (37, .putfield 11, 3), (40, .iconst 0, 1), (41, .istore 5, 2), (43, .iload 5, 2), (45, .bipush 12, 2), (47, .if_icmp .ge 20, 3), (50, .aload_n 0, 1), (51, .getfield 11, 3), (54, .iload 4, 2), (56, .iload 5, 2), (58, .iadd, 1), (59, .iconst (-1), 1), (60, .iastore, 1), (61, .iinc 5 1, 3), (64, .goto (-21), 3), (67, .aload_n 0, 1), (68, .getfield 11, 3), (71, .iload 4, 2), (73, .iconst 0, 1), (74, .iadd, 1), (75, .iload_n 1, 1), (76, .iastore, 1), (77, .aload_n 0, 1), (78, .getfield 11, 3), (81, .iload 4, 2), (83, .iconst 1, 1), (84, .iadd, 1), (85, .iload_n 2, 1), (86, .iastore, 1), (87, .aload_n 0, 1), (88, .getfield 11, 3), (91, .iload 4, 2), (93, .iconst 2, 1), (94, .iadd, 1), (95, .iload_n 3, 1), (96, .iastore, 1), (97, .aload_n 0, 1), (98, .getfield 11, 3), (101, .iload 4, 2), (103, .bipush 8, 2), (105, .iadd, 1), (106, .iconst 0, 1), (107, .iastore, 1), (108, .aload_n 0, 1), (109, .getfield 11, 3), (112, .iload 4, 2), (114, .bipush 9, 2), (116, .iadd, 1), (117, .iconst 0, 1), (118, .iastore, 1), (119, .aload_n 0, 1), (120, .dup, 1), (121, .getfield 15, 3), (124, .iconst 1, 1), (125, .iadd, 1), (126, .putfield 15, 3), (129, .aload_n 0, 1), (130, .getfield 15, 3), (133, .iconst 1, 1), (134, .isub, 1), (135, .ireturn, 1)])
set_option maxRecDepth 100000 in
theorem nm_d45 : ∀ e ∈ am_cd nm_m45, decode (am_b nm_m45) e.1 = .ok (e.2.1, e.2.2) := by decide +kernel
theorem nm_o45 : nm_okM nm_m45 [] := ⟨nm_d45, nm_pn7, (nm_in2 (List.mem_of_getElem? (i := 153) rfl) rfl), nm_ii7, nm_ne7, Nat.le_of_ble_eq_true rfl, Or.inl ⟨rfl, rfl⟩⟩
def nm_m46 : am_M := (⟨"CobolParser$Clauses", "start", "()V"⟩, prog_2_method_2_code, 1, none, [], 1, [(0, .aload_n 0, 1), (1, .getfield 12, 3), (4, .invokevirtual 51, 3), (7, .return_, 1)])
set_option maxRecDepth 100000 in
theorem nm_d46 : ∀ e ∈ am_cd nm_m46, decode (am_b nm_m46) e.1 = .ok (e.2.1, e.2.2) := by decide +kernel
theorem nm_o46 : nm_okM nm_m46 [] := ⟨nm_d46, nm_pn1, (nm_in2 (List.mem_of_getElem? (i := 158) rfl) rfl), nm_ii1, nm_ne1, Nat.le_of_ble_eq_true rfl, Or.inl ⟨rfl, rfl⟩⟩
def nm_m47 : am_M := (⟨"CobolParser$Units", "start", "()V"⟩, prog_11_method_2_code, 1, none, [], 1, [(0, .aload_n 0, 1), (1, .iconst 0, 1), (2, .putfield 24, 3), (5, .return_, 1)])
set_option maxRecDepth 100000 in
theorem nm_d47 : ∀ e ∈ am_cd nm_m47, decode (am_b nm_m47) e.1 = .ok (e.2.1, e.2.2) := by decide +kernel
theorem nm_o47 : nm_okM nm_m47 [] := ⟨nm_d47, nm_pn8, (nm_in2 (List.mem_of_getElem? (i := 162) rfl) rfl), nm_ii8, nm_ne8, Nat.le_of_ble_eq_true rfl, Or.inl ⟨rfl, rfl⟩⟩
def nm_m48 : am_M := (⟨"CobolParser$Row", "goesOn", "()Z"⟩, prog_8_method_7_code, 1, (some .boolean), [], 1, [(0, .aload_n 0, 1), (1, .getfield 22, 3), (4, .aload_n 0, 1), (5, .getfield 18, 3), (8, .if_icmp .ge 16, 3), (11, .aload_n 0, 1), (12, .getfield 34, 3), (15, .bipush 20, 2), (17, .if_icmp .ge 7, 3), (20, .iconst 1, 1), (21, .goto 4, 3), (24, .iconst 0, 1), (25, .ireturn, 1)])
set_option maxRecDepth 100000 in
theorem nm_d48 : ∀ e ∈ am_cd nm_m48, decode (am_b nm_m48) e.1 = .ok (e.2.1, e.2.2) := by decide +kernel
theorem nm_o48 : nm_okM nm_m48 [] := ⟨nm_d48, nm_pn5, (nm_in2 (List.mem_of_getElem? (i := 166) rfl) rfl), nm_ii5, nm_ne5, Nat.le_of_ble_eq_true rfl, Or.inl ⟨rfl, rfl⟩⟩
def nm_m49 : am_M := (⟨"CobolParser$Clauses", "readClause", "()V"⟩, prog_2_method_4_code, 1, none, [], 1, [(0, .aload_n 0, 1), (1, .getfield 31, 3), (4, .iconst 1, 1), (5, .invokevirtual 70, 3), (8, .ifCond .eq 10, 3), (11, .aload_n 0, 1), (12, .invokevirtual 74, 3), (15, .goto 74, 3), (18, .aload_n 0, 1), (19, .getfield 31, 3), (22, .iconst 2, 1), (23, .invokevirtual 70, 3), (26, .ifCond .eq 20, 3), (29, .aload_n 0, 1), (30, .iconst 5, 1), (31, .bipush 7, 2), (33, .invokevirtual 77, 3), (36, .aload_n 0, 1), (37, .getfield 47, 3), (40, .invokevirtual 80, 3), (43, .goto 46, 3), (46, .aload_n 0, 1), (47, .getfield 43, 3), (50, .invokevirtual 85, 3), (53, .ifCond .eq 10, 3), (56, .aload_n 0, 1), (57, .invokevirtual 91, 3), (60, .goto 29, 3), (63, .aload_n 0, 1), (64, .getfield 31, 3), (67, .iconst 0, 1), (68, .invokevirtual 70, 3), (71, .ifCond .eq 10, 3), (74, .aload_n 0, 1), (75, .invokevirtual 94, 3), (78, .goto 11, 3), (81, .aload_n 0, 1), (82, .getfield 31, 3), (85, .iconst 1, 1), (86, .invokevirtual 97, 3), (89, .return_, 1)])
set_option maxRecDepth 100000 in
theorem nm_d49 : ∀ e ∈ am_cd nm_m49, decode (am_b nm_m49) e.1 = .ok (e.2.1, e.2.2) := by decide +kernel
theorem nm_o49 : nm_okM nm_m49 [] := ⟨nm_d49, nm_pn1, (nm_in2 (List.mem_of_getElem? (i := 170) rfl) rfl), nm_ii1, nm_ne1, Nat.le_of_ble_eq_true rfl, Or.inl ⟨rfl, rfl⟩⟩
def nm_m50 : am_M := (⟨"CobolParser$Row", "isKind", "(I)Z"⟩, prog_8_method_10_code, 2, (some .boolean), [], 2, [(0, .aload_n 0, 1), (1, .getfield 22, 3), (4, .aload_n 0, 1), (5, .getfield 18, 3), (8, .if_icmp .ge 20, 3), (11, .aload_n 0, 1), (12, .getfield 11, 3), (15, .aload_n 0, 1), (16, .getfield 22, 3), (19, .iaload, 1), (20, .iload_n 1, 1), (21, .if_icmp .ne 7, 3), (24, .iconst 1, 1), (25, .goto 4, 3), (28, .iconst 0, 1), (29, .ireturn, 1)])
set_option maxRecDepth 100000 in
theorem nm_d50 : ∀ e ∈ am_cd nm_m50, decode (am_b nm_m50) e.1 = .ok (e.2.1, e.2.2) := by decide +kernel
theorem nm_o50 : nm_okM nm_m50 [] := ⟨nm_d50, nm_pn5, (nm_in2 (List.mem_of_getElem? (i := 174) rfl) rfl), nm_ii5, nm_ne5, Nat.le_of_ble_eq_true rfl, Or.inl ⟨rfl, rfl⟩⟩
def nm_m51 : am_M := (⟨"CobolParser$Clauses", "sectionOrParagraph", "()V"⟩, prog_2_method_23_code, 4, none, [], 1, [(0, .aload_n 0, 1), (1, .getfield 31, 3), (4, .bipush 16, 2), (6, .iconst 1, 1), (7, .invokevirtual 194, 3), (10, .istore_n 1, 1), (11, .aload_n 0, 1), (12, .bipush 8, 2), (14, .bipush 11, 2), (16, .invokevirtual 77, 3), (19, .aload_n 0, 1), (20, .iload_n 1, 1), (21, .ifCond .ne 10, 3), (24, .aload_n 0, 1), (25, .invokevirtual 222, 3), (28, .ifCond .eq 7, 3), (31, .iconst 1, 1), (32, .goto 4, 3), (35, .iconst 0, 1), (36, .invokevirtual 112, 3), (39, .aload_n 0, 1), (40, .getfield 31, 3), (43, .invokevirtual 61, 3), (46, .istore_n 2, 1), (47, .aload_n 0, 1), (48, .getfield 35, 3), (51, .iload_n 1, 1), (52, .ifCond .eq 8, 3), (55, .bipush 23, 2), (57, .goto 5, 3), (60, .bipush 24, 2), (62, .aload_n 0, 1), (63, .getfield 31, 3), (66, .iconst 1, 1), (67, .invokevirtual 160, 3), (70, .iload_n 2, 1), (71, .invokevirtual 149, 3), (74, .istore_n 3, 1), (75, .aload_n 0, 1), (76, .getfield 31, 3), (79, .bipush 16, 2), (81, .invokevirtual 186, 3), (84, .pop, 1), (85, .aload_n 0, 1), (86, .getfield 31, 3), (89, .iconst 4, 1), (90, .invokevirtual 160, 3), (93, .pop, 1), (94, .iload_n 1, 1), (95, .ifCond .eq 47, 3), (98, .aload_n 0, 1), (99, .getfield 35, 3), (102, .aload_n 0, 1), (103, .getfield 12, 3), (106, .invokevirtual 54, 3), (109, .bipush 9, 2), (111, .if_icmp .ne 10, 3), (114, .aload_n 0, 1), (115, .getfield 22, 3), (118, .goto 7, 3), (121, .aload_n 0, 1), (122, .getfield 18, 3), (125, .iload_n 3, 1), (126, .invokevirtual 164, 3), (129, .aload_n 0, 1), (130, .iload_n 3, 1), (131, .putfield 25, 3), (134, .aload_n 0, 1), (135, .iconst (-1), 1), (136, .putfield 28, 3), (139, .goto 35, 3), (142, .aload_n 0, 1), (143, .getfield 35, 3), (146, .aload_n 0, 1), (147, .getfield 25, 3), (150, .iconst (-1), 1), (151, .if_icmp .ne 10, 3), (154, .aload_n 0, 1), (155, .getfield 18, 3), (158, .goto 7, 3), (161, .aload_n 0, 1), (162, .getfield 25, 3), (165, .iload_n 3, 1), (166, .invokevirtual 164, 3), (169, .aload_n 0, 1), (170, .iload_n 3, 1), (171, .putfield 28, 3), (174, .aload_n 0, 1), (175, .invokevirtual 225, 3), (178, .return_, 1)])
set_option maxRecDepth 100000 in
theorem nm_d51 : ∀ e ∈ am_cd nm_m51, decode (am_b nm_m51) e.1 = .ok (e.2.1, e.2.2) := by decide +kernel
theorem nm_o51 : nm_okM nm_m51 [] := ⟨nm_d51, nm_pn1, (nm_in2 (List.mem_of_getElem? (i := 178) rfl) rfl), nm_ii1, nm_ne1, Nat.le_of_ble_eq_true rfl, Or.inl ⟨rfl, rfl⟩⟩
def nm_m52 : am_M := (⟨"CobolParser$Row", "isReserved", "(II)Z"⟩, prog_8_method_11_code, 4, (some .boolean), [], 3, [(0, .aload_n 0, 1), (1, .getfield 22, 3), (4, .iload_n 2, 1), (5, .iadd, 1), (6, .istore_n 3, 1), (7, .iload_n 3, 1), (8, .ifCond .lt 34, 3), (11, .iload_n 3, 1), (12, .aload_n 0, 1), (13, .getfield 18, 3), (16, .if_icmp .ge 26, 3), (19, .aload_n 0, 1), (20, .getfield 11, 3), (23, .iload_n 3, 1), (24, .iaload, 1), (25, .ifCond .ne 17, 3), (28, .aload_n 0, 1), (29, .getfield 15, 3), (32, .iload_n 3, 1), (33, .iaload, 1), (34, .iload_n 1, 1), (35, .if_icmp .ne 7, 3), (38, .iconst 1, 1), (39, .goto 4, 3), (42, .iconst 0, 1), (43, .ireturn, 1)])
set_option maxRecDepth 100000 in
theorem nm_d52 : ∀ e ∈ am_cd nm_m52, decode (am_b nm_m52) e.1 = .ok (e.2.1, e.2.2) := by decide +kernel
theorem nm_o52 : nm_okM nm_m52 [] := ⟨nm_d52, nm_pn5, (nm_in2 (List.mem_of_getElem? (i := 182) rfl) rfl), nm_ii5, nm_ne5, Nat.le_of_ble_eq_true rfl, Or.inl ⟨rfl, rfl⟩⟩
def nm_m53 : am_M := (⟨"CobolParser$Clauses", "requireState", "(II)V"⟩, prog_2_method_8_code, 3, none, [], 3, [(0, .aload_n 0, 1), (1, .aload_n 0, 1), (2, .getfield 12, 3), (5, .invokevirtual 54, 3), (8, .iload_n 1, 1), (9, .if_icmp .lt 18, 3), (12, .aload_n 0, 1), (13, .getfield 12, 3), (16, .invokevirtual 54, 3), (19, .iload_n 2, 1), (20, .if_icmp .gt 7, 3), (23, .iconst 1, 1), (24, .goto 4, 3), (27, .iconst 0, 1), (28, .invokevirtual 112, 3), (31, .return_, 1)])
set_option maxRecDepth 100000 in
theorem nm_d53 : ∀ e ∈ am_cd nm_m53, decode (am_b nm_m53) e.1 = .ok (e.2.1, e.2.2) := by decide +kernel
theorem nm_o53 : nm_okM nm_m53 [] := ⟨nm_d53, nm_pn1, (nm_in2 (List.mem_of_getElem? (i := 186) rfl) rfl), nm_ii1, nm_ne1, Nat.le_of_ble_eq_true rfl, Or.inl ⟨rfl, rfl⟩⟩
def nm_m54 : am_M := (⟨"CobolParser$Units", "state", "()I"⟩, prog_11_method_9_code, 1, (some .int), [], 1, [(0, .aload_n 0, 1), (1, .getfield 24, 3), (4, .ifCond .le 17, 3), (7, .aload_n 0, 1), (8, .getfield 9, 3), (11, .aload_n 0, 1), (12, .getfield 24, 3), (15, .iconst 1, 1), (16, .isub, 1), (17, .iaload, 1), (18, .goto 4, 3), (21, .iconst (-1), 1), (22, .ireturn, 1)])
set_option maxRecDepth 100000 in
theorem nm_d54 : ∀ e ∈ am_cd nm_m54, decode (am_b nm_m54) e.1 = .ok (e.2.1, e.2.2) := by decide +kernel
theorem nm_o54 : nm_okM nm_m54 [] := ⟨nm_d54, nm_pn8, (nm_in2 (List.mem_of_getElem? (i := 190) rfl) rfl), nm_ii8, nm_ne8, Nat.le_of_ble_eq_true rfl, Or.inl ⟨rfl, rfl⟩⟩
def nm_m55 : am_M := (⟨"CobolParser$Clauses", "requireThat", "(Z)V"⟩, prog_2_method_7_code, 2, none, [], 2, [(0, .iload_n 1, 1), (1, .ifCond .ne 11, 3), (4, .aload_n 0, 1), (5, .getfield 31, 3), (8, .iconst 1, 1), (9, .invokevirtual 97, 3), (12, .return_, 1)])
set_option maxRecDepth 100000 in
theorem nm_d55 : ∀ e ∈ am_cd nm_m55, decode (am_b nm_m55) e.1 = .ok (e.2.1, e.2.2) := by decide +kernel
theorem nm_o55 : nm_okM nm_m55 [] := ⟨nm_d55, nm_pn1, (nm_in2 (List.mem_of_getElem? (i := 194) rfl) rfl), nm_ii1, nm_ne1, Nat.le_of_ble_eq_true rfl, Or.inl ⟨rfl, rfl⟩⟩
def nm_m56 : am_M := (⟨"CobolParser$Row", "refuse", "(I)V"⟩, prog_8_method_21_code, 2, none, [], 2, [(0, .aload_n 0, 1), (1, .iload_n 1, 1), (2, .putfield 25, 3), (5, .new 67, 3), (8, .dup, 1), (9, .ldc 69, 2), (11, .invokespecial 71, 3), (14, .athrow, 1)])
set_option maxRecDepth 100000 in
theorem nm_d56 : ∀ e ∈ am_cd nm_m56, decode (am_b nm_m56) e.1 = .ok (e.2.1, e.2.2) := by decide +kernel
theorem nm_o56 : nm_okM nm_m56 [] := ⟨nm_d56, nm_pn5, (nm_in2 (List.mem_of_getElem? (i := 198) rfl) rfl), nm_ii5, nm_ne5, Nat.le_of_ble_eq_true rfl, Or.inl ⟨rfl, rfl⟩⟩
def nm_m57 : am_M := (⟨"CobolParser$Clauses", "mayHoldSentences", "()Z"⟩, prog_2_method_25_code, 1, (some .boolean), [], 1, [(0, .aload_n 0, 1), (1, .getfield 12, 3), (4, .invokevirtual 54, 3), (7, .bipush 9, 2), (9, .if_icmp .ne 11, 3), (12, .aload_n 0, 1), (13, .getfield 25, 3), (16, .iconst (-1), 1), (17, .if_icmp .eq 7, 3), (20, .iconst 1, 1), (21, .goto 4, 3), (24, .iconst 0, 1), (25, .ireturn, 1)])
set_option maxRecDepth 100000 in
theorem nm_d57 : ∀ e ∈ am_cd nm_m57, decode (am_b nm_m57) e.1 = .ok (e.2.1, e.2.2) := by decide +kernel
theorem nm_o57 : nm_okM nm_m57 [] := ⟨nm_d57, nm_pn1, (nm_in3 (List.mem_of_getElem? (i := 29) rfl) rfl), nm_ii1, nm_ne1, Nat.le_of_ble_eq_true rfl, Or.inl ⟨rfl, rfl⟩⟩
def nm_m58 : am_M := (⟨"CobolParser$Row", "place", "()I"⟩, prog_8_method_8_code, 1, (some .int), [], 1, [(0, .aload_n 0, 1), (1, .getfield 22, 3), (4, .ireturn, 1)])
set_option maxRecDepth 100000 in
theorem nm_d58 : ∀ e ∈ am_cd nm_m58, decode (am_b nm_m58) e.1 = .ok (e.2.1, e.2.2) := by decide +kernel
theorem nm_o58 : nm_okM nm_m58 [] := ⟨nm_d58, nm_pn5, (nm_in3 (List.mem_of_getElem? (i := 33) rfl) rfl), nm_ii5, nm_ne5, Nat.le_of_ble_eq_true rfl, Or.inl ⟨rfl, rfl⟩⟩
def nm_m59 : am_M := (⟨"CobolParser$Row", "requireKind", "(I)I"⟩, prog_8_method_20_code, 3, (some .int), [], 2, [(0, .aload_n 0, 1), (1, .iload_n 1, 1), (2, .invokevirtual 60, 3), (5, .ifCond .ne 8, 3), (8, .aload_n 0, 1), (9, .iconst 1, 1), (10, .invokevirtual 49, 3), (13, .aload_n 0, 1), (14, .invokevirtual 63, 3), (17, .istore_n 2, 1), (18, .aload_n 0, 1), (19, .invokevirtual 57, 3), (22, .iload_n 2, 1), (23, .ireturn, 1)])
set_option maxRecDepth 100000 in
theorem nm_d59 : ∀ e ∈ am_cd nm_m59, decode (am_b nm_m59) e.1 = .ok (e.2.1, e.2.2) := by decide +kernel
theorem nm_o59 : nm_okM nm_m59 [] := ⟨nm_d59, nm_pn5, (nm_in3 (List.mem_of_getElem? (i := 37) rfl) rfl), nm_ii5, nm_ne5, Nat.le_of_ble_eq_true rfl, Or.inl ⟨rfl, rfl⟩⟩
def nm_m60 : am_M := (⟨"CobolParser$Row", "value", "()I"⟩, prog_8_method_16_code, 1, (some .int), [], 1, [(0, .aload_n 0, 1), (1, .getfield 22, 3), (4, .aload_n 0, 1), (5, .getfield 18, 3), (8, .if_icmp .ge 15, 3), (11, .aload_n 0, 1), (12, .getfield 15, 3), (15, .aload_n 0, 1), (16, .getfield 22, 3), (19, .iaload, 1), (20, .goto 4, 3), (23, .iconst (-1), 1), (24, .ireturn, 1)])
set_option maxRecDepth 100000 in
theorem nm_d60 : ∀ e ∈ am_cd nm_m60, decode (am_b nm_m60) e.1 = .ok (e.2.1, e.2.2) := by decide +kernel
theorem nm_o60 : nm_okM nm_m60 [] := ⟨nm_d60, nm_pn5, (nm_in3 (List.mem_of_getElem? (i := 43) rfl) rfl), nm_ii5, nm_ne5, Nat.le_of_ble_eq_true rfl, Or.inl ⟨rfl, rfl⟩⟩
def nm_m61 : am_M := (⟨"CobolParser$Row", "advance", "()V"⟩, prog_8_method_9_code, 1, none, [], 1, [(0, .aload_n 0, 1), (1, .getfield 22, 3), (4, .aload_n 0, 1), (5, .getfield 18, 3), (8, .if_icmp .ge 13, 3), (11, .aload_n 0, 1), (12, .dup, 1), (13, .getfield 22, 3), (16, .iconst 1, 1), (17, .iadd, 1), (18, .putfield 22, 3), (21, .return_, 1)])
set_option maxRecDepth 100000 in
theorem nm_d61 : ∀ e ∈ am_cd nm_m61, decode (am_b nm_m61) e.1 = .ok (e.2.1, e.2.2) := by decide +kernel
theorem nm_o61 : nm_okM nm_m61 [] := ⟨nm_d61, nm_pn5, (nm_in3 (List.mem_of_getElem? (i := 47) rfl) rfl), nm_ii5, nm_ne5, Nat.le_of_ble_eq_true rfl, Or.inl ⟨rfl, rfl⟩⟩
def nm_m62 : am_M := (⟨"CobolParser$Row", "skip", "(I)Z"⟩, prog_8_method_17_code, 3, (some .boolean), [], 2, [(0, .aload_n 0, 1), (1, .getfield 22, 3), (4, .aload_n 0, 1), (5, .getfield 18, 3), (8, .if_icmp .ge 32, 3), (11, .aload_n 0, 1), (12, .getfield 11, 3), (15, .aload_n 0, 1), (16, .getfield 22, 3), (19, .iaload, 1), (20, .ifCond .ne 20, 3), (23, .aload_n 0, 1), (24, .getfield 15, 3), (27, .aload_n 0, 1), (28, .getfield 22, 3), (31, .iaload, 1), (32, .iload_n 1, 1), (33, .if_icmp .ne 7, 3), (36, .iconst 1, 1), (37, .goto 4, 3), (40, .iconst 0, 1), (41, .istore_n 2, 1), (42, .iload_n 2, 1), (43, .ifCond .eq 13, 3), (46, .aload_n 0, 1), (47, .dup, 1), (48, .getfield 22, 3), (51, .iconst 1, 1), (52, .iadd, 1), (53, .putfield 22, 3), (56, .iload_n 2, 1), (57, .ireturn, 1)])
set_option maxRecDepth 100000 in
theorem nm_d62 : ∀ e ∈ am_cd nm_m62, decode (am_b nm_m62) e.1 = .ok (e.2.1, e.2.2) := by decide +kernel
theorem nm_o62 : nm_okM nm_m62 [] := ⟨nm_d62, nm_pn5, (nm_in3 (List.mem_of_getElem? (i := 52) rfl) rfl), nm_ii5, nm_ne5, Nat.le_of_ble_eq_true rfl, Or.inl ⟨rfl, rfl⟩⟩
def nm_m63 : am_M := (⟨"CobolParser$Tree", "append", "(II)V"⟩, prog_10_method_4_code, 5, none, [], 3, [(0, .iload_n 1, 1), (1, .ifCond .lt 23, 3), (4, .iload_n 1, 1), (5, .aload_n 0, 1), (6, .getfield 15, 3), (9, .if_icmp .ge 15, 3), (12, .iload_n 2, 1), (13, .ifCond .lt 11, 3), (16, .iload_n 2, 1), (17, .aload_n 0, 1), (18, .getfield 15, 3), (21, .if_icmp .lt 4, 3), (24, .return_, 1), (25, .iload_n 1, 1), (26, .bipush 12, 2), (28, .imul, 1), (29, .istore_n 3, 1), (30, .aload_n 0, 1), (31, .getfield 11, 3), (34, .iload_n 3, 1), (35, .bipush 6, 2), (37, .iadd, 1), (38, .iaload, 1), (39, .istore 4, 2), (41, .iload 4, 2), (43, .ifCond .lt 29, 3), (46, .iload 4, 2), (48, .aload_n 0, 1), (49, .getfield 15, 3), (52, .if_icmp .ge 20, 3), (55, .aload_n 0, 1), (56, .getfield 11, 3), (59, .iload 4, 2), (61, .bipush 12, 2), (63, .imul, 1), (64, .bipush 7, 2), (66, .iadd, 1), (67, .iload_n 2, 1), (68, .iastore, 1), (69, .goto 12, 3), (72, .aload_n 0, 1), (73, .getfield 11, 3), (76, .iload_n 3, 1), (77, .iconst 5, 1), (78, .iadd, 1), (79, .iload_n 2, 1), (80, .iastore, 1), (81, .aload_n 0, 1), (82, .getfield 11, 3), (85, .iload_n 3, 1), (86, .bipush 6, 2), (88, .iadd, 1), (89, .iload_n 2, 1), (90, .iastore, 1), (91, .aload_n 0, 1), (92, .getfield 11, 3), (95, .iload_n 3, 1), (96, .bipush 8, 2), (98, .iadd, 1), (99, .dup2, 1), (100, .iaload, 1), (101, .iconst 1, 1), (102, .iadd, 1), (103, .iastore, 1), (104, .aload_n 0, 1), (105, .getfield 11, 3), (108, .iload_n 2, 1), (109, .bipush 12, 2), (111, .imul, 1), (112, .iconst 4, 1), (113, .iadd, 1), (114, .iload_n 1, 1), (115, .iastore, 1), (116, .return_, 1)])
set_option maxRecDepth 100000 in
theorem nm_d63 : ∀ e ∈ am_cd nm_m63, decode (am_b nm_m63) e.1 = .ok (e.2.1, e.2.2) := by decide +kernel
theorem nm_o63 : nm_okM nm_m63 [] := ⟨nm_d63, nm_pn7, (nm_in3 (List.mem_of_getElem? (i := 56) rfl) rfl), nm_ii7, nm_ne7, Nat.le_of_ble_eq_true rfl, Or.inl ⟨rfl, rfl⟩⟩
def nm_m64 : am_M := (⟨"CobolParser$Clauses", "enterBody", "()V"⟩, prog_2_method_26_code, 1, none, [], 1, [(0, .aload_n 0, 1), (1, .getfield 12, 3), (4, .invokevirtual 54, 3), (7, .bipush 9, 2), (9, .if_icmp .eq 12, 3), (12, .aload_n 0, 1), (13, .getfield 12, 3), (16, .bipush 11, 2), (18, .invokevirtual 125, 3), (21, .return_, 1)])
set_option maxRecDepth 100000 in
theorem nm_d64 : ∀ e ∈ am_cd nm_m64, decode (am_b nm_m64) e.1 = .ok (e.2.1, e.2.2) := by decide +kernel
theorem nm_o64 : nm_okM nm_m64 [] := ⟨nm_d64, nm_pn1, (nm_in3 (List.mem_of_getElem? (i := 60) rfl) rfl), nm_ii1, nm_ne1, Nat.le_of_ble_eq_true rfl, Or.inl ⟨rfl, rfl⟩⟩
def nm_m65 : am_M := (⟨"CobolParser$Units", "setState", "(I)V"⟩, prog_11_method_8_code, 2, none, [], 2, [(0, .aload_n 0, 1), (1, .getfield 24, 3), (4, .ifCond .le 15, 3), (7, .aload_n 0, 1), (8, .getfield 9, 3), (11, .aload_n 0, 1), (12, .getfield 24, 3), (15, .iconst 1, 1), (16, .isub, 1), (17, .iload_n 1, 1), (18, .iastore, 1), (19, .return_, 1)])
set_option maxRecDepth 100000 in
theorem nm_d65 : ∀ e ∈ am_cd nm_m65, decode (am_b nm_m65) e.1 = .ok (e.2.1, e.2.2) := by decide +kernel
theorem nm_o65 : nm_okM nm_m65 [] := ⟨nm_d65, nm_pn8, (nm_in3 (List.mem_of_getElem? (i := 64) rfl) rfl), nm_ii8, nm_ne8, Nat.le_of_ble_eq_true rfl, Or.inl ⟨rfl, rfl⟩⟩
def nm_m66 : am_M := (⟨"CobolParser$Items", "readItem", "()V"⟩, prog_4_method_3_code, 5, none, [], 1, [(0, .aload_n 0, 1), (1, .getfield 25, 3), (4, .invokevirtual 37, 3), (7, .istore_n 1, 1), (8, .aload_n 0, 1), (9, .iload_n 1, 1), (10, .invokevirtual 43, 3), (13, .istore_n 2, 1), (14, .iload_n 2, 1), (15, .iconst (-1), 1), (16, .if_icmp .ne 11, 3), (19, .aload_n 0, 1), (20, .getfield 25, 3), (23, .iconst 1, 1), (24, .invokevirtual 47, 3), (27, .aload_n 0, 1), (28, .getfield 29, 3), (31, .bipush 12, 2), (33, .iconst 0, 1), (34, .aload_n 0, 1), (35, .getfield 25, 3), (38, .invokevirtual 53, 3), (41, .invokevirtual 56, 3), (44, .istore_n 3, 1), (45, .aload_n 0, 1), (46, .getfield 25, 3), (49, .invokevirtual 62, 3), (52, .aload_n 0, 1), (53, .getfield 29, 3), (56, .iload_n 3, 1), (57, .iconst 1, 1), (58, .sipush 1000, 3), (61, .iload_n 1, 1), (62, .imul, 1), (63, .aload_n 0, 1), (64, .invokevirtual 65, 3), (67, .iadd, 1), (68, .invokevirtual 68, 3), (71, .iconst 0, 1), (72, .istore 4, 2), (74, .iload 4, 2), (76, .sipush 1500, 3), (79, .if_icmp .ge 25, 3), (82, .aload_n 0, 1), (83, .getfield 25, 3), (86, .iconst 4, 1), (87, .invokevirtual 72, 3), (90, .ifCond .ne 14, 3), (93, .aload_n 0, 1), (94, .iload_n 3, 1), (95, .invokevirtual 76, 3), (98, .iinc 4 1, 3), (101, .goto (-27), 3), (104, .aload_n 0, 1), (105, .getfield 25, 3), (108, .iconst 4, 1), (109, .invokevirtual 79, 3), (112, .pop, 1), (113, .aload_n 0, 1), (114, .iload_n 3, 1), (115, .iload_n 1, 1), (116, .iload_n 2, 1), (117, .invokevirtual 82, 3), (120, .return_, 1)])
set_option maxRecDepth 100000 in
theorem nm_d66 : ∀ e ∈ am_cd nm_m66, decode (am_b nm_m66) e.1 = .ok (e.2.1, e.2.2) := by decide +kernel
theorem nm_o66 : nm_okM nm_m66 [] := ⟨nm_d66, nm_pn3, (nm_in3 (List.mem_of_getElem? (i := 68) rfl) rfl), nm_ii3, nm_ne3, Nat.le_of_ble_eq_true rfl, Or.inl ⟨rfl, rfl⟩⟩
def nm_m67 : am_M := (⟨"CobolParser$Items", "keptOpen", "(I)I"⟩, prog_4_method_4_code, 3, (some .int), [], 2, [(0, .iload_n 1, 1), (1, .iconst 1, 1), (2, .if_icmp .eq 9, 3), (5, .iload_n 1, 1), (6, .bipush 77, 2), (8, .if_icmp .ne 5, 3), (11, .iconst 0, 1), (12, .ireturn, 1), (13, .iload_n 1, 1), (14, .bipush 88, 2), (16, .if_icmp .ne 19, 3), (19, .aload_n 0, 1), (20, .getfield 18, 3), (23, .ifCond .le 10, 3), (26, .aload_n 0, 1), (27, .getfield 18, 3), (30, .goto 4, 3), (33, .iconst (-1), 1), (34, .ireturn, 1), (35, .iload_n 1, 1), (36, .iconst 1, 1), (37, .if_icmp .lt 9, 3), (40, .iload_n 1, 1), (41, .bipush 49, 2), (43, .if_icmp .le 5, 3), (46, .iconst (-1), 1), (47, .ireturn, 1), (48, .aload_n 0, 1), (49, .getfield 18, 3), (52, .istore_n 2, 1), (53, .iload_n 2, 1), (54, .ifCond .le 29, 3), (57, .iload_n 2, 1), (58, .bipush 49, 2), (60, .if_icmp .gt 23, 3), (63, .aload_n 0, 1), (64, .getfield 11, 3), (67, .iload_n 2, 1), (68, .iconst 1, 1), (69, .isub, 1), (70, .iaload, 1), (71, .iload_n 1, 1), (72, .if_icmp .ge 5, 3), (75, .iload_n 2, 1), (76, .ireturn, 1), (77, .iinc 2 (-1), 3), (80, .goto (-27), 3), (83, .iconst (-1), 1), (84, .ireturn, 1)])
set_option maxRecDepth 100000 in
theorem nm_d67 : ∀ e ∈ am_cd nm_m67, decode (am_b nm_m67) e.1 = .ok (e.2.1, e.2.2) := by decide +kernel
theorem nm_o67 : nm_okM nm_m67 [] := ⟨nm_d67, nm_pn3, (nm_in3 (List.mem_of_getElem? (i := 73) rfl) rfl), nm_ii3, nm_ne3, Nat.le_of_ble_eq_true rfl, Or.inl ⟨rfl, rfl⟩⟩
def nm_m68 : am_M := (⟨"CobolParser$Items", "nameOrFiller", "()I"⟩, prog_4_method_6_code, 1, (some .int), [], 1, [(0, .aload_n 0, 1), (1, .getfield 25, 3), (4, .iconst 1, 1), (5, .invokevirtual 72, 3), (8, .ifCond .eq 14, 3), (11, .aload_n 0, 1), (12, .getfield 25, 3), (15, .iconst 1, 1), (16, .invokevirtual 79, 3), (19, .iconst 1, 1), (20, .iadd, 1), (21, .ireturn, 1), (22, .aload_n 0, 1), (23, .getfield 25, 3), (26, .bipush 18, 2), (28, .invokevirtual 90, 3), (31, .pop, 1), (32, .iconst 0, 1), (33, .ireturn, 1)])
set_option maxRecDepth 100000 in
theorem nm_d68 : ∀ e ∈ am_cd nm_m68, decode (am_b nm_m68) e.1 = .ok (e.2.1, e.2.2) := by decide +kernel
theorem nm_o68 : nm_okM nm_m68 [] := ⟨nm_d68, nm_pn3, (nm_in3 (List.mem_of_getElem? (i := 81) rfl) rfl), nm_ii3, nm_ne3, Nat.le_of_ble_eq_true rfl, Or.inl ⟨rfl, rfl⟩⟩
def nm_m69 : am_M := (⟨"CobolParser$Tree", "set", "(III)V"⟩, prog_10_method_6_code, 4, none, [], 4, [(0, .iload_n 1, 1), (1, .ifCond .lt 33, 3), (4, .iload_n 1, 1), (5, .aload_n 0, 1), (6, .getfield 15, 3), (9, .if_icmp .ge 25, 3), (12, .iload_n 2, 1), (13, .ifCond .lt 21, 3), (16, .iload_n 2, 1), (17, .bipush 12, 2), (19, .if_icmp .ge 15, 3), (22, .aload_n 0, 1), (23, .getfield 11, 3), (26, .iload_n 1, 1), (27, .bipush 12, 2), (29, .imul, 1), (30, .iload_n 2, 1), (31, .iadd, 1), (32, .iload_n 3, 1), (33, .iastore, 1), (34, .return_, 1)])
set_option maxRecDepth 100000 in
theorem nm_d69 : ∀ e ∈ am_cd nm_m69, decode (am_b nm_m69) e.1 = .ok (e.2.1, e.2.2) := by decide +kernel
theorem nm_o69 : nm_okM nm_m69 [] := ⟨nm_d69, nm_pn7, (nm_in3 (List.mem_of_getElem? (i := 88) rfl) rfl), nm_ii7, nm_ne7, Nat.le_of_ble_eq_true rfl, Or.inl ⟨rfl, rfl⟩⟩
def nm_m70 : am_M := (⟨"CobolParser$Items", "itemClause", "(I)V"⟩, prog_4_method_7_code, 2, none, [], 2, [(0, .aload_n 0, 1), (1, .getfield 25, 3), (4, .iconst 0, 1), (5, .invokevirtual 72, 3), (8, .ifCond .ne 11, 3), (11, .aload_n 0, 1), (12, .getfield 25, 3), (15, .iconst 1, 1), (16, .invokevirtual 47, 3), (19, .aload_n 0, 1), (20, .getfield 25, 3), (23, .invokevirtual 37, 3), (26, .tableswitch 90 19 27 #[50, 58, 90, 66, 90, 90, 90, 74, 82], 50), (76, .aload_n 0, 1), (77, .iload_n 1, 1), (78, .invokevirtual 93, 3), (81, .goto 43, 3), (84, .aload_n 0, 1), (85, .iload_n 1, 1), (86, .invokevirtual 96, 3), (89, .goto 35, 3), (92, .aload_n 0, 1), (93, .iload_n 1, 1), (94, .invokevirtual 99, 3), (97, .goto 27, 3), (100, .aload_n 0, 1), (101, .iload_n 1, 1), (102, .invokevirtual 102, 3), (105, .goto 19, 3), (108, .aload_n 0, 1), (109, .iload_n 1, 1), (110, .invokevirtual 105, 3), (113, .goto 11, 3), (116, .aload_n 0, 1), (117, .getfield 25, 3), (120, .iconst 1, 1), (121, .invokevirtual 47, 3), (124, .return_, 1)])
set_option maxRecDepth 100000 in
theorem nm_d70 : ∀ e ∈ am_cd nm_m70, decode (am_b nm_m70) e.1 = .ok (e.2.1, e.2.2) := by decide +kernel
theorem nm_o70 : nm_okM nm_m70 [] := ⟨nm_d70, nm_pn3, (nm_in3 (List.mem_of_getElem? (i := 92) rfl) rfl), nm_ii3, nm_ne3, Nat.le_of_ble_eq_true rfl, Or.inl ⟨rfl, rfl⟩⟩
def nm_m71 : am_M := (⟨"CobolParser$Items", "picture", "(I)V"⟩, prog_4_method_9_code, 3, none, [], 2, [(0, .aload_n 0, 1), (1, .iload_n 1, 1), (2, .bipush 13, 2), (4, .invokevirtual 108, 3), (7, .istore_n 2, 1), (8, .aload_n 0, 1), (9, .getfield 25, 3), (12, .bipush 67, 2), (14, .invokevirtual 90, 3), (17, .pop, 1), (18, .aload_n 0, 1), (19, .getfield 29, 3), (22, .iload_n 2, 1), (23, .iconst 1, 1), (24, .aload_n 0, 1), (25, .getfield 25, 3), (28, .iconst 3, 1), (29, .invokevirtual 79, 3), (32, .invokevirtual 68, 3), (35, .return_, 1)])
set_option maxRecDepth 100000 in
theorem nm_d71 : ∀ e ∈ am_cd nm_m71, decode (am_b nm_m71) e.1 = .ok (e.2.1, e.2.2) := by decide +kernel
theorem nm_o71 : nm_okM nm_m71 [] := ⟨nm_d71, nm_pn3, (nm_in3 (List.mem_of_getElem? (i := 96) rfl) rfl), nm_ii3, nm_ne3, Nat.le_of_ble_eq_true rfl, Or.inl ⟨rfl, rfl⟩⟩
def nm_m72 : am_M := (⟨"CobolParser$Items", "beginIn", "(II)I"⟩, prog_4_method_8_code, 4, (some .int), [], 3, [(0, .aload_n 0, 1), (1, .getfield 29, 3), (4, .iload_n 2, 1), (5, .iconst 0, 1), (6, .aload_n 0, 1), (7, .getfield 25, 3), (10, .invokevirtual 53, 3), (13, .invokevirtual 56, 3), (16, .istore_n 3, 1), (17, .aload_n 0, 1), (18, .getfield 29, 3), (21, .iload_n 1, 1), (22, .iload_n 3, 1), (23, .invokevirtual 84, 3), (26, .aload_n 0, 1), (27, .getfield 25, 3), (30, .invokevirtual 62, 3), (33, .iload_n 3, 1), (34, .ireturn, 1)])
set_option maxRecDepth 100000 in
theorem nm_d72 : ∀ e ∈ am_cd nm_m72, decode (am_b nm_m72) e.1 = .ok (e.2.1, e.2.2) := by decide +kernel
theorem nm_o72 : nm_okM nm_m72 [] := ⟨nm_d72, nm_pn3, (nm_in3 (List.mem_of_getElem? (i := 100) rfl) rfl), nm_ii3, nm_ne3, Nat.le_of_ble_eq_true rfl, Or.inl ⟨rfl, rfl⟩⟩
def nm_m73 : am_M := (⟨"CobolParser$Items", "literals", "(I)V"⟩, prog_4_method_10_code, 3, none, [], 2, [(0, .aload_n 0, 1), (1, .iload_n 1, 1), (2, .bipush 14, 2), (4, .invokevirtual 108, 3), (7, .istore_n 2, 1), (8, .aload_n 0, 1), (9, .getfield 25, 3), (12, .bipush 67, 2), (14, .invokevirtual 90, 3), (17, .pop, 1), (18, .aload_n 0, 1), (19, .iload_n 2, 1), (20, .invokevirtual 112, 3), (23, .aload_n 0, 1), (24, .getfield 25, 3), (27, .bipush 21, 2), (29, .invokevirtual 90, 3), (32, .ifCond .eq 8, 3), (35, .aload_n 0, 1), (36, .iload_n 2, 1), (37, .invokevirtual 112, 3), (40, .return_, 1)])
set_option maxRecDepth 100000 in
theorem nm_d73 : ∀ e ∈ am_cd nm_m73, decode (am_b nm_m73) e.1 = .ok (e.2.1, e.2.2) := by decide +kernel
theorem nm_o73 : nm_okM nm_m73 [] := ⟨nm_d73, nm_pn3, (nm_in3 (List.mem_of_getElem? (i := 105) rfl) rfl), nm_ii3, nm_ne3, Nat.le_of_ble_eq_true rfl, Or.inl ⟨rfl, rfl⟩⟩
def nm_m74 : am_M := (⟨"CobolParser$Items", "literal", "(I)V"⟩, prog_4_method_11_code, 2, none, [], 2, [(0, .aload_n 0, 1), (1, .getfield 25, 3), (4, .iconst 1, 1), (5, .invokevirtual 72, 3), (8, .ifCond .eq 11, 3), (11, .aload_n 0, 1), (12, .getfield 25, 3), (15, .iconst 1, 1), (16, .invokevirtual 47, 3), (19, .aload_n 0, 1), (20, .getfield 29, 3), (23, .iload_n 1, 1), (24, .aload_n 0, 1), (25, .getfield 33, 3), (28, .invokevirtual 115, 3), (31, .invokevirtual 84, 3), (34, .return_, 1)])
set_option maxRecDepth 100000 in
theorem nm_d74 : ∀ e ∈ am_cd nm_m74, decode (am_b nm_m74) e.1 = .ok (e.2.1, e.2.2) := by decide +kernel
theorem nm_o74 : nm_okM nm_m74 [] := ⟨nm_d74, nm_pn3, (nm_in3 (List.mem_of_getElem? (i := 109) rfl) rfl), nm_ii3, nm_ne3, Nat.le_of_ble_eq_true rfl, Or.inl ⟨rfl, rfl⟩⟩
def nm_m75 : am_M := (⟨"CobolParser$Leaves", "operand", "()I"⟩, prog_5_method_2_code, 2, (some .int), [], 1, [(0, .aload_n 0, 1), (1, .getfield 9, 3), (4, .invokevirtual 19, 3), (7, .ifCond .ne 11, 3), (10, .aload_n 0, 1), (11, .getfield 9, 3), (14, .iconst 1, 1), (15, .invokevirtual 25, 3), (18, .aload_n 0, 1), (19, .getfield 15, 3), (22, .bipush 41, 2), (24, .ldc 31, 2), (26, .aload_n 0, 1), (27, .getfield 9, 3), (30, .invokevirtual 32, 3), (33, .imul, 1), (34, .aload_n 0, 1), (35, .getfield 9, 3), (38, .invokevirtual 36, 3), (41, .iadd, 1), (42, .aload_n 0, 1), (43, .getfield 9, 3), (46, .invokevirtual 39, 3), (49, .invokevirtual 42, 3), (52, .istore_n 1, 1), (53, .aload_n 0, 1), (54, .getfield 9, 3), (57, .invokevirtual 48, 3), (60, .iload_n 1, 1), (61, .ireturn, 1)])
set_option maxRecDepth 100000 in
theorem nm_d75 : ∀ e ∈ am_cd nm_m75, decode (am_b nm_m75) e.1 = .ok (e.2.1, e.2.2) := by decide +kernel
theorem nm_o75 : nm_okM nm_m75 [] := ⟨nm_d75, nm_pn4, (nm_in3 (List.mem_of_getElem? (i := 113) rfl) rfl), nm_ii4, nm_ne4, Nat.le_of_ble_eq_true rfl, Or.inl ⟨rfl, rfl⟩⟩
def nm_m76 : am_M := (⟨"CobolParser$Row", "isOperand", "()Z"⟩, prog_8_method_13_code, 1, (some .boolean), [], 1, [(0, .aload_n 0, 1), (1, .getfield 22, 3), (4, .aload_n 0, 1), (5, .getfield 18, 3), (8, .if_icmp .ge 46, 3), (11, .aload_n 0, 1), (12, .getfield 11, 3), (15, .aload_n 0, 1), (16, .getfield 22, 3), (19, .iaload, 1), (20, .iconst 1, 1), (21, .if_icmp .eq 29, 3), (24, .aload_n 0, 1), (25, .getfield 11, 3), (28, .aload_n 0, 1), (29, .getfield 22, 3), (32, .iaload, 1), (33, .iconst 2, 1), (34, .if_icmp .eq 16, 3), (37, .aload_n 0, 1), (38, .getfield 11, 3), (41, .aload_n 0, 1), (42, .getfield 22, 3), (45, .iaload, 1), (46, .iconst 3, 1), (47, .if_icmp .ne 7, 3), (50, .iconst 1, 1), (51, .goto 4, 3), (54, .iconst 0, 1), (55, .ireturn, 1)])
set_option maxRecDepth 100000 in
theorem nm_d76 : ∀ e ∈ am_cd nm_m76, decode (am_b nm_m76) e.1 = .ok (e.2.1, e.2.2) := by decide +kernel
theorem nm_o76 : nm_okM nm_m76 [] := ⟨nm_d76, nm_pn5, (nm_in3 (List.mem_of_getElem? (i := 117) rfl) rfl), nm_ii5, nm_ne5, Nat.le_of_ble_eq_true rfl, Or.inl ⟨rfl, rfl⟩⟩
def nm_m77 : am_M := (⟨"CobolParser$Row", "kind", "()I"⟩, prog_8_method_15_code, 1, (some .int), [], 1, [(0, .aload_n 0, 1), (1, .getfield 22, 3), (4, .aload_n 0, 1), (5, .getfield 18, 3), (8, .if_icmp .ge 15, 3), (11, .aload_n 0, 1), (12, .getfield 11, 3), (15, .aload_n 0, 1), (16, .getfield 22, 3), (19, .iaload, 1), (20, .goto 4, 3), (23, .iconst (-1), 1), (24, .ireturn, 1)])
set_option maxRecDepth 100000 in
theorem nm_d77 : ∀ e ∈ am_cd nm_m77, decode (am_b nm_m77) e.1 = .ok (e.2.1, e.2.2) := by decide +kernel
theorem nm_o77 : nm_okM nm_m77 [] := ⟨nm_d77, nm_pn5, (nm_in3 (List.mem_of_getElem? (i := 123) rfl) rfl), nm_ii5, nm_ne5, Nat.le_of_ble_eq_true rfl, Or.inl ⟨rfl, rfl⟩⟩
def nm_m78 : am_M := (⟨"CobolParser$Items", "occurs", "(I)V"⟩, prog_4_method_12_code, 3, none, [], 2, [(0, .aload_n 0, 1), (1, .iload_n 1, 1), (2, .bipush 15, 2), (4, .invokevirtual 108, 3), (7, .istore_n 2, 1), (8, .aload_n 0, 1), (9, .getfield 29, 3), (12, .iload_n 2, 1), (13, .iconst 1, 1), (14, .aload_n 0, 1), (15, .getfield 25, 3), (18, .iconst 2, 1), (19, .invokevirtual 79, 3), (22, .invokevirtual 68, 3), (25, .aload_n 0, 1), (26, .getfield 25, 3), (29, .bipush 23, 2), (31, .invokevirtual 90, 3), (34, .pop, 1), (35, .aload_n 0, 1), (36, .getfield 25, 3), (39, .bipush 24, 2), (41, .invokevirtual 90, 3), (44, .ifCond .eq 13, 3), (47, .aload_n 0, 1), (48, .getfield 33, 3), (51, .iload_n 2, 1), (52, .bipush 16, 2), (54, .invokevirtual 120, 3), (57, .aload_n 0, 1), (58, .getfield 25, 3), (61, .bipush 10, 2), (63, .invokevirtual 90, 3), (66, .ifCond .eq 23, 3), (69, .aload_n 0, 1), (70, .getfield 25, 3), (73, .bipush 25, 2), (75, .invokevirtual 90, 3), (78, .pop, 1), (79, .aload_n 0, 1), (80, .getfield 33, 3), (83, .iload_n 2, 1), (84, .bipush 17, 2), (86, .invokevirtual 123, 3), (89, .return_, 1)])
set_option maxRecDepth 100000 in
theorem nm_d78 : ∀ e ∈ am_cd nm_m78, decode (am_b nm_m78) e.1 = .ok (e.2.1, e.2.2) := by decide +kernel
theorem nm_o78 : nm_okM nm_m78 [] := ⟨nm_d78, nm_pn3, (nm_in3 (List.mem_of_getElem? (i := 131) rfl) rfl), nm_ii3, nm_ne3, Nat.le_of_ble_eq_true rfl, Or.inl ⟨rfl, rfl⟩⟩
def nm_m79 : am_M := (⟨"CobolParser$Leaves", "nameIn", "(II)V"⟩, prog_5_method_4_code, 4, none, [], 3, [(0, .aload_n 0, 1), (1, .getfield 9, 3), (4, .iconst 1, 1), (5, .invokevirtual 58, 3), (8, .ifCond .ne 11, 3), (11, .aload_n 0, 1), (12, .getfield 9, 3), (15, .iconst 1, 1), (16, .invokevirtual 25, 3), (19, .iload_n 2, 1), (20, .bipush 41, 2), (22, .if_icmp .ne 8, 3), (25, .ldc 31, 2), (27, .goto 4, 3), (30, .iconst 0, 1), (31, .istore_n 3, 1), (32, .aload_n 0, 1), (33, .getfield 15, 3), (36, .iload_n 1, 1), (37, .aload_n 0, 1), (38, .getfield 15, 3), (41, .iload_n 2, 1), (42, .iload_n 3, 1), (43, .aload_n 0, 1), (44, .getfield 9, 3), (47, .invokevirtual 36, 3), (50, .iadd, 1), (51, .aload_n 0, 1), (52, .getfield 9, 3), (55, .invokevirtual 39, 3), (58, .invokevirtual 42, 3), (61, .invokevirtual 54, 3), (64, .aload_n 0, 1), (65, .getfield 9, 3), (68, .invokevirtual 48, 3), (71, .return_, 1)])
set_option maxRecDepth 100000 in
theorem nm_d79 : ∀ e ∈ am_cd nm_m79, decode (am_b nm_m79) e.1 = .ok (e.2.1, e.2.2) := by decide +kernel
theorem nm_o79 : nm_okM nm_m79 [] := ⟨nm_d79, nm_pn4, (nm_in3 (List.mem_of_getElem? (i := 135) rfl) rfl), nm_ii4, nm_ne4, Nat.le_of_ble_eq_true rfl, Or.inl ⟨rfl, rfl⟩⟩
end
section
/-! methods, their code decoded, by wip/whole/gen.py -/
def nm_m80 : am_M := (⟨"CobolParser$Leaves", "namesIn", "(II)V"⟩, prog_5_method_5_code, 4, none, [], 3, [(0, .aload_n 0, 1), (1, .iload_n 1, 1), (2, .iload_n 2, 1), (3, .invokevirtual 62, 3), (6, .iconst 0, 1), (7, .istore_n 3, 1), (8, .iload_n 3, 1), (9, .sipush 1500, 3), (12, .if_icmp .ge 26, 3), (15, .aload_n 0, 1), (16, .getfield 9, 3), (19, .iconst 1, 1), (20, .invokevirtual 58, 3), (23, .ifCond .eq 15, 3), (26, .aload_n 0, 1), (27, .iload_n 1, 1), (28, .iload_n 2, 1), (29, .invokevirtual 62, 3), (32, .iinc 3 1, 3), (35, .goto (-27), 3), (38, .return_, 1)])
set_option maxRecDepth 100000 in
theorem nm_d80 : ∀ e ∈ am_cd nm_m80, decode (am_b nm_m80) e.1 = .ok (e.2.1, e.2.2) := by decide +kernel
theorem nm_o80 : nm_okM nm_m80 [] := ⟨nm_d80, nm_pn4, (nm_in3 (List.mem_of_getElem? (i := 141) rfl) rfl), nm_ii4, nm_ne4, Nat.le_of_ble_eq_true rfl, Or.inl ⟨rfl, rfl⟩⟩
def nm_m81 : am_M := (⟨"CobolParser$Items", "redefines", "(I)V"⟩, prog_4_method_13_code, 3, none, [], 2, [(0, .aload_n 0, 1), (1, .iload_n 1, 1), (2, .bipush 18, 2), (4, .invokevirtual 108, 3), (7, .istore_n 2, 1), (8, .aload_n 0, 1), (9, .getfield 29, 3), (12, .iload_n 2, 1), (13, .iconst 1, 1), (14, .aload_n 0, 1), (15, .getfield 25, 3), (18, .iconst 1, 1), (19, .invokevirtual 79, 3), (22, .invokevirtual 68, 3), (25, .return_, 1)])
set_option maxRecDepth 100000 in
theorem nm_d81 : ∀ e ∈ am_cd nm_m81, decode (am_b nm_m81) e.1 = .ok (e.2.1, e.2.2) := by decide +kernel
theorem nm_o81 : nm_okM nm_m81 [] := ⟨nm_d81, nm_pn3, (nm_in3 (List.mem_of_getElem? (i := 146) rfl) rfl), nm_ii3, nm_ne3, Nat.le_of_ble_eq_true rfl, Or.inl ⟨rfl, rfl⟩⟩
def nm_m82 : am_M := (⟨"CobolParser$Items", "usage", "(I)V"⟩, prog_4_method_14_code, 3, none, [], 2, [(0, .aload_n 0, 1), (1, .iload_n 1, 1), (2, .bipush 19, 2), (4, .invokevirtual 108, 3), (7, .istore_n 2, 1), (8, .aload_n 0, 1), (9, .getfield 25, 3), (12, .bipush 67, 2), (14, .invokevirtual 90, 3), (17, .pop, 1), (18, .aload_n 0, 1), (19, .getfield 25, 3), (22, .bipush 29, 2), (24, .invokevirtual 90, 3), (27, .ifCond .eq 16, 3), (30, .aload_n 0, 1), (31, .getfield 29, 3), (34, .iload_n 2, 1), (35, .iconst 1, 1), (36, .iconst 1, 1), (37, .invokevirtual 68, 3), (40, .goto 12, 3), (43, .aload_n 0, 1), (44, .getfield 25, 3), (47, .bipush 28, 2), (49, .invokevirtual 126, 3), (52, .return_, 1)])
set_option maxRecDepth 100000 in
theorem nm_d82 : ∀ e ∈ am_cd nm_m82, decode (am_b nm_m82) e.1 = .ok (e.2.1, e.2.2) := by decide +kernel
theorem nm_o82 : nm_okM nm_m82 [] := ⟨nm_d82, nm_pn3, (nm_in3 (List.mem_of_getElem? (i := 150) rfl) rfl), nm_ii3, nm_ne3, Nat.le_of_ble_eq_true rfl, Or.inl ⟨rfl, rfl⟩⟩
def nm_m83 : am_M := (⟨"CobolParser$Row", "require", "(I)V"⟩, prog_8_method_18_code, 2, none, [], 2, [(0, .aload_n 0, 1), (1, .iload_n 1, 1), (2, .invokevirtual 45, 3), (5, .ifCond .ne 8, 3), (8, .aload_n 0, 1), (9, .iconst 1, 1), (10, .invokevirtual 49, 3), (13, .return_, 1)])
set_option maxRecDepth 100000 in
theorem nm_d83 : ∀ e ∈ am_cd nm_m83, decode (am_b nm_m83) e.1 = .ok (e.2.1, e.2.2) := by decide +kernel
theorem nm_o83 : nm_okM nm_m83 [] := ⟨nm_d83, nm_pn5, (nm_in3 (List.mem_of_getElem? (i := 154) rfl) rfl), nm_ii5, nm_ne5, Nat.le_of_ble_eq_true rfl, Or.inl ⟨rfl, rfl⟩⟩
def nm_m84 : am_M := (⟨"CobolParser$Items", "place", "(III)V"⟩, prog_4_method_5_code, 5, none, [], 4, [(0, .iload_n 3, 1), (1, .ifCond .le 13, 3), (4, .iload_n 3, 1), (5, .bipush 49, 2), (7, .if_icmp .gt 7, 3), (10, .iconst 1, 1), (11, .goto 4, 3), (14, .iconst 0, 1), (15, .istore 4, 2), (17, .aload_n 0, 1), (18, .getfield 29, 3), (21, .iload 4, 2), (23, .ifCond .eq 14, 3), (26, .aload_n 0, 1), (27, .getfield 15, 3), (30, .iload_n 3, 1), (31, .iconst 1, 1), (32, .isub, 1), (33, .iaload, 1), (34, .goto 7, 3), (37, .aload_n 0, 1), (38, .getfield 22, 3), (41, .iload_n 1, 1), (42, .invokevirtual 84, 3), (45, .iload_n 2, 1), (46, .bipush 88, 2), (48, .if_icmp .eq 34, 3), (51, .iload_n 3, 1), (52, .ifCond .lt 30, 3), (55, .iload_n 3, 1), (56, .bipush 49, 2), (58, .if_icmp .ge 24, 3), (61, .aload_n 0, 1), (62, .getfield 11, 3), (65, .iload_n 3, 1), (66, .iload_n 2, 1), (67, .iastore, 1), (68, .aload_n 0, 1), (69, .getfield 15, 3), (72, .iload_n 3, 1), (73, .iload_n 1, 1), (74, .iastore, 1), (75, .aload_n 0, 1), (76, .iload_n 3, 1), (77, .iconst 1, 1), (78, .iadd, 1), (79, .putfield 18, 3), (82, .return_, 1)])
set_option maxRecDepth 100000 in
theorem nm_d84 : ∀ e ∈ am_cd nm_m84, decode (am_b nm_m84) e.1 = .ok (e.2.1, e.2.2) := by decide +kernel
theorem nm_o84 : nm_okM nm_m84 [] := ⟨nm_d84, nm_pn3, (nm_in3 (List.mem_of_getElem? (i := 159) rfl) rfl), nm_ii3, nm_ne3, Nat.le_of_ble_eq_true rfl, Or.inl ⟨rfl, rfl⟩⟩
def nm_m85 : am_M := (⟨"CobolParser$Statements", "isNext", "()Z"⟩, prog_9_method_2_code, 3, (some .boolean), [], 1, [(0, .aload_n 0, 1), (1, .getfield 9, 3), (4, .invokevirtual 27, 3), (7, .istore_n 1, 1), (8, .iload_n 1, 1), (9, .bipush 36, 2), (11, .if_icmp .lt 9, 3), (14, .iload_n 1, 1), (15, .bipush 47, 2), (17, .if_icmp .le 9, 3), (20, .iload_n 1, 1), (21, .bipush 29, 2), (23, .if_icmp .ne 7, 3), (26, .iconst 1, 1), (27, .goto 4, 3), (30, .iconst 0, 1), (31, .istore_n 2, 1), (32, .aload_n 0, 1), (33, .getfield 9, 3), (36, .iconst 0, 1), (37, .invokevirtual 35, 3), (40, .ifCond .eq 11, 3), (43, .iload_n 2, 1), (44, .ifCond .eq 7, 3), (47, .iconst 1, 1), (48, .goto 4, 3), (51, .iconst 0, 1), (52, .ireturn, 1)])
set_option maxRecDepth 100000 in
theorem nm_d85 : ∀ e ∈ am_cd nm_m85, decode (am_b nm_m85) e.1 = .ok (e.2.1, e.2.2) := by decide +kernel
theorem nm_o85 : nm_okM nm_m85 [] := ⟨nm_d85, nm_pn6, (nm_in3 (List.mem_of_getElem? (i := 163) rfl) rfl), nm_ii6, nm_ne6, Nat.le_of_ble_eq_true rfl, Or.inl ⟨rfl, rfl⟩⟩
def nm_m86 : am_M := (⟨"CobolParser$Clauses", "sentence", "()V"⟩, prog_2_method_24_code, 3, none, [], 1, [(0, .aload_n 0, 1), (1, .bipush 8, 2), (3, .bipush 11, 2), (5, .invokevirtual 77, 3), (8, .aload_n 0, 1), (9, .aload_n 0, 1), (10, .invokevirtual 222, 3), (13, .invokevirtual 112, 3), (16, .aload_n 0, 1), (17, .getfield 43, 3), (20, .bipush 25, 2), (22, .iconst 0, 1), (23, .invokevirtual 228, 3), (26, .istore_n 1, 1), (27, .aload_n 0, 1), (28, .getfield 31, 3), (31, .iconst 4, 1), (32, .invokevirtual 160, 3), (35, .pop, 1), (36, .aload_n 0, 1), (37, .getfield 25, 3), (40, .iconst (-1), 1), (41, .if_icmp .ne 10, 3), (44, .aload_n 0, 1), (45, .getfield 18, 3), (48, .goto 7, 3), (51, .aload_n 0, 1), (52, .getfield 25, 3), (55, .istore_n 2, 1), (56, .aload_n 0, 1), (57, .getfield 35, 3), (60, .aload_n 0, 1), (61, .getfield 28, 3), (64, .iconst (-1), 1), (65, .if_icmp .ne 7, 3), (68, .iload_n 2, 1), (69, .goto 7, 3), (72, .aload_n 0, 1), (73, .getfield 28, 3), (76, .iload_n 1, 1), (77, .invokevirtual 164, 3), (80, .aload_n 0, 1), (81, .invokevirtual 225, 3), (84, .return_, 1)])
set_option maxRecDepth 100000 in
theorem nm_d86 : ∀ e ∈ am_cd nm_m86, decode (am_b nm_m86) e.1 = .ok (e.2.1, e.2.2) := by decide +kernel
theorem nm_o86 : nm_okM nm_m86 [] := ⟨nm_d86, nm_pn1, (nm_in3 (List.mem_of_getElem? (i := 169) rfl) rfl), nm_ii1, nm_ne1, Nat.le_of_ble_eq_true rfl, Or.inl ⟨rfl, rfl⟩⟩
def nm_m87 : am_M := (⟨"CobolParser$Statements", "list", "(II)I"⟩, prog_9_method_3_code, 5, (some .int), [], 3, [(0, .aload_n 0, 1), (1, .invokevirtual 39, 3), (4, .ifCond .ne 11, 3), (7, .aload_n 0, 1), (8, .getfield 9, 3), (11, .iconst 1, 1), (12, .invokevirtual 43, 3), (15, .iload_n 2, 1), (16, .bipush 40, 2), (18, .if_icmp .le 11, 3), (21, .aload_n 0, 1), (22, .getfield 9, 3), (25, .iconst 3, 1), (26, .invokevirtual 43, 3), (29, .aload_n 0, 1), (30, .getfield 15, 3), (33, .iload_n 1, 1), (34, .iconst 0, 1), (35, .aload_n 0, 1), (36, .getfield 9, 3), (39, .invokevirtual 47, 3), (42, .invokevirtual 50, 3), (45, .istore_n 3, 1), (46, .iconst 0, 1), (47, .istore 4, 2), (49, .iload 4, 2), (51, .sipush 1500, 3), (54, .if_icmp .ge 29, 3), (57, .aload_n 0, 1), (58, .invokevirtual 39, 3), (61, .ifCond .eq 22, 3), (64, .aload_n 0, 1), (65, .getfield 15, 3), (68, .iload_n 3, 1), (69, .aload_n 0, 1), (70, .iload_n 2, 1), (71, .invokevirtual 56, 3), (74, .invokevirtual 60, 3), (77, .iinc 4 1, 3), (80, .goto (-31), 3), (83, .iload_n 3, 1), (84, .ireturn, 1)])
set_option maxRecDepth 100000 in
theorem nm_d87 : ∀ e ∈ am_cd nm_m87, decode (am_b nm_m87) e.1 = .ok (e.2.1, e.2.2) := by decide +kernel
theorem nm_o87 : nm_okM nm_m87 [] := ⟨nm_d87, nm_pn6, (nm_in3 (List.mem_of_getElem? (i := 173) rfl) rfl), nm_ii6, nm_ne6, Nat.le_of_ble_eq_true rfl, Or.inl ⟨rfl, rfl⟩⟩
def nm_m88 : am_M := (⟨"CobolParser$Statements", "statement", "(I)I"⟩, prog_9_method_4_code, 2, (some .int), [], 2, [(0, .aload_n 0, 1), (1, .getfield 9, 3), (4, .invokevirtual 27, 3), (7, .tableswitch 155 29 46 #[126, 155, 155, 155, 155, 155, 155, 85, 90, 96, 102, 108, 114, 120, 131, 136, 141, 148], 85), (92, .aload_n 0, 1), (93, .invokevirtual 64, 3), (96, .ireturn, 1), (97, .aload_n 0, 1), (98, .iload_n 1, 1), (99, .invokevirtual 67, 3), (102, .ireturn, 1), (103, .aload_n 0, 1), (104, .iload_n 1, 1), (105, .invokevirtual 70, 3), (108, .ireturn, 1), (109, .aload_n 0, 1), (110, .iload_n 1, 1), (111, .invokevirtual 73, 3), (114, .ireturn, 1), (115, .aload_n 0, 1), (116, .iload_n 1, 1), (117, .invokevirtual 76, 3), (120, .ireturn, 1), (121, .aload_n 0, 1), (122, .iload_n 1, 1), (123, .invokevirtual 79, 3), (126, .ireturn, 1), (127, .aload_n 0, 1), (128, .iload_n 1, 1), (129, .invokevirtual 82, 3), (132, .ireturn, 1), (133, .aload_n 0, 1), (134, .invokevirtual 85, 3), (137, .ireturn, 1), (138, .aload_n 0, 1), (139, .invokevirtual 88, 3), (142, .ireturn, 1), (143, .aload_n 0, 1), (144, .invokevirtual 91, 3), (147, .ireturn, 1), (148, .aload_n 0, 1), (149, .bipush 36, 2), (151, .invokevirtual 96, 3), (154, .ireturn, 1), (155, .aload_n 0, 1), (156, .bipush 37, 2), (158, .invokevirtual 96, 3), (161, .ireturn, 1), (162, .aload_n 0, 1), (163, .iload_n 1, 1), (164, .invokevirtual 99, 3), (167, .ireturn, 1)])
set_option maxRecDepth 100000 in
theorem nm_d88 : ∀ e ∈ am_cd nm_m88, decode (am_b nm_m88) e.1 = .ok (e.2.1, e.2.2) := by decide +kernel
theorem nm_o88 : nm_okM nm_m88 [] := ⟨nm_d88, nm_pn6, (nm_in3 (List.mem_of_getElem? (i := 181) rfl) rfl), nm_ii6, nm_ne6, Nat.le_of_ble_eq_true rfl, Or.inl ⟨rfl, rfl⟩⟩
def nm_m89 : am_M := (⟨"CobolParser$Statements", "move", "()I"⟩, prog_9_method_8_code, 2, (some .int), [], 1, [(0, .aload_n 0, 1), (1, .bipush 26, 2), (3, .invokevirtual 96, 3), (6, .istore_n 1, 1), (7, .aload_n 0, 1), (8, .getfield 19, 3), (11, .iload_n 1, 1), (12, .invokevirtual 120, 3), (15, .aload_n 0, 1), (16, .getfield 9, 3), (19, .bipush 48, 2), (21, .invokevirtual 123, 3), (24, .aload_n 0, 1), (25, .getfield 19, 3), (28, .iload_n 1, 1), (29, .bipush 41, 2), (31, .invokevirtual 126, 3), (34, .iload_n 1, 1), (35, .ireturn, 1)])
set_option maxRecDepth 100000 in
theorem nm_d89 : ∀ e ∈ am_cd nm_m89, decode (am_b nm_m89) e.1 = .ok (e.2.1, e.2.2) := by decide +kernel
theorem nm_o89 : nm_okM nm_m89 [] := ⟨nm_d89, nm_pn6, (nm_in3 (List.mem_of_getElem? (i := 185) rfl) rfl), nm_ii6, nm_ne6, Nat.le_of_ble_eq_true rfl, Or.inl ⟨rfl, rfl⟩⟩
def nm_m90 : am_M := (⟨"CobolParser$Statements", "begin", "(I)I"⟩, prog_9_method_5_code, 3, (some .int), [], 2, [(0, .aload_n 0, 1), (1, .getfield 15, 3), (4, .iload_n 1, 1), (5, .iconst 0, 1), (6, .aload_n 0, 1), (7, .getfield 9, 3), (10, .invokevirtual 47, 3), (13, .invokevirtual 50, 3), (16, .istore_n 2, 1), (17, .aload_n 0, 1), (18, .getfield 15, 3), (21, .iload_n 2, 1), (22, .iconst 3, 1), (23, .iconst 0, 1), (24, .invokevirtual 102, 3), (27, .aload_n 0, 1), (28, .getfield 9, 3), (31, .invokevirtual 106, 3), (34, .iload_n 2, 1), (35, .ireturn, 1)])
set_option maxRecDepth 100000 in
theorem nm_d90 : ∀ e ∈ am_cd nm_m90, decode (am_b nm_m90) e.1 = .ok (e.2.1, e.2.2) := by decide +kernel
theorem nm_o90 : nm_okM nm_m90 [] := ⟨nm_d90, nm_pn6, (nm_in3 (List.mem_of_getElem? (i := 189) rfl) rfl), nm_ii6, nm_ne6, Nat.le_of_ble_eq_true rfl, Or.inl ⟨rfl, rfl⟩⟩
def nm_m91 : am_M := (⟨"CobolParser$Leaves", "operandIn", "(I)V"⟩, prog_5_method_3_code, 2, none, [], 2, [(0, .aload_n 0, 1), (1, .getfield 15, 3), (4, .iload_n 1, 1), (5, .aload_n 0, 1), (6, .invokevirtual 51, 3), (9, .invokevirtual 54, 3), (12, .return_, 1)])
set_option maxRecDepth 100000 in
theorem nm_d91 : ∀ e ∈ am_cd nm_m91, decode (am_b nm_m91) e.1 = .ok (e.2.1, e.2.2) := by decide +kernel
theorem nm_o91 : nm_okM nm_m91 [] := ⟨nm_d91, nm_pn4, (nm_in3 (List.mem_of_getElem? (i := 195) rfl) rfl), nm_ii4, nm_ne4, Nat.le_of_ble_eq_true rfl, Or.inl ⟨rfl, rfl⟩⟩
def nm_m92 : am_M := (⟨"CobolParser$Statements", "add", "(I)I"⟩, prog_9_method_13_code, 3, (some .int), [], 2, [(0, .aload_n 0, 1), (1, .bipush 27, 2), (3, .invokevirtual 96, 3), (6, .istore_n 2, 1), (7, .aload_n 0, 1), (8, .iload_n 2, 1), (9, .invokevirtual 129, 3), (12, .aload_n 0, 1), (13, .getfield 9, 3), (16, .bipush 49, 2), (18, .invokevirtual 109, 3), (21, .ifCond .eq 26, 3), (24, .aload_n 0, 1), (25, .getfield 15, 3), (28, .iload_n 2, 1), (29, .iconst 1, 1), (30, .iconst 1, 1), (31, .invokevirtual 102, 3), (34, .aload_n 0, 1), (35, .getfield 19, 3), (38, .iload_n 2, 1), (39, .bipush 41, 2), (41, .invokevirtual 146, 3), (44, .goto 22, 3), (47, .aload_n 0, 1), (48, .getfield 9, 3), (51, .bipush 48, 2), (53, .invokevirtual 123, 3), (56, .aload_n 0, 1), (57, .getfield 19, 3), (60, .iload_n 2, 1), (61, .bipush 41, 2), (63, .invokevirtual 126, 3), (66, .aload_n 0, 1), (67, .getfield 9, 3), (70, .bipush 50, 2), (72, .invokevirtual 109, 3), (75, .ifCond .eq 29, 3), (78, .aload_n 0, 1), (79, .getfield 9, 3), (82, .bipush 51, 2), (84, .invokevirtual 123, 3), (87, .aload_n 0, 1), (88, .getfield 15, 3), (91, .iload_n 2, 1), (92, .aload_n 0, 1), (93, .bipush 40, 2), (95, .iload_n 1, 1), (96, .iconst 1, 1), (97, .iadd, 1), (98, .invokevirtual 149, 3), (101, .invokevirtual 60, 3), (104, .aload_n 0, 1), (105, .iload_n 2, 1), (106, .bipush 72, 2), (108, .invokevirtual 143, 3), (111, .iload_n 2, 1), (112, .ireturn, 1)])
set_option maxRecDepth 100000 in
theorem nm_d92 : ∀ e ∈ am_cd nm_m92, decode (am_b nm_m92) e.1 = .ok (e.2.1, e.2.2) := by decide +kernel
theorem nm_o92 : nm_okM nm_m92 [] := ⟨nm_d92, nm_pn6, (nm_in3 (List.mem_of_getElem? (i := 202) rfl) rfl), nm_ii6, nm_ne6, Nat.le_of_ble_eq_true rfl, Or.inl ⟨rfl, rfl⟩⟩
def nm_m93 : am_M := (⟨"CobolParser$Statements", "operandsIn", "(I)V"⟩, prog_9_method_7_code, 3, none, [], 2, [(0, .aload_n 0, 1), (1, .getfield 15, 3), (4, .iload_n 1, 1), (5, .aload_n 0, 1), (6, .getfield 19, 3), (9, .invokevirtual 112, 3), (12, .invokevirtual 60, 3), (15, .iconst 0, 1), (16, .istore_n 2, 1), (17, .iload_n 2, 1), (18, .sipush 1500, 3), (21, .if_icmp .ge 34, 3), (24, .aload_n 0, 1), (25, .getfield 9, 3), (28, .invokevirtual 117, 3), (31, .ifCond .eq 24, 3), (34, .aload_n 0, 1), (35, .getfield 15, 3), (38, .iload_n 1, 1), (39, .aload_n 0, 1), (40, .getfield 19, 3), (43, .invokevirtual 112, 3), (46, .invokevirtual 60, 3), (49, .iinc 2 1, 3), (52, .goto (-35), 3), (55, .return_, 1)])
set_option maxRecDepth 100000 in
theorem nm_d93 : ∀ e ∈ am_cd nm_m93, decode (am_b nm_m93) e.1 = .ok (e.2.1, e.2.2) := by decide +kernel
theorem nm_o93 : nm_okM nm_m93 [] := ⟨nm_d93, nm_pn6, (nm_in3 (List.mem_of_getElem? (i := 206) rfl) rfl), nm_ii6, nm_ne6, Nat.le_of_ble_eq_true rfl, Or.inl ⟨rfl, rfl⟩⟩
def nm_m94 : am_M := (⟨"CobolParser$Statements", "scopeEnd", "(II)V"⟩, prog_9_method_6_code, 3, none, [], 3, [(0, .aload_n 0, 1), (1, .getfield 9, 3), (4, .iload_n 2, 1), (5, .invokevirtual 109, 3), (8, .ifCond .eq 13, 3), (11, .aload_n 0, 1), (12, .getfield 15, 3), (15, .iload_n 1, 1), (16, .iconst 3, 1), (17, .iconst 1, 1), (18, .invokevirtual 102, 3), (21, .return_, 1)])
set_option maxRecDepth 100000 in
theorem nm_d94 : ∀ e ∈ am_cd nm_m94, decode (am_b nm_m94) e.1 = .ok (e.2.1, e.2.2) := by decide +kernel
theorem nm_o94 : nm_okM nm_m94 [] := ⟨nm_d94, nm_pn6, (nm_in3 (List.mem_of_getElem? (i := 216) rfl) rfl), nm_ii6, nm_ne6, Nat.le_of_ble_eq_true rfl, Or.inl ⟨rfl, rfl⟩⟩
def nm_m95 : am_M := (⟨"CobolParser$Statements", "ifElse", "(I)I"⟩, prog_9_method_14_code, 3, (some .int), [], 2, [(0, .aload_n 0, 1), (1, .bipush 28, 2), (3, .invokevirtual 96, 3), (6, .istore_n 2, 1), (7, .aload_n 0, 1), (8, .getfield 15, 3), (11, .iload_n 2, 1), (12, .aload_n 0, 1), (13, .getfield 23, 3), (16, .iload_n 1, 1), (17, .invokevirtual 153, 3), (20, .invokevirtual 60, 3), (23, .aload_n 0, 1), (24, .getfield 9, 3), (27, .bipush 52, 2), (29, .invokevirtual 109, 3), (32, .pop, 1), (33, .aload_n 0, 1), (34, .getfield 15, 3), (37, .iload_n 2, 1), (38, .aload_n 0, 1), (39, .iload_n 1, 1), (40, .invokevirtual 156, 3), (43, .invokevirtual 60, 3), (46, .aload_n 0, 1), (47, .getfield 9, 3), (50, .bipush 53, 2), (52, .invokevirtual 109, 3), (55, .ifCond .eq 16, 3), (58, .aload_n 0, 1), (59, .getfield 15, 3), (62, .iload_n 2, 1), (63, .aload_n 0, 1), (64, .iload_n 1, 1), (65, .invokevirtual 156, 3), (68, .invokevirtual 60, 3), (71, .aload_n 0, 1), (72, .iload_n 2, 1), (73, .bipush 73, 2), (75, .invokevirtual 143, 3), (78, .iload_n 2, 1), (79, .ireturn, 1)])
set_option maxRecDepth 100000 in
theorem nm_d95 : ∀ e ∈ am_cd nm_m95, decode (am_b nm_m95) e.1 = .ok (e.2.1, e.2.2) := by decide +kernel
theorem nm_o95 : nm_okM nm_m95 [] := ⟨nm_d95, nm_pn6, (nm_in3 (List.mem_of_getElem? (i := 220) rfl) rfl), nm_ii6, nm_ne6, Nat.le_of_ble_eq_true rfl, Or.inl ⟨rfl, rfl⟩⟩
def nm_m96 : am_M := (⟨"CobolParser$Expressions", "condition", "(I)I"⟩, prog_3_method_5_code, 5, (some .int), [], 2, [(0, .aload_n 0, 1), (1, .iconst (-1), 1), (2, .putfield 9, 3), (5, .aload_n 0, 1), (6, .iload_n 1, 1), (7, .invokevirtual 84, 3), (10, .istore_n 2, 1), (11, .aload_n 0, 1), (12, .getfield 18, 3), (15, .bipush 66, 2), (17, .iconst 0, 1), (18, .invokevirtual 89, 3), (21, .ifCond .ne 5, 3), (24, .iload_n 2, 1), (25, .ireturn, 1), (26, .aload_n 0, 1), (27, .bipush 50, 2), (29, .iconst 0, 1), (30, .iload_n 2, 1), (31, .invokevirtual 46, 3), (34, .istore_n 3, 1), (35, .iconst 0, 1), (36, .istore 4, 2), (38, .iload 4, 2), (40, .sipush 1500, 3), (43, .if_icmp .ge 34, 3), (46, .aload_n 0, 1), (47, .getfield 18, 3), (50, .bipush 66, 2), (52, .invokevirtual 92, 3), (55, .ifCond .eq 22, 3), (58, .aload_n 0, 1), (59, .getfield 22, 3), (62, .iload_n 3, 1), (63, .aload_n 0, 1), (64, .iload_n 1, 1), (65, .invokevirtual 84, 3), (68, .invokevirtual 53, 3), (71, .iinc 4 1, 3), (74, .goto (-36), 3), (77, .iload_n 3, 1), (78, .ireturn, 1)])
set_option maxRecDepth 100000 in
theorem nm_d96 : ∀ e ∈ am_cd nm_m96, decode (am_b nm_m96) e.1 = .ok (e.2.1, e.2.2) := by decide +kernel
theorem nm_o96 : nm_okM nm_m96 [] := ⟨nm_d96, nm_pn2, (nm_in3 (List.mem_of_getElem? (i := 224) rfl) rfl), nm_ii2, nm_ne2, Nat.le_of_ble_eq_true rfl, Or.inl ⟨rfl, rfl⟩⟩
def nm_m97 : am_M := (⟨"CobolParser$Expressions", "conjunction", "(I)I"⟩, prog_3_method_6_code, 5, (some .int), [], 2, [(0, .aload_n 0, 1), (1, .iload_n 1, 1), (2, .invokevirtual 95, 3), (5, .istore_n 2, 1), (6, .aload_n 0, 1), (7, .getfield 18, 3), (10, .bipush 65, 2), (12, .iconst 0, 1), (13, .invokevirtual 89, 3), (16, .ifCond .ne 5, 3), (19, .iload_n 2, 1), (20, .ireturn, 1), (21, .aload_n 0, 1), (22, .bipush 51, 2), (24, .iconst 0, 1), (25, .iload_n 2, 1), (26, .invokevirtual 46, 3), (29, .istore_n 3, 1), (30, .iconst 0, 1), (31, .istore 4, 2), (33, .iload 4, 2), (35, .sipush 1500, 3), (38, .if_icmp .ge 34, 3), (41, .aload_n 0, 1), (42, .getfield 18, 3), (45, .bipush 65, 2), (47, .invokevirtual 92, 3), (50, .ifCond .eq 22, 3), (53, .aload_n 0, 1), (54, .getfield 22, 3), (57, .iload_n 3, 1), (58, .aload_n 0, 1), (59, .iload_n 1, 1), (60, .invokevirtual 95, 3), (63, .invokevirtual 53, 3), (66, .iinc 4 1, 3), (69, .goto (-36), 3), (72, .iload_n 3, 1), (73, .ireturn, 1)])
set_option maxRecDepth 100000 in
theorem nm_d97 : ∀ e ∈ am_cd nm_m97, decode (am_b nm_m97) e.1 = .ok (e.2.1, e.2.2) := by decide +kernel
theorem nm_o97 : nm_okM nm_m97 [] := ⟨nm_d97, nm_pn2, (nm_in3 (List.mem_of_getElem? (i := 228) rfl) rfl), nm_ii2, nm_ne2, Nat.le_of_ble_eq_true rfl, Or.inl ⟨rfl, rfl⟩⟩
def nm_m98 : am_M := (⟨"CobolParser$Expressions", "factor", "(I)I"⟩, prog_3_method_7_code, 3, (some .int), [], 2, [(0, .aload_n 0, 1), (1, .getfield 18, 3), (4, .bipush 64, 2), (6, .iconst 0, 1), (7, .invokevirtual 89, 3), (10, .ifCond .eq 56, 3), (13, .aload_n 0, 1), (14, .getfield 18, 3), (17, .iconst 1, 1), (18, .invokevirtual 98, 3), (21, .ifCond .ne 45, 3), (24, .aload_n 0, 1), (25, .getfield 22, 3), (28, .bipush 52, 2), (30, .iconst 0, 1), (31, .aload_n 0, 1), (32, .getfield 18, 3), (35, .invokevirtual 101, 3), (38, .invokevirtual 104, 3), (41, .istore_n 2, 1), (42, .aload_n 0, 1), (43, .iload_n 1, 1), (44, .iconst 1, 1), (45, .iadd, 1), (46, .invokevirtual 62, 3), (49, .aload_n 0, 1), (50, .getfield 22, 3), (53, .iload_n 2, 1), (54, .aload_n 0, 1), (55, .iload_n 1, 1), (56, .iconst 1, 1), (57, .iadd, 1), (58, .invokevirtual 95, 3), (61, .invokevirtual 53, 3), (64, .iload_n 2, 1), (65, .ireturn, 1), (66, .aload_n 0, 1), (67, .getfield 18, 3), (70, .iconst 0, 1), (71, .iconst 0, 1), (72, .invokevirtual 34, 3), (75, .ifCond .eq 33, 3), (78, .aload_n 0, 1), (79, .iload_n 1, 1), (80, .iconst 1, 1), (81, .iadd, 1), (82, .invokevirtual 62, 3), (85, .aload_n 0, 1), (86, .iload_n 1, 1), (87, .iconst 1, 1), (88, .iadd, 1), (89, .invokevirtual 107, 3), (92, .istore_n 2, 1), (93, .aload_n 0, 1), (94, .getfield 18, 3), (97, .iconst 1, 1), (98, .invokevirtual 69, 3), (101, .aload_n 0, 1), (102, .iconst (-1), 1), (103, .putfield 9, 3), (106, .iload_n 2, 1), (107, .ireturn, 1), (108, .aload_n 0, 1), (109, .invokevirtual 110, 3), (112, .ireturn, 1)])
set_option maxRecDepth 100000 in
theorem nm_d98 : ∀ e ∈ am_cd nm_m98, decode (am_b nm_m98) e.1 = .ok (e.2.1, e.2.2) := by decide +kernel
theorem nm_o98 : nm_okM nm_m98 [] := ⟨nm_d98, nm_pn2, (nm_in3 (List.mem_of_getElem? (i := 232) rfl) rfl), nm_ii2, nm_ne2, Nat.le_of_ble_eq_true rfl, Or.inl ⟨rfl, rfl⟩⟩
def nm_m99 : am_M := (⟨"CobolParser$Row", "isComparingWord", "(I)Z"⟩, prog_8_method_14_code, 5, (some .boolean), [], 2, [(0, .aload_n 0, 1), (1, .getfield 22, 3), (4, .iload_n 1, 1), (5, .iadd, 1), (6, .istore_n 2, 1), (7, .iload_n 2, 1), (8, .ifCond .lt 11, 3), (11, .iload_n 2, 1), (12, .aload_n 0, 1), (13, .getfield 18, 3), (16, .if_icmp .lt 5, 3), (19, .iconst 0, 1), (20, .ireturn, 1), (21, .aload_n 0, 1), (22, .getfield 15, 3), (25, .iload_n 2, 1), (26, .iaload, 1), (27, .iconst 2, 1), (28, .if_icmp .lt 17, 3), (31, .aload_n 0, 1), (32, .getfield 15, 3), (35, .iload_n 2, 1), (36, .iaload, 1), (37, .iconst 4, 1), (38, .if_icmp .gt 7, 3), (41, .iconst 1, 1), (42, .goto 4, 3), (45, .iconst 0, 1), (46, .istore_n 3, 1), (47, .aload_n 0, 1), (48, .getfield 15, 3), (51, .iload_n 2, 1), (52, .iaload, 1), (53, .bipush 68, 2), (55, .if_icmp .lt 18, 3), (58, .aload_n 0, 1), (59, .getfield 15, 3), (62, .iload_n 2, 1), (63, .iaload, 1), (64, .bipush 70, 2), (66, .if_icmp .gt 7, 3), (69, .iconst 1, 1), (70, .goto 4, 3), (73, .iconst 0, 1), (74, .istore 4, 2), (76, .aload_n 0, 1), (77, .getfield 11, 3), (80, .iload_n 2, 1), (81, .iaload, 1), (82, .iconst 5, 1), (83, .if_icmp .ne 7, 3), (86, .iload_n 3, 1), (87, .ifCond .ne 17, 3), (90, .aload_n 0, 1), (91, .getfield 11, 3), (94, .iload_n 2, 1), (95, .iaload, 1), (96, .ifCond .ne 12, 3), (99, .iload 4, 2), (101, .ifCond .eq 7, 3), (104, .iconst 1, 1), (105, .goto 4, 3), (108, .iconst 0, 1), (109, .ireturn, 1)])
set_option maxRecDepth 100000 in
theorem nm_d99 : ∀ e ∈ am_cd nm_m99, decode (am_b nm_m99) e.1 = .ok (e.2.1, e.2.2) := by decide +kernel
theorem nm_o99 : nm_okM nm_m99 [] := ⟨nm_d99, nm_pn5, (nm_in3 (List.mem_of_getElem? (i := 237) rfl) rfl), nm_ii5, nm_ne5, Nat.le_of_ble_eq_true rfl, Or.inl ⟨rfl, rfl⟩⟩
def nm_m100 : am_M := (⟨"CobolParser$Expressions", "goDeeper", "(I)V"⟩, prog_3_method_13_code, 2, none, [], 2, [(0, .iload_n 1, 1), (1, .bipush 40, 2), (3, .if_icmp .le 11, 3), (6, .aload_n 0, 1), (7, .getfield 18, 3), (10, .iconst 3, 1), (11, .invokevirtual 76, 3), (14, .aload_n 0, 1), (15, .getfield 18, 3), (18, .invokevirtual 50, 3), (21, .return_, 1)])
set_option maxRecDepth 100000 in
theorem nm_d100 : ∀ e ∈ am_cd nm_m100, decode (am_b nm_m100) e.1 = .ok (e.2.1, e.2.2) := by decide +kernel
theorem nm_o100 : nm_okM nm_m100 [] := ⟨nm_d100, nm_pn2, (nm_in4 (List.mem_of_getElem? (i := 3) rfl) rfl), nm_ii2, nm_ne2, Nat.le_of_ble_eq_true rfl, Or.inl ⟨rfl, rfl⟩⟩
def nm_m101 : am_M := (⟨"CobolParser$Row", "isSign", "(II)Z"⟩, prog_8_method_12_code, 4, (some .boolean), [], 3, [(0, .aload_n 0, 1), (1, .getfield 22, 3), (4, .iload_n 2, 1), (5, .iadd, 1), (6, .istore_n 3, 1), (7, .iload_n 3, 1), (8, .ifCond .lt 35, 3), (11, .iload_n 3, 1), (12, .aload_n 0, 1), (13, .getfield 18, 3), (16, .if_icmp .ge 27, 3), (19, .aload_n 0, 1), (20, .getfield 11, 3), (23, .iload_n 3, 1), (24, .iaload, 1), (25, .iconst 5, 1), (26, .if_icmp .ne 17, 3), (29, .aload_n 0, 1), (30, .getfield 15, 3), (33, .iload_n 3, 1), (34, .iaload, 1), (35, .iload_n 1, 1), (36, .if_icmp .ne 7, 3), (39, .iconst 1, 1), (40, .goto 4, 3), (43, .iconst 0, 1), (44, .ireturn, 1)])
set_option maxRecDepth 100000 in
theorem nm_d101 : ∀ e ∈ am_cd nm_m101, decode (am_b nm_m101) e.1 = .ok (e.2.1, e.2.2) := by decide +kernel
theorem nm_o101 : nm_okM nm_m101 [] := ⟨nm_d101, nm_pn5, (nm_in4 (List.mem_of_getElem? (i := 10) rfl) rfl), nm_ii5, nm_ne5, Nat.le_of_ble_eq_true rfl, Or.inl ⟨rfl, rfl⟩⟩
def nm_m102 : am_M := (⟨"CobolParser$Row", "requireSign", "(I)V"⟩, prog_8_method_19_code, 2, none, [], 2, [(0, .aload_n 0, 1), (1, .iload_n 1, 1), (2, .iconst 0, 1), (3, .invokevirtual 53, 3), (6, .ifCond .ne 8, 3), (9, .aload_n 0, 1), (10, .iconst 1, 1), (11, .invokevirtual 49, 3), (14, .aload_n 0, 1), (15, .invokevirtual 57, 3), (18, .return_, 1)])
set_option maxRecDepth 100000 in
theorem nm_d102 : ∀ e ∈ am_cd nm_m102, decode (am_b nm_m102) e.1 = .ok (e.2.1, e.2.2) := by decide +kernel
theorem nm_o102 : nm_okM nm_m102 [] := ⟨nm_d102, nm_pn5, (nm_in4 (List.mem_of_getElem? (i := 15) rfl) rfl), nm_ii5, nm_ne5, Nat.le_of_ble_eq_true rfl, Or.inl ⟨rfl, rfl⟩⟩
def nm_m103 : am_M := (⟨"CobolParser$Expressions", "relation", "()I"⟩, prog_3_method_8_code, 5, (some .int), [], 1, [(0, .aload_n 0, 1), (1, .getfield 18, 3), (4, .invokevirtual 101, 3), (7, .istore_n 1, 1), (8, .aload_n 0, 1), (9, .getfield 18, 3), (12, .invokevirtual 113, 3), (15, .ifCond .eq 15, 3), (18, .aload_n 0, 1), (19, .iconst 1, 1), (20, .invokevirtual 117, 3), (23, .ifCond .eq 7, 3), (26, .iconst 1, 1), (27, .goto 4, 3), (30, .iconst 0, 1), (31, .istore_n 2, 1), (32, .aload_n 0, 1), (33, .iconst 0, 1), (34, .invokevirtual 117, 3), (37, .istore_n 3, 1), (38, .iload_n 2, 1), (39, .ifCond .ne 17, 3), (42, .aload_n 0, 1), (43, .getfield 9, 3), (46, .iconst (-1), 1), (47, .if_icmp .ne 9, 3), (50, .aload_n 0, 1), (51, .iload_n 1, 1), (52, .invokevirtual 120, 3), (55, .ireturn, 1), (56, .iload_n 2, 1), (57, .ifCond .eq 14, 3), (60, .aload_n 0, 1), (61, .aload_n 0, 1), (62, .getfield 26, 3), (65, .invokevirtual 79, 3), (68, .putfield 9, 3), (71, .iload_n 2, 1), (72, .ifCond .ne 7, 3), (75, .iload_n 3, 1), (76, .ifCond .eq 11, 3), (79, .aload_n 0, 1), (80, .aload_n 0, 1), (81, .invokevirtual 123, 3), (84, .putfield 15, 3), (87, .aload_n 0, 1), (88, .getfield 22, 3), (91, .bipush 53, 2), (93, .aload_n 0, 1), (94, .getfield 15, 3), (97, .iload_n 1, 1), (98, .invokevirtual 104, 3), (101, .istore 4, 2), (103, .aload_n 0, 1), (104, .getfield 22, 3), (107, .iload 4, 2), (109, .iconst 3, 1), (110, .aload_n 0, 1), (111, .getfield 9, 3), (114, .invokevirtual 126, 3), (117, .iload_n 2, 1), (118, .ifCond .eq 16, 3), (121, .aload_n 0, 1), (122, .getfield 22, 3), (125, .iload 4, 2), (127, .aload_n 0, 1), (128, .getfield 9, 3), (131, .invokevirtual 53, 3), (134, .aload_n 0, 1), (135, .getfield 22, 3), (138, .iload 4, 2), (140, .aload_n 0, 1), (141, .getfield 26, 3), (144, .invokevirtual 79, 3), (147, .invokevirtual 53, 3), (150, .iload 4, 2), (152, .ireturn, 1)])
set_option maxRecDepth 100000 in
theorem nm_d103 : ∀ e ∈ am_cd nm_m103, decode (am_b nm_m103) e.1 = .ok (e.2.1, e.2.2) := by decide +kernel
theorem nm_o103 : nm_okM nm_m103 [] := ⟨nm_d103, nm_pn2, (nm_in4 (List.mem_of_getElem? (i := 20) rfl) rfl), nm_ii2, nm_ne2, Nat.le_of_ble_eq_true rfl, Or.inl ⟨rfl, rfl⟩⟩
def nm_m104 : am_M := (⟨"CobolParser$Expressions", "isComparing", "(I)Z"⟩, prog_3_method_10_code, 2, (some .boolean), [], 2, [(0, .aload_n 0, 1), (1, .getfield 18, 3), (4, .bipush 67, 2), (6, .iload_n 1, 1), (7, .invokevirtual 89, 3), (10, .ifCond .ne 40, 3), (13, .aload_n 0, 1), (14, .getfield 18, 3), (17, .iload_n 1, 1), (18, .invokevirtual 98, 3), (21, .ifCond .ne 29, 3), (24, .aload_n 0, 1), (25, .getfield 18, 3), (28, .bipush 64, 2), (30, .iload_n 1, 1), (31, .invokevirtual 89, 3), (34, .ifCond .eq 20, 3), (37, .aload_n 0, 1), (38, .getfield 18, 3), (41, .iload_n 1, 1), (42, .iconst 1, 1), (43, .iadd, 1), (44, .invokevirtual 98, 3), (47, .ifCond .eq 7, 3), (50, .iconst 1, 1), (51, .goto 4, 3), (54, .iconst 0, 1), (55, .ireturn, 1)])
set_option maxRecDepth 100000 in
theorem nm_d104 : ∀ e ∈ am_cd nm_m104, decode (am_b nm_m104) e.1 = .ok (e.2.1, e.2.2) := by decide +kernel
theorem nm_o104 : nm_okM nm_m104 [] := ⟨nm_d104, nm_pn2, (nm_in4 (List.mem_of_getElem? (i := 25) rfl) rfl), nm_ii2, nm_ne2, Nat.le_of_ble_eq_true rfl, Or.inl ⟨rfl, rfl⟩⟩
def nm_m105 : am_M := (⟨"CobolParser$Expressions", "conditionName", "(I)I"⟩, prog_3_method_9_code, 3, (some .int), [], 2, [(0, .aload_n 0, 1), (1, .getfield 18, 3), (4, .iconst 1, 1), (5, .invokevirtual 72, 3), (8, .ifCond .ne 28, 3), (11, .aload_n 0, 1), (12, .getfield 18, 3), (15, .invokevirtual 113, 3), (18, .ifCond .eq 10, 3), (21, .aload_n 0, 1), (22, .getfield 18, 3), (25, .invokevirtual 50, 3), (28, .aload_n 0, 1), (29, .getfield 18, 3), (32, .iconst 1, 1), (33, .invokevirtual 76, 3), (36, .aload_n 0, 1), (37, .getfield 22, 3), (40, .bipush 54, 2), (42, .aload_n 0, 1), (43, .getfield 18, 3), (46, .invokevirtual 42, 3), (49, .iload_n 1, 1), (50, .invokevirtual 104, 3), (53, .istore_n 2, 1), (54, .aload_n 0, 1), (55, .getfield 18, 3), (58, .invokevirtual 50, 3), (61, .iload_n 2, 1), (62, .ireturn, 1)])
set_option maxRecDepth 100000 in
theorem nm_d105 : ∀ e ∈ am_cd nm_m105, decode (am_b nm_m105) e.1 = .ok (e.2.1, e.2.2) := by decide +kernel
theorem nm_o105 : nm_okM nm_m105 [] := ⟨nm_d105, nm_pn2, (nm_in4 (List.mem_of_getElem? (i := 29) rfl) rfl), nm_ii2, nm_ne2, Nat.le_of_ble_eq_true rfl, Or.inl ⟨rfl, rfl⟩⟩
def nm_m106 : am_M := (⟨"CobolParser$Expressions", "comparing", "()I"⟩, prog_3_method_11_code, 3, (some .int), [], 1, [(0, .aload_n 0, 1), (1, .getfield 18, 3), (4, .bipush 67, 2), (6, .invokevirtual 92, 3), (9, .pop, 1), (10, .aload_n 0, 1), (11, .getfield 18, 3), (14, .bipush 64, 2), (16, .invokevirtual 92, 3), (19, .ifCond .eq 7, 3), (22, .iconst 3, 1), (23, .goto 4, 3), (26, .iconst 0, 1), (27, .istore_n 1, 1), (28, .aload_n 0, 1), (29, .getfield 18, 3), (32, .bipush 68, 2), (34, .invokevirtual 92, 3), (37, .ifCond .eq 17, 3), (40, .aload_n 0, 1), (41, .getfield 18, 3), (44, .bipush 48, 2), (46, .invokevirtual 92, 3), (49, .pop, 1), (50, .iload_n 1, 1), (51, .iconst 0, 1), (52, .iadd, 1), (53, .ireturn, 1), (54, .aload_n 0, 1), (55, .getfield 18, 3), (58, .bipush 70, 2), (60, .invokevirtual 92, 3), (63, .ifCond .eq 17, 3), (66, .aload_n 0, 1), (67, .getfield 18, 3), (70, .bipush 71, 2), (72, .invokevirtual 92, 3), (75, .pop, 1), (76, .iload_n 1, 1), (77, .iconst 1, 1), (78, .iadd, 1), (79, .ireturn, 1), (80, .aload_n 0, 1), (81, .getfield 18, 3), (84, .bipush 69, 2), (86, .invokevirtual 92, 3), (89, .ifCond .eq 17, 3), (92, .aload_n 0, 1), (93, .getfield 18, 3), (96, .bipush 71, 2), (98, .invokevirtual 92, 3), (101, .pop, 1), (102, .iload_n 1, 1), (103, .iconst 2, 1), (104, .iadd, 1), (105, .ireturn, 1), (106, .aload_n 0, 1), (107, .getfield 18, 3), (110, .iconst 5, 1), (111, .invokevirtual 72, 3), (114, .ifCond .eq 25, 3), (117, .aload_n 0, 1), (118, .getfield 18, 3), (121, .invokevirtual 42, 3), (124, .iconst 2, 1), (125, .if_icmp .lt 14, 3), (128, .aload_n 0, 1), (129, .getfield 18, 3), (132, .invokevirtual 42, 3), (135, .iconst 4, 1), (136, .if_icmp .le 11, 3), (139, .aload_n 0, 1), (140, .getfield 18, 3), (143, .iconst 1, 1), (144, .invokevirtual 76, 3), (147, .aload_n 0, 1), (148, .getfield 18, 3), (151, .invokevirtual 42, 3), (154, .iconst 2, 1), (155, .isub, 1), (156, .istore_n 2, 1), (157, .aload_n 0, 1), (158, .getfield 18, 3), (161, .invokevirtual 50, 3), (164, .iload_n 1, 1), (165, .iload_n 2, 1), (166, .iadd, 1), (167, .ireturn, 1)])
set_option maxRecDepth 100000 in
theorem nm_d106 : ∀ e ∈ am_cd nm_m106, decode (am_b nm_m106) e.1 = .ok (e.2.1, e.2.2) := by decide +kernel
theorem nm_o106 : nm_okM nm_m106 [] := ⟨nm_d106, nm_pn2, (nm_in4 (List.mem_of_getElem? (i := 36) rfl) rfl), nm_ii2, nm_ne2, Nat.le_of_ble_eq_true rfl, Or.inl ⟨rfl, rfl⟩⟩
def nm_m107 : am_M := (⟨"CobolParser$Expressions", "join", "(III)I"⟩, prog_3_method_12_code, 5, (some .int), [], 4, [(0, .aload_n 0, 1), (1, .getfield 22, 3), (4, .iload_n 1, 1), (5, .iload_n 2, 1), (6, .aload_n 0, 1), (7, .getfield 22, 3), (10, .iload_n 3, 1), (11, .iconst 2, 1), (12, .invokevirtual 130, 3), (15, .invokevirtual 104, 3), (18, .istore 4, 2), (20, .aload_n 0, 1), (21, .getfield 22, 3), (24, .iload 4, 2), (26, .iload_n 3, 1), (27, .invokevirtual 53, 3), (30, .iload 4, 2), (32, .ireturn, 1)])
set_option maxRecDepth 100000 in
theorem nm_d107 : ∀ e ∈ am_cd nm_m107, decode (am_b nm_m107) e.1 = .ok (e.2.1, e.2.2) := by decide +kernel
theorem nm_o107 : nm_okM nm_m107 [] := ⟨nm_d107, nm_pn2, (nm_in4 (List.mem_of_getElem? (i := 42) rfl) rfl), nm_ii2, nm_ne2, Nat.le_of_ble_eq_true rfl, Or.inl ⟨rfl, rfl⟩⟩
def nm_m108 : am_M := (⟨"CobolParser$Statements", "branch", "(I)I"⟩, prog_9_method_15_code, 3, (some .int), [], 2, [(0, .aload_n 0, 1), (1, .getfield 9, 3), (4, .bipush 54, 2), (6, .iconst 0, 1), (7, .invokevirtual 159, 3), (10, .ifCond .ne 13, 3), (13, .aload_n 0, 1), (14, .bipush 40, 2), (16, .iload_n 1, 1), (17, .iconst 1, 1), (18, .iadd, 1), (19, .invokevirtual 149, 3), (22, .ireturn, 1), (23, .aload_n 0, 1), (24, .getfield 15, 3), (27, .bipush 42, 2), (29, .iconst 0, 1), (30, .aload_n 0, 1), (31, .getfield 9, 3), (34, .invokevirtual 47, 3), (37, .invokevirtual 50, 3), (40, .istore_n 2, 1), (41, .aload_n 0, 1), (42, .getfield 9, 3), (45, .invokevirtual 106, 3), (48, .aload_n 0, 1), (49, .getfield 9, 3), (52, .bipush 55, 2), (54, .invokevirtual 123, 3), (57, .iload_n 2, 1), (58, .ireturn, 1)])
set_option maxRecDepth 100000 in
theorem nm_d108 : ∀ e ∈ am_cd nm_m108, decode (am_b nm_m108) e.1 = .ok (e.2.1, e.2.2) := by decide +kernel
theorem nm_o108 : nm_okM nm_m108 [] := ⟨nm_d108, nm_pn6, (nm_in4 (List.mem_of_getElem? (i := 47) rfl) rfl), nm_ii6, nm_ne6, Nat.le_of_ble_eq_true rfl, Or.inl ⟨rfl, rfl⟩⟩
def nm_m109 : am_M := (⟨"CobolParser$Statements", "perform", "(I)I"⟩, prog_9_method_20_code, 5, (some .int), [], 2, [(0, .aload_n 0, 1), (1, .bipush 29, 2), (3, .invokevirtual 96, 3), (6, .istore_n 2, 1), (7, .aload_n 0, 1), (8, .getfield 9, 3), (11, .iconst 1, 1), (12, .invokevirtual 35, 3), (15, .ifCond .eq 20, 3), (18, .aload_n 0, 1), (19, .getfield 9, 3), (22, .bipush 23, 2), (24, .iconst 1, 1), (25, .invokevirtual 159, 3), (28, .ifCond .ne 7, 3), (31, .iconst 1, 1), (32, .goto 4, 3), (35, .iconst 0, 1), (36, .istore_n 3, 1), (37, .iload_n 3, 1), (38, .ifCond .eq 35, 3), (41, .aload_n 0, 1), (42, .getfield 19, 3), (45, .iload_n 2, 1), (46, .bipush 41, 2), (48, .invokevirtual 146, 3), (51, .aload_n 0, 1), (52, .getfield 9, 3), (55, .bipush 21, 2), (57, .invokevirtual 109, 3), (60, .ifCond .eq 13, 3), (63, .aload_n 0, 1), (64, .getfield 19, 3), (67, .iload_n 2, 1), (68, .bipush 41, 2), (70, .invokevirtual 146, 3), (73, .aload_n 0, 1), (74, .getfield 9, 3), (77, .iconst 2, 1), (78, .invokevirtual 35, 3), (81, .ifCond .ne 27, 3), (84, .aload_n 0, 1), (85, .getfield 9, 3), (88, .iconst 1, 1), (89, .invokevirtual 35, 3), (92, .ifCond .eq 24, 3), (95, .aload_n 0, 1), (96, .getfield 9, 3), (99, .bipush 23, 2), (101, .iconst 1, 1), (102, .invokevirtual 159, 3), (105, .ifCond .eq 11, 3), (108, .aload_n 0, 1), (109, .iload_n 2, 1), (110, .invokevirtual 166, 3), (113, .goto 100, 3), (116, .aload_n 0, 1), (117, .getfield 9, 3), (120, .bipush 56, 2), (122, .iconst 0, 1), (123, .invokevirtual 159, 3), (126, .ifCond .eq 41, 3), (129, .aload_n 0, 1), (130, .iload_n 2, 1), (131, .bipush 44, 2), (133, .invokevirtual 169, 3), (136, .istore 4, 2), (138, .aload_n 0, 1), (139, .getfield 9, 3), (142, .bipush 56, 2), (144, .invokevirtual 123, 3), (147, .aload_n 0, 1), (148, .getfield 15, 3), (151, .iload 4, 2), (153, .aload_n 0, 1), (154, .getfield 23, 3), (157, .iload_n 1, 1), (158, .invokevirtual 153, 3), (161, .invokevirtual 60, 3), (164, .goto 49, 3), (167, .aload_n 0, 1), (168, .getfield 9, 3), (171, .bipush 57, 2), (173, .iconst 0, 1), (174, .invokevirtual 159, 3), (177, .ifCond .eq 36, 3), (180, .aload_n 0, 1), (181, .iload_n 2, 1), (182, .invokevirtual 172, 3), (185, .istore 4, 2), (187, .aload_n 0, 1), (188, .getfield 9, 3), (191, .bipush 56, 2), (193, .invokevirtual 123, 3), (196, .aload_n 0, 1), (197, .getfield 15, 3), (200, .iload 4, 2), (202, .aload_n 0, 1), (203, .getfield 23, 3), (206, .iload_n 1, 1), (207, .invokevirtual 153, 3), (210, .invokevirtual 60, 3), (213, .iload_n 3, 1), (214, .ifCond .ne 49, 3), (217, .aload_n 0, 1), (218, .getfield 15, 3), (221, .iload_n 2, 1), (222, .aload_n 0, 1), (223, .bipush 40, 2), (225, .iload_n 1, 1), (226, .iconst 1, 1), (227, .iadd, 1), (228, .invokevirtual 149, 3), (231, .invokevirtual 60, 3), (234, .aload_n 0, 1), (235, .getfield 9, 3), (238, .bipush 74, 2), (240, .invokevirtual 123, 3), (243, .aload_n 0, 1), (244, .getfield 15, 3), (247, .iload_n 2, 1), (248, .iconst 1, 1), (249, .iconst 1, 1), (250, .invokevirtual 102, 3), (253, .aload_n 0, 1), (254, .getfield 15, 3), (257, .iload_n 2, 1), (258, .iconst 3, 1), (259, .iconst 1, 1), (260, .invokevirtual 102, 3), (263, .iload_n 2, 1), (264, .ireturn, 1)])
set_option maxRecDepth 100000 in
theorem nm_d109 : ∀ e ∈ am_cd nm_m109, decode (am_b nm_m109) e.1 = .ok (e.2.1, e.2.2) := by decide +kernel
theorem nm_o109 : nm_okM nm_m109 [] := ⟨nm_d109, nm_pn6, (nm_in4 (List.mem_of_getElem? (i := 52) rfl) rfl), nm_ii6, nm_ne6, Nat.le_of_ble_eq_true rfl, Or.inl ⟨rfl, rfl⟩⟩
def nm_m110 : am_M := (⟨"CobolParser$Statements", "times", "(I)V"⟩, prog_9_method_21_code, 3, none, [], 2, [(0, .aload_n 0, 1), (1, .iload_n 1, 1), (2, .bipush 43, 2), (4, .invokevirtual 169, 3), (7, .istore_n 2, 1), (8, .aload_n 0, 1), (9, .getfield 19, 3), (12, .iload_n 2, 1), (13, .invokevirtual 120, 3), (16, .aload_n 0, 1), (17, .getfield 9, 3), (20, .bipush 23, 2), (22, .invokevirtual 123, 3), (25, .return_, 1)])
set_option maxRecDepth 100000 in
theorem nm_d110 : ∀ e ∈ am_cd nm_m110, decode (am_b nm_m110) e.1 = .ok (e.2.1, e.2.2) := by decide +kernel
theorem nm_o110 : nm_okM nm_m110 [] := ⟨nm_d110, nm_pn6, (nm_in4 (List.mem_of_getElem? (i := 56) rfl) rfl), nm_ii6, nm_ne6, Nat.le_of_ble_eq_true rfl, Or.inl ⟨rfl, rfl⟩⟩
def nm_m111 : am_M := (⟨"CobolParser$Statements", "phraseIn", "(II)I"⟩, prog_9_method_23_code, 4, (some .int), [], 3, [(0, .aload_n 0, 1), (1, .getfield 15, 3), (4, .iload_n 2, 1), (5, .iconst 0, 1), (6, .aload_n 0, 1), (7, .getfield 9, 3), (10, .invokevirtual 47, 3), (13, .invokevirtual 50, 3), (16, .istore_n 3, 1), (17, .aload_n 0, 1), (18, .getfield 15, 3), (21, .iload_n 1, 1), (22, .iload_n 3, 1), (23, .invokevirtual 60, 3), (26, .iload_n 3, 1), (27, .ireturn, 1)])
set_option maxRecDepth 100000 in
theorem nm_d111 : ∀ e ∈ am_cd nm_m111, decode (am_b nm_m111) e.1 = .ok (e.2.1, e.2.2) := by decide +kernel
theorem nm_o111 : nm_okM nm_m111 [] := ⟨nm_d111, nm_pn6, (nm_in4 (List.mem_of_getElem? (i := 60) rfl) rfl), nm_ii6, nm_ne6, Nat.le_of_ble_eq_true rfl, Or.inl ⟨rfl, rfl⟩⟩
def nm_m112 : am_M := (⟨"CobolParser$Statements", "varying", "(I)I"⟩, prog_9_method_22_code, 3, (some .int), [], 2, [(0, .aload_n 0, 1), (1, .iload_n 1, 1), (2, .bipush 45, 2), (4, .invokevirtual 169, 3), (7, .istore_n 2, 1), (8, .aload_n 0, 1), (9, .getfield 9, 3), (12, .invokevirtual 106, 3), (15, .aload_n 0, 1), (16, .getfield 19, 3), (19, .iload_n 2, 1), (20, .bipush 41, 2), (22, .invokevirtual 146, 3), (25, .aload_n 0, 1), (26, .getfield 9, 3), (29, .bipush 58, 2), (31, .invokevirtual 123, 3), (34, .aload_n 0, 1), (35, .getfield 19, 3), (38, .iload_n 2, 1), (39, .invokevirtual 120, 3), (42, .aload_n 0, 1), (43, .getfield 9, 3), (46, .bipush 25, 2), (48, .invokevirtual 123, 3), (51, .aload_n 0, 1), (52, .getfield 19, 3), (55, .iload_n 2, 1), (56, .invokevirtual 120, 3), (59, .iload_n 2, 1), (60, .ireturn, 1)])
set_option maxRecDepth 100000 in
theorem nm_d112 : ∀ e ∈ am_cd nm_m112, decode (am_b nm_m112) e.1 = .ok (e.2.1, e.2.2) := by decide +kernel
theorem nm_o112 : nm_okM nm_m112 [] := ⟨nm_d112, nm_pn6, (nm_in4 (List.mem_of_getElem? (i := 64) rfl) rfl), nm_ii6, nm_ne6, Nat.le_of_ble_eq_true rfl, Or.inl ⟨rfl, rfl⟩⟩
def nm_m113 : am_M := (⟨"CobolParser$Statements", "evaluate", "(I)I"⟩, prog_9_method_16_code, 4, (some .int), [], 2, [(0, .aload_n 0, 1), (1, .bipush 30, 2), (3, .invokevirtual 96, 3), (6, .istore_n 2, 1), (7, .aload_n 0, 1), (8, .getfield 19, 3), (11, .iload_n 2, 1), (12, .invokevirtual 120, 3), (15, .aload_n 0, 1), (16, .getfield 9, 3), (19, .bipush 59, 2), (21, .iconst 0, 1), (22, .invokevirtual 159, 3), (25, .ifCond .ne 11, 3), (28, .aload_n 0, 1), (29, .getfield 9, 3), (32, .iconst 1, 1), (33, .invokevirtual 43, 3), (36, .iconst 0, 1), (37, .istore_n 3, 1), (38, .iload_n 3, 1), (39, .sipush 1500, 3), (42, .if_icmp .ge 35, 3), (45, .aload_n 0, 1), (46, .getfield 9, 3), (49, .bipush 59, 2), (51, .iconst 0, 1), (52, .invokevirtual 159, 3), (55, .ifCond .eq 22, 3), (58, .aload_n 0, 1), (59, .getfield 15, 3), (62, .iload_n 2, 1), (63, .aload_n 0, 1), (64, .iload_n 1, 1), (65, .invokevirtual 163, 3), (68, .invokevirtual 60, 3), (71, .iinc 3 1, 3), (74, .goto (-36), 3), (77, .aload_n 0, 1), (78, .iload_n 2, 1), (79, .bipush 75, 2), (81, .invokevirtual 143, 3), (84, .iload_n 2, 1), (85, .ireturn, 1)])
set_option maxRecDepth 100000 in
theorem nm_d113 : ∀ e ∈ am_cd nm_m113, decode (am_b nm_m113) e.1 = .ok (e.2.1, e.2.2) := by decide +kernel
theorem nm_o113 : nm_okM nm_m113 [] := ⟨nm_d113, nm_pn6, (nm_in4 (List.mem_of_getElem? (i := 68) rfl) rfl), nm_ii6, nm_ne6, Nat.le_of_ble_eq_true rfl, Or.inl ⟨rfl, rfl⟩⟩
def nm_m114 : am_M := (⟨"CobolParser$Statements", "when", "(I)I"⟩, prog_9_method_17_code, 4, (some .int), [], 2, [(0, .aload_n 0, 1), (1, .getfield 15, 3), (4, .bipush 46, 2), (6, .iconst 0, 1), (7, .aload_n 0, 1), (8, .getfield 9, 3), (11, .invokevirtual 47, 3), (14, .invokevirtual 50, 3), (17, .istore_n 2, 1), (18, .iconst 0, 1), (19, .istore_n 3, 1), (20, .iload_n 3, 1), (21, .sipush 1500, 3), (24, .if_icmp .ge 77, 3), (27, .aload_n 0, 1), (28, .getfield 9, 3), (31, .bipush 59, 2), (33, .invokevirtual 109, 3), (36, .ifCond .eq 65, 3), (39, .aload_n 0, 1), (40, .getfield 9, 3), (43, .bipush 60, 2), (45, .iconst 0, 1), (46, .invokevirtual 159, 3), (49, .ifCond .eq 38, 3), (52, .aload_n 0, 1), (53, .getfield 15, 3), (56, .iload_n 2, 1), (57, .aload_n 0, 1), (58, .getfield 15, 3), (61, .bipush 47, 2), (63, .iconst 0, 1), (64, .aload_n 0, 1), (65, .getfield 9, 3), (68, .invokevirtual 47, 3), (71, .invokevirtual 50, 3), (74, .invokevirtual 60, 3), (77, .aload_n 0, 1), (78, .getfield 9, 3), (81, .invokevirtual 106, 3), (84, .goto 11, 3), (87, .aload_n 0, 1), (88, .getfield 19, 3), (91, .iload_n 2, 1), (92, .invokevirtual 120, 3), (95, .iinc 3 1, 3), (98, .goto (-78), 3), (101, .aload_n 0, 1), (102, .getfield 15, 3), (105, .iload_n 2, 1), (106, .aload_n 0, 1), (107, .bipush 40, 2), (109, .iload_n 1, 1), (110, .iconst 1, 1), (111, .iadd, 1), (112, .invokevirtual 149, 3), (115, .invokevirtual 60, 3), (118, .iload_n 2, 1), (119, .ireturn, 1)])
set_option maxRecDepth 100000 in
theorem nm_d114 : ∀ e ∈ am_cd nm_m114, decode (am_b nm_m114) e.1 = .ok (e.2.1, e.2.2) := by decide +kernel
theorem nm_o114 : nm_okM nm_m114 [] := ⟨nm_d114, nm_pn6, (nm_in4 (List.mem_of_getElem? (i := 72) rfl) rfl), nm_ii6, nm_ne6, Nat.le_of_ble_eq_true rfl, Or.inl ⟨rfl, rfl⟩⟩
def nm_m115 : am_M := (⟨"CobolParser$Statements", "read", "(I)I"⟩, prog_9_method_18_code, 3, (some .int), [], 2, [(0, .aload_n 0, 1), (1, .bipush 31, 2), (3, .invokevirtual 96, 3), (6, .istore_n 2, 1), (7, .aload_n 0, 1), (8, .getfield 15, 3), (11, .iload_n 2, 1), (12, .iconst 1, 1), (13, .aload_n 0, 1), (14, .getfield 9, 3), (17, .iconst 1, 1), (18, .invokevirtual 132, 3), (21, .invokevirtual 102, 3), (24, .aload_n 0, 1), (25, .getfield 9, 3), (28, .bipush 61, 2), (30, .invokevirtual 109, 3), (33, .ifCond .eq 29, 3), (36, .aload_n 0, 1), (37, .getfield 9, 3), (40, .bipush 33, 2), (42, .invokevirtual 123, 3), (45, .aload_n 0, 1), (46, .getfield 15, 3), (49, .iload_n 2, 1), (50, .aload_n 0, 1), (51, .bipush 40, 2), (53, .iload_n 1, 1), (54, .iconst 1, 1), (55, .iadd, 1), (56, .invokevirtual 149, 3), (59, .invokevirtual 60, 3), (62, .aload_n 0, 1), (63, .iload_n 2, 1), (64, .bipush 76, 2), (66, .invokevirtual 143, 3), (69, .iload_n 2, 1), (70, .ireturn, 1)])
set_option maxRecDepth 100000 in
theorem nm_d115 : ∀ e ∈ am_cd nm_m115, decode (am_b nm_m115) e.1 = .ok (e.2.1, e.2.2) := by decide +kernel
theorem nm_o115 : nm_okM nm_m115 [] := ⟨nm_d115, nm_pn6, (nm_in4 (List.mem_of_getElem? (i := 76) rfl) rfl), nm_ii6, nm_ne6, Nat.le_of_ble_eq_true rfl, Or.inl ⟨rfl, rfl⟩⟩
def nm_m116 : am_M := (⟨"CobolParser$Statements", "call", "(I)I"⟩, prog_9_method_19_code, 3, (some .int), [], 2, [(0, .aload_n 0, 1), (1, .bipush 32, 2), (3, .invokevirtual 96, 3), (6, .istore_n 2, 1), (7, .aload_n 0, 1), (8, .getfield 9, 3), (11, .iconst 2, 1), (12, .invokevirtual 35, 3), (15, .ifCond .eq 11, 3), (18, .aload_n 0, 1), (19, .getfield 9, 3), (22, .iconst 1, 1), (23, .invokevirtual 43, 3), (26, .aload_n 0, 1), (27, .getfield 19, 3), (30, .iload_n 2, 1), (31, .invokevirtual 120, 3), (34, .aload_n 0, 1), (35, .getfield 9, 3), (38, .bipush 31, 2), (40, .invokevirtual 109, 3), (43, .ifCond .eq 13, 3), (46, .aload_n 0, 1), (47, .getfield 19, 3), (50, .iload_n 2, 1), (51, .bipush 21, 2), (53, .invokevirtual 126, 3), (56, .aload_n 0, 1), (57, .getfield 9, 3), (60, .bipush 62, 2), (62, .invokevirtual 109, 3), (65, .ifCond .eq 20, 3), (68, .aload_n 0, 1), (69, .getfield 15, 3), (72, .iload_n 2, 1), (73, .aload_n 0, 1), (74, .bipush 40, 2), (76, .iload_n 1, 1), (77, .iconst 1, 1), (78, .iadd, 1), (79, .invokevirtual 149, 3), (82, .invokevirtual 60, 3), (85, .aload_n 0, 1), (86, .iload_n 2, 1), (87, .bipush 77, 2), (89, .invokevirtual 143, 3), (92, .iload_n 2, 1), (93, .ireturn, 1)])
set_option maxRecDepth 100000 in
theorem nm_d116 : ∀ e ∈ am_cd nm_m116, decode (am_b nm_m116) e.1 = .ok (e.2.1, e.2.2) := by decide +kernel
theorem nm_o116 : nm_okM nm_m116 [] := ⟨nm_d116, nm_pn6, (nm_in4 (List.mem_of_getElem? (i := 81) rfl) rfl), nm_ii6, nm_ne6, Nat.le_of_ble_eq_true rfl, Or.inl ⟨rfl, rfl⟩⟩
def nm_m117 : am_M := (⟨"CobolParser$Statements", "display", "()I"⟩, prog_9_method_9_code, 2, (some .int), [], 1, [(0, .aload_n 0, 1), (1, .bipush 33, 2), (3, .invokevirtual 96, 3), (6, .istore_n 1, 1), (7, .aload_n 0, 1), (8, .iload_n 1, 1), (9, .invokevirtual 129, 3), (12, .iload_n 1, 1), (13, .ireturn, 1)])
set_option maxRecDepth 100000 in
theorem nm_d117 : ∀ e ∈ am_cd nm_m117, decode (am_b nm_m117) e.1 = .ok (e.2.1, e.2.2) := by decide +kernel
theorem nm_o117 : nm_okM nm_m117 [] := ⟨nm_d117, nm_pn6, (nm_in4 (List.mem_of_getElem? (i := 85) rfl) rfl), nm_ii6, nm_ne6, Nat.le_of_ble_eq_true rfl, Or.inl ⟨rfl, rfl⟩⟩
def nm_m118 : am_M := (⟨"CobolParser$Statements", "goTo", "()I"⟩, prog_9_method_10_code, 2, (some .int), [], 1, [(0, .aload_n 0, 1), (1, .bipush 34, 2), (3, .invokevirtual 96, 3), (6, .istore_n 1, 1), (7, .aload_n 0, 1), (8, .getfield 9, 3), (11, .bipush 48, 2), (13, .invokevirtual 109, 3), (16, .pop, 1), (17, .aload_n 0, 1), (18, .getfield 15, 3), (21, .iload_n 1, 1), (22, .iconst 1, 1), (23, .aload_n 0, 1), (24, .getfield 9, 3), (27, .iconst 1, 1), (28, .invokevirtual 132, 3), (31, .invokevirtual 102, 3), (34, .iload_n 1, 1), (35, .ireturn, 1)])
set_option maxRecDepth 100000 in
theorem nm_d118 : ∀ e ∈ am_cd nm_m118, decode (am_b nm_m118) e.1 = .ok (e.2.1, e.2.2) := by decide +kernel
theorem nm_o118 : nm_okM nm_m118 [] := ⟨nm_d118, nm_pn6, (nm_in4 (List.mem_of_getElem? (i := 89) rfl) rfl), nm_ii6, nm_ne6, Nat.le_of_ble_eq_true rfl, Or.inl ⟨rfl, rfl⟩⟩
def nm_m119 : am_M := (⟨"CobolParser$Statements", "stop", "()I"⟩, prog_9_method_11_code, 2, (some .int), [], 1, [(0, .aload_n 0, 1), (1, .bipush 35, 2), (3, .invokevirtual 96, 3), (6, .istore_n 1, 1), (7, .aload_n 0, 1), (8, .getfield 9, 3), (11, .bipush 63, 2), (13, .invokevirtual 123, 3), (16, .iload_n 1, 1), (17, .ireturn, 1)])
set_option maxRecDepth 100000 in
theorem nm_d119 : ∀ e ∈ am_cd nm_m119, decode (am_b nm_m119) e.1 = .ok (e.2.1, e.2.2) := by decide +kernel
theorem nm_o119 : nm_okM nm_m119 [] := ⟨nm_d119, nm_pn6, (nm_in4 (List.mem_of_getElem? (i := 93) rfl) rfl), nm_ii6, nm_ne6, Nat.le_of_ble_eq_true rfl, Or.inl ⟨rfl, rfl⟩⟩
end
section
/-! methods, their code decoded, by wip/whole/gen.py -/
def nm_m120 : am_M := (⟨"CobolParser$Statements", "compute", "(I)I"⟩, prog_9_method_12_code, 3, (some .int), [], 2, [(0, .aload_n 0, 1), (1, .bipush 38, 2), (3, .invokevirtual 96, 3), (6, .istore_n 2, 1), (7, .aload_n 0, 1), (8, .getfield 15, 3), (11, .iload_n 2, 1), (12, .iconst 1, 1), (13, .aload_n 0, 1), (14, .getfield 9, 3), (17, .iconst 1, 1), (18, .invokevirtual 132, 3), (21, .invokevirtual 102, 3), (24, .aload_n 0, 1), (25, .getfield 9, 3), (28, .iconst 2, 1), (29, .invokevirtual 135, 3), (32, .aload_n 0, 1), (33, .getfield 15, 3), (36, .iload_n 2, 1), (37, .aload_n 0, 1), (38, .getfield 23, 3), (41, .iload_n 1, 1), (42, .invokevirtual 138, 3), (45, .invokevirtual 60, 3), (48, .aload_n 0, 1), (49, .iload_n 2, 1), (50, .bipush 78, 2), (52, .invokevirtual 143, 3), (55, .iload_n 2, 1), (56, .ireturn, 1)])
set_option maxRecDepth 100000 in
theorem nm_d120 : ∀ e ∈ am_cd nm_m120, decode (am_b nm_m120) e.1 = .ok (e.2.1, e.2.2) := by decide +kernel
theorem nm_o120 : nm_okM nm_m120 [] := ⟨nm_d120, nm_pn6, (nm_in4 (List.mem_of_getElem? (i := 97) rfl) rfl), nm_ii6, nm_ne6, Nat.le_of_ble_eq_true rfl, Or.inl ⟨rfl, rfl⟩⟩
def nm_m121 : am_M := (⟨"CobolParser$Expressions", "sum", "(I)I"⟩, prog_3_method_2_code, 5, (some .int), [], 2, [(0, .aload_n 0, 1), (1, .iload_n 1, 1), (2, .invokevirtual 30, 3), (5, .istore_n 2, 1), (6, .iconst 0, 1), (7, .istore_n 3, 1), (8, .iload_n 3, 1), (9, .sipush 1500, 3), (12, .if_icmp .ge 74, 3), (15, .aload_n 0, 1), (16, .getfield 18, 3), (19, .iconst 5, 1), (20, .iconst 0, 1), (21, .invokevirtual 34, 3), (24, .ifCond .ne 16, 3), (27, .aload_n 0, 1), (28, .getfield 18, 3), (31, .bipush 6, 2), (33, .iconst 0, 1), (34, .invokevirtual 34, 3), (37, .ifCond .eq 49, 3), (40, .aload_n 0, 1), (41, .bipush 55, 2), (43, .aload_n 0, 1), (44, .getfield 18, 3), (47, .invokevirtual 42, 3), (50, .iload_n 2, 1), (51, .invokevirtual 46, 3), (54, .istore 4, 2), (56, .aload_n 0, 1), (57, .getfield 18, 3), (60, .invokevirtual 50, 3), (63, .aload_n 0, 1), (64, .getfield 22, 3), (67, .iload 4, 2), (69, .aload_n 0, 1), (70, .iload_n 1, 1), (71, .invokevirtual 30, 3), (74, .invokevirtual 53, 3), (77, .iload 4, 2), (79, .istore_n 2, 1), (80, .iinc 3 1, 3), (83, .goto (-75), 3), (86, .iload_n 2, 1), (87, .ireturn, 1)])
set_option maxRecDepth 100000 in
theorem nm_d121 : ∀ e ∈ am_cd nm_m121, decode (am_b nm_m121) e.1 = .ok (e.2.1, e.2.2) := by decide +kernel
theorem nm_o121 : nm_okM nm_m121 [] := ⟨nm_d121, nm_pn2, (nm_in4 (List.mem_of_getElem? (i := 102) rfl) rfl), nm_ii2, nm_ne2, Nat.le_of_ble_eq_true rfl, Or.inl ⟨rfl, rfl⟩⟩
def nm_m122 : am_M := (⟨"CobolParser$Expressions", "product", "(I)I"⟩, prog_3_method_3_code, 5, (some .int), [], 2, [(0, .aload_n 0, 1), (1, .iload_n 1, 1), (2, .invokevirtual 59, 3), (5, .istore_n 2, 1), (6, .iconst 0, 1), (7, .istore_n 3, 1), (8, .iload_n 3, 1), (9, .sipush 1500, 3), (12, .if_icmp .ge 75, 3), (15, .aload_n 0, 1), (16, .getfield 18, 3), (19, .bipush 7, 2), (21, .iconst 0, 1), (22, .invokevirtual 34, 3), (25, .ifCond .ne 16, 3), (28, .aload_n 0, 1), (29, .getfield 18, 3), (32, .bipush 8, 2), (34, .iconst 0, 1), (35, .invokevirtual 34, 3), (38, .ifCond .eq 49, 3), (41, .aload_n 0, 1), (42, .bipush 55, 2), (44, .aload_n 0, 1), (45, .getfield 18, 3), (48, .invokevirtual 42, 3), (51, .iload_n 2, 1), (52, .invokevirtual 46, 3), (55, .istore 4, 2), (57, .aload_n 0, 1), (58, .getfield 18, 3), (61, .invokevirtual 50, 3), (64, .aload_n 0, 1), (65, .getfield 22, 3), (68, .iload 4, 2), (70, .aload_n 0, 1), (71, .iload_n 1, 1), (72, .invokevirtual 59, 3), (75, .invokevirtual 53, 3), (78, .iload 4, 2), (80, .istore_n 2, 1), (81, .iinc 3 1, 3), (84, .goto (-76), 3), (87, .iload_n 2, 1), (88, .ireturn, 1)])
set_option maxRecDepth 100000 in
theorem nm_d122 : ∀ e ∈ am_cd nm_m122, decode (am_b nm_m122) e.1 = .ok (e.2.1, e.2.2) := by decide +kernel
theorem nm_o122 : nm_okM nm_m122 [] := ⟨nm_d122, nm_pn2, (nm_in4 (List.mem_of_getElem? (i := 106) rfl) rfl), nm_ii2, nm_ne2, Nat.le_of_ble_eq_true rfl, Or.inl ⟨rfl, rfl⟩⟩
def nm_m123 : am_M := (⟨"CobolParser$Expressions", "sumUnit", "(I)I"⟩, prog_3_method_4_code, 3, (some .int), [], 2, [(0, .aload_n 0, 1), (1, .getfield 18, 3), (4, .iconst 0, 1), (5, .iconst 0, 1), (6, .invokevirtual 34, 3), (9, .ifCond .eq 28, 3), (12, .aload_n 0, 1), (13, .iload_n 1, 1), (14, .iconst 1, 1), (15, .iadd, 1), (16, .invokevirtual 62, 3), (19, .aload_n 0, 1), (20, .iload_n 1, 1), (21, .iconst 1, 1), (22, .iadd, 1), (23, .invokevirtual 66, 3), (26, .istore_n 2, 1), (27, .aload_n 0, 1), (28, .getfield 18, 3), (31, .iconst 1, 1), (32, .invokevirtual 69, 3), (35, .iload_n 2, 1), (36, .ireturn, 1), (37, .aload_n 0, 1), (38, .getfield 18, 3), (41, .iconst 3, 1), (42, .invokevirtual 72, 3), (45, .ifCond .eq 11, 3), (48, .aload_n 0, 1), (49, .getfield 18, 3), (52, .iconst 1, 1), (53, .invokevirtual 76, 3), (56, .aload_n 0, 1), (57, .getfield 26, 3), (60, .invokevirtual 79, 3), (63, .ireturn, 1)])
set_option maxRecDepth 100000 in
theorem nm_d123 : ∀ e ∈ am_cd nm_m123, decode (am_b nm_m123) e.1 = .ok (e.2.1, e.2.2) := by decide +kernel
theorem nm_o123 : nm_okM nm_m123 [] := ⟨nm_d123, nm_pn2, (nm_in4 (List.mem_of_getElem? (i := 110) rfl) rfl), nm_ii2, nm_ne2, Nat.le_of_ble_eq_true rfl, Or.inl ⟨rfl, rfl⟩⟩
def nm_m124 : am_M := (⟨"CobolParser$Clauses", "reservedClause", "()V"⟩, prog_2_method_5_code, 1, none, [], 1, [(0, .aload_n 0, 1), (1, .getfield 31, 3), (4, .invokevirtual 101, 3), (7, .lookupswitch 211 #[(0, 73), (2, 80), (3, 94), (4, 128), (5, 162), (30, 175), (32, 189), (33, 204)], 73), (80, .aload_n 0, 1), (81, .invokevirtual 104, 3), (84, .goto 138, 3), (87, .aload_n 0, 1), (88, .iconst 0, 1), (89, .iconst 0, 1), (90, .invokevirtual 77, 3), (93, .aload_n 0, 1), (94, .iconst 1, 1), (95, .invokevirtual 109, 3), (98, .goto 124, 3), (101, .aload_n 0, 1), (102, .iconst 0, 1), (103, .iconst 0, 1), (104, .invokevirtual 77, 3), (107, .aload_n 0, 1), (108, .aload_n 0, 1), (109, .getfield 12, 3), (112, .invokevirtual 58, 3), (115, .iconst 1, 1), (116, .if_icmp .ne 7, 3), (119, .iconst 1, 1), (120, .goto 4, 3), (123, .iconst 0, 1), (124, .invokevirtual 112, 3), (127, .aload_n 0, 1), (128, .iconst 2, 1), (129, .invokevirtual 109, 3), (132, .goto 90, 3), (135, .aload_n 0, 1), (136, .iconst 1, 1), (137, .iconst 1, 1), (138, .invokevirtual 77, 3), (141, .aload_n 0, 1), (142, .aload_n 0, 1), (143, .iconst 3, 1), (144, .iconst 1, 1), (145, .aload_n 0, 1), (146, .getfield 12, 3), (149, .invokevirtual 118, 3), (152, .invokevirtual 121, 3), (155, .putfield 18, 3), (158, .aload_n 0, 1), (159, .getfield 12, 3), (162, .iconst 2, 1), (163, .invokevirtual 125, 3), (166, .goto 56, 3), (169, .aload_n 0, 1), (170, .iconst 2, 1), (171, .iconst 2, 1), (172, .invokevirtual 77, 3), (175, .aload_n 0, 1), (176, .invokevirtual 128, 3), (179, .goto 43, 3), (182, .aload_n 0, 1), (183, .iconst 1, 1), (184, .bipush 7, 2), (186, .invokevirtual 77, 3), (189, .aload_n 0, 1), (190, .invokevirtual 131, 3), (193, .goto 29, 3), (196, .aload_n 0, 1), (197, .bipush 8, 2), (199, .bipush 8, 2), (201, .invokevirtual 77, 3), (204, .aload_n 0, 1), (205, .invokevirtual 134, 3), (208, .goto 14, 3), (211, .aload_n 0, 1), (212, .invokevirtual 137, 3), (215, .goto 7, 3), (218, .aload_n 0, 1), (219, .invokevirtual 140, 3), (222, .return_, 1)])
set_option maxRecDepth 100000 in
theorem nm_d124 : ∀ e ∈ am_cd nm_m124, decode (am_b nm_m124) e.1 = .ok (e.2.1, e.2.2) := by decide +kernel
theorem nm_o124 : nm_okM nm_m124 [] := ⟨nm_d124, nm_pn1, (nm_in4 (List.mem_of_getElem? (i := 115) rfl) rfl), nm_ii1, nm_ne1, Nat.le_of_ble_eq_true rfl, Or.inl ⟨rfl, rfl⟩⟩
def nm_m125 : am_M := (⟨"CobolParser$Clauses", "identification", "()V"⟩, prog_2_method_11_code, 2, none, [], 1, [(0, .aload_n 0, 1), (1, .aload_n 0, 1), (2, .getfield 12, 3), (5, .invokevirtual 58, 3), (8, .ifCond .eq 21, 3), (11, .aload_n 0, 1), (12, .getfield 12, 3), (15, .invokevirtual 167, 3), (18, .iconst 1, 1), (19, .if_icmp .ne 14, 3), (22, .aload_n 0, 1), (23, .invokevirtual 170, 3), (26, .ifCond .eq 7, 3), (29, .iconst 1, 1), (30, .goto 4, 3), (33, .iconst 0, 1), (34, .invokevirtual 112, 3), (37, .aload_n 0, 1), (38, .getfield 12, 3), (41, .invokevirtual 173, 3), (44, .ifCond .eq 11, 3), (47, .aload_n 0, 1), (48, .getfield 31, 3), (51, .iconst 3, 1), (52, .invokevirtual 97, 3), (55, .aload_n 0, 1), (56, .iconst 0, 1), (57, .iconst 1, 1), (58, .aload_n 0, 1), (59, .getfield 12, 3), (62, .invokevirtual 118, 3), (65, .invokevirtual 121, 3), (68, .istore_n 1, 1), (69, .aload_n 0, 1), (70, .getfield 12, 3), (73, .bipush 12, 2), (75, .invokevirtual 125, 3), (78, .aload_n 0, 1), (79, .getfield 12, 3), (82, .iload_n 1, 1), (83, .invokevirtual 176, 3), (86, .return_, 1)])
set_option maxRecDepth 100000 in
theorem nm_d125 : ∀ e ∈ am_cd nm_m125, decode (am_b nm_m125) e.1 = .ok (e.2.1, e.2.2) := by decide +kernel
theorem nm_o125 : nm_okM nm_m125 [] := ⟨nm_d125, nm_pn1, (nm_in4 (List.mem_of_getElem? (i := 120) rfl) rfl), nm_ii1, nm_ne1, Nat.le_of_ble_eq_true rfl, Or.inl ⟨rfl, rfl⟩⟩
def nm_m126 : am_M := (⟨"CobolParser$Units", "openCount", "()I"⟩, prog_11_method_3_code, 1, (some .int), [], 1, [(0, .aload_n 0, 1), (1, .getfield 24, 3), (4, .ireturn, 1)])
set_option maxRecDepth 100000 in
theorem nm_d126 : ∀ e ∈ am_cd nm_m126, decode (am_b nm_m126) e.1 = .ok (e.2.1, e.2.2) := by decide +kernel
theorem nm_o126 : nm_okM nm_m126 [] := ⟨nm_d126, nm_pn8, (nm_in4 (List.mem_of_getElem? (i := 124) rfl) rfl), nm_ii8, nm_ne8, Nat.le_of_ble_eq_true rfl, Or.inl ⟨rfl, rfl⟩⟩
def nm_m127 : am_M := (⟨"CobolParser$Units", "kind", "()I"⟩, prog_11_method_10_code, 1, (some .int), [], 1, [(0, .aload_n 0, 1), (1, .getfield 24, 3), (4, .ifCond .le 17, 3), (7, .aload_n 0, 1), (8, .getfield 15, 3), (11, .aload_n 0, 1), (12, .getfield 24, 3), (15, .iconst 1, 1), (16, .isub, 1), (17, .iaload, 1), (18, .goto 4, 3), (21, .iconst (-1), 1), (22, .ireturn, 1)])
set_option maxRecDepth 100000 in
theorem nm_d127 : ∀ e ∈ am_cd nm_m127, decode (am_b nm_m127) e.1 = .ok (e.2.1, e.2.2) := by decide +kernel
theorem nm_o127 : nm_okM nm_m127 [] := ⟨nm_d127, nm_pn8, (nm_in4 (List.mem_of_getElem? (i := 128) rfl) rfl), nm_ii8, nm_ne8, Nat.le_of_ble_eq_true rfl, Or.inl ⟨rfl, rfl⟩⟩
def nm_m128 : am_M := (⟨"CobolParser$Clauses", "mayEndOrContain", "()Z"⟩, prog_2_method_9_code, 1, (some .boolean), [], 1, [(0, .aload_n 0, 1), (1, .getfield 12, 3), (4, .invokevirtual 54, 3), (7, .iconst 1, 1), (8, .if_icmp .lt 19, 3), (11, .aload_n 0, 1), (12, .getfield 12, 3), (15, .invokevirtual 54, 3), (18, .bipush 9, 2), (20, .if_icmp .eq 7, 3), (23, .iconst 1, 1), (24, .goto 4, 3), (27, .iconst 0, 1), (28, .ireturn, 1)])
set_option maxRecDepth 100000 in
theorem nm_d128 : ∀ e ∈ am_cd nm_m128, decode (am_b nm_m128) e.1 = .ok (e.2.1, e.2.2) := by decide +kernel
theorem nm_o128 : nm_okM nm_m128 [] := ⟨nm_d128, nm_pn1, (nm_in4 (List.mem_of_getElem? (i := 132) rfl) rfl), nm_ii1, nm_ne1, Nat.le_of_ble_eq_true rfl, Or.inl ⟨rfl, rfl⟩⟩
def nm_m129 : am_M := (⟨"CobolParser$Units", "isFull", "()Z"⟩, prog_11_method_4_code, 1, (some .boolean), [], 1, [(0, .aload_n 0, 1), (1, .getfield 24, 3), (4, .bipush 10, 2), (6, .if_icmp .lt 7, 3), (9, .iconst 1, 1), (10, .goto 4, 3), (13, .iconst 0, 1), (14, .ireturn, 1)])
set_option maxRecDepth 100000 in
theorem nm_d129 : ∀ e ∈ am_cd nm_m129, decode (am_b nm_m129) e.1 = .ok (e.2.1, e.2.2) := by decide +kernel
theorem nm_o129 : nm_okM nm_m129 [] := ⟨nm_d129, nm_pn8, (nm_in4 (List.mem_of_getElem? (i := 136) rfl) rfl), nm_ii8, nm_ne8, Nat.le_of_ble_eq_true rfl, Or.inl ⟨rfl, rfl⟩⟩
def nm_m130 : am_M := (⟨"CobolParser$Units", "handle", "()I"⟩, prog_11_method_12_code, 1, (some .int), [], 1, [(0, .aload_n 0, 1), (1, .getfield 24, 3), (4, .ifCond .le 17, 3), (7, .aload_n 0, 1), (8, .getfield 21, 3), (11, .aload_n 0, 1), (12, .getfield 24, 3), (15, .iconst 1, 1), (16, .isub, 1), (17, .iaload, 1), (18, .goto 4, 3), (21, .iconst 0, 1), (22, .ireturn, 1)])
set_option maxRecDepth 100000 in
theorem nm_d130 : ∀ e ∈ am_cd nm_m130, decode (am_b nm_m130) e.1 = .ok (e.2.1, e.2.2) := by decide +kernel
theorem nm_o130 : nm_okM nm_m130 [] := ⟨nm_d130, nm_pn8, (nm_in4 (List.mem_of_getElem? (i := 140) rfl) rfl), nm_ii8, nm_ne8, Nat.le_of_ble_eq_true rfl, Or.inl ⟨rfl, rfl⟩⟩
def nm_m131 : am_M := (⟨"CobolParser$Clauses", "heading", "(III)I"⟩, prog_2_method_10_code, 5, (some .int), [], 4, [(0, .aload_n 0, 1), (1, .getfield 35, 3), (4, .iload_n 1, 1), (5, .iconst 0, 1), (6, .aload_n 0, 1), (7, .getfield 31, 3), (10, .invokevirtual 61, 3), (13, .invokevirtual 149, 3), (16, .istore 4, 2), (18, .aload_n 0, 1), (19, .getfield 31, 3), (22, .invokevirtual 154, 3), (25, .aload_n 0, 1), (26, .getfield 31, 3), (29, .iload_n 2, 1), (30, .invokevirtual 157, 3), (33, .aload_n 0, 1), (34, .getfield 31, 3), (37, .iconst 4, 1), (38, .invokevirtual 160, 3), (41, .pop, 1), (42, .aload_n 0, 1), (43, .getfield 35, 3), (46, .iload_n 3, 1), (47, .iload 4, 2), (49, .invokevirtual 164, 3), (52, .iload 4, 2), (54, .ireturn, 1)])
set_option maxRecDepth 100000 in
theorem nm_d131 : ∀ e ∈ am_cd nm_m131, decode (am_b nm_m131) e.1 = .ok (e.2.1, e.2.2) := by decide +kernel
theorem nm_o131 : nm_okM nm_m131 [] := ⟨nm_d131, nm_pn1, (nm_in4 (List.mem_of_getElem? (i := 144) rfl) rfl), nm_ii1, nm_ne1, Nat.le_of_ble_eq_true rfl, Or.inl ⟨rfl, rfl⟩⟩
def nm_m132 : am_M := (⟨"CobolParser$Units", "open", "(I)V"⟩, prog_11_method_5_code, 2, none, [], 2, [(0, .aload_n 0, 1), (1, .getfield 24, 3), (4, .bipush 10, 2), (6, .if_icmp .ge 53, 3), (9, .aload_n 0, 1), (10, .getfield 9, 3), (13, .aload_n 0, 1), (14, .getfield 24, 3), (17, .iconst 0, 1), (18, .iastore, 1), (19, .aload_n 0, 1), (20, .getfield 15, 3), (23, .aload_n 0, 1), (24, .getfield 24, 3), (27, .iconst 0, 1), (28, .iastore, 1), (29, .aload_n 0, 1), (30, .getfield 18, 3), (33, .aload_n 0, 1), (34, .getfield 24, 3), (37, .iconst (-1), 1), (38, .iastore, 1), (39, .aload_n 0, 1), (40, .getfield 21, 3), (43, .aload_n 0, 1), (44, .getfield 24, 3), (47, .iload_n 1, 1), (48, .iastore, 1), (49, .aload_n 0, 1), (50, .dup, 1), (51, .getfield 24, 3), (54, .iconst 1, 1), (55, .iadd, 1), (56, .putfield 24, 3), (59, .return_, 1)])
set_option maxRecDepth 100000 in
theorem nm_d132 : ∀ e ∈ am_cd nm_m132, decode (am_b nm_m132) e.1 = .ok (e.2.1, e.2.2) := by decide +kernel
theorem nm_o132 : nm_okM nm_m132 [] := ⟨nm_d132, nm_pn8, (nm_in4 (List.mem_of_getElem? (i := 150) rfl) rfl), nm_ii8, nm_ne8, Nat.le_of_ble_eq_true rfl, Or.inl ⟨rfl, rfl⟩⟩
def nm_m133 : am_M := (⟨"CobolParser$Clauses", "unitName", "(I)V"⟩, prog_2_method_12_code, 3, none, [], 2, [(0, .aload_n 0, 1), (1, .getfield 31, 3), (4, .invokevirtual 154, 3), (7, .aload_n 0, 1), (8, .getfield 31, 3), (11, .iconst 1, 1), (12, .invokevirtual 160, 3), (15, .istore_n 2, 1), (16, .aload_n 0, 1), (17, .getfield 31, 3), (20, .iconst 4, 1), (21, .invokevirtual 160, 3), (24, .pop, 1), (25, .aload_n 0, 1), (26, .getfield 12, 3), (29, .iload_n 1, 1), (30, .iload_n 2, 1), (31, .invokevirtual 179, 3), (34, .aload_n 0, 1), (35, .getfield 12, 3), (38, .iconst 1, 1), (39, .invokevirtual 125, 3), (42, .aload_n 0, 1), (43, .getfield 35, 3), (46, .aload_n 0, 1), (47, .getfield 12, 3), (50, .invokevirtual 118, 3), (53, .iconst 0, 1), (54, .iload_n 1, 1), (55, .invokevirtual 182, 3), (58, .aload_n 0, 1), (59, .getfield 35, 3), (62, .aload_n 0, 1), (63, .getfield 12, 3), (66, .invokevirtual 118, 3), (69, .iconst 1, 1), (70, .iload_n 2, 1), (71, .invokevirtual 182, 3), (74, .return_, 1)])
set_option maxRecDepth 100000 in
theorem nm_d133 : ∀ e ∈ am_cd nm_m133, decode (am_b nm_m133) e.1 = .ok (e.2.1, e.2.2) := by decide +kernel
theorem nm_o133 : nm_okM nm_m133 [] := ⟨nm_d133, nm_pn1, (nm_in4 (List.mem_of_getElem? (i := 154) rfl) rfl), nm_ii1, nm_ne1, Nat.le_of_ble_eq_true rfl, Or.inl ⟨rfl, rfl⟩⟩
def nm_m134 : am_M := (⟨"CobolParser$Units", "identify", "(II)V"⟩, prog_11_method_7_code, 3, none, [], 3, [(0, .aload_n 0, 1), (1, .getfield 24, 3), (4, .ifCond .le 27, 3), (7, .aload_n 0, 1), (8, .getfield 15, 3), (11, .aload_n 0, 1), (12, .getfield 24, 3), (15, .iconst 1, 1), (16, .isub, 1), (17, .iload_n 1, 1), (18, .iastore, 1), (19, .aload_n 0, 1), (20, .getfield 18, 3), (23, .aload_n 0, 1), (24, .getfield 24, 3), (27, .iconst 1, 1), (28, .isub, 1), (29, .iload_n 2, 1), (30, .iastore, 1), (31, .return_, 1)])
set_option maxRecDepth 100000 in
theorem nm_d134 : ∀ e ∈ am_cd nm_m134, decode (am_b nm_m134) e.1 = .ok (e.2.1, e.2.2) := by decide +kernel
theorem nm_o134 : nm_okM nm_m134 [] := ⟨nm_d134, nm_pn8, (nm_in4 (List.mem_of_getElem? (i := 158) rfl) rfl), nm_ii8, nm_ne8, Nat.le_of_ble_eq_true rfl, Or.inl ⟨rfl, rfl⟩⟩
def nm_m135 : am_M := (⟨"CobolParser$Clauses", "select", "()V"⟩, prog_2_method_13_code, 2, none, [], 1, [(0, .aload_n 0, 1), (1, .getfield 35, 3), (4, .iconst 4, 1), (5, .iconst 0, 1), (6, .aload_n 0, 1), (7, .getfield 31, 3), (10, .invokevirtual 61, 3), (13, .invokevirtual 149, 3), (16, .istore_n 1, 1), (17, .aload_n 0, 1), (18, .getfield 31, 3), (21, .invokevirtual 154, 3), (24, .aload_n 0, 1), (25, .getfield 35, 3), (28, .iload_n 1, 1), (29, .iconst 1, 1), (30, .aload_n 0, 1), (31, .getfield 31, 3), (34, .iconst 1, 1), (35, .invokevirtual 160, 3), (38, .invokevirtual 182, 3), (41, .aload_n 0, 1), (42, .getfield 31, 3), (45, .bipush 6, 2), (47, .invokevirtual 157, 3), (50, .aload_n 0, 1), (51, .getfield 31, 3), (54, .bipush 48, 2), (56, .invokevirtual 186, 3), (59, .pop, 1), (60, .aload_n 0, 1), (61, .aload_n 0, 1), (62, .getfield 31, 3), (65, .iconst 2, 1), (66, .invokevirtual 70, 3), (69, .ifCond .ne 7, 3), (72, .iconst 1, 1), (73, .goto 4, 3), (76, .iconst 0, 1), (77, .invokevirtual 112, 3), (80, .aload_n 0, 1), (81, .getfield 39, 3), (84, .iload_n 1, 1), (85, .invokevirtual 189, 3), (88, .aload_n 0, 1), (89, .getfield 31, 3), (92, .bipush 7, 2), (94, .iconst 0, 1), (95, .invokevirtual 194, 3), (98, .ifCond .eq 8, 3), (101, .aload_n 0, 1), (102, .iload_n 1, 1), (103, .invokevirtual 198, 3), (106, .aload_n 0, 1), (107, .getfield 31, 3), (110, .bipush 11, 2), (112, .iconst 0, 1), (113, .invokevirtual 194, 3), (116, .ifCond .eq 8, 3), (119, .aload_n 0, 1), (120, .iload_n 1, 1), (121, .invokevirtual 201, 3), (124, .aload_n 0, 1), (125, .getfield 31, 3), (128, .iconst 4, 1), (129, .invokevirtual 160, 3), (132, .pop, 1), (133, .aload_n 0, 1), (134, .getfield 35, 3), (137, .aload_n 0, 1), (138, .getfield 18, 3), (141, .iload_n 1, 1), (142, .invokevirtual 164, 3), (145, .return_, 1)])
set_option maxRecDepth 100000 in
theorem nm_d135 : ∀ e ∈ am_cd nm_m135, decode (am_b nm_m135) e.1 = .ok (e.2.1, e.2.2) := by decide +kernel
theorem nm_o135 : nm_okM nm_m135 [] := ⟨nm_d135, nm_pn1, (nm_in4 (List.mem_of_getElem? (i := 163) rfl) rfl), nm_ii1, nm_ne1, Nat.le_of_ble_eq_true rfl, Or.inl ⟨rfl, rfl⟩⟩
def nm_m136 : am_M := (⟨"CobolParser$Clauses", "organization", "(I)V"⟩, prog_2_method_14_code, 4, none, [], 2, [(0, .aload_n 0, 1), (1, .getfield 31, 3), (4, .invokevirtual 61, 3), (7, .istore_n 2, 1), (8, .aload_n 0, 1), (9, .getfield 31, 3), (12, .invokevirtual 154, 3), (15, .aload_n 0, 1), (16, .getfield 31, 3), (19, .bipush 67, 2), (21, .invokevirtual 186, 3), (24, .pop, 1), (25, .aload_n 0, 1), (26, .getfield 31, 3), (29, .invokevirtual 101, 3), (32, .bipush 8, 2), (34, .isub, 1), (35, .istore_n 3, 1), (36, .aload_n 0, 1), (37, .aload_n 0, 1), (38, .getfield 31, 3), (41, .iconst 0, 1), (42, .invokevirtual 70, 3), (45, .ifCond .eq 16, 3), (48, .iload_n 3, 1), (49, .ifCond .lt 12, 3), (52, .iload_n 3, 1), (53, .iconst 2, 1), (54, .if_icmp .gt 7, 3), (57, .iconst 1, 1), (58, .goto 4, 3), (61, .iconst 0, 1), (62, .invokevirtual 112, 3), (65, .aload_n 0, 1), (66, .getfield 31, 3), (69, .invokevirtual 154, 3), (72, .aload_n 0, 1), (73, .getfield 35, 3), (76, .iload_n 1, 1), (77, .aload_n 0, 1), (78, .getfield 35, 3), (81, .iconst 5, 1), (82, .iload_n 3, 1), (83, .iload_n 2, 1), (84, .invokevirtual 149, 3), (87, .invokevirtual 164, 3), (90, .return_, 1)])
set_option maxRecDepth 100000 in
theorem nm_d136 : ∀ e ∈ am_cd nm_m136, decode (am_b nm_m136) e.1 = .ok (e.2.1, e.2.2) := by decide +kernel
theorem nm_o136 : nm_okM nm_m136 [] := ⟨nm_d136, nm_pn1, (nm_in4 (List.mem_of_getElem? (i := 168) rfl) rfl), nm_ii1, nm_ne1, Nat.le_of_ble_eq_true rfl, Or.inl ⟨rfl, rfl⟩⟩
def nm_m137 : am_M := (⟨"CobolParser$Clauses", "key", "(I)V"⟩, prog_2_method_15_code, 3, none, [], 2, [(0, .aload_n 0, 1), (1, .getfield 31, 3), (4, .invokevirtual 61, 3), (7, .istore_n 2, 1), (8, .aload_n 0, 1), (9, .getfield 31, 3), (12, .invokevirtual 154, 3), (15, .aload_n 0, 1), (16, .getfield 31, 3), (19, .bipush 67, 2), (21, .invokevirtual 186, 3), (24, .pop, 1), (25, .aload_n 0, 1), (26, .getfield 35, 3), (29, .iload_n 1, 1), (30, .aload_n 0, 1), (31, .getfield 35, 3), (34, .bipush 6, 2), (36, .aload_n 0, 1), (37, .getfield 31, 3), (40, .iconst 1, 1), (41, .invokevirtual 160, 3), (44, .iload_n 2, 1), (45, .invokevirtual 149, 3), (48, .invokevirtual 164, 3), (51, .return_, 1)])
set_option maxRecDepth 100000 in
theorem nm_d137 : ∀ e ∈ am_cd nm_m137, decode (am_b nm_m137) e.1 = .ok (e.2.1, e.2.2) := by decide +kernel
theorem nm_o137 : nm_okM nm_m137 [] := ⟨nm_d137, nm_pn1, (nm_in4 (List.mem_of_getElem? (i := 172) rfl) rfl), nm_ii1, nm_ne1, Nat.le_of_ble_eq_true rfl, Or.inl ⟨rfl, rfl⟩⟩
def nm_m138 : am_M := (⟨"CobolParser$Clauses", "procedure", "()V"⟩, prog_2_method_18_code, 2, none, [], 1, [(0, .aload_n 0, 1), (1, .getfield 35, 3), (4, .bipush 20, 2), (6, .iconst 0, 1), (7, .aload_n 0, 1), (8, .getfield 31, 3), (11, .invokevirtual 61, 3), (14, .invokevirtual 149, 3), (17, .istore_n 1, 1), (18, .aload_n 0, 1), (19, .getfield 31, 3), (22, .invokevirtual 154, 3), (25, .aload_n 0, 1), (26, .getfield 31, 3), (29, .iconst 1, 1), (30, .invokevirtual 157, 3), (33, .aload_n 0, 1), (34, .getfield 31, 3), (37, .bipush 31, 2), (39, .invokevirtual 186, 3), (42, .ifCond .eq 13, 3), (45, .aload_n 0, 1), (46, .getfield 39, 3), (49, .iload_n 1, 1), (50, .bipush 21, 2), (52, .invokevirtual 207, 3), (55, .aload_n 0, 1), (56, .getfield 31, 3), (59, .iconst 4, 1), (60, .invokevirtual 160, 3), (63, .pop, 1), (64, .aload_n 0, 1), (65, .getfield 35, 3), (68, .aload_n 0, 1), (69, .getfield 12, 3), (72, .invokevirtual 118, 3), (75, .iload_n 1, 1), (76, .invokevirtual 164, 3), (79, .aload_n 0, 1), (80, .iload_n 1, 1), (81, .putfield 18, 3), (84, .aload_n 0, 1), (85, .iconst (-1), 1), (86, .putfield 25, 3), (89, .aload_n 0, 1), (90, .iconst (-1), 1), (91, .putfield 28, 3), (94, .aload_n 0, 1), (95, .getfield 12, 3), (98, .bipush 8, 2), (100, .invokevirtual 125, 3), (103, .return_, 1)])
set_option maxRecDepth 100000 in
theorem nm_d138 : ∀ e ∈ am_cd nm_m138, decode (am_b nm_m138) e.1 = .ok (e.2.1, e.2.2) := by decide +kernel
theorem nm_o138 : nm_okM nm_m138 [] := ⟨nm_d138, nm_pn1, (nm_in4 (List.mem_of_getElem? (i := 176) rfl) rfl), nm_ii1, nm_ne1, Nat.le_of_ble_eq_true rfl, Or.inl ⟨rfl, rfl⟩⟩
def nm_m139 : am_M := (⟨"CobolParser$Clauses", "beginDeclaratives", "()V"⟩, prog_2_method_19_code, 2, none, [], 1, [(0, .aload_n 0, 1), (1, .getfield 35, 3), (4, .bipush 22, 2), (6, .iconst 0, 1), (7, .aload_n 0, 1), (8, .getfield 31, 3), (11, .invokevirtual 61, 3), (14, .invokevirtual 149, 3), (17, .istore_n 1, 1), (18, .aload_n 0, 1), (19, .getfield 31, 3), (22, .invokevirtual 154, 3), (25, .aload_n 0, 1), (26, .getfield 31, 3), (29, .iconst 4, 1), (30, .invokevirtual 160, 3), (33, .pop, 1), (34, .aload_n 0, 1), (35, .getfield 35, 3), (38, .aload_n 0, 1), (39, .getfield 18, 3), (42, .iload_n 1, 1), (43, .invokevirtual 164, 3), (46, .aload_n 0, 1), (47, .iload_n 1, 1), (48, .putfield 22, 3), (51, .aload_n 0, 1), (52, .getfield 12, 3), (55, .bipush 9, 2), (57, .invokevirtual 125, 3), (60, .return_, 1)])
set_option maxRecDepth 100000 in
theorem nm_d139 : ∀ e ∈ am_cd nm_m139, decode (am_b nm_m139) e.1 = .ok (e.2.1, e.2.2) := by decide +kernel
theorem nm_o139 : nm_okM nm_m139 [] := ⟨nm_d139, nm_pn1, (nm_in4 (List.mem_of_getElem? (i := 181) rfl) rfl), nm_ii1, nm_ne1, Nat.le_of_ble_eq_true rfl, Or.inl ⟨rfl, rfl⟩⟩
def nm_m140 : am_M := (⟨"CobolParser$Clauses", "endSomething", "()V"⟩, prog_2_method_20_code, 1, none, [], 1, [(0, .aload_n 0, 1), (1, .getfield 31, 3), (4, .bipush 32, 2), (6, .iconst 1, 1), (7, .invokevirtual 194, 3), (10, .ifCond .eq 18, 3), (13, .aload_n 0, 1), (14, .bipush 9, 2), (16, .bipush 9, 2), (18, .invokevirtual 77, 3), (21, .aload_n 0, 1), (22, .invokevirtual 210, 3), (25, .goto 79, 3), (28, .aload_n 0, 1), (29, .getfield 31, 3), (32, .bipush 34, 2), (34, .iconst 1, 1), (35, .invokevirtual 194, 3), (38, .ifCond .ne 16, 3), (41, .aload_n 0, 1), (42, .getfield 31, 3), (45, .bipush 35, 2), (47, .iconst 1, 1), (48, .invokevirtual 194, 3), (51, .ifCond .eq 18, 3), (54, .aload_n 0, 1), (55, .aload_n 0, 1), (56, .invokevirtual 170, 3), (59, .invokevirtual 112, 3), (62, .aload_n 0, 1), (63, .invokevirtual 213, 3), (66, .goto 38, 3), (69, .aload_n 0, 1), (70, .aload_n 0, 1), (71, .getfield 12, 3), (74, .invokevirtual 54, 3), (77, .iconst 1, 1), (78, .if_icmp .lt 7, 3), (81, .iconst 1, 1), (82, .goto 4, 3), (85, .iconst 0, 1), (86, .invokevirtual 112, 3), (89, .aload_n 0, 1), (90, .getfield 31, 3), (93, .invokevirtual 154, 3), (96, .aload_n 0, 1), (97, .getfield 31, 3), (100, .iconst 1, 1), (101, .invokevirtual 97, 3), (104, .return_, 1)])
set_option maxRecDepth 100000 in
theorem nm_d140 : ∀ e ∈ am_cd nm_m140, decode (am_b nm_m140) e.1 = .ok (e.2.1, e.2.2) := by decide +kernel
theorem nm_o140 : nm_okM nm_m140 [] := ⟨nm_d140, nm_pn1, (nm_in4 (List.mem_of_getElem? (i := 185) rfl) rfl), nm_ii1, nm_ne1, Nat.le_of_ble_eq_true rfl, Or.inl ⟨rfl, rfl⟩⟩
def nm_m141 : am_M := (⟨"CobolParser$Clauses", "endDeclaratives", "()V"⟩, prog_2_method_21_code, 1, none, [], 1, [(0, .aload_n 0, 1), (1, .getfield 31, 3), (4, .invokevirtual 154, 3), (7, .aload_n 0, 1), (8, .getfield 31, 3), (11, .bipush 32, 2), (13, .invokevirtual 157, 3), (16, .aload_n 0, 1), (17, .getfield 31, 3), (20, .iconst 4, 1), (21, .invokevirtual 160, 3), (24, .pop, 1), (25, .aload_n 0, 1), (26, .iconst (-1), 1), (27, .putfield 25, 3), (30, .aload_n 0, 1), (31, .iconst (-1), 1), (32, .putfield 28, 3), (35, .aload_n 0, 1), (36, .getfield 12, 3), (39, .bipush 10, 2), (41, .invokevirtual 125, 3), (44, .return_, 1)])
set_option maxRecDepth 100000 in
theorem nm_d141 : ∀ e ∈ am_cd nm_m141, decode (am_b nm_m141) e.1 = .ok (e.2.1, e.2.2) := by decide +kernel
theorem nm_o141 : nm_okM nm_m141 [] := ⟨nm_d141, nm_pn1, (nm_in4 (List.mem_of_getElem? (i := 189) rfl) rfl), nm_ii1, nm_ne1, Nat.le_of_ble_eq_true rfl, Or.inl ⟨rfl, rfl⟩⟩
def nm_m142 : am_M := (⟨"CobolParser$Clauses", "endUnit", "()V"⟩, prog_2_method_22_code, 3, none, [], 1, [(0, .aload_n 0, 1), (1, .getfield 31, 3), (4, .invokevirtual 154, 3), (7, .aload_n 0, 1), (8, .getfield 31, 3), (11, .aload_n 0, 1), (12, .getfield 12, 3), (15, .invokevirtual 167, 3), (18, .iconst 2, 1), (19, .if_icmp .ne 8, 3), (22, .bipush 35, 2), (24, .goto 5, 3), (27, .bipush 34, 2), (29, .invokevirtual 157, 3), (32, .aload_n 0, 1), (33, .getfield 31, 3), (36, .invokevirtual 61, 3), (39, .istore_n 1, 1), (40, .aload_n 0, 1), (41, .getfield 31, 3), (44, .iconst 1, 1), (45, .invokevirtual 160, 3), (48, .istore_n 2, 1), (49, .aload_n 0, 1), (50, .getfield 31, 3), (53, .iconst 4, 1), (54, .invokevirtual 160, 3), (57, .pop, 1), (58, .iload_n 2, 1), (59, .aload_n 0, 1), (60, .getfield 12, 3), (63, .invokevirtual 216, 3), (66, .if_icmp .eq 12, 3), (69, .aload_n 0, 1), (70, .getfield 31, 3), (73, .iconst 2, 1), (74, .iload_n 1, 1), (75, .invokevirtual 66, 3), (78, .aload_n 0, 1), (79, .getfield 12, 3), (82, .invokevirtual 219, 3), (85, .return_, 1)])
set_option maxRecDepth 100000 in
theorem nm_d142 : ∀ e ∈ am_cd nm_m142, decode (am_b nm_m142) e.1 = .ok (e.2.1, e.2.2) := by decide +kernel
theorem nm_o142 : nm_okM nm_m142 [] := ⟨nm_d142, nm_pn1, (nm_in4 (List.mem_of_getElem? (i := 193) rfl) rfl), nm_ii1, nm_ne1, Nat.le_of_ble_eq_true rfl, Or.inl ⟨rfl, rfl⟩⟩
def nm_m143 : am_M := (⟨"CobolParser$Units", "name", "()I"⟩, prog_11_method_11_code, 1, (some .int), [], 1, [(0, .aload_n 0, 1), (1, .getfield 24, 3), (4, .ifCond .le 17, 3), (7, .aload_n 0, 1), (8, .getfield 18, 3), (11, .aload_n 0, 1), (12, .getfield 24, 3), (15, .iconst 1, 1), (16, .isub, 1), (17, .iaload, 1), (18, .goto 4, 3), (21, .iconst (-1), 1), (22, .ireturn, 1)])
set_option maxRecDepth 100000 in
theorem nm_d143 : ∀ e ∈ am_cd nm_m143, decode (am_b nm_m143) e.1 = .ok (e.2.1, e.2.2) := by decide +kernel
theorem nm_o143 : nm_okM nm_m143 [] := ⟨nm_d143, nm_pn8, (nm_in4 (List.mem_of_getElem? (i := 197) rfl) rfl), nm_ii8, nm_ne8, Nat.le_of_ble_eq_true rfl, Or.inl ⟨rfl, rfl⟩⟩
def nm_m144 : am_M := (⟨"CobolParser$Row", "note", "(II)V"⟩, prog_8_method_23_code, 3, none, [], 3, [(0, .aload_n 0, 1), (1, .getfield 34, 3), (4, .bipush 20, 2), (6, .if_icmp .ge 33, 3), (9, .aload_n 0, 1), (10, .getfield 28, 3), (13, .aload_n 0, 1), (14, .getfield 34, 3), (17, .iload_n 1, 1), (18, .iastore, 1), (19, .aload_n 0, 1), (20, .getfield 31, 3), (23, .aload_n 0, 1), (24, .getfield 34, 3), (27, .iload_n 2, 1), (28, .iastore, 1), (29, .aload_n 0, 1), (30, .dup, 1), (31, .getfield 34, 3), (34, .iconst 1, 1), (35, .iadd, 1), (36, .putfield 34, 3), (39, .return_, 1)])
set_option maxRecDepth 100000 in
theorem nm_d144 : ∀ e ∈ am_cd nm_m144, decode (am_b nm_m144) e.1 = .ok (e.2.1, e.2.2) := by decide +kernel
theorem nm_o144 : nm_okM nm_m144 [] := ⟨nm_d144, nm_pn5, (nm_in4 (List.mem_of_getElem? (i := 201) rfl) rfl), nm_ii5, nm_ne5, Nat.le_of_ble_eq_true rfl, Or.inl ⟨rfl, rfl⟩⟩
def nm_m145 : am_M := (⟨"CobolParser$Units", "close", "()V"⟩, prog_11_method_6_code, 1, none, [], 1, [(0, .aload_n 0, 1), (1, .getfield 24, 3), (4, .ifCond .le 13, 3), (7, .aload_n 0, 1), (8, .dup, 1), (9, .getfield 24, 3), (12, .iconst 1, 1), (13, .isub, 1), (14, .putfield 24, 3), (17, .return_, 1)])
set_option maxRecDepth 100000 in
theorem nm_d145 : ∀ e ∈ am_cd nm_m145, decode (am_b nm_m145) e.1 = .ok (e.2.1, e.2.2) := by decide +kernel
theorem nm_o145 : nm_okM nm_m145 [] := ⟨nm_d145, nm_pn8, (nm_in4 (List.mem_of_getElem? (i := 205) rfl) rfl), nm_ii8, nm_ne8, Nat.le_of_ble_eq_true rfl, Or.inl ⟨rfl, rfl⟩⟩
def nm_m146 : am_M := (⟨"CobolParser$Clauses", "dataClause", "()V"⟩, prog_2_method_6_code, 1, none, [], 1, [(0, .aload_n 0, 1), (1, .getfield 31, 3), (4, .invokevirtual 101, 3), (7, .tableswitch 136 12 17 #[37, 72, 88, 105, 136, 123], 37), (44, .aload_n 0, 1), (45, .iconst 1, 1), (46, .iconst 2, 1), (47, .invokevirtual 77, 3), (50, .aload_n 0, 1), (51, .aload_n 0, 1), (52, .bipush 7, 2), (54, .iconst 1, 1), (55, .aload_n 0, 1), (56, .getfield 12, 3), (59, .invokevirtual 118, 3), (62, .invokevirtual 121, 3), (65, .putfield 18, 3), (68, .aload_n 0, 1), (69, .getfield 12, 3), (72, .iconst 3, 1), (73, .invokevirtual 125, 3), (76, .goto 75, 3), (79, .aload_n 0, 1), (80, .iconst 3, 1), (81, .iconst 3, 1), (82, .invokevirtual 77, 3), (85, .aload_n 0, 1), (86, .bipush 8, 2), (88, .iconst 4, 1), (89, .invokevirtual 143, 3), (92, .goto 59, 3), (95, .aload_n 0, 1), (96, .iconst 3, 1), (97, .iconst 5, 1), (98, .invokevirtual 77, 3), (101, .aload_n 0, 1), (102, .bipush 9, 2), (104, .bipush 6, 2), (106, .invokevirtual 143, 3), (109, .goto 42, 3), (112, .aload_n 0, 1), (113, .iconst 3, 1), (114, .bipush 6, 2), (116, .invokevirtual 77, 3), (119, .aload_n 0, 1), (120, .bipush 10, 2), (122, .bipush 7, 2), (124, .invokevirtual 143, 3), (127, .goto 24, 3), (130, .aload_n 0, 1), (131, .iconst 4, 1), (132, .iconst 5, 1), (133, .invokevirtual 77, 3), (136, .aload_n 0, 1), (137, .invokevirtual 146, 3), (140, .goto 11, 3), (143, .aload_n 0, 1), (144, .getfield 31, 3), (147, .iconst 1, 1), (148, .invokevirtual 97, 3), (151, .return_, 1)])
set_option maxRecDepth 100000 in
theorem nm_d146 : ∀ e ∈ am_cd nm_m146, decode (am_b nm_m146) e.1 = .ok (e.2.1, e.2.2) := by decide +kernel
theorem nm_o146 : nm_okM nm_m146 [] := ⟨nm_d146, nm_pn1, (nm_in4 (List.mem_of_getElem? (i := 209) rfl) rfl), nm_ii1, nm_ne1, Nat.le_of_ble_eq_true rfl, Or.inl ⟨rfl, rfl⟩⟩
def nm_m147 : am_M := (⟨"CobolParser$Clauses", "dataSection", "(II)V"⟩, prog_2_method_16_code, 3, none, [], 3, [(0, .aload_n 0, 1), (1, .aload_n 0, 1), (2, .iload_n 1, 1), (3, .bipush 16, 2), (5, .aload_n 0, 1), (6, .getfield 18, 3), (9, .invokevirtual 121, 3), (12, .putfield 25, 3), (15, .aload_n 0, 1), (16, .getfield 12, 3), (19, .iload_n 2, 1), (20, .invokevirtual 125, 3), (23, .aload_n 0, 1), (24, .getfield 47, 3), (27, .aload_n 0, 1), (28, .getfield 25, 3), (31, .invokevirtual 204, 3), (34, .return_, 1)])
set_option maxRecDepth 100000 in
theorem nm_d147 : ∀ e ∈ am_cd nm_m147, decode (am_b nm_m147) e.1 = .ok (e.2.1, e.2.2) := by decide +kernel
theorem nm_o147 : nm_okM nm_m147 [] := ⟨nm_d147, nm_pn1, (nm_in4 (List.mem_of_getElem? (i := 213) rfl) rfl), nm_ii1, nm_ne1, Nat.le_of_ble_eq_true rfl, Or.inl ⟨rfl, rfl⟩⟩
def nm_m148 : am_M := (⟨"CobolParser$Items", "startIn", "(I)V"⟩, prog_4_method_2_code, 2, none, [], 2, [(0, .aload_n 0, 1), (1, .iload_n 1, 1), (2, .putfield 22, 3), (5, .aload_n 0, 1), (6, .iconst 0, 1), (7, .putfield 18, 3), (10, .return_, 1)])
set_option maxRecDepth 100000 in
theorem nm_d148 : ∀ e ∈ am_cd nm_m148, decode (am_b nm_m148) e.1 = .ok (e.2.1, e.2.2) := by decide +kernel
theorem nm_o148 : nm_okM nm_m148 [] := ⟨nm_d148, nm_pn3, (nm_in4 (List.mem_of_getElem? (i := 217) rfl) rfl), nm_ii3, nm_ne3, Nat.le_of_ble_eq_true rfl, Or.inl ⟨rfl, rfl⟩⟩
def nm_m149 : am_M := (⟨"CobolParser$Clauses", "fileDescription", "()V"⟩, prog_2_method_17_code, 3, none, [], 1, [(0, .aload_n 0, 1), (1, .getfield 31, 3), (4, .invokevirtual 61, 3), (7, .istore_n 1, 1), (8, .aload_n 0, 1), (9, .getfield 31, 3), (12, .invokevirtual 154, 3), (15, .aload_n 0, 1), (16, .getfield 35, 3), (19, .bipush 11, 2), (21, .aload_n 0, 1), (22, .getfield 31, 3), (25, .iconst 1, 1), (26, .invokevirtual 160, 3), (29, .iload_n 1, 1), (30, .invokevirtual 149, 3), (33, .istore_n 2, 1), (34, .aload_n 0, 1), (35, .getfield 31, 3), (38, .iconst 4, 1), (39, .invokevirtual 160, 3), (42, .pop, 1), (43, .aload_n 0, 1), (44, .getfield 35, 3), (47, .aload_n 0, 1), (48, .getfield 25, 3), (51, .iload_n 2, 1), (52, .invokevirtual 164, 3), (55, .aload_n 0, 1), (56, .getfield 12, 3), (59, .iconst 5, 1), (60, .invokevirtual 125, 3), (63, .aload_n 0, 1), (64, .getfield 47, 3), (67, .iload_n 2, 1), (68, .invokevirtual 204, 3), (71, .return_, 1)])
set_option maxRecDepth 100000 in
theorem nm_d149 : ∀ e ∈ am_cd nm_m149, decode (am_b nm_m149) e.1 = .ok (e.2.1, e.2.2) := by decide +kernel
theorem nm_o149 : nm_okM nm_m149 [] := ⟨nm_d149, nm_pn1, (nm_in4 (List.mem_of_getElem? (i := 221) rfl) rfl), nm_ii1, nm_ne1, Nat.le_of_ble_eq_true rfl, Or.inl ⟨rfl, rfl⟩⟩
def nm_m150 : am_M := (⟨"CobolParser$Row", "recover", "()V"⟩, prog_8_method_22_code, 2, none, [], 1, [(0, .aload_n 0, 1), (1, .aload_n 0, 1), (2, .getfield 25, 3), (5, .aload_n 0, 1), (6, .getfield 22, 3), (9, .invokevirtual 74, 3), (12, .aload_n 0, 1), (13, .getfield 22, 3), (16, .istore_n 1, 1), (17, .iload_n 1, 1), (18, .aload_n 0, 1), (19, .getfield 18, 3), (22, .if_icmp .ge 29, 3), (25, .aload_n 0, 1), (26, .getfield 11, 3), (29, .iload_n 1, 1), (30, .iaload, 1), (31, .iconst 4, 1), (32, .if_icmp .eq 19, 3), (35, .aload_n 0, 1), (36, .dup, 1), (37, .getfield 22, 3), (40, .iconst 1, 1), (41, .iadd, 1), (42, .putfield 22, 3), (45, .iinc 1 1, 3), (48, .goto (-31), 3), (51, .aload_n 0, 1), (52, .invokevirtual 57, 3), (55, .return_, 1)])
set_option maxRecDepth 100000 in
theorem nm_d150 : ∀ e ∈ am_cd nm_m150, decode (am_b nm_m150) e.1 = .ok (e.2.1, e.2.2) := by decide +kernel
theorem nm_o150 : nm_okM nm_m150 [] := ⟨nm_d150, nm_pn5, (nm_in4 (List.mem_of_getElem? (i := 225) rfl) rfl), nm_ii5, nm_ne5, Nat.le_of_ble_eq_true rfl, Or.inl ⟨rfl, rfl⟩⟩
def nm_m151 : am_M := (⟨"CobolParser$Clauses", "checkEnd", "()V"⟩, prog_2_method_3_code, 3, none, [], 1, [(0, .aload_n 0, 1), (1, .getfield 12, 3), (4, .invokevirtual 54, 3), (7, .istore_n 1, 1), (8, .iload_n 1, 1), (9, .ifCond .eq 19, 3), (12, .iload_n 1, 1), (13, .bipush 9, 2), (15, .if_icmp .eq 13, 3), (18, .iload_n 1, 1), (19, .bipush 12, 2), (21, .if_icmp .eq 7, 3), (24, .iconst 1, 1), (25, .goto 4, 3), (28, .iconst 0, 1), (29, .istore_n 2, 1), (30, .aload_n 0, 1), (31, .getfield 12, 3), (34, .invokevirtual 58, 3), (37, .iconst 1, 1), (38, .if_icmp .gt 18, 3), (41, .aload_n 0, 1), (42, .getfield 12, 3), (45, .invokevirtual 58, 3), (48, .iconst 1, 1), (49, .if_icmp .ne 22, 3), (52, .iload_n 2, 1), (53, .ifCond .ne 18, 3), (56, .aload_n 0, 1), (57, .getfield 31, 3), (60, .iconst 1, 1), (61, .aload_n 0, 1), (62, .getfield 31, 3), (65, .invokevirtual 61, 3), (68, .invokevirtual 66, 3), (71, .return_, 1)])
set_option maxRecDepth 100000 in
theorem nm_d151 : ∀ e ∈ am_cd nm_m151, decode (am_b nm_m151) e.1 = .ok (e.2.1, e.2.2) := by decide +kernel
theorem nm_o151 : nm_okM nm_m151 [] := ⟨nm_d151, nm_pn1, (nm_in4 (List.mem_of_getElem? (i := 230) rfl) rfl), nm_ii1, nm_ne1, Nat.le_of_ble_eq_true rfl, Or.inl ⟨rfl, rfl⟩⟩
def nm_m152 : am_M := (⟨"CobolParser", "finish", "()I"⟩, prog_1_method_12_code, 1, (some .int), [], 1, [(0, .aload_n 0, 1), (1, .getfield 10, 3), (4, .invokevirtual 139, 3), (7, .aload_n 0, 1), (8, .getfield 10, 3), (11, .invokevirtual 107, 3), (14, .ifCond .le 13, 3), (17, .new 142, 3), (20, .dup, 1), (21, .ldc 144, 2), (23, .invokespecial 146, 3), (26, .athrow, 1), (27, .aload_n 0, 1), (28, .getfield 19, 3), (31, .invokevirtual 149, 3), (34, .aload_n 0, 1), (35, .getfield 19, 3), (38, .invokevirtual 133, 3), (41, .ireturn, 1)])
set_option maxRecDepth 100000 in
theorem nm_d152 : ∀ e ∈ am_cd nm_m152, decode (am_b nm_m152) e.1 = .ok (e.2.1, e.2.2) := by decide +kernel
theorem nm_o152 : nm_okM nm_m152 [] := ⟨nm_d152, nm_pn0, (nm_in4 (List.mem_of_getElem? (i := 234) rfl) rfl), nm_ii0, nm_ne0, Nat.le_of_ble_eq_true rfl, Or.inl ⟨rfl, rfl⟩⟩
def nm_m153 : am_M := (⟨"CobolParser$Row", "clear", "()V"⟩, prog_8_method_6_code, 1, none, [], 1, [(0, .aload_n 0, 1), (1, .iconst 0, 1), (2, .putfield 18, 3), (5, .aload_n 0, 1), (6, .iconst 0, 1), (7, .putfield 22, 3), (10, .return_, 1)])
set_option maxRecDepth 100000 in
theorem nm_d153 : ∀ e ∈ am_cd nm_m153, decode (am_b nm_m153) e.1 = .ok (e.2.1, e.2.2) := by decide +kernel
theorem nm_o153 : nm_okM nm_m153 [] := ⟨nm_d153, nm_pn5, (nm_in4 (List.mem_of_getElem? (i := 238) rfl) rfl), nm_ii5, nm_ne5, Nat.le_of_ble_eq_true rfl, Or.inl ⟨rfl, rfl⟩⟩
def nm_m154 : am_M := (⟨"CobolParser$Tree", "number", "()V"⟩, prog_10_method_7_code, 4, none, [], 1, [(0, .aload_n 0, 1), (1, .iconst 0, 1), (2, .iconst 5, 1), (3, .invokevirtual 38, 3), (6, .istore_n 1, 1), (7, .iconst 0, 1), (8, .istore_n 2, 1), (9, .iload_n 2, 1), (10, .aload_n 0, 1), (11, .getfield 15, 3), (14, .if_icmp .ge 100, 3), (17, .iload_n 1, 1), (18, .iconst (-1), 1), (19, .if_icmp .eq 95, 3), (22, .aload_n 0, 1), (23, .iload_n 2, 1), (24, .bipush 11, 2), (26, .iload_n 1, 1), (27, .invokevirtual 42, 3), (30, .aload_n 0, 1), (31, .iload_n 1, 1), (32, .bipush 10, 2), (34, .iload_n 2, 1), (35, .invokevirtual 42, 3), (38, .aload_n 0, 1), (39, .aload_n 0, 1), (40, .iload_n 1, 1), (41, .iconst 4, 1), (42, .invokevirtual 38, 3), (45, .bipush 9, 2), (47, .invokevirtual 38, 3), (50, .iconst 1, 1), (51, .iadd, 1), (52, .istore_n 3, 1), (53, .aload_n 0, 1), (54, .iload_n 1, 1), (55, .bipush 9, 2), (57, .iload_n 3, 1), (58, .invokevirtual 42, 3), (61, .aload_n 0, 1), (62, .aload_n 0, 1), (63, .getfield 25, 3), (66, .iload_n 3, 1), (67, .invokestatic 46, 3), (70, .putfield 25, 3), (73, .aload_n 0, 1), (74, .dup, 1), (75, .getfield 22, 3), (78, .aload_n 0, 1), (79, .iload_n 1, 1), (80, .invokevirtual 51, 3), (83, .ifCond .eq 7, 3), (86, .iconst 1, 1), (87, .goto 4, 3), (90, .iconst 0, 1), (91, .iadd, 1), (92, .putfield 22, 3), (95, .aload_n 0, 1), (96, .iload_n 2, 1), (97, .iconst 1, 1), (98, .iadd, 1), (99, .putfield 19, 3), (102, .aload_n 0, 1), (103, .iload_n 1, 1), (104, .invokevirtual 55, 3), (107, .istore_n 1, 1), (108, .iinc 2 1, 3), (111, .goto (-102), 3), (114, .return_, 1)])
set_option maxRecDepth 100000 in
theorem nm_d154 : ∀ e ∈ am_cd nm_m154, decode (am_b nm_m154) e.1 = .ok (e.2.1, e.2.2) := by decide +kernel
theorem nm_o154 : nm_okM nm_m154 [] := ⟨nm_d154, nm_pn7, (nm_in5 (List.mem_of_getElem? (i := 18) rfl) rfl), nm_ii7, nm_ne7, Nat.le_of_ble_eq_true rfl, Or.inl ⟨rfl, rfl⟩⟩
def nm_m155 : am_M := (⟨"CobolParser$Tree", "follower", "(I)I"⟩, prog_10_method_23_code, 4, (some .int), [], 2, [(0, .aload_n 0, 1), (1, .iload_n 1, 1), (2, .iconst 5, 1), (3, .invokevirtual 38, 3), (6, .iconst (-1), 1), (7, .if_icmp .eq 10, 3), (10, .aload_n 0, 1), (11, .iload_n 1, 1), (12, .iconst 5, 1), (13, .invokevirtual 38, 3), (16, .ireturn, 1), (17, .iload_n 1, 1), (18, .istore_n 2, 1), (19, .iconst 0, 1), (20, .istore_n 3, 1), (21, .iload_n 3, 1), (22, .aload_n 0, 1), (23, .getfield 15, 3), (26, .if_icmp .ge 27, 3), (29, .aload_n 0, 1), (30, .iload_n 2, 1), (31, .bipush 7, 2), (33, .invokevirtual 38, 3), (36, .iconst (-1), 1), (37, .if_icmp .ne 16, 3), (40, .aload_n 0, 1), (41, .iload_n 2, 1), (42, .iconst 4, 1), (43, .invokevirtual 38, 3), (46, .istore_n 2, 1), (47, .iinc 3 1, 3), (50, .goto (-29), 3), (53, .aload_n 0, 1), (54, .iload_n 2, 1), (55, .bipush 7, 2), (57, .invokevirtual 38, 3), (60, .ireturn, 1)])
set_option maxRecDepth 100000 in
theorem nm_d155 : ∀ e ∈ am_cd nm_m155, decode (am_b nm_m155) e.1 = .ok (e.2.1, e.2.2) := by decide +kernel
theorem nm_o155 : nm_okM nm_m155 [] := ⟨nm_d155, nm_pn7, (nm_in5 (List.mem_of_getElem? (i := 26) rfl) rfl), nm_ii7, nm_ne7, Nat.le_of_ble_eq_true rfl, Or.inl ⟨rfl, rfl⟩⟩
def nm_m156 : am_M := (⟨"CobolParserModel", "<init>", "()V"⟩, prog_13_method_1_code, 1, none, [], 1, [(0, .aload_n 0, 1), (1, .invokespecial 1, 3), (4, .aload_n 0, 1), (5, .sipush 1500, 3), (8, .newarray .int, 2), (10, .putfield 7, 3), (13, .aload_n 0, 1), (14, .sipush 1500, 3), (17, .newarray .int, 2), (19, .putfield 13, 3), (22, .aload_n 0, 1), (23, .bipush 20, 2), (25, .newarray .int, 2), (27, .putfield 16, 3), (30, .aload_n 0, 1), (31, .bipush 20, 2), (33, .newarray .int, 2), (35, .putfield 19, 3), (38, .aload_n 0, 1), (39, .sipush 8000, 3), (42, .newarray .int, 2), (44, .putfield 22, 3), (47, .aload_n 0, 1), (48, .sipush 8000, 3), (51, .newarray .int, 2), (53, .putfield 25, 3), (56, .aload_n 0, 1), (57, .sipush 8000, 3), (60, .newarray .int, 2), (62, .putfield 28, 3), (65, .aload_n 0, 1), (66, .sipush 8000, 3), (69, .newarray .int, 2), (71, .putfield 31, 3), (74, .aload_n 0, 1), (75, .sipush 8000, 3), (78, .newarray .int, 2), (80, .putfield 34, 3), (83, .aload_n 0, 1), (84, .sipush 8000, 3), (87, .newarray .int, 2), (89, .putfield 37, 3), (92, .aload_n 0, 1), (93, .sipush 8000, 3), (96, .newarray .int, 2), (98, .putfield 40, 3), (101, .aload_n 0, 1), (102, .sipush 8000, 3), (105, .newarray .int, 2), (107, .putfield 43, 3), (110, .aload_n 0, 1), (111, .sipush 8000, 3), (114, .newarray .int, 2), (116, .putfield 46, 3), (119, .aload_n 0, 1), (120, .sipush 8000, 3), (123, .newarray .int, 2), (125, .putfield 49, 3), (128, .aload_n 0, 1), (129, .sipush 600, 3), (132, .newarray .int, 2), (134, .putfield 52, 3), (137, .aload_n 0, 1), (138, .sipush 600, 3), (141, .newarray .int, 2), (143, .putfield 55, 3), (146, .aload_n 0, 1), (147, .sipush 600, 3), (150, .newarray .int, 2), (152, .putfield 58, 3), (155, .aload_n 0, 1), (156, .sipush 600, 3), (159, .newarray .int, 2), (161, .putfield 61, 3), (164, .aload_n 0, 1), (165, .bipush 11, 2), (167, .newarray .int, 2), (169, .putfield 64, 3), (172, .aload_n 0, 1), (173, .bipush 11, 2), (175, .newarray .int, 2), (177, .putfield 67, 3), (180, .aload_n 0, 1), (181, .bipush 11, 2), (183, .newarray .int, 2), (185, .putfield 70, 3), (188, .aload_n 0, 1), (189, .bipush 11, 2), (191, .newarray .boolean, 2), (193, .putfield 73, 3), (196, .aload_n 0, 1), (197, .bipush 11, 2), (199, .newarray .boolean, 2), (201, .putfield 77, 3), (204, .aload_n 0, 1), (205, .bipush 64, 2), (207, .newarray .int, 2), (209, .putfield 80, 3), (212, .aload_n 0, 1), (213, .bipush 64, 2), (215, .newarray .int, 2), (217, .putfield 83, 3), (220, .aload_n 0, 1), (221, .sipush 128, 3), (224, .newarray .int, 2), (226, .putfield 86, 3), (229, .aload_n 0, 1), (230, .sipush 128, 3), (233, .newarray .int, 2), (235, .putfield 89, 3), (238, .aload_n 0, 1), (239, .sipush 128, 3), (242, .newarray .int, 2), (244, .putfield 92, 3), (247, .aload_n 0, 1), (248, .bipush 64, 2), (250, .newarray .int, 2), (252, .putfield 95, 3), (255, .aload_n 0, 1), (256, .bipush 64, 2), (258, .newarray .int, 2), (260, .putfield 98, 3), (263, .aload_n 0, 1), (264, .bipush 64, 2), (266, .newarray .int, 2), (268, .putfield 101, 3), (271, .aload_n 0, 1), (272, .bipush 64, 2), (274, .newarray .int, 2), (276, .putfield 104, 3), (279, .aload_n 0, 1), (280, .bipush 64, 2), (282, .newarray .int, 2), (284, .putfield 107, 3), (287, .aload_n 0, 1), (288, .bipush 64, 2), (290, .newarray .int, 2), (292, .putfield 110, 3), (295, .aload_n 0, 1), (296, .bipush 64, 2), (298, .newarray .int, 2), (300, .putfield 113, 3), (303, .aload_n 0, 1), (304, .bipush 64, 2), (306, .newarray .int, 2), (308, .putfield 116, 3), (311, .aload_n 0, 1), (312, .bipush 64, 2), (314, .newarray .int, 2), (316, .putfield 119, 3), (319, .aload_n 0, 1), (320, .bipush 64, 2), (322, .newarray .int, 2), (324, .putfield 122, 3), (327, .aload_n 0, 1), (328, .bipush 64, 2), (330, .newarray .int, 2), (332, .putfield 125, 3), (335, .return_, 1)])
set_option maxRecDepth 100000 in
theorem nm_d156 : ∀ e ∈ am_cd nm_m156, decode (am_b nm_m156) e.1 = .ok (e.2.1, e.2.2) := by decide +kernel
theorem nm_o156 : nm_okM nm_m156 [] := ⟨nm_d156, nm_pn10, (nm_in5 (List.mem_of_getElem? (i := 31) rfl) rfl), nm_ii10, nm_ne10, Nat.le_of_ble_eq_true rfl, Or.inl ⟨rfl, rfl⟩⟩
def nm_m157 : am_M := (⟨"CobolParserModel", "thrown", "()I"⟩, prog_13_method_2_code, 1, (some .int), [], 1, [(0, .aload_n 0, 1), (1, .getfield 128, 3), (4, .ireturn, 1)])
set_option maxRecDepth 100000 in
theorem nm_d157 : ∀ e ∈ am_cd nm_m157, decode (am_b nm_m157) e.1 = .ok (e.2.1, e.2.2) := by decide +kernel
theorem nm_o157 : nm_okM nm_m157 [] := ⟨nm_d157, nm_pn10, (nm_in5 (List.mem_of_getElem? (i := 233) rfl) rfl), nm_ii10, nm_ne10, Nat.le_of_ble_eq_true rfl, Or.inl ⟨rfl, rfl⟩⟩
def nm_m158 : am_M := (⟨"CobolParserModel", "word", "(II)I"⟩, prog_13_method_4_code, 4, (some .int), [], 3, [(0, .aload_n 0, 1), (1, .iconst 0, 1), (2, .putfield 128, 3), (5, .iload_n 1, 1), (6, .iconst 0, 1), (7, .iconst 5, 1), (8, .invokestatic 132, 3), (11, .ifCond .ne 6, 3), (14, .bipush (-4), 2), (16, .ireturn, 1), (17, .iload_n 1, 1), (18, .ifCond .ne 8, 3), (21, .bipush 78, 2), (23, .goto 25, 3), (26, .iload_n 1, 1), (27, .iconst 2, 1), (28, .if_icmp .ne 8, 3), (31, .ldc 136, 2), (33, .goto 15, 3), (36, .iload_n 1, 1), (37, .iconst 5, 1), (38, .if_icmp .ne 8, 3), (41, .bipush 8, 2), (43, .goto 5, 3), (46, .bipush 99, 2), (48, .istore_n 3, 1), (49, .iload_n 1, 1), (50, .iconst 4, 1), (51, .if_icmp .eq 15, 3), (54, .iload_n 2, 1), (55, .iconst 0, 1), (56, .iload_n 3, 1), (57, .invokestatic 132, 3), (60, .ifCond .ne 6, 3), (63, .bipush (-4), 2), (65, .ireturn, 1), (66, .aload_n 0, 1), (67, .getfield 137, 3), (70, .sipush 1500, 3), (73, .if_icmp .ne 5, 3), (76, .iconst (-1), 1), (77, .ireturn, 1), (78, .aload_n 0, 1), (79, .getfield 7, 3), (82, .aload_n 0, 1), (83, .getfield 137, 3), (86, .iload_n 1, 1), (87, .iastore, 1), (88, .aload_n 0, 1), (89, .getfield 13, 3), (92, .aload_n 0, 1), (93, .getfield 137, 3), (96, .iload_n 2, 1), (97, .iastore, 1), (98, .aload_n 0, 1), (99, .dup, 1), (100, .getfield 137, 3), (103, .iconst 1, 1), (104, .iadd, 1), (105, .putfield 137, 3), (108, .aload_n 0, 1), (109, .getfield 137, 3), (112, .ireturn, 1)])
set_option maxRecDepth 100000 in
theorem nm_d158 : ∀ e ∈ am_cd nm_m158, decode (am_b nm_m158) e.1 = .ok (e.2.1, e.2.2) := by decide +kernel
theorem nm_o158 : nm_okM nm_m158 [] := ⟨nm_d158, nm_pn10, (nm_in5 (List.mem_of_getElem? (i := 237) rfl) rfl), nm_ii10, nm_ne10, Nat.le_of_ble_eq_true rfl, Or.inl ⟨rfl, rfl⟩⟩
def nm_m159 : am_M := (⟨"CobolParserModel", "in", "(III)Z"⟩, prog_13_method_3_code, 3, (some .boolean), [], 3, [(0, .iload_n 0, 1), (1, .iload_n 1, 1), (2, .if_icmp .lt 12, 3), (5, .iload_n 0, 1), (6, .iload_n 2, 1), (7, .if_icmp .gt 7, 3), (10, .iconst 1, 1), (11, .goto 4, 3), (14, .iconst 0, 1), (15, .ireturn, 1)])
set_option maxRecDepth 100000 in
theorem nm_d159 : ∀ e ∈ am_cd nm_m159, decode (am_b nm_m159) e.1 = .ok (e.2.1, e.2.2) := by decide +kernel
theorem nm_o159 : nm_okM nm_m159 [] := ⟨nm_d159, nm_pn10, (nm_in6 (List.mem_of_getElem? (i := 0) rfl) rfl), nm_ii10, nm_ne10, Nat.le_of_ble_eq_true rfl, Or.inl ⟨rfl, rfl⟩⟩
end
section
/-! methods, their code decoded, by wip/whole/gen.py -/
def nm_m160 : am_M := (⟨"CobolParserModel", "parse", "()I"⟩, prog_13_method_21_code, 3, (some .int), [], 1, [(0, .aload_n 0, 1), (1, .aload_n 0, 1), (2, .getfield 137, 3), (5, .putfield 140, 3), (8, .aload_n 0, 1), (9, .iconst 0, 1), (10, .putfield 137, 3), (13, .aload_n 0, 1), (14, .iconst 0, 1), (15, .putfield 161, 3), (18, .aload_n 0, 1), (19, .iconst 0, 1), (20, .putfield 147, 3), (23, .aload_n 0, 1), (24, .iconst 0, 1), (25, .putfield 174, 3), (28, .aload_n 0, 1), (29, .iconst 0, 1), (30, .putfield 202, 3), (33, .aload_n 0, 1), (34, .iconst 0, 1), (35, .putfield 205, 3), (38, .aload_n 0, 1), (39, .iconst 0, 1), (40, .putfield 208, 3), (43, .aload_n 0, 1), (44, .iconst 0, 1), (45, .putfield 211, 3), (48, .aload_n 0, 1), (49, .iconst 0, 1), (50, .iconst 0, 1), (51, .iconst 0, 1), (52, .invokevirtual 177, 3), (55, .istore_n 1, 1), (56, .aload_n 0, 1), (57, .getfield 161, 3), (60, .aload_n 0, 1), (61, .getfield 140, 3), (64, .if_icmp .ge 89, 3), (67, .aload_n 0, 1), (68, .getfield 147, 3), (71, .bipush 20, 2), (73, .if_icmp .ge 80, 3), (76, .aload_n 0, 1), (77, .iconst 0, 1), (78, .putfield 150, 3), (81, .aload_n 0, 1), (82, .invokevirtual 214, 3), (85, .aload_n 0, 1), (86, .getfield 150, 3), (89, .ifCond .ne 6, 3), (92, .goto (-36), 3), (95, .aload_n 0, 1), (96, .aload_n 0, 1), (97, .getfield 158, 3), (100, .putfield 161, 3), (103, .aload_n 0, 1), (104, .getfield 161, 3), (107, .aload_n 0, 1), (108, .getfield 140, 3), (111, .if_icmp .ge 29, 3), (114, .aload_n 0, 1), (115, .getfield 7, 3), (118, .aload_n 0, 1), (119, .getfield 161, 3), (122, .iaload, 1), (123, .iconst 4, 1), (124, .if_icmp .eq 16, 3), (127, .aload_n 0, 1), (128, .dup, 1), (129, .getfield 161, 3), (132, .iconst 1, 1), (133, .iadd, 1), (134, .putfield 161, 3), (137, .goto (-34), 3), (140, .aload_n 0, 1), (141, .dup, 1), (142, .getfield 161, 3), (145, .iconst 1, 1), (146, .iadd, 1), (147, .putfield 161, 3), (150, .goto (-94), 3), (153, .aload_n 0, 1), (154, .getfield 205, 3), (157, .iconst 1, 1), (158, .if_icmp .ne 36, 3), (161, .aload_n 0, 1), (162, .getfield 64, 3), (165, .iconst 0, 1), (166, .iaload, 1), (167, .ifCond .eq 27, 3), (170, .aload_n 0, 1), (171, .getfield 64, 3), (174, .iconst 0, 1), (175, .iaload, 1), (176, .bipush 9, 2), (178, .if_icmp .eq 16, 3), (181, .aload_n 0, 1), (182, .getfield 77, 3), (185, .iconst 0, 1), (186, .baload, 1), (187, .ifCond .ne 7, 3), (190, .iconst 1, 1), (191, .goto 4, 3), (194, .iconst 0, 1), (195, .istore_n 2, 1), (196, .aload_n 0, 1), (197, .getfield 147, 3), (200, .bipush 20, 2), (202, .if_icmp .ge 23, 3), (205, .aload_n 0, 1), (206, .getfield 205, 3), (209, .ifCond .le 16, 3), (212, .iload_n 2, 1), (213, .ifCond .ne 12, 3), (216, .aload_n 0, 1), (217, .iconst 1, 1), (218, .aload_n 0, 1), (219, .getfield 140, 3), (222, .invokevirtual 154, 3), (225, .aload_n 0, 1), (226, .aload_n 0, 1), (227, .getfield 147, 3), (230, .ifCond .le 7, 3), (233, .iconst 1, 1), (234, .goto 4, 3), (237, .iconst 0, 1), (238, .putfield 128, 3), (241, .aload_n 0, 1), (242, .getfield 147, 3), (245, .ifCond .le 10, 3), (248, .aload_n 0, 1), (249, .iconst 0, 1), (250, .putfield 202, 3), (253, .iconst 0, 1), (254, .ireturn, 1), (255, .aload_n 0, 1), (256, .iload_n 1, 1), (257, .invokevirtual 217, 3), (260, .aload_n 0, 1), (261, .getfield 202, 3), (264, .ireturn, 1)])
set_option maxRecDepth 100000 in
theorem nm_d160 : ∀ e ∈ am_cd nm_m160, decode (am_b nm_m160) e.1 = .ok (e.2.1, e.2.2) := by decide +kernel
theorem nm_o160 : nm_okM nm_m160 [] := ⟨nm_d160, nm_pn10, (nm_in6 (List.mem_of_getElem? (i := 5) rfl) rfl), nm_ii10, nm_ne10, Nat.le_of_ble_eq_true rfl, Or.inl ⟨rfl, rfl⟩⟩
def nm_m161 : am_M := (⟨"CobolParserModel", "make", "(III)I"⟩, prog_13_method_14_code, 5, (some .int), [], 4, [(0, .aload_n 0, 1), (1, .getfield 174, 3), (4, .istore 4, 2), (6, .aload_n 0, 1), (7, .dup, 1), (8, .getfield 174, 3), (11, .iconst 1, 1), (12, .iadd, 1), (13, .putfield 174, 3), (16, .aload_n 0, 1), (17, .getfield 22, 3), (20, .iload 4, 2), (22, .iload_n 1, 1), (23, .iastore, 1), (24, .aload_n 0, 1), (25, .getfield 25, 3), (28, .iload 4, 2), (30, .iload_n 2, 1), (31, .iastore, 1), (32, .aload_n 0, 1), (33, .getfield 28, 3), (36, .iload 4, 2), (38, .iload_n 3, 1), (39, .iastore, 1), (40, .aload_n 0, 1), (41, .getfield 31, 3), (44, .iload 4, 2), (46, .iconst 0, 1), (47, .iastore, 1), (48, .aload_n 0, 1), (49, .getfield 34, 3), (52, .iload 4, 2), (54, .iconst 0, 1), (55, .iastore, 1), (56, .aload_n 0, 1), (57, .getfield 37, 3), (60, .iload 4, 2), (62, .iconst 0, 1), (63, .iastore, 1), (64, .aload_n 0, 1), (65, .getfield 40, 3), (68, .iload 4, 2), (70, .iconst 0, 1), (71, .iastore, 1), (72, .aload_n 0, 1), (73, .getfield 43, 3), (76, .iload 4, 2), (78, .iconst 0, 1), (79, .iastore, 1), (80, .iload 4, 2), (82, .ireturn, 1)])
set_option maxRecDepth 100000 in
theorem nm_d161 : ∀ e ∈ am_cd nm_m161, decode (am_b nm_m161) e.1 = .ok (e.2.1, e.2.2) := by decide +kernel
theorem nm_o161 : nm_okM nm_m161 [] := ⟨nm_d161, nm_pn10, (nm_in6 (List.mem_of_getElem? (i := 9) rfl) rfl), nm_ii10, nm_ne10, Nat.le_of_ble_eq_true rfl, Or.inl ⟨rfl, rfl⟩⟩
def nm_m162 : am_M := (⟨"CobolParserModel", "clause", "()V"⟩, prog_13_method_22_code, 2, none, [], 1, [(0, .aload_n 0, 1), (1, .getfield 205, 3), (4, .ifCond .ne 7, 3), (7, .iconst (-1), 1), (8, .goto 14, 3), (11, .aload_n 0, 1), (12, .getfield 64, 3), (15, .aload_n 0, 1), (16, .getfield 205, 3), (19, .iconst 1, 1), (20, .isub, 1), (21, .iaload, 1), (22, .istore_n 1, 1), (23, .aload_n 0, 1), (24, .getfield 7, 3), (27, .aload_n 0, 1), (28, .getfield 161, 3), (31, .iaload, 1), (32, .iconst 2, 1), (33, .if_icmp .ne 20, 3), (36, .iload_n 1, 1), (37, .iconst 5, 1), (38, .bipush 7, 2), (40, .invokestatic 132, 3), (43, .ifCond .eq 10, 3), (46, .aload_n 0, 1), (47, .invokevirtual 221, 3), (50, .goto 74, 3), (53, .aload_n 0, 1), (54, .getfield 7, 3), (57, .aload_n 0, 1), (58, .getfield 161, 3), (61, .iaload, 1), (62, .iconst 1, 1), (63, .if_icmp .ne 22, 3), (66, .iload_n 1, 1), (67, .bipush 8, 2), (69, .bipush 11, 2), (71, .invokestatic 132, 3), (74, .ifCond .eq 11, 3), (77, .aload_n 0, 1), (78, .iload_n 1, 1), (79, .invokevirtual 224, 3), (82, .goto 42, 3), (85, .aload_n 0, 1), (86, .getfield 7, 3), (89, .aload_n 0, 1), (90, .getfield 161, 3), (93, .iaload, 1), (94, .ifCond .eq 16, 3), (97, .aload_n 0, 1), (98, .iconst 1, 1), (99, .aload_n 0, 1), (100, .getfield 161, 3), (103, .invokevirtual 171, 3), (106, .pop, 1), (107, .goto 17, 3), (110, .aload_n 0, 1), (111, .iload_n 1, 1), (112, .aload_n 0, 1), (113, .getfield 13, 3), (116, .aload_n 0, 1), (117, .getfield 161, 3), (120, .iaload, 1), (121, .invokevirtual 227, 3), (124, .return_, 1)])
set_option maxRecDepth 100000 in
theorem nm_d162 : ∀ e ∈ am_cd nm_m162, decode (am_b nm_m162) e.1 = .ok (e.2.1, e.2.2) := by decide +kernel
theorem nm_o162 : nm_okM nm_m162 [] := ⟨nm_d162, nm_pn10, (nm_in6 (List.mem_of_getElem? (i := 13) rfl) rfl), nm_ii10, nm_ne10, Nat.le_of_ble_eq_true rfl, Or.inl ⟨rfl, rfl⟩⟩
def nm_m163 : am_M := (⟨"CobolParserModel", "item", "()V"⟩, prog_13_method_36_code, 7, none, [], 1, [(0, .aload_n 0, 1), (1, .getfield 161, 3), (4, .istore_n 1, 1), (5, .aload_n 0, 1), (6, .getfield 13, 3), (9, .aload_n 0, 1), (10, .getfield 161, 3), (13, .iaload, 1), (14, .istore_n 2, 1), (15, .iload_n 2, 1), (16, .iconst 1, 1), (17, .if_icmp .eq 9, 3), (20, .iload_n 2, 1), (21, .bipush 77, 2), (23, .if_icmp .ne 7, 3), (26, .iconst 1, 1), (27, .goto 4, 3), (30, .iconst 0, 1), (31, .istore_n 3, 1), (32, .iload_n 3, 1), (33, .ifCond .ne 45, 3), (36, .iload_n 2, 1), (37, .bipush 88, 2), (39, .if_icmp .ne 10, 3), (42, .aload_n 0, 1), (43, .getfield 282, 3), (46, .ifCond .gt 32, 3), (49, .iload_n 2, 1), (50, .iconst 2, 1), (51, .bipush 49, 2), (53, .invokestatic 132, 3), (56, .ifCond .eq 11, 3), (59, .aload_n 0, 1), (60, .iload_n 2, 1), (61, .invokevirtual 297, 3), (64, .ifCond .ge 14, 3), (67, .aload_n 0, 1), (68, .iconst 1, 1), (69, .aload_n 0, 1), (70, .getfield 161, 3), (73, .invokevirtual 171, 3), (76, .pop, 1), (77, .return_, 1), (78, .aload_n 0, 1), (79, .dup, 1), (80, .getfield 161, 3), (83, .iconst 1, 1), (84, .iadd, 1), (85, .putfield 161, 3), (88, .aload_n 0, 1), (89, .aload_n 0, 1), (90, .getfield 161, 3), (93, .iconst 1, 1), (94, .invokevirtual 143, 3), (97, .ifCond .eq 17, 3), (100, .aload_n 0, 1), (101, .getfield 13, 3), (104, .aload_n 0, 1), (105, .getfield 161, 3), (108, .iaload, 1), (109, .iconst 1, 1), (110, .iadd, 1), (111, .goto 4, 3), (114, .iconst 0, 1), (115, .istore 4, 2), (117, .iload 4, 2), (119, .ifCond .le 16, 3), (122, .aload_n 0, 1), (123, .dup, 1), (124, .getfield 161, 3), (127, .iconst 1, 1), (128, .iadd, 1), (129, .putfield 161, 3), (132, .goto 26, 3), (135, .aload_n 0, 1), (136, .aload_n 0, 1), (137, .getfield 161, 3), (140, .bipush 18, 2), (142, .invokevirtual 164, 3), (145, .ifCond .eq 13, 3), (148, .aload_n 0, 1), (149, .dup, 1), (150, .getfield 161, 3), (153, .iconst 1, 1), (154, .iadd, 1), (155, .putfield 161, 3), (158, .aload_n 0, 1), (159, .bipush 12, 2), (161, .sipush 1000, 3), (164, .iload_n 2, 1), (165, .imul, 1), (166, .iload 4, 2), (168, .iadd, 1), (169, .iload_n 1, 1), (170, .invokevirtual 177, 3), (173, .istore 5, 2), (175, .iconst 1, 1), (176, .istore 6, 2), (178, .iload 6, 2), (180, .ifCond .eq 43, 3), (183, .aload_n 0, 1), (184, .getfield 150, 3), (187, .ifCond .ne 36, 3), (190, .aload_n 0, 1), (191, .aload_n 0, 1), (192, .getfield 161, 3), (195, .iconst 4, 1), (196, .invokevirtual 143, 3), (199, .ifCond .ne 7, 3), (202, .iconst 1, 1), (203, .goto 4, 3), (206, .iconst 0, 1), (207, .istore 6, 2), (209, .iload 6, 2), (211, .ifCond .eq (-33), 3), (214, .aload_n 0, 1), (215, .iload 5, 2), (217, .invokevirtual 301, 3), (220, .goto (-42), 3), (223, .aload_n 0, 1), (224, .getfield 150, 3), (227, .ifCond .eq 4, 3), (230, .return_, 1), (231, .aload_n 0, 1), (232, .dup, 1), (233, .getfield 161, 3), (236, .iconst 1, 1), (237, .iadd, 1), (238, .putfield 161, 3), (241, .iload_n 2, 1), (242, .bipush 88, 2), (244, .if_icmp .ne 14, 3), (247, .aload_n 0, 1), (248, .aload_n 0, 1), (249, .getfield 282, 3), (252, .iload 5, 2), (254, .invokevirtual 181, 3), (257, .return_, 1), (258, .aload_n 0, 1), (259, .iload_n 3, 1), (260, .ifCond .eq 7, 3), (263, .iconst 0, 1), (264, .goto 10, 3), (267, .aload_n 0, 1), (268, .iload_n 2, 1), (269, .invokevirtual 297, 3), (272, .iconst 1, 1), (273, .iadd, 1), (274, .putfield 279, 3), (277, .aload_n 0, 1), (278, .iload_n 3, 1), (279, .ifCond .eq 10, 3), (282, .aload_n 0, 1), (283, .getfield 276, 3), (286, .goto 14, 3), (289, .aload_n 0, 1), (290, .getfield 83, 3), (293, .aload_n 0, 1), (294, .getfield 279, 3), (297, .iconst 1, 1), (298, .isub, 1), (299, .iaload, 1), (300, .iload 5, 2), (302, .invokevirtual 181, 3), (305, .aload_n 0, 1), (306, .getfield 80, 3), (309, .aload_n 0, 1), (310, .getfield 279, 3), (313, .iload_n 2, 1), (314, .iastore, 1), (315, .aload_n 0, 1), (316, .getfield 83, 3), (319, .aload_n 0, 1), (320, .getfield 279, 3), (323, .iload 5, 2), (325, .iastore, 1), (326, .aload_n 0, 1), (327, .dup, 1), (328, .getfield 279, 3), (331, .iconst 1, 1), (332, .iadd, 1), (333, .putfield 279, 3), (336, .aload_n 0, 1), (337, .iload 5, 2), (339, .putfield 282, 3), (342, .return_, 1)])
set_option maxRecDepth 100000 in
theorem nm_d163 : ∀ e ∈ am_cd nm_m163, decode (am_b nm_m163) e.1 = .ok (e.2.1, e.2.2) := by decide +kernel
theorem nm_o163 : nm_okM nm_m163 [] := ⟨nm_d163, nm_pn10, (nm_in6 (List.mem_of_getElem? (i := 17) rfl) rfl), nm_ii10, nm_ne10, Nat.le_of_ble_eq_true rfl, Or.inl ⟨rfl, rfl⟩⟩
def nm_m164 : am_M := (⟨"CobolParserModel", "within", "(I)I"⟩, prog_13_method_35_code, 3, (some .int), [], 2, [(0, .aload_n 0, 1), (1, .getfield 279, 3), (4, .iconst 1, 1), (5, .isub, 1), (6, .istore_n 2, 1), (7, .iload_n 2, 1), (8, .ifCond .lt 19, 3), (11, .aload_n 0, 1), (12, .getfield 80, 3), (15, .iload_n 2, 1), (16, .iaload, 1), (17, .iload_n 1, 1), (18, .if_icmp .lt 9, 3), (21, .iinc 2 (-1), 3), (24, .goto (-17), 3), (27, .iload_n 2, 1), (28, .ireturn, 1)])
set_option maxRecDepth 100000 in
theorem nm_d164 : ∀ e ∈ am_cd nm_m164, decode (am_b nm_m164) e.1 = .ok (e.2.1, e.2.2) := by decide +kernel
theorem nm_o164 : nm_okM nm_m164 [] := ⟨nm_d164, nm_pn10, (nm_in6 (List.mem_of_getElem? (i := 21) rfl) rfl), nm_ii10, nm_ne10, Nat.le_of_ble_eq_true rfl, Or.inl ⟨rfl, rfl⟩⟩
def nm_m165 : am_M := (⟨"CobolParserModel", "fail", "(II)Z"⟩, prog_13_method_9_code, 3, (some .boolean), [], 3, [(0, .aload_n 0, 1), (1, .getfield 150, 3), (4, .ifCond .ne 9, 3), (7, .aload_n 0, 1), (8, .iload_n 1, 1), (9, .iload_n 2, 1), (10, .invokevirtual 154, 3), (13, .aload_n 0, 1), (14, .aload_n 0, 1), (15, .getfield 150, 3), (18, .ifCond .eq 10, 3), (21, .aload_n 0, 1), (22, .getfield 158, 3), (25, .goto 4, 3), (28, .iload_n 2, 1), (29, .putfield 158, 3), (32, .aload_n 0, 1), (33, .iconst 1, 1), (34, .putfield 150, 3), (37, .iconst 0, 1), (38, .ireturn, 1)])
set_option maxRecDepth 100000 in
theorem nm_d165 : ∀ e ∈ am_cd nm_m165, decode (am_b nm_m165) e.1 = .ok (e.2.1, e.2.2) := by decide +kernel
theorem nm_o165 : nm_okM nm_m165 [] := ⟨nm_d165, nm_pn10, (nm_in6 (List.mem_of_getElem? (i := 25) rfl) rfl), nm_ii10, nm_ne10, Nat.le_of_ble_eq_true rfl, Or.inl ⟨rfl, rfl⟩⟩
def nm_m166 : am_M := (⟨"CobolParserModel", "note", "(II)V"⟩, prog_13_method_8_code, 3, none, [], 3, [(0, .aload_n 0, 1), (1, .getfield 147, 3), (4, .bipush 20, 2), (6, .if_icmp .ne 4, 3), (9, .return_, 1), (10, .aload_n 0, 1), (11, .getfield 16, 3), (14, .aload_n 0, 1), (15, .getfield 147, 3), (18, .iload_n 1, 1), (19, .iastore, 1), (20, .aload_n 0, 1), (21, .getfield 19, 3), (24, .aload_n 0, 1), (25, .getfield 147, 3), (28, .iload_n 2, 1), (29, .iastore, 1), (30, .aload_n 0, 1), (31, .dup, 1), (32, .getfield 147, 3), (35, .iconst 1, 1), (36, .iadd, 1), (37, .putfield 147, 3), (40, .return_, 1)])
set_option maxRecDepth 100000 in
theorem nm_d166 : ∀ e ∈ am_cd nm_m166, decode (am_b nm_m166) e.1 = .ok (e.2.1, e.2.2) := by decide +kernel
theorem nm_o166 : nm_okM nm_m166 [] := ⟨nm_d166, nm_pn10, (nm_in6 (List.mem_of_getElem? (i := 29) rfl) rfl), nm_ii10, nm_ne10, Nat.le_of_ble_eq_true rfl, Or.inl ⟨rfl, rfl⟩⟩
def nm_m167 : am_M := (⟨"CobolParserModel", "isKind", "(II)Z"⟩, prog_13_method_5_code, 3, (some .boolean), [], 3, [(0, .iload_n 1, 1), (1, .aload_n 0, 1), (2, .getfield 140, 3), (5, .if_icmp .ge 17, 3), (8, .aload_n 0, 1), (9, .getfield 7, 3), (12, .iload_n 1, 1), (13, .iaload, 1), (14, .iload_n 2, 1), (15, .if_icmp .ne 7, 3), (18, .iconst 1, 1), (19, .goto 4, 3), (22, .iconst 0, 1), (23, .ireturn, 1)])
set_option maxRecDepth 100000 in
theorem nm_d167 : ∀ e ∈ am_cd nm_m167, decode (am_b nm_m167) e.1 = .ok (e.2.1, e.2.2) := by decide +kernel
theorem nm_o167 : nm_okM nm_m167 [] := ⟨nm_d167, nm_pn10, (nm_in6 (List.mem_of_getElem? (i := 33) rfl) rfl), nm_ii10, nm_ne10, Nat.le_of_ble_eq_true rfl, Or.inl ⟨rfl, rfl⟩⟩
def nm_m168 : am_M := (⟨"CobolParserModel", "isWord", "(II)Z"⟩, prog_13_method_6_code, 3, (some .boolean), [], 3, [(0, .aload_n 0, 1), (1, .iload_n 1, 1), (2, .iconst 0, 1), (3, .invokevirtual 143, 3), (6, .ifCond .eq 17, 3), (9, .aload_n 0, 1), (10, .getfield 13, 3), (13, .iload_n 1, 1), (14, .iaload, 1), (15, .iload_n 2, 1), (16, .if_icmp .ne 7, 3), (19, .iconst 1, 1), (20, .goto 4, 3), (23, .iconst 0, 1), (24, .ireturn, 1)])
set_option maxRecDepth 100000 in
theorem nm_d168 : ∀ e ∈ am_cd nm_m168, decode (am_b nm_m168) e.1 = .ok (e.2.1, e.2.2) := by decide +kernel
theorem nm_o168 : nm_okM nm_m168 [] := ⟨nm_d168, nm_pn10, (nm_in6 (List.mem_of_getElem? (i := 37) rfl) rfl), nm_ii10, nm_ne10, Nat.le_of_ble_eq_true rfl, Or.inl ⟨rfl, rfl⟩⟩
def nm_m169 : am_M := (⟨"CobolParserModel", "described2", "(I)V"⟩, prog_13_method_38_code, 7, none, [], 2, [(0, .aload_n 0, 1), (1, .getfield 161, 3), (4, .istore_n 2, 1), (5, .aload_n 0, 1), (6, .aload_n 0, 1), (7, .getfield 161, 3), (10, .iconst 0, 1), (11, .invokevirtual 143, 3), (14, .ifCond .eq 15, 3), (17, .aload_n 0, 1), (18, .getfield 13, 3), (21, .aload_n 0, 1), (22, .getfield 161, 3), (25, .iaload, 1), (26, .goto 4, 3), (29, .iconst (-1), 1), (30, .istore_n 3, 1), (31, .aload_n 0, 1), (32, .dup, 1), (33, .getfield 161, 3), (36, .iconst 1, 1), (37, .iadd, 1), (38, .putfield 161, 3), (41, .iload_n 3, 1), (42, .bipush 19, 2), (44, .if_icmp .eq 15, 3), (47, .iload_n 3, 1), (48, .bipush 20, 2), (50, .if_icmp .eq 9, 3), (53, .iload_n 3, 1), (54, .bipush 27, 2), (56, .if_icmp .ne 16, 3), (59, .aload_n 0, 1), (60, .bipush 67, 2), (62, .invokevirtual 167, 3), (65, .ifCond .eq 7, 3), (68, .iconst 1, 1), (69, .goto 4, 3), (72, .iconst 0, 1), (73, .istore 4, 2), (75, .iload_n 3, 1), (76, .tableswitch 237 19 27 #[52, 75, 237, 116, 237, 237, 237, 125, 148], 52), (128, .aload_n 0, 1), (129, .iconst 3, 1), (130, .invokevirtual 192, 3), (133, .ifCond .eq 187, 3), (136, .aload_n 0, 1), (137, .iload_n 1, 1), (138, .bipush 13, 2), (140, .aload_n 0, 1), (141, .invokevirtual 195, 3), (144, .iload_n 2, 1), (145, .invokevirtual 198, 3), (148, .goto 172, 3), (151, .aload_n 0, 1), (152, .bipush 14, 2), (154, .iconst 0, 1), (155, .iload_n 2, 1), (156, .invokevirtual 177, 3), (159, .istore 5, 2), (161, .aload_n 0, 1), (162, .iload_n 1, 1), (163, .iload 5, 2), (165, .invokevirtual 181, 3), (168, .aload_n 0, 1), (169, .iload 5, 2), (171, .invokevirtual 304, 3), (174, .aload_n 0, 1), (175, .bipush 21, 2), (177, .invokevirtual 167, 3), (180, .ifCond .eq 140, 3), (183, .aload_n 0, 1), (184, .iload 5, 2), (186, .invokevirtual 304, 3), (189, .goto 131, 3), (192, .aload_n 0, 1), (193, .iload_n 1, 1), (194, .iload_n 2, 1), (195, .invokevirtual 307, 3), (198, .goto 122, 3), (201, .aload_n 0, 1), (202, .iconst 1, 1), (203, .invokevirtual 192, 3), (206, .ifCond .eq 114, 3), (209, .aload_n 0, 1), (210, .iload_n 1, 1), (211, .bipush 18, 2), (213, .aload_n 0, 1), (214, .invokevirtual 195, 3), (217, .iload_n 2, 1), (218, .invokevirtual 198, 3), (221, .goto 99, 3), (224, .aload_n 0, 1), (225, .aload_n 0, 1), (226, .getfield 161, 3), (229, .bipush 28, 2), (231, .invokevirtual 164, 3), (234, .ifCond .ne 16, 3), (237, .aload_n 0, 1), (238, .aload_n 0, 1), (239, .getfield 161, 3), (242, .bipush 29, 2), (244, .invokevirtual 164, 3), (247, .ifCond .eq 7, 3), (250, .iconst 1, 1), (251, .goto 4, 3), (254, .iconst 0, 1), (255, .istore 6, 2), (257, .iload 6, 2), (259, .ifCond .eq 23, 3), (262, .aload_n 0, 1), (263, .iload_n 1, 1), (264, .bipush 19, 2), (266, .aload_n 0, 1), (267, .getfield 13, 3), (270, .aload_n 0, 1), (271, .getfield 161, 3), (274, .iaload, 1), (275, .bipush 28, 2), (277, .isub, 1), (278, .iload_n 2, 1), (279, .invokevirtual 198, 3), (282, .iload 6, 2), (284, .ifCond .eq 16, 3), (287, .aload_n 0, 1), (288, .dup, 1), (289, .getfield 161, 3), (292, .iconst 1, 1), (293, .iadd, 1), (294, .putfield 161, 3), (297, .goto 23, 3), (300, .aload_n 0, 1), (301, .iconst 1, 1), (302, .aload_n 0, 1), (303, .getfield 161, 3), (306, .invokevirtual 171, 3), (309, .pop, 1), (310, .goto 10, 3), (313, .aload_n 0, 1), (314, .iconst 1, 1), (315, .iload_n 2, 1), (316, .invokevirtual 171, 3), (319, .pop, 1), (320, .return_, 1)])
set_option maxRecDepth 100000 in
theorem nm_d169 : ∀ e ∈ am_cd nm_m169, decode (am_b nm_m169) e.1 = .ok (e.2.1, e.2.2) := by decide +kernel
theorem nm_o169 : nm_okM nm_m169 [] := ⟨nm_d169, nm_pn10, (nm_in6 (List.mem_of_getElem? (i := 41) rfl) rfl), nm_ii10, nm_ne10, Nat.le_of_ble_eq_true rfl, Or.inl ⟨rfl, rfl⟩⟩
def nm_m170 : am_M := (⟨"CobolParserModel", "meets", "(I)Z"⟩, prog_13_method_10_code, 2, (some .boolean), [], 2, [(0, .aload_n 0, 1), (1, .getfield 150, 3), (4, .ifCond .ne 15, 3), (7, .aload_n 0, 1), (8, .aload_n 0, 1), (9, .getfield 161, 3), (12, .iload_n 1, 1), (13, .invokevirtual 164, 3), (16, .ifCond .ne 5, 3), (19, .iconst 0, 1), (20, .ireturn, 1), (21, .aload_n 0, 1), (22, .dup, 1), (23, .getfield 161, 3), (26, .iconst 1, 1), (27, .iadd, 1), (28, .putfield 161, 3), (31, .iconst 1, 1), (32, .ireturn, 1)])
set_option maxRecDepth 100000 in
theorem nm_d170 : ∀ e ∈ am_cd nm_m170, decode (am_b nm_m170) e.1 = .ok (e.2.1, e.2.2) := by decide +kernel
theorem nm_o170 : nm_okM nm_m170 [] := ⟨nm_d170, nm_pn10, (nm_in6 (List.mem_of_getElem? (i := 45) rfl) rfl), nm_ii10, nm_ne10, Nat.le_of_ble_eq_true rfl, Or.inl ⟨rfl, rfl⟩⟩
def nm_m171 : am_M := (⟨"CobolParserModel", "mustBe", "(I)Z"⟩, prog_13_method_12_code, 2, (some .boolean), [], 2, [(0, .aload_n 0, 1), (1, .getfield 150, 3), (4, .ifCond .ne 15, 3), (7, .aload_n 0, 1), (8, .aload_n 0, 1), (9, .getfield 161, 3), (12, .iload_n 1, 1), (13, .invokevirtual 143, 3), (16, .ifCond .ne 13, 3), (19, .aload_n 0, 1), (20, .iconst 1, 1), (21, .aload_n 0, 1), (22, .getfield 161, 3), (25, .invokevirtual 171, 3), (28, .ireturn, 1), (29, .aload_n 0, 1), (30, .dup, 1), (31, .getfield 161, 3), (34, .iconst 1, 1), (35, .iadd, 1), (36, .putfield 161, 3), (39, .iconst 1, 1), (40, .ireturn, 1)])
set_option maxRecDepth 100000 in
theorem nm_d171 : ∀ e ∈ am_cd nm_m171, decode (am_b nm_m171) e.1 = .ok (e.2.1, e.2.2) := by decide +kernel
theorem nm_o171 : nm_okM nm_m171 [] := ⟨nm_d171, nm_pn10, (nm_in6 (List.mem_of_getElem? (i := 49) rfl) rfl), nm_ii10, nm_ne10, Nat.le_of_ble_eq_true rfl, Or.inl ⟨rfl, rfl⟩⟩
def nm_m172 : am_M := (⟨"CobolParserModel", "passed", "()I"⟩, prog_13_method_13_code, 1, (some .int), [], 1, [(0, .aload_n 0, 1), (1, .getfield 161, 3), (4, .ifCond .le 17, 3), (7, .aload_n 0, 1), (8, .getfield 13, 3), (11, .aload_n 0, 1), (12, .getfield 161, 3), (15, .iconst 1, 1), (16, .isub, 1), (17, .iaload, 1), (18, .goto 4, 3), (21, .iconst 0, 1), (22, .ireturn, 1)])
set_option maxRecDepth 100000 in
theorem nm_d172 : ∀ e ∈ am_cd nm_m172, decode (am_b nm_m172) e.1 = .ok (e.2.1, e.2.2) := by decide +kernel
theorem nm_o172 : nm_okM nm_m172 [] := ⟨nm_d172, nm_pn10, (nm_in6 (List.mem_of_getElem? (i := 53) rfl) rfl), nm_ii10, nm_ne10, Nat.le_of_ble_eq_true rfl, Or.inl ⟨rfl, rfl⟩⟩
def nm_m173 : am_M := (⟨"CobolParserModel", "child", "(IIII)V"⟩, prog_13_method_16_code, 5, none, [], 5, [(0, .aload_n 0, 1), (1, .iload_n 1, 1), (2, .aload_n 0, 1), (3, .iload_n 2, 1), (4, .iload_n 3, 1), (5, .iload 4, 2), (7, .invokevirtual 177, 3), (10, .invokevirtual 181, 3), (13, .return_, 1)])
set_option maxRecDepth 100000 in
theorem nm_d173 : ∀ e ∈ am_cd nm_m173, decode (am_b nm_m173) e.1 = .ok (e.2.1, e.2.2) := by decide +kernel
theorem nm_o173 : nm_okM nm_m173 [] := ⟨nm_d173, nm_pn10, (nm_in6 (List.mem_of_getElem? (i := 57) rfl) rfl), nm_ii10, nm_ne10, Nat.le_of_ble_eq_true rfl, Or.inl ⟨rfl, rfl⟩⟩
def nm_m174 : am_M := (⟨"CobolParserModel", "attach", "(II)V"⟩, prog_13_method_15_code, 3, none, [], 3, [(0, .aload_n 0, 1), (1, .getfield 43, 3), (4, .iload_n 2, 1), (5, .iload_n 1, 1), (6, .iastore, 1), (7, .aload_n 0, 1), (8, .getfield 40, 3), (11, .iload_n 2, 1), (12, .iconst 0, 1), (13, .iastore, 1), (14, .aload_n 0, 1), (15, .getfield 34, 3), (18, .iload_n 1, 1), (19, .iaload, 1), (20, .ifCond .ne 13, 3), (23, .aload_n 0, 1), (24, .getfield 34, 3), (27, .iload_n 1, 1), (28, .iload_n 2, 1), (29, .iastore, 1), (30, .goto 15, 3), (33, .aload_n 0, 1), (34, .getfield 40, 3), (37, .aload_n 0, 1), (38, .getfield 37, 3), (41, .iload_n 1, 1), (42, .iaload, 1), (43, .iload_n 2, 1), (44, .iastore, 1), (45, .aload_n 0, 1), (46, .getfield 37, 3), (49, .iload_n 1, 1), (50, .iload_n 2, 1), (51, .iastore, 1), (52, .return_, 1)])
set_option maxRecDepth 100000 in
theorem nm_d174 : ∀ e ∈ am_cd nm_m174, decode (am_b nm_m174) e.1 = .ok (e.2.1, e.2.2) := by decide +kernel
theorem nm_o174 : nm_okM nm_m174 [] := ⟨nm_d174, nm_pn10, (nm_in6 (List.mem_of_getElem? (i := 61) rfl) rfl), nm_ii10, nm_ne10, Nat.le_of_ble_eq_true rfl, Or.inl ⟨rfl, rfl⟩⟩
def nm_m175 : am_M := (⟨"CobolParserModel", "literal", "(I)V"⟩, prog_13_method_37_code, 2, none, [], 2, [(0, .aload_n 0, 1), (1, .aload_n 0, 1), (2, .getfield 161, 3), (5, .iconst 2, 1), (6, .invokevirtual 143, 3), (9, .ifCond .ne 28, 3), (12, .aload_n 0, 1), (13, .aload_n 0, 1), (14, .getfield 161, 3), (17, .iconst 3, 1), (18, .invokevirtual 143, 3), (21, .ifCond .ne 16, 3), (24, .aload_n 0, 1), (25, .iconst 1, 1), (26, .aload_n 0, 1), (27, .getfield 161, 3), (30, .invokevirtual 171, 3), (33, .pop, 1), (34, .goto 8, 3), (37, .aload_n 0, 1), (38, .iload_n 1, 1), (39, .invokevirtual 285, 3), (42, .return_, 1)])
set_option maxRecDepth 100000 in
theorem nm_d175 : ∀ e ∈ am_cd nm_m175, decode (am_b nm_m175) e.1 = .ok (e.2.1, e.2.2) := by decide +kernel
theorem nm_o175 : nm_okM nm_m175 [] := ⟨nm_d175, nm_pn10, (nm_in6 (List.mem_of_getElem? (i := 65) rfl) rfl), nm_ii10, nm_ne10, Nat.le_of_ble_eq_true rfl, Or.inl ⟨rfl, rfl⟩⟩
def nm_m176 : am_M := (⟨"CobolParserModel", "operandOf", "(I)V"⟩, prog_13_method_19_code, 3, none, [], 2, [(0, .aload_n 0, 1), (1, .invokevirtual 188, 3), (4, .istore_n 2, 1), (5, .iload_n 2, 1), (6, .ifCond .le 9, 3), (9, .aload_n 0, 1), (10, .iload_n 1, 1), (11, .iload_n 2, 1), (12, .invokevirtual 181, 3), (15, .return_, 1)])
set_option maxRecDepth 100000 in
theorem nm_d176 : ∀ e ∈ am_cd nm_m176, decode (am_b nm_m176) e.1 = .ok (e.2.1, e.2.2) := by decide +kernel
theorem nm_o176 : nm_okM nm_m176 [] := ⟨nm_d176, nm_pn10, (nm_in6 (List.mem_of_getElem? (i := 69) rfl) rfl), nm_ii10, nm_ne10, Nat.le_of_ble_eq_true rfl, Or.inl ⟨rfl, rfl⟩⟩
def nm_m177 : am_M := (⟨"CobolParserModel", "operand", "()I"⟩, prog_13_method_18_code, 1, (some .int), [], 1, [(0, .aload_n 0, 1), (1, .getfield 150, 3), (4, .ifCond .ne 14, 3), (7, .aload_n 0, 1), (8, .aload_n 0, 1), (9, .getfield 161, 3), (12, .invokevirtual 184, 3), (15, .ifCond .ne 15, 3), (18, .aload_n 0, 1), (19, .iconst 1, 1), (20, .aload_n 0, 1), (21, .getfield 161, 3), (24, .invokevirtual 171, 3), (27, .pop, 1), (28, .iconst 0, 1), (29, .ireturn, 1), (30, .aload_n 0, 1), (31, .dup, 1), (32, .getfield 161, 3), (35, .iconst 1, 1), (36, .iadd, 1), (37, .putfield 161, 3), (40, .aload_n 0, 1), (41, .bipush 41, 2), (43, .ldc 187, 2), (45, .aload_n 0, 1), (46, .getfield 7, 3), (49, .aload_n 0, 1), (50, .getfield 161, 3), (53, .iconst 1, 1), (54, .isub, 1), (55, .iaload, 1), (56, .imul, 1), (57, .aload_n 0, 1), (58, .getfield 13, 3), (61, .aload_n 0, 1), (62, .getfield 161, 3), (65, .iconst 1, 1), (66, .isub, 1), (67, .iaload, 1), (68, .iadd, 1), (69, .aload_n 0, 1), (70, .getfield 161, 3), (73, .iconst 1, 1), (74, .isub, 1), (75, .invokevirtual 177, 3), (78, .ireturn, 1)])
set_option maxRecDepth 100000 in
theorem nm_d177 : ∀ e ∈ am_cd nm_m177, decode (am_b nm_m177) e.1 = .ok (e.2.1, e.2.2) := by decide +kernel
theorem nm_o177 : nm_okM nm_m177 [] := ⟨nm_d177, nm_pn10, (nm_in6 (List.mem_of_getElem? (i := 73) rfl) rfl), nm_ii10, nm_ne10, Nat.le_of_ble_eq_true rfl, Or.inl ⟨rfl, rfl⟩⟩
def nm_m178 : am_M := (⟨"CobolParserModel", "isOperand", "(I)Z"⟩, prog_13_method_17_code, 2, (some .boolean), [], 2, [(0, .aload_n 0, 1), (1, .iload_n 1, 1), (2, .iconst 1, 1), (3, .invokevirtual 143, 3), (6, .ifCond .ne 21, 3), (9, .aload_n 0, 1), (10, .iload_n 1, 1), (11, .iconst 2, 1), (12, .invokevirtual 143, 3), (15, .ifCond .ne 12, 3), (18, .aload_n 0, 1), (19, .iload_n 1, 1), (20, .iconst 3, 1), (21, .invokevirtual 143, 3), (24, .ifCond .eq 7, 3), (27, .iconst 1, 1), (28, .goto 4, 3), (31, .iconst 0, 1), (32, .ireturn, 1)])
set_option maxRecDepth 100000 in
theorem nm_d178 : ∀ e ∈ am_cd nm_m178, decode (am_b nm_m178) e.1 = .ok (e.2.1, e.2.2) := by decide +kernel
theorem nm_o178 : nm_okM nm_m178 [] := ⟨nm_d178, nm_pn10, (nm_in6 (List.mem_of_getElem? (i := 77) rfl) rfl), nm_ii10, nm_ne10, Nat.le_of_ble_eq_true rfl, Or.inl ⟨rfl, rfl⟩⟩
def nm_m179 : am_M := (⟨"CobolParserModel", "occurs", "(II)V"⟩, prog_13_method_39_code, 5, none, [], 3, [(0, .aload_n 0, 1), (1, .iconst 2, 1), (2, .invokevirtual 192, 3), (5, .ifCond .ne 4, 3), (8, .return_, 1), (9, .aload_n 0, 1), (10, .bipush 15, 2), (12, .aload_n 0, 1), (13, .invokevirtual 195, 3), (16, .iload_n 2, 1), (17, .invokevirtual 177, 3), (20, .istore_n 3, 1), (21, .aload_n 0, 1), (22, .iload_n 1, 1), (23, .iload_n 3, 1), (24, .invokevirtual 181, 3), (27, .aload_n 0, 1), (28, .bipush 23, 2), (30, .invokevirtual 167, 3), (33, .istore 4, 2), (35, .aload_n 0, 1), (36, .bipush 24, 2), (38, .invokevirtual 167, 3), (41, .ifCond .eq 28, 3), (44, .aload_n 0, 1), (45, .iconst 1, 1), (46, .invokevirtual 192, 3), (49, .ifCond .eq 20, 3), (52, .aload_n 0, 1), (53, .iload_n 3, 1), (54, .bipush 16, 2), (56, .aload_n 0, 1), (57, .invokevirtual 195, 3), (60, .aload_n 0, 1), (61, .getfield 161, 3), (64, .iconst 1, 1), (65, .isub, 1), (66, .invokevirtual 198, 3), (69, .aload_n 0, 1), (70, .bipush 10, 2), (72, .invokevirtual 167, 3), (75, .ifCond .eq 18, 3), (78, .aload_n 0, 1), (79, .bipush 25, 2), (81, .invokevirtual 167, 3), (84, .istore 4, 2), (86, .aload_n 0, 1), (87, .iload_n 3, 1), (88, .bipush 17, 2), (90, .invokevirtual 288, 3), (93, .return_, 1)])
set_option maxRecDepth 100000 in
theorem nm_d179 : ∀ e ∈ am_cd nm_m179, decode (am_b nm_m179) e.1 = .ok (e.2.1, e.2.2) := by decide +kernel
theorem nm_o179 : nm_okM nm_m179 [] := ⟨nm_d179, nm_pn10, (nm_in6 (List.mem_of_getElem? (i := 82) rfl) rfl), nm_ii10, nm_ne10, Nat.le_of_ble_eq_true rfl, Or.inl ⟨rfl, rfl⟩⟩
def nm_m180 : am_M := (⟨"CobolParserModel", "names", "(II)V"⟩, prog_13_method_20_code, 4, none, [], 3, [(0, .aload_n 0, 1), (1, .iconst 1, 1), (2, .invokevirtual 192, 3), (5, .istore_n 3, 1), (6, .iload_n 3, 1), (7, .ifCond .eq 66, 3), (10, .aload_n 0, 1), (11, .iload_n 1, 1), (12, .iload_n 2, 1), (13, .iload_n 2, 1), (14, .bipush 41, 2), (16, .if_icmp .ne 13, 3), (19, .ldc 187, 2), (21, .aload_n 0, 1), (22, .invokevirtual 195, 3), (25, .iadd, 1), (26, .goto 7, 3), (29, .aload_n 0, 1), (30, .invokevirtual 195, 3), (33, .aload_n 0, 1), (34, .getfield 161, 3), (37, .iconst 1, 1), (38, .isub, 1), (39, .invokevirtual 198, 3), (42, .aload_n 0, 1), (43, .aload_n 0, 1), (44, .getfield 161, 3), (47, .iconst 1, 1), (48, .invokevirtual 143, 3), (51, .istore_n 3, 1), (52, .aload_n 0, 1), (53, .dup, 1), (54, .getfield 161, 3), (57, .iload_n 3, 1), (58, .ifCond .eq 7, 3), (61, .iconst 1, 1), (62, .goto 4, 3), (65, .iconst 0, 1), (66, .iadd, 1), (67, .putfield 161, 3), (70, .goto (-64), 3), (73, .return_, 1)])
set_option maxRecDepth 100000 in
theorem nm_d180 : ∀ e ∈ am_cd nm_m180, decode (am_b nm_m180) e.1 = .ok (e.2.1, e.2.2) := by decide +kernel
theorem nm_o180 : nm_okM nm_m180 [] := ⟨nm_d180, nm_pn10, (nm_in6 (List.mem_of_getElem? (i := 86) rfl) rfl), nm_ii10, nm_ne10, Nat.le_of_ble_eq_true rfl, Or.inl ⟨rfl, rfl⟩⟩
def nm_m181 : am_M := (⟨"CobolParserModel", "named", "(I)V"⟩, prog_13_method_33_code, 5, none, [], 2, [(0, .aload_n 0, 1), (1, .getfield 161, 3), (4, .istore_n 2, 1), (5, .aload_n 0, 1), (6, .aload_n 0, 1), (7, .getfield 161, 3), (10, .iconst 1, 1), (11, .iadd, 1), (12, .bipush 16, 2), (14, .invokevirtual 164, 3), (17, .istore_n 3, 1), (18, .iload_n 3, 1), (19, .ifCond .ne 43, 3), (22, .aload_n 0, 1), (23, .aload_n 0, 1), (24, .getfield 161, 3), (27, .iconst 1, 1), (28, .iadd, 1), (29, .iconst 4, 1), (30, .invokevirtual 143, 3), (33, .ifCond .eq 16, 3), (36, .iload_n 1, 1), (37, .bipush 9, 2), (39, .if_icmp .ne 23, 3), (42, .aload_n 0, 1), (43, .getfield 233, 3), (46, .ifCond .gt 16, 3), (49, .aload_n 0, 1), (50, .iconst 1, 1), (51, .aload_n 0, 1), (52, .getfield 161, 3), (55, .iconst 1, 1), (56, .iadd, 1), (57, .invokevirtual 171, 3), (60, .pop, 1), (61, .return_, 1), (62, .aload_n 0, 1), (63, .dup, 1), (64, .getfield 161, 3), (67, .iconst 2, 1), (68, .iadd, 1), (69, .putfield 161, 3), (72, .iload_n 3, 1), (73, .ifCond .eq 12, 3), (76, .aload_n 0, 1), (77, .iconst 4, 1), (78, .invokevirtual 192, 3), (81, .ifCond .ne 4, 3), (84, .return_, 1), (85, .aload_n 0, 1), (86, .iload_n 3, 1), (87, .ifCond .eq 8, 3), (90, .bipush 23, 2), (92, .goto 5, 3), (95, .bipush 24, 2), (97, .aload_n 0, 1), (98, .getfield 13, 3), (101, .iload_n 2, 1), (102, .iaload, 1), (103, .iload_n 2, 1), (104, .invokevirtual 177, 3), (107, .istore 4, 2), (109, .iload_n 3, 1), (110, .ifCond .eq 34, 3), (113, .aload_n 0, 1), (114, .iload_n 1, 1), (115, .bipush 9, 2), (117, .if_icmp .ne 10, 3), (120, .aload_n 0, 1), (121, .getfield 255, 3), (124, .goto 12, 3), (127, .aload_n 0, 1), (128, .getfield 61, 3), (131, .aload_n 0, 1), (132, .invokevirtual 258, 3), (135, .iaload, 1), (136, .iload 4, 2), (138, .invokevirtual 181, 3), (141, .goto 32, 3), (144, .aload_n 0, 1), (145, .aload_n 0, 1), (146, .getfield 233, 3), (149, .ifCond .le 10, 3), (152, .aload_n 0, 1), (153, .getfield 233, 3), (156, .goto 12, 3), (159, .aload_n 0, 1), (160, .getfield 61, 3), (163, .aload_n 0, 1), (164, .invokevirtual 258, 3), (167, .iaload, 1), (168, .iload 4, 2), (170, .invokevirtual 181, 3), (173, .aload_n 0, 1), (174, .iload_n 3, 1), (175, .ifCond .eq 8, 3), (178, .iload 4, 2), (180, .goto 7, 3), (183, .aload_n 0, 1), (184, .getfield 233, 3), (187, .putfield 233, 3), (190, .aload_n 0, 1), (191, .iload_n 3, 1), (192, .ifCond .eq 7, 3), (195, .iconst 0, 1), (196, .goto 5, 3), (199, .iload 4, 2), (201, .putfield 291, 3), (204, .iload_n 1, 1), (205, .bipush 9, 2), (207, .if_icmp .eq 9, 3), (210, .aload_n 0, 1), (211, .bipush 11, 2), (213, .invokevirtual 261, 3), (216, .return_, 1)])
set_option maxRecDepth 100000 in
theorem nm_d181 : ∀ e ∈ am_cd nm_m181, decode (am_b nm_m181) e.1 = .ok (e.2.1, e.2.2) := by decide +kernel
theorem nm_o181 : nm_okM nm_m181 [] := ⟨nm_d181, nm_pn10, (nm_in6 (List.mem_of_getElem? (i := 90) rfl) rfl), nm_ii10, nm_ne10, Nat.le_of_ble_eq_true rfl, Or.inl ⟨rfl, rfl⟩⟩
def nm_m182 : am_M := (⟨"CobolParserModel", "here", "()I"⟩, prog_13_method_24_code, 1, (some .int), [], 1, [(0, .aload_n 0, 1), (1, .getfield 70, 3), (4, .aload_n 0, 1), (5, .getfield 205, 3), (8, .iconst 1, 1), (9, .isub, 1), (10, .iaload, 1), (11, .ireturn, 1)])
set_option maxRecDepth 100000 in
theorem nm_d182 : ∀ e ∈ am_cd nm_m182, decode (am_b nm_m182) e.1 = .ok (e.2.1, e.2.2) := by decide +kernel
theorem nm_o182 : nm_okM nm_m182 [] := ⟨nm_d182, nm_pn10, (nm_in6 (List.mem_of_getElem? (i := 94) rfl) rfl), nm_ii10, nm_ne10, Nat.le_of_ble_eq_true rfl, Or.inl ⟨rfl, rfl⟩⟩
def nm_m183 : am_M := (⟨"CobolParserModel", "to", "(I)V"⟩, prog_13_method_23_code, 2, none, [], 2, [(0, .aload_n 0, 1), (1, .getfield 64, 3), (4, .aload_n 0, 1), (5, .getfield 205, 3), (8, .iconst 1, 1), (9, .isub, 1), (10, .iload_n 1, 1), (11, .iastore, 1), (12, .return_, 1)])
set_option maxRecDepth 100000 in
theorem nm_d183 : ∀ e ∈ am_cd nm_m183, decode (am_b nm_m183) e.1 = .ok (e.2.1, e.2.2) := by decide +kernel
theorem nm_o183 : nm_okM nm_m183 [] := ⟨nm_d183, nm_pn10, (nm_in6 (List.mem_of_getElem? (i := 98) rfl) rfl), nm_ii10, nm_ne10, Nat.le_of_ble_eq_true rfl, Or.inl ⟨rfl, rfl⟩⟩
def nm_m184 : am_M := (⟨"CobolParserModel", "reserved", "(II)V"⟩, prog_13_method_25_code, 6, none, [], 3, [(0, .aload_n 0, 1), (1, .getfield 161, 3), (4, .istore_n 3, 1), (5, .aload_n 0, 1), (6, .aload_n 0, 1), (7, .getfield 161, 3), (10, .invokevirtual 230, 3), (13, .ifCond .eq 31, 3), (16, .iload_n 1, 1), (17, .bipush 8, 2), (19, .bipush 11, 2), (21, .invokestatic 132, 3), (24, .ifCond .eq 20, 3), (27, .iload_n 1, 1), (28, .bipush 9, 2), (30, .if_icmp .ne 10, 3), (33, .aload_n 0, 1), (34, .getfield 233, 3), (37, .ifCond .le 7, 3), (40, .iconst 1, 1), (41, .goto 4, 3), (44, .iconst 0, 1), (45, .istore 4, 2), (47, .iload_n 2, 1), (48, .ifCond .eq 75, 3), (51, .iload_n 2, 1), (52, .iconst 2, 1), (53, .if_icmp .ne 7, 3), (56, .iload_n 1, 1), (57, .ifCond .eq 66, 3), (60, .iload_n 2, 1), (61, .iconst 3, 1), (62, .if_icmp .ne 15, 3), (65, .iload_n 1, 1), (66, .ifCond .ne 11, 3), (69, .aload_n 0, 1), (70, .getfield 205, 3), (73, .iconst 1, 1), (74, .if_icmp .eq 49, 3), (77, .iload_n 2, 1), (78, .iconst 4, 1), (79, .if_icmp .ne 8, 3), (82, .iload_n 1, 1), (83, .iconst 1, 1), (84, .if_icmp .eq 39, 3), (87, .iload_n 2, 1), (88, .iconst 5, 1), (89, .if_icmp .ne 8, 3), (92, .iload_n 1, 1), (93, .iconst 2, 1), (94, .if_icmp .eq 29, 3), (97, .iload_n 2, 1), (98, .bipush 12, 2), (100, .if_icmp .ne 12, 3), (103, .iload_n 1, 1), (104, .iconst 1, 1), (105, .iconst 2, 1), (106, .invokestatic 132, 3), (109, .ifCond .ne 14, 3), (112, .iload_n 2, 1), (113, .bipush 13, 2), (115, .if_icmp .ne 12, 3), (118, .iload_n 1, 1), (119, .iconst 3, 1), (120, .if_icmp .ne 7, 3), (123, .iconst 1, 1), (124, .goto 4, 3), (127, .iconst 0, 1), (128, .istore 5, 2), (130, .iload 5, 2), (132, .ifCond .ne 87, 3), (135, .iload_n 2, 1), (136, .bipush 17, 2), (138, .if_icmp .ne 12, 3), (141, .iload_n 1, 1), (142, .iconst 4, 1), (143, .iconst 5, 1), (144, .invokestatic 132, 3), (147, .ifCond .ne 72, 3), (150, .iload_n 2, 1), (151, .bipush 14, 2), (153, .if_icmp .ne 12, 3), (156, .iload_n 1, 1), (157, .iconst 3, 1), (158, .iconst 5, 1), (159, .invokestatic 132, 3), (162, .ifCond .ne 57, 3), (165, .iload_n 2, 1), (166, .bipush 15, 2), (168, .if_icmp .ne 13, 3), (171, .iload_n 1, 1), (172, .iconst 3, 1), (173, .bipush 6, 2), (175, .invokestatic 132, 3), (178, .ifCond .ne 41, 3), (181, .iload_n 2, 1), (182, .bipush 30, 2), (184, .if_icmp .ne 13, 3), (187, .iload_n 1, 1), (188, .iconst 1, 1), (189, .bipush 7, 2), (191, .invokestatic 132, 3), (194, .ifCond .ne 25, 3), (197, .iload_n 2, 1), (198, .bipush 32, 2), (200, .if_icmp .ne 9, 3), (203, .iload_n 1, 1), (204, .bipush 8, 2), (206, .if_icmp .eq 13, 3), (209, .iload_n 2, 1), (210, .bipush 33, 2), (212, .if_icmp .ne 11, 3), (215, .iload_n 1, 1), (216, .ifCond .le 7, 3), (219, .iconst 1, 1), (220, .goto 4, 3), (223, .iconst 0, 1), (224, .istore 5, 2), (226, .iload 5, 2), (228, .ifCond .ne 19, 3), (231, .iload 4, 2), (233, .ifCond .ne 14, 3), (236, .aload_n 0, 1), (237, .iconst 1, 1), (238, .aload_n 0, 1), (239, .getfield 161, 3), (242, .invokevirtual 171, 3), (245, .pop, 1), (246, .return_, 1), (247, .iload 4, 2), (249, .ifCond .eq 9, 3), (252, .aload_n 0, 1), (253, .iload_n 1, 1), (254, .invokevirtual 236, 3), (257, .return_, 1), (258, .iload_n 2, 1), (259, .ifCond .ne 9, 3), (262, .aload_n 0, 1), (263, .iload_n 1, 1), (264, .invokevirtual 239, 3), (267, .return_, 1), (268, .aload_n 0, 1), (269, .dup, 1), (270, .getfield 161, 3), (273, .iconst 1, 1), (274, .iadd, 1), (275, .putfield 161, 3), (278, .iload_n 2, 1), (279, .lookupswitch 161 #[(2, 65), (3, 65), (5, 82), (17, 90), (30, 98), (32, 106), (33, 153)], 65), (344, .aload_n 0, 1), (345, .iload_n 2, 1), (346, .iconst 3, 1), (347, .if_icmp .ne 7, 3), (350, .iconst 1, 1), (351, .goto 4, 3), (354, .iconst 0, 1), (355, .invokevirtual 242, 3), (358, .goto 88, 3), (361, .aload_n 0, 1), (362, .iload_n 3, 1), (363, .invokevirtual 246, 3), (366, .goto 80, 3), (369, .aload_n 0, 1), (370, .iload_n 3, 1), (371, .invokevirtual 249, 3), (374, .goto 72, 3), (377, .aload_n 0, 1), (378, .iload_n 3, 1), (379, .invokevirtual 252, 3), (382, .goto 64, 3), (385, .aload_n 0, 1), (386, .iconst 4, 1), (387, .invokevirtual 192, 3), (390, .ifCond .ne 4, 3), (393, .return_, 1), (394, .aload_n 0, 1), (395, .aload_n 0, 1), (396, .bipush 22, 2), (398, .iconst 0, 1), (399, .iload_n 3, 1), (400, .invokevirtual 177, 3), (403, .putfield 255, 3), (406, .aload_n 0, 1), (407, .aload_n 0, 1), (408, .getfield 61, 3), (411, .aload_n 0, 1), (412, .invokevirtual 258, 3), (415, .iaload, 1), (416, .aload_n 0, 1), (417, .getfield 255, 3), (420, .invokevirtual 181, 3), (423, .aload_n 0, 1), (424, .bipush 9, 2), (426, .invokevirtual 261, 3), (429, .goto 17, 3), (432, .aload_n 0, 1), (433, .iload_n 1, 1), (434, .invokevirtual 264, 3), (437, .goto 9, 3), (440, .aload_n 0, 1), (441, .iload_n 2, 1), (442, .iload_n 3, 1), (443, .invokevirtual 267, 3), (446, .return_, 1)])
set_option maxRecDepth 100000 in
theorem nm_d184 : ∀ e ∈ am_cd nm_m184, decode (am_b nm_m184) e.1 = .ok (e.2.1, e.2.2) := by decide +kernel
theorem nm_o184 : nm_okM nm_m184 [] := ⟨nm_d184, nm_pn10, (nm_in6 (List.mem_of_getElem? (i := 102) rfl) rfl), nm_ii10, nm_ne10, Nat.le_of_ble_eq_true rfl, Or.inl ⟨rfl, rfl⟩⟩
def nm_m185 : am_M := (⟨"CobolParserModel", "begins", "(I)Z"⟩, prog_13_method_40_code, 2, (some .boolean), [], 2, [(0, .aload_n 0, 1), (1, .iload_n 1, 1), (2, .iconst 0, 1), (3, .invokevirtual 143, 3), (6, .ifCond .eq 34, 3), (9, .aload_n 0, 1), (10, .getfield 13, 3), (13, .iload_n 1, 1), (14, .iaload, 1), (15, .bipush 36, 2), (17, .bipush 47, 2), (19, .invokestatic 132, 3), (22, .ifCond .ne 14, 3), (25, .aload_n 0, 1), (26, .getfield 13, 3), (29, .iload_n 1, 1), (30, .iaload, 1), (31, .bipush 29, 2), (33, .if_icmp .ne 7, 3), (36, .iconst 1, 1), (37, .goto 4, 3), (40, .iconst 0, 1), (41, .ireturn, 1)])
set_option maxRecDepth 100000 in
theorem nm_d185 : ∀ e ∈ am_cd nm_m185, decode (am_b nm_m185) e.1 = .ok (e.2.1, e.2.2) := by decide +kernel
theorem nm_o185 : nm_okM nm_m185 [] := ⟨nm_d185, nm_pn10, (nm_in6 (List.mem_of_getElem? (i := 106) rfl) rfl), nm_ii10, nm_ne10, Nat.le_of_ble_eq_true rfl, Or.inl ⟨rfl, rfl⟩⟩
def nm_m186 : am_M := (⟨"CobolParserModel", "sentence", "(I)V"⟩, prog_13_method_34_code, 3, none, [], 2, [(0, .aload_n 0, 1), (1, .bipush 25, 2), (3, .iconst 0, 1), (4, .aload_n 0, 1), (5, .getfield 161, 3), (8, .invokevirtual 177, 3), (11, .istore_n 2, 1), (12, .aload_n 0, 1), (13, .iload_n 2, 1), (14, .invokevirtual 294, 3), (17, .aload_n 0, 1), (18, .iconst 4, 1), (19, .invokevirtual 192, 3), (22, .ifCond .ne 4, 3), (25, .return_, 1), (26, .aload_n 0, 1), (27, .aload_n 0, 1), (28, .getfield 291, 3), (31, .ifCond .le 10, 3), (34, .aload_n 0, 1), (35, .getfield 291, 3), (38, .goto 26, 3), (41, .aload_n 0, 1), (42, .getfield 233, 3), (45, .ifCond .le 10, 3), (48, .aload_n 0, 1), (49, .getfield 233, 3), (52, .goto 12, 3), (55, .aload_n 0, 1), (56, .getfield 61, 3), (59, .aload_n 0, 1), (60, .invokevirtual 258, 3), (63, .iaload, 1), (64, .iload_n 2, 1), (65, .invokevirtual 181, 3), (68, .iload_n 1, 1), (69, .bipush 9, 2), (71, .if_icmp .eq 9, 3), (74, .aload_n 0, 1), (75, .bipush 11, 2), (77, .invokevirtual 261, 3), (80, .return_, 1)])
set_option maxRecDepth 100000 in
theorem nm_d186 : ∀ e ∈ am_cd nm_m186, decode (am_b nm_m186) e.1 = .ok (e.2.1, e.2.2) := by decide +kernel
theorem nm_o186 : nm_okM nm_m186 [] := ⟨nm_d186, nm_pn10, (nm_in6 (List.mem_of_getElem? (i := 110) rfl) rfl), nm_ii10, nm_ne10, Nat.le_of_ble_eq_true rfl, Or.inl ⟨rfl, rfl⟩⟩
def nm_m187 : am_M := (⟨"CobolParserModel", "statements", "(I)V"⟩, prog_13_method_42_code, 3, none, [], 2, [(0, .aload_n 0, 1), (1, .iconst 0, 1), (2, .putfield 310, 3), (5, .aload_n 0, 1), (6, .iconst 0, 1), (7, .putfield 313, 3), (10, .aload_n 0, 1), (11, .iconst 0, 1), (12, .iload_n 1, 1), (13, .invokevirtual 316, 3), (16, .aload_n 0, 1), (17, .getfield 310, 3), (20, .ifCond .le 116, 3), (23, .aload_n 0, 1), (24, .getfield 150, 3), (27, .ifCond .ne 109, 3), (30, .aload_n 0, 1), (31, .getfield 310, 3), (34, .iconst 1, 1), (35, .isub, 1), (36, .istore_n 2, 1), (37, .aload_n 0, 1), (38, .getfield 86, 3), (41, .iload_n 2, 1), (42, .iaload, 1), (43, .ifCond .eq 17, 3), (46, .aload_n 0, 1), (47, .iload_n 2, 1), (48, .aload_n 0, 1), (49, .getfield 89, 3), (52, .iload_n 2, 1), (53, .iaload, 1), (54, .invokevirtual 319, 3), (57, .goto 76, 3), (60, .aload_n 0, 1), (61, .aload_n 0, 1), (62, .getfield 161, 3), (65, .invokevirtual 230, 3), (68, .ifCond .eq 23, 3), (71, .aload_n 0, 1), (72, .getfield 92, 3), (75, .iload_n 2, 1), (76, .iconst 1, 1), (77, .iastore, 1), (78, .aload_n 0, 1), (79, .aload_n 0, 1), (80, .getfield 89, 3), (83, .iload_n 2, 1), (84, .iaload, 1), (85, .invokevirtual 322, 3), (88, .goto 45, 3), (91, .aload_n 0, 1), (92, .getfield 92, 3), (95, .iload_n 2, 1), (96, .iaload, 1), (97, .ifCond .ne 16, 3), (100, .aload_n 0, 1), (101, .iconst 1, 1), (102, .aload_n 0, 1), (103, .getfield 161, 3), (106, .invokevirtual 171, 3), (109, .pop, 1), (110, .goto 23, 3), (113, .aload_n 0, 1), (114, .dup, 1), (115, .getfield 310, 3), (118, .iconst 1, 1), (119, .isub, 1), (120, .putfield 310, 3), (123, .aload_n 0, 1), (124, .dup, 1), (125, .getfield 313, 3), (128, .iconst 1, 1), (129, .isub, 1), (130, .putfield 313, 3), (133, .goto (-117), 3), (136, .return_, 1)])
set_option maxRecDepth 100000 in
theorem nm_d187 : ∀ e ∈ am_cd nm_m187, decode (am_b nm_m187) e.1 = .ok (e.2.1, e.2.2) := by decide +kernel
theorem nm_o187 : nm_okM nm_m187 [] := ⟨nm_d187, nm_pn10, (nm_in6 (List.mem_of_getElem? (i := 114) rfl) rfl), nm_ii10, nm_ne10, Nat.le_of_ble_eq_true rfl, Or.inl ⟨rfl, rfl⟩⟩
def nm_m188 : am_M := (⟨"CobolParserModel", "pile", "(II)V"⟩, prog_13_method_41_code, 3, none, [], 3, [(0, .aload_n 0, 1), (1, .getfield 86, 3), (4, .aload_n 0, 1), (5, .getfield 310, 3), (8, .iload_n 1, 1), (9, .iastore, 1), (10, .aload_n 0, 1), (11, .getfield 89, 3), (14, .aload_n 0, 1), (15, .getfield 310, 3), (18, .iload_n 2, 1), (19, .iastore, 1), (20, .aload_n 0, 1), (21, .getfield 92, 3), (24, .aload_n 0, 1), (25, .getfield 310, 3), (28, .iconst 0, 1), (29, .iastore, 1), (30, .aload_n 0, 1), (31, .dup, 1), (32, .getfield 310, 3), (35, .iconst 1, 1), (36, .iadd, 1), (37, .putfield 310, 3), (40, .return_, 1)])
set_option maxRecDepth 100000 in
theorem nm_d188 : ∀ e ∈ am_cd nm_m188, decode (am_b nm_m188) e.1 = .ok (e.2.1, e.2.2) := by decide +kernel
theorem nm_o188 : nm_okM nm_m188 [] := ⟨nm_d188, nm_pn10, (nm_in6 (List.mem_of_getElem? (i := 118) rfl) rfl), nm_ii10, nm_ne10, Nat.le_of_ble_eq_true rfl, Or.inl ⟨rfl, rfl⟩⟩
def nm_m189 : am_M := (⟨"CobolParserModel", "goOn", "(II)V"⟩, prog_13_method_51_code, 4, none, [], 3, [(0, .aload_n 0, 1), (1, .getfield 92, 3), (4, .iload_n 1, 1), (5, .iaload, 1), (6, .istore_n 3, 1), (7, .aload_n 0, 1), (8, .getfield 92, 3), (11, .iload_n 1, 1), (12, .iload_n 3, 1), (13, .iconst 1, 1), (14, .iadd, 1), (15, .iastore, 1), (16, .aload_n 0, 1), (17, .getfield 86, 3), (20, .iload_n 1, 1), (21, .iaload, 1), (22, .tableswitch 115 37 42 #[38, 82, 92, 115, 53, 68], 38), (60, .aload_n 0, 1), (61, .iload_n 2, 1), (62, .iload_n 3, 1), (63, .bipush 50, 2), (65, .bipush 51, 2), (67, .bipush 72, 2), (69, .invokevirtual 353, 3), (72, .goto 72, 3), (75, .aload_n 0, 1), (76, .iload_n 2, 1), (77, .iload_n 3, 1), (78, .bipush 61, 2), (80, .bipush 33, 2), (82, .bipush 76, 2), (84, .invokevirtual 353, 3), (87, .goto 57, 3), (90, .aload_n 0, 1), (91, .iload_n 2, 1), (92, .iload_n 3, 1), (93, .bipush 62, 2), (95, .iconst (-1), 1), (96, .bipush 77, 2), (98, .invokevirtual 353, 3), (101, .goto 43, 3), (104, .aload_n 0, 1), (105, .iload_n 1, 1), (106, .iload_n 2, 1), (107, .iload_n 3, 1), (108, .invokevirtual 357, 3), (111, .goto 33, 3), (114, .iload_n 3, 1), (115, .ifCond .ne 11, 3), (118, .aload_n 0, 1), (119, .iload_n 2, 1), (120, .invokevirtual 361, 3), (123, .goto 21, 3), (126, .aload_n 0, 1), (127, .iload_n 2, 1), (128, .bipush 74, 2), (130, .iconst 1, 1), (131, .invokevirtual 364, 3), (134, .goto 10, 3), (137, .aload_n 0, 1), (138, .iload_n 1, 1), (139, .iload_n 2, 1), (140, .iload_n 3, 1), (141, .invokevirtual 368, 3), (144, .return_, 1)])
set_option maxRecDepth 100000 in
theorem nm_d189 : ∀ e ∈ am_cd nm_m189, decode (am_b nm_m189) e.1 = .ok (e.2.1, e.2.2) := by decide +kernel
theorem nm_o189 : nm_okM nm_m189 [] := ⟨nm_d189, nm_pn10, (nm_in6 (List.mem_of_getElem? (i := 122) rfl) rfl), nm_ii10, nm_ne10, Nat.le_of_ble_eq_true rfl, Or.inl ⟨rfl, rfl⟩⟩
def nm_m190 : am_M := (⟨"CobolParserModel", "asked", "(IIIII)V"⟩, prog_13_method_53_code, 7, none, [], 6, [(0, .iload_n 2, 1), (1, .ifCond .gt 11, 3), (4, .aload_n 0, 1), (5, .iload_n 3, 1), (6, .invokevirtual 167, 3), (9, .ifCond .ne 12, 3), (12, .aload_n 0, 1), (13, .iload_n 1, 1), (14, .iload 5, 2), (16, .iconst 0, 1), (17, .invokevirtual 364, 3), (20, .return_, 1), (21, .iload 4, 2), (23, .iconst (-1), 1), (24, .if_icmp .eq 12, 3), (27, .aload_n 0, 1), (28, .iload 4, 2), (30, .invokevirtual 270, 3), (33, .ifCond .eq 7, 3), (36, .iconst 1, 1), (37, .goto 4, 3), (40, .iconst 0, 1), (41, .istore 6, 2), (43, .iload 6, 2), (45, .ifCond .eq 8, 3), (48, .aload_n 0, 1), (49, .iload_n 1, 1), (50, .invokevirtual 361, 3), (53, .return_, 1)])
set_option maxRecDepth 100000 in
theorem nm_d190 : ∀ e ∈ am_cd nm_m190, decode (am_b nm_m190) e.1 = .ok (e.2.1, e.2.2) := by decide +kernel
theorem nm_o190 : nm_okM nm_m190 [] := ⟨nm_d190, nm_pn10, (nm_in6 (List.mem_of_getElem? (i := 126) rfl) rfl), nm_ii10, nm_ne10, Nat.le_of_ble_eq_true rfl, Or.inl ⟨rfl, rfl⟩⟩
def nm_m191 : am_M := (⟨"CobolParserModel", "scope", "(IIZ)V"⟩, prog_13_method_52_code, 5, none, [], 4, [(0, .iload_n 3, 1), (1, .ifCond .eq 11, 3), (4, .aload_n 0, 1), (5, .iload_n 2, 1), (6, .invokevirtual 270, 3), (9, .goto 8, 3), (12, .aload_n 0, 1), (13, .iload_n 2, 1), (14, .invokevirtual 167, 3), (17, .istore 4, 2), (19, .aload_n 0, 1), (20, .getfield 31, 3), (23, .iload_n 1, 1), (24, .iload 4, 2), (26, .ifCond .eq 7, 3), (29, .iconst 1, 1), (30, .goto 4, 3), (33, .iconst 0, 1), (34, .iastore, 1), (35, .aload_n 0, 1), (36, .dup, 1), (37, .getfield 310, 3), (40, .iconst 1, 1), (41, .isub, 1), (42, .putfield 310, 3), (45, .return_, 1)])
set_option maxRecDepth 100000 in
theorem nm_d191 : ∀ e ∈ am_cd nm_m191, decode (am_b nm_m191) e.1 = .ok (e.2.1, e.2.2) := by decide +kernel
theorem nm_o191 : nm_okM nm_m191 [] := ⟨nm_d191, nm_pn10, (nm_in6 (List.mem_of_getElem? (i := 130) rfl) rfl), nm_ii10, nm_ne10, Nat.le_of_ble_eq_true rfl, Or.inl ⟨rfl, rfl⟩⟩
def nm_m192 : am_M := (⟨"CobolParserModel", "must", "(I)Z"⟩, prog_13_method_11_code, 2, (some .boolean), [], 2, [(0, .aload_n 0, 1), (1, .iload_n 1, 1), (2, .invokevirtual 167, 3), (5, .ifCond .ne 15, 3), (8, .aload_n 0, 1), (9, .iconst 1, 1), (10, .aload_n 0, 1), (11, .getfield 161, 3), (14, .invokevirtual 171, 3), (17, .ifCond .eq 7, 3), (20, .iconst 1, 1), (21, .goto 4, 3), (24, .iconst 0, 1), (25, .ireturn, 1)])
set_option maxRecDepth 100000 in
theorem nm_d192 : ∀ e ∈ am_cd nm_m192, decode (am_b nm_m192) e.1 = .ok (e.2.1, e.2.2) := by decide +kernel
theorem nm_o192 : nm_okM nm_m192 [] := ⟨nm_d192, nm_pn10, (nm_in6 (List.mem_of_getElem? (i := 134) rfl) rfl), nm_ii10, nm_ne10, Nat.le_of_ble_eq_true rfl, Or.inl ⟨rfl, rfl⟩⟩
def nm_m193 : am_M := (⟨"CobolParserModel", "list", "(I)V"⟩, prog_13_method_43_code, 3, none, [], 2, [(0, .aload_n 0, 1), (1, .getfield 150, 3), (4, .ifCond .eq 4, 3), (7, .return_, 1), (8, .aload_n 0, 1), (9, .aload_n 0, 1), (10, .getfield 161, 3), (13, .invokevirtual 230, 3), (16, .ifCond .ne 14, 3), (19, .aload_n 0, 1), (20, .iconst 1, 1), (21, .aload_n 0, 1), (22, .getfield 161, 3), (25, .invokevirtual 171, 3), (28, .pop, 1), (29, .return_, 1), (30, .aload_n 0, 1), (31, .getfield 313, 3), (34, .bipush 40, 2), (36, .if_icmp .ne 14, 3), (39, .aload_n 0, 1), (40, .iconst 3, 1), (41, .aload_n 0, 1), (42, .getfield 161, 3), (45, .invokevirtual 171, 3), (48, .pop, 1), (49, .return_, 1), (50, .aload_n 0, 1), (51, .dup, 1), (52, .getfield 313, 3), (55, .iconst 1, 1), (56, .iadd, 1), (57, .putfield 313, 3), (60, .aload_n 0, 1), (61, .bipush 40, 2), (63, .iconst 0, 1), (64, .aload_n 0, 1), (65, .getfield 161, 3), (68, .invokevirtual 177, 3), (71, .istore_n 2, 1), (72, .aload_n 0, 1), (73, .iload_n 1, 1), (74, .iload_n 2, 1), (75, .invokevirtual 181, 3), (78, .aload_n 0, 1), (79, .iconst 0, 1), (80, .iload_n 2, 1), (81, .invokevirtual 316, 3), (84, .return_, 1)])
set_option maxRecDepth 100000 in
theorem nm_d193 : ∀ e ∈ am_cd nm_m193, decode (am_b nm_m193) e.1 = .ok (e.2.1, e.2.2) := by decide +kernel
theorem nm_o193 : nm_okM nm_m193 [] := ⟨nm_d193, nm_pn10, (nm_in6 (List.mem_of_getElem? (i := 138) rfl) rfl), nm_ii10, nm_ne10, Nat.le_of_ble_eq_true rfl, Or.inl ⟨rfl, rfl⟩⟩
def nm_m194 : am_M := (⟨"CobolParserModel", "branch", "(III)V"⟩, prog_13_method_54_code, 5, none, [], 4, [(0, .iload_n 3, 1), (1, .iconst 2, 1), (2, .if_icmp .eq 17, 3), (5, .iload_n 3, 1), (6, .iconst 1, 1), (7, .if_icmp .ne 21, 3), (10, .aload_n 0, 1), (11, .bipush 53, 2), (13, .invokevirtual 167, 3), (16, .ifCond .ne 12, 3), (19, .aload_n 0, 1), (20, .iload_n 2, 1), (21, .bipush 73, 2), (23, .iconst 0, 1), (24, .invokevirtual 364, 3), (27, .return_, 1), (28, .aload_n 0, 1), (29, .getfield 161, 3), (32, .istore 4, 2), (34, .aload_n 0, 1), (35, .aload_n 0, 1), (36, .getfield 161, 3), (39, .bipush 54, 2), (41, .invokevirtual 164, 3), (44, .ifCond .ne 9, 3), (47, .aload_n 0, 1), (48, .iload_n 2, 1), (49, .invokevirtual 361, 3), (52, .return_, 1), (53, .aload_n 0, 1), (54, .dup, 1), (55, .getfield 161, 3), (58, .iconst 1, 1), (59, .iadd, 1), (60, .putfield 161, 3), (63, .aload_n 0, 1), (64, .bipush 55, 2), (66, .invokevirtual 270, 3), (69, .ifCond .eq 13, 3), (72, .aload_n 0, 1), (73, .iload_n 2, 1), (74, .bipush 42, 2), (76, .iconst 0, 1), (77, .iload 4, 2), (79, .invokevirtual 198, 3), (82, .return_, 1)])
set_option maxRecDepth 100000 in
theorem nm_d194 : ∀ e ∈ am_cd nm_m194, decode (am_b nm_m194) e.1 = .ok (e.2.1, e.2.2) := by decide +kernel
theorem nm_o194 : nm_okM nm_m194 [] := ⟨nm_d194, nm_pn10, (nm_in6 (List.mem_of_getElem? (i := 142) rfl) rfl), nm_ii10, nm_ne10, Nat.le_of_ble_eq_true rfl, Or.inl ⟨rfl, rfl⟩⟩
def nm_m195 : am_M := (⟨"CobolParserModel", "whens", "(III)V"⟩, prog_13_method_55_code, 5, none, [], 4, [(0, .aload_n 0, 1), (1, .aload_n 0, 1), (2, .getfield 161, 3), (5, .bipush 59, 2), (7, .invokevirtual 164, 3), (10, .ifCond .ne 12, 3), (13, .aload_n 0, 1), (14, .iload_n 2, 1), (15, .bipush 75, 2), (17, .iconst 0, 1), (18, .invokevirtual 364, 3), (21, .return_, 1), (22, .aload_n 0, 1), (23, .bipush 46, 2), (25, .iconst 0, 1), (26, .aload_n 0, 1), (27, .getfield 161, 3), (30, .invokevirtual 177, 3), (33, .istore 4, 2), (35, .aload_n 0, 1), (36, .iload_n 2, 1), (37, .iload 4, 2), (39, .invokevirtual 181, 3), (42, .aload_n 0, 1), (43, .bipush 59, 2), (45, .invokevirtual 167, 3), (48, .ifCond .eq 51, 3), (51, .aload_n 0, 1), (52, .aload_n 0, 1), (53, .getfield 161, 3), (56, .bipush 60, 2), (58, .invokevirtual 164, 3), (61, .ifCond .eq 29, 3), (64, .aload_n 0, 1), (65, .iload 4, 2), (67, .bipush 47, 2), (69, .iconst 0, 1), (70, .aload_n 0, 1), (71, .getfield 161, 3), (74, .invokevirtual 198, 3), (77, .aload_n 0, 1), (78, .dup, 1), (79, .getfield 161, 3), (82, .iconst 1, 1), (83, .iadd, 1), (84, .putfield 161, 3), (87, .goto (-45), 3), (90, .aload_n 0, 1), (91, .iload 4, 2), (93, .invokevirtual 285, 3), (96, .goto (-54), 3), (99, .aload_n 0, 1), (100, .iload 4, 2), (102, .invokevirtual 361, 3), (105, .return_, 1)])
set_option maxRecDepth 100000 in
theorem nm_d195 : ∀ e ∈ am_cd nm_m195, decode (am_b nm_m195) e.1 = .ok (e.2.1, e.2.2) := by decide +kernel
theorem nm_o195 : nm_okM nm_m195 [] := ⟨nm_d195, nm_pn10, (nm_in6 (List.mem_of_getElem? (i := 146) rfl) rfl), nm_ii10, nm_ne10, Nat.le_of_ble_eq_true rfl, Or.inl ⟨rfl, rfl⟩⟩
def nm_m196 : am_M := (⟨"CobolParserModel", "statement", "(I)V"⟩, prog_13_method_44_code, 6, none, [], 2, [(0, .aload_n 0, 1), (1, .getfield 161, 3), (4, .istore_n 2, 1), (5, .aload_n 0, 1), (6, .getfield 13, 3), (9, .aload_n 0, 1), (10, .getfield 161, 3), (13, .iaload, 1), (14, .istore_n 3, 1), (15, .aload_n 0, 1), (16, .dup, 1), (17, .getfield 161, 3), (20, .iconst 1, 1), (21, .iadd, 1), (22, .putfield 161, 3), (25, .aload_n 0, 1), (26, .iload_n 3, 1), (27, .bipush 36, 2), (29, .if_icmp .ne 8, 3), (32, .bipush 26, 2), (34, .goto 126, 3), (37, .iload_n 3, 1), (38, .bipush 37, 2), (40, .if_icmp .ne 8, 3), (43, .bipush 27, 2), (45, .goto 115, 3), (48, .iload_n 3, 1), (49, .bipush 38, 2), (51, .if_icmp .ne 8, 3), (54, .bipush 28, 2), (56, .goto 104, 3), (59, .iload_n 3, 1), (60, .bipush 39, 2), (62, .if_icmp .ne 8, 3), (65, .bipush 29, 2), (67, .goto 93, 3), (70, .iload_n 3, 1), (71, .bipush 40, 2), (73, .if_icmp .ne 8, 3), (76, .bipush 30, 2), (78, .goto 82, 3), (81, .iload_n 3, 1), (82, .bipush 41, 2), (84, .if_icmp .ne 8, 3), (87, .bipush 31, 2), (89, .goto 71, 3), (92, .iload_n 3, 1), (93, .bipush 42, 2), (95, .if_icmp .ne 8, 3), (98, .bipush 32, 2), (100, .goto 60, 3), (103, .iload_n 3, 1), (104, .bipush 29, 2), (106, .if_icmp .ne 8, 3), (109, .bipush 33, 2), (111, .goto 49, 3), (114, .iload_n 3, 1), (115, .bipush 43, 2), (117, .if_icmp .ne 8, 3), (120, .bipush 34, 2), (122, .goto 38, 3), (125, .iload_n 3, 1), (126, .bipush 44, 2), (128, .if_icmp .ne 8, 3), (131, .bipush 35, 2), (133, .goto 27, 3), (136, .iload_n 3, 1), (137, .bipush 45, 2), (139, .if_icmp .ne 8, 3), (142, .bipush 36, 2), (144, .goto 16, 3), (147, .iload_n 3, 1), (148, .bipush 46, 2), (150, .if_icmp .ne 8, 3), (153, .bipush 37, 2), (155, .goto 5, 3), (158, .bipush 38, 2), (160, .iconst 0, 1), (161, .iload_n 2, 1), (162, .invokevirtual 177, 3), (165, .istore 4, 2), (167, .aload_n 0, 1), (168, .iload_n 1, 1), (169, .iload 4, 2), (171, .invokevirtual 181, 3), (174, .iload_n 3, 1), (175, .tableswitch 346 29 47 #[263, 346, 346, 346, 346, 346, 346, 89, 115, 124, 170, 179, 225, 254, 296, 326, 346, 346, 337], 89), (264, .aload_n 0, 1), (265, .iload 4, 2), (267, .invokevirtual 285, 3), (270, .aload_n 0, 1), (271, .bipush 48, 2), (273, .invokevirtual 270, 3), (276, .ifCond .eq 245, 3), (279, .aload_n 0, 1), (280, .iload 4, 2), (282, .bipush 41, 2), (284, .invokevirtual 288, 3), (287, .goto 234, 3), (290, .aload_n 0, 1), (291, .iload 4, 2), (293, .invokevirtual 325, 3), (296, .goto 225, 3), (299, .aload_n 0, 1), (300, .iload 4, 2), (302, .invokevirtual 328, 3), (305, .aload_n 0, 1), (306, .getfield 150, 3), (309, .ifCond .ne 26, 3), (312, .aload_n 0, 1), (313, .aload_n 0, 1), (314, .getfield 161, 3), (317, .bipush 52, 2), (319, .invokevirtual 164, 3), (322, .ifCond .eq 13, 3), (325, .aload_n 0, 1), (326, .dup, 1), (327, .getfield 161, 3), (330, .iconst 1, 1), (331, .iadd, 1), (332, .putfield 161, 3), (335, .aload_n 0, 1), (336, .iload_n 3, 1), (337, .iload 4, 2), (339, .invokevirtual 316, 3), (342, .goto 179, 3), (345, .aload_n 0, 1), (346, .iload 4, 2), (348, .invokevirtual 331, 3), (351, .goto 170, 3), (354, .aload_n 0, 1), (355, .iload 4, 2), (357, .invokevirtual 285, 3), (360, .aload_n 0, 1), (361, .getfield 150, 3), (364, .ifCond .ne 26, 3), (367, .aload_n 0, 1), (368, .aload_n 0, 1), (369, .getfield 161, 3), (372, .bipush 59, 2), (374, .invokevirtual 164, 3), (377, .ifCond .ne 13, 3), (380, .aload_n 0, 1), (381, .iconst 1, 1), (382, .aload_n 0, 1), (383, .getfield 161, 3), (386, .invokevirtual 171, 3), (389, .pop, 1), (390, .aload_n 0, 1), (391, .iload_n 3, 1), (392, .iload 4, 2), (394, .invokevirtual 316, 3), (397, .goto 124, 3), (400, .aload_n 0, 1), (401, .iconst 1, 1), (402, .invokevirtual 192, 3), (405, .ifCond .eq 14, 3), (408, .aload_n 0, 1), (409, .getfield 25, 3), (412, .iload 4, 2), (414, .aload_n 0, 1), (415, .invokevirtual 195, 3), (418, .iastore, 1), (419, .aload_n 0, 1), (420, .iload_n 3, 1), (421, .iload 4, 2), (423, .invokevirtual 316, 3), (426, .goto 95, 3), (429, .aload_n 0, 1), (430, .iload 4, 2), (432, .invokevirtual 334, 3), (435, .goto 86, 3), (438, .aload_n 0, 1), (439, .iload 4, 2), (441, .invokevirtual 285, 3), (444, .aload_n 0, 1), (445, .getfield 150, 3), (448, .ifCond .ne 73, 3), (451, .aload_n 0, 1), (452, .aload_n 0, 1), (453, .getfield 161, 3), (456, .invokevirtual 184, 3), (459, .ifCond .eq 62, 3), (462, .aload_n 0, 1), (463, .iload 4, 2), (465, .invokevirtual 285, 3), (468, .goto (-24), 3), (471, .aload_n 0, 1), (472, .bipush 48, 2), (474, .invokevirtual 167, 3), (477, .istore 5, 2), (479, .aload_n 0, 1), (480, .iconst 1, 1), (481, .invokevirtual 192, 3), (484, .ifCond .eq 37, 3), (487, .aload_n 0, 1), (488, .getfield 25, 3), (491, .iload 4, 2), (493, .aload_n 0, 1), (494, .invokevirtual 195, 3), (497, .iastore, 1), (498, .goto 23, 3), (501, .aload_n 0, 1), (502, .bipush 63, 2), (504, .invokevirtual 270, 3), (507, .istore 5, 2), (509, .goto 12, 3), (512, .aload_n 0, 1), (513, .iload 4, 2), (515, .invokevirtual 337, 3), (518, .goto 3, 3), (521, .return_, 1)])
set_option maxRecDepth 100000 in
theorem nm_d196 : ∀ e ∈ am_cd nm_m196, decode (am_b nm_m196) e.1 = .ok (e.2.1, e.2.2) := by decide +kernel
theorem nm_o196 : nm_okM nm_m196 [] := ⟨nm_d196, nm_pn10, (nm_in6 (List.mem_of_getElem? (i := 150) rfl) rfl), nm_ii10, nm_ne10, Nat.le_of_ble_eq_true rfl, Or.inl ⟨rfl, rfl⟩⟩
def nm_m197 : am_M := (⟨"CobolParserModel", "add", "(I)V"⟩, prog_13_method_45_code, 2, none, [], 2, [(0, .aload_n 0, 1), (1, .iload_n 1, 1), (2, .invokevirtual 285, 3), (5, .aload_n 0, 1), (6, .getfield 150, 3), (9, .ifCond .ne 22, 3), (12, .aload_n 0, 1), (13, .aload_n 0, 1), (14, .getfield 161, 3), (17, .invokevirtual 184, 3), (20, .ifCond .eq 11, 3), (23, .aload_n 0, 1), (24, .iload_n 1, 1), (25, .invokevirtual 285, 3), (28, .goto (-23), 3), (31, .aload_n 0, 1), (32, .bipush 48, 2), (34, .invokevirtual 167, 3), (37, .ifCond .eq 13, 3), (40, .aload_n 0, 1), (41, .iload_n 1, 1), (42, .bipush 41, 2), (44, .invokevirtual 288, 3), (47, .goto 47, 3), (50, .aload_n 0, 1), (51, .bipush 49, 2), (53, .invokevirtual 270, 3), (56, .ifCond .eq 38, 3), (59, .aload_n 0, 1), (60, .getfield 25, 3), (63, .iload_n 1, 1), (64, .iconst 1, 1), (65, .iastore, 1), (66, .aload_n 0, 1), (67, .iconst 1, 1), (68, .invokevirtual 192, 3), (71, .ifCond .eq 23, 3), (74, .aload_n 0, 1), (75, .iload_n 1, 1), (76, .bipush 41, 2), (78, .ldc 187, 2), (80, .aload_n 0, 1), (81, .invokevirtual 195, 3), (84, .iadd, 1), (85, .aload_n 0, 1), (86, .getfield 161, 3), (89, .iconst 1, 1), (90, .isub, 1), (91, .invokevirtual 198, 3), (94, .aload_n 0, 1), (95, .bipush 37, 2), (97, .iload_n 1, 1), (98, .invokevirtual 316, 3), (101, .return_, 1)])
set_option maxRecDepth 100000 in
theorem nm_d197 : ∀ e ∈ am_cd nm_m197, decode (am_b nm_m197) e.1 = .ok (e.2.1, e.2.2) := by decide +kernel
theorem nm_o197 : nm_okM nm_m197 [] := ⟨nm_d197, nm_pn10, (nm_in6 (List.mem_of_getElem? (i := 154) rfl) rfl), nm_ii10, nm_ne10, Nat.le_of_ble_eq_true rfl, Or.inl ⟨rfl, rfl⟩⟩
def nm_m198 : am_M := (⟨"CobolParserModel", "conditionOf", "(I)V"⟩, prog_13_method_62_code, 3, none, [], 2, [(0, .aload_n 0, 1), (1, .getfield 150, 3), (4, .ifCond .eq 4, 3), (7, .return_, 1), (8, .aload_n 0, 1), (9, .invokevirtual 389, 3), (12, .istore_n 2, 1), (13, .aload_n 0, 1), (14, .getfield 150, 3), (17, .ifCond .ne 9, 3), (20, .aload_n 0, 1), (21, .iload_n 1, 1), (22, .iload_n 2, 1), (23, .invokevirtual 181, 3), (26, .return_, 1)])
set_option maxRecDepth 100000 in
theorem nm_d198 : ∀ e ∈ am_cd nm_m198, decode (am_b nm_m198) e.1 = .ok (e.2.1, e.2.2) := by decide +kernel
theorem nm_o198 : nm_okM nm_m198 [] := ⟨nm_d198, nm_pn10, (nm_in6 (List.mem_of_getElem? (i := 158) rfl) rfl), nm_ii10, nm_ne10, Nat.le_of_ble_eq_true rfl, Or.inl ⟨rfl, rfl⟩⟩
def nm_m199 : am_M := (⟨"CobolParserModel", "condition", "()I"⟩, prog_13_method_63_code, 3, (some .int), [], 1, [(0, .aload_n 0, 1), (1, .iconst 0, 1), (2, .putfield 392, 3), (5, .aload_n 0, 1), (6, .iconst 0, 1), (7, .putfield 383, 3), (10, .aload_n 0, 1), (11, .invokevirtual 395, 3), (14, .iconst 0, 1), (15, .istore_n 1, 1), (16, .iload_n 1, 1), (17, .ifCond .ne 35, 3), (20, .aload_n 0, 1), (21, .getfield 150, 3), (24, .ifCond .ne 28, 3), (27, .aload_n 0, 1), (28, .invokevirtual 398, 3), (31, .istore_n 2, 1), (32, .iload_n 2, 1), (33, .ifCond .le 16, 3), (36, .aload_n 0, 1), (37, .getfield 150, 3), (40, .ifCond .ne 9, 3), (43, .aload_n 0, 1), (44, .iload_n 2, 1), (45, .invokevirtual 401, 3), (48, .istore_n 1, 1), (49, .goto (-33), 3), (52, .iload_n 1, 1), (53, .ireturn, 1)])
set_option maxRecDepth 100000 in
theorem nm_d199 : ∀ e ∈ am_cd nm_m199, decode (am_b nm_m199) e.1 = .ok (e.2.1, e.2.2) := by decide +kernel
theorem nm_o199 : nm_okM nm_m199 [] := ⟨nm_d199, nm_pn10, (nm_in6 (List.mem_of_getElem? (i := 162) rfl) rfl), nm_ii10, nm_ne10, Nat.le_of_ble_eq_true rfl, Or.inl ⟨rfl, rfl⟩⟩
end
section
/-! methods, their code decoded, by wip/whole/gen.py -/
def nm_m200 : am_M := (⟨"CobolParserModel", "joint", "()V"⟩, prog_13_method_61_code, 1, none, [], 1, [(0, .aload_n 0, 1), (1, .getfield 116, 3), (4, .aload_n 0, 1), (5, .getfield 383, 3), (8, .iconst 0, 1), (9, .iastore, 1), (10, .aload_n 0, 1), (11, .getfield 125, 3), (14, .aload_n 0, 1), (15, .getfield 383, 3), (18, .iconst 0, 1), (19, .iastore, 1), (20, .aload_n 0, 1), (21, .dup, 1), (22, .getfield 383, 3), (25, .iconst 1, 1), (26, .iadd, 1), (27, .putfield 383, 3), (30, .aload_n 0, 1), (31, .iconst 0, 1), (32, .putfield 386, 3), (35, .return_, 1)])
set_option maxRecDepth 100000 in
theorem nm_d200 : ∀ e ∈ am_cd nm_m200, decode (am_b nm_m200) e.1 = .ok (e.2.1, e.2.2) := by decide +kernel
theorem nm_o200 : nm_okM nm_m200 [] := ⟨nm_d200, nm_pn10, (nm_in6 (List.mem_of_getElem? (i := 166) rfl) rfl), nm_ii10, nm_ne10, Nat.le_of_ble_eq_true rfl, Or.inl ⟨rfl, rfl⟩⟩
def nm_m201 : am_M := (⟨"CobolParserModel", "factor", "()I"⟩, prog_13_method_65_code, 3, (some .int), [], 1, [(0, .aload_n 0, 1), (1, .aload_n 0, 1), (2, .getfield 161, 3), (5, .bipush 64, 2), (7, .invokevirtual 164, 3), (10, .ifCond .eq 26, 3), (13, .aload_n 0, 1), (14, .aload_n 0, 1), (15, .getfield 161, 3), (18, .iconst 1, 1), (19, .iadd, 1), (20, .invokevirtual 404, 3), (23, .ifCond .ne 13, 3), (26, .aload_n 0, 1), (27, .aload_n 0, 1), (28, .getfield 161, 3), (31, .invokevirtual 407, 3), (34, .iconst 0, 1), (35, .ireturn, 1), (36, .aload_n 0, 1), (37, .aload_n 0, 1), (38, .getfield 161, 3), (41, .iconst 0, 1), (42, .invokevirtual 340, 3), (45, .ifCond .eq 14, 3), (48, .aload_n 0, 1), (49, .iconst (-1), 1), (50, .invokevirtual 407, 3), (53, .aload_n 0, 1), (54, .invokevirtual 395, 3), (57, .iconst 0, 1), (58, .ireturn, 1), (59, .aload_n 0, 1), (60, .invokevirtual 410, 3), (63, .ifCond .eq 51, 3), (66, .aload_n 0, 1), (67, .getfield 386, 3), (70, .ifCond .ne 15, 3), (73, .aload_n 0, 1), (74, .iconst 1, 1), (75, .aload_n 0, 1), (76, .getfield 161, 3), (79, .invokevirtual 171, 3), (82, .pop, 1), (83, .iconst 0, 1), (84, .ireturn, 1), (85, .aload_n 0, 1), (86, .bipush 53, 2), (88, .iconst 0, 1), (89, .aload_n 0, 1), (90, .getfield 161, 3), (93, .invokevirtual 177, 3), (96, .istore_n 1, 1), (97, .aload_n 0, 1), (98, .getfield 31, 3), (101, .iload_n 1, 1), (102, .aload_n 0, 1), (103, .getfield 386, 3), (106, .iastore, 1), (107, .aload_n 0, 1), (108, .iload_n 1, 1), (109, .invokevirtual 413, 3), (112, .iload_n 1, 1), (113, .ireturn, 1), (114, .aload_n 0, 1), (115, .invokevirtual 188, 3), (118, .istore_n 1, 1), (119, .aload_n 0, 1), (120, .getfield 150, 3), (123, .ifCond .eq 5, 3), (126, .iconst 0, 1), (127, .ireturn, 1), (128, .aload_n 0, 1), (129, .invokevirtual 410, 3), (132, .ifCond .eq 42, 3), (135, .aload_n 0, 1), (136, .bipush 53, 2), (138, .iconst 0, 1), (139, .aload_n 0, 1), (140, .getfield 28, 3), (143, .iload_n 1, 1), (144, .iaload, 1), (145, .invokevirtual 177, 3), (148, .istore_n 2, 1), (149, .aload_n 0, 1), (150, .iload_n 2, 1), (151, .iload_n 1, 1), (152, .invokevirtual 181, 3), (155, .aload_n 0, 1), (156, .getfield 31, 3), (159, .iload_n 2, 1), (160, .iload_n 1, 1), (161, .iastore, 1), (162, .aload_n 0, 1), (163, .iload_n 1, 1), (164, .putfield 386, 3), (167, .aload_n 0, 1), (168, .iload_n 2, 1), (169, .invokevirtual 413, 3), (172, .iload_n 2, 1), (173, .ireturn, 1), (174, .aload_n 0, 1), (175, .getfield 386, 3), (178, .ifCond .le 38, 3), (181, .aload_n 0, 1), (182, .bipush 53, 2), (184, .aload_n 0, 1), (185, .getfield 416, 3), (188, .aload_n 0, 1), (189, .getfield 28, 3), (192, .iload_n 1, 1), (193, .iaload, 1), (194, .invokevirtual 177, 3), (197, .istore_n 2, 1), (198, .aload_n 0, 1), (199, .getfield 31, 3), (202, .iload_n 2, 1), (203, .aload_n 0, 1), (204, .getfield 386, 3), (207, .iastore, 1), (208, .aload_n 0, 1), (209, .iload_n 2, 1), (210, .iload_n 1, 1), (211, .invokevirtual 181, 3), (214, .iload_n 2, 1), (215, .ireturn, 1), (216, .aload_n 0, 1), (217, .aload_n 0, 1), (218, .getfield 161, 3), (221, .iconst 1, 1), (222, .isub, 1), (223, .iconst 1, 1), (224, .invokevirtual 143, 3), (227, .ifCond .ne 15, 3), (230, .aload_n 0, 1), (231, .iconst 1, 1), (232, .aload_n 0, 1), (233, .getfield 161, 3), (236, .invokevirtual 171, 3), (239, .pop, 1), (240, .iconst 0, 1), (241, .ireturn, 1), (242, .aload_n 0, 1), (243, .getfield 22, 3), (246, .iload_n 1, 1), (247, .bipush 54, 2), (249, .iastore, 1), (250, .aload_n 0, 1), (251, .getfield 25, 3), (254, .iload_n 1, 1), (255, .aload_n 0, 1), (256, .invokevirtual 195, 3), (259, .iastore, 1), (260, .iload_n 1, 1), (261, .ireturn, 1)])
set_option maxRecDepth 100000 in
theorem nm_d201 : ∀ e ∈ am_cd nm_m201, decode (am_b nm_m201) e.1 = .ok (e.2.1, e.2.2) := by decide +kernel
theorem nm_o201 : nm_okM nm_m201 [] := ⟨nm_d201, nm_pn10, (nm_in6 (List.mem_of_getElem? (i := 170) rfl) rfl), nm_ii10, nm_ne10, Nat.le_of_ble_eq_true rfl, Or.inl ⟨rfl, rfl⟩⟩
def nm_m202 : am_M := (⟨"CobolParserModel", "isComparing", "(I)Z"⟩, prog_13_method_60_code, 2, (some .boolean), [], 2, [(0, .aload_n 0, 1), (1, .iload_n 1, 1), (2, .iconst 5, 1), (3, .invokevirtual 143, 3), (6, .ifCond .eq 17, 3), (9, .aload_n 0, 1), (10, .getfield 13, 3), (13, .iload_n 1, 1), (14, .iaload, 1), (15, .iconst 2, 1), (16, .iconst 4, 1), (17, .invokestatic 132, 3), (20, .ifCond .ne 28, 3), (23, .aload_n 0, 1), (24, .iload_n 1, 1), (25, .iconst 0, 1), (26, .invokevirtual 143, 3), (29, .ifCond .eq 23, 3), (32, .aload_n 0, 1), (33, .getfield 13, 3), (36, .iload_n 1, 1), (37, .iaload, 1), (38, .bipush 68, 2), (40, .bipush 70, 2), (42, .invokestatic 132, 3), (45, .ifCond .eq 7, 3), (48, .iconst 1, 1), (49, .goto 4, 3), (52, .iconst 0, 1), (53, .ireturn, 1)])
set_option maxRecDepth 100000 in
theorem nm_d202 : ∀ e ∈ am_cd nm_m202, decode (am_b nm_m202) e.1 = .ok (e.2.1, e.2.2) := by decide +kernel
theorem nm_o202 : nm_okM nm_m202 [] := ⟨nm_d202, nm_pn10, (nm_in6 (List.mem_of_getElem? (i := 174) rfl) rfl), nm_ii10, nm_ne10, Nat.le_of_ble_eq_true rfl, Or.inl ⟨rfl, rfl⟩⟩
def nm_m203 : am_M := (⟨"CobolParserModel", "deeper", "(I)V"⟩, prog_13_method_64_code, 2, none, [], 2, [(0, .aload_n 0, 1), (1, .getfield 313, 3), (4, .bipush 40, 2), (6, .if_icmp .ne 14, 3), (9, .aload_n 0, 1), (10, .iconst 3, 1), (11, .aload_n 0, 1), (12, .getfield 161, 3), (15, .invokevirtual 171, 3), (18, .pop, 1), (19, .return_, 1), (20, .aload_n 0, 1), (21, .dup, 1), (22, .getfield 313, 3), (25, .iconst 1, 1), (26, .iadd, 1), (27, .putfield 313, 3), (30, .aload_n 0, 1), (31, .getfield 107, 3), (34, .aload_n 0, 1), (35, .getfield 392, 3), (38, .iload_n 1, 1), (39, .iastore, 1), (40, .aload_n 0, 1), (41, .dup, 1), (42, .getfield 392, 3), (45, .iconst 1, 1), (46, .iadd, 1), (47, .putfield 392, 3), (50, .aload_n 0, 1), (51, .dup, 1), (52, .getfield 161, 3), (55, .iconst 1, 1), (56, .iadd, 1), (57, .putfield 161, 3), (60, .return_, 1)])
set_option maxRecDepth 100000 in
theorem nm_d203 : ∀ e ∈ am_cd nm_m203, decode (am_b nm_m203) e.1 = .ok (e.2.1, e.2.2) := by decide +kernel
theorem nm_o203 : nm_okM nm_m203 [] := ⟨nm_d203, nm_pn10, (nm_in6 (List.mem_of_getElem? (i := 178) rfl) rfl), nm_ii10, nm_ne10, Nat.le_of_ble_eq_true rfl, Or.inl ⟨rfl, rfl⟩⟩
def nm_m204 : am_M := (⟨"CobolParserModel", "isSign", "(II)Z"⟩, prog_13_method_7_code, 3, (some .boolean), [], 3, [(0, .aload_n 0, 1), (1, .iload_n 1, 1), (2, .iconst 5, 1), (3, .invokevirtual 143, 3), (6, .ifCond .eq 17, 3), (9, .aload_n 0, 1), (10, .getfield 13, 3), (13, .iload_n 1, 1), (14, .iaload, 1), (15, .iload_n 2, 1), (16, .if_icmp .ne 7, 3), (19, .iconst 1, 1), (20, .goto 4, 3), (23, .iconst 0, 1), (24, .ireturn, 1)])
set_option maxRecDepth 100000 in
theorem nm_d204 : ∀ e ∈ am_cd nm_m204, decode (am_b nm_m204) e.1 = .ok (e.2.1, e.2.2) := by decide +kernel
theorem nm_o204 : nm_okM nm_m204 [] := ⟨nm_d204, nm_pn10, (nm_in6 (List.mem_of_getElem? (i := 182) rfl) rfl), nm_ii10, nm_ne10, Nat.le_of_ble_eq_true rfl, Or.inl ⟨rfl, rfl⟩⟩
def nm_m205 : am_M := (⟨"CobolParserModel", "isBehind", "()Z"⟩, prog_13_method_66_code, 1, (some .boolean), [], 1, [(0, .aload_n 0, 1), (1, .aload_n 0, 1), (2, .getfield 161, 3), (5, .bipush 67, 2), (7, .invokevirtual 164, 3), (10, .ifCond .ne 40, 3), (13, .aload_n 0, 1), (14, .aload_n 0, 1), (15, .getfield 161, 3), (18, .bipush 64, 2), (20, .invokevirtual 164, 3), (23, .ifCond .eq 16, 3), (26, .aload_n 0, 1), (27, .aload_n 0, 1), (28, .getfield 161, 3), (31, .iconst 1, 1), (32, .iadd, 1), (33, .invokevirtual 404, 3), (36, .ifCond .ne 14, 3), (39, .aload_n 0, 1), (40, .aload_n 0, 1), (41, .getfield 161, 3), (44, .invokevirtual 404, 3), (47, .ifCond .eq 7, 3), (50, .iconst 1, 1), (51, .goto 4, 3), (54, .iconst 0, 1), (55, .ireturn, 1)])
set_option maxRecDepth 100000 in
theorem nm_d205 : ∀ e ∈ am_cd nm_m205, decode (am_b nm_m205) e.1 = .ok (e.2.1, e.2.2) := by decide +kernel
theorem nm_o205 : nm_okM nm_m205 [] := ⟨nm_d205, nm_pn10, (nm_in6 (List.mem_of_getElem? (i := 186) rfl) rfl), nm_ii10, nm_ne10, Nat.le_of_ble_eq_true rfl, Or.inl ⟨rfl, rfl⟩⟩
def nm_m206 : am_M := (⟨"CobolParserModel", "compare", "(I)V"⟩, prog_13_method_67_code, 7, none, [], 2, [(0, .aload_n 0, 1), (1, .bipush 67, 2), (3, .invokevirtual 167, 3), (6, .istore_n 2, 1), (7, .aload_n 0, 1), (8, .bipush 64, 2), (10, .invokevirtual 167, 3), (13, .ifCond .eq 7, 3), (16, .iconst 3, 1), (17, .goto 4, 3), (20, .iconst 0, 1), (21, .istore_n 3, 1), (22, .aload_n 0, 1), (23, .getfield 150, 3), (26, .ifCond .ne 14, 3), (29, .aload_n 0, 1), (30, .aload_n 0, 1), (31, .getfield 161, 3), (34, .invokevirtual 404, 3), (37, .ifCond .ne 14, 3), (40, .aload_n 0, 1), (41, .iconst 1, 1), (42, .aload_n 0, 1), (43, .getfield 161, 3), (46, .invokevirtual 171, 3), (49, .pop, 1), (50, .return_, 1), (51, .aload_n 0, 1), (52, .getfield 7, 3), (55, .aload_n 0, 1), (56, .getfield 161, 3), (59, .iaload, 1), (60, .iconst 5, 1), (61, .if_icmp .ne 7, 3), (64, .iconst 1, 1), (65, .goto 4, 3), (68, .iconst 0, 1), (69, .istore 4, 2), (71, .aload_n 0, 1), (72, .getfield 13, 3), (75, .aload_n 0, 1), (76, .getfield 161, 3), (79, .iaload, 1), (80, .istore 5, 2), (82, .aload_n 0, 1), (83, .dup, 1), (84, .getfield 161, 3), (87, .iconst 1, 1), (88, .iadd, 1), (89, .putfield 161, 3), (92, .iload 4, 2), (94, .ifCond .eq 10, 3), (97, .iload 5, 2), (99, .iconst 2, 1), (100, .isub, 1), (101, .goto 26, 3), (104, .iload 5, 2), (106, .bipush 68, 2), (108, .if_icmp .ne 7, 3), (111, .iconst 0, 1), (112, .goto 15, 3), (115, .iload 5, 2), (117, .bipush 69, 2), (119, .if_icmp .ne 7, 3), (122, .iconst 2, 1), (123, .goto 4, 3), (126, .iconst 1, 1), (127, .istore 6, 2), (129, .iload 4, 2), (131, .ifCond .ne 22, 3), (134, .aload_n 0, 1), (135, .iload 5, 2), (137, .bipush 68, 2), (139, .if_icmp .ne 8, 3), (142, .bipush 48, 2), (144, .goto 5, 3), (147, .bipush 71, 2), (149, .invokevirtual 167, 3), (152, .istore_n 2, 1), (153, .aload_n 0, 1), (154, .iload 6, 2), (156, .iload_n 3, 1), (157, .iadd, 1), (158, .putfield 416, 3), (161, .aload_n 0, 1), (162, .getfield 25, 3), (165, .iload_n 1, 1), (166, .aload_n 0, 1), (167, .getfield 416, 3), (170, .iastore, 1), (171, .aload_n 0, 1), (172, .iload_n 1, 1), (173, .invokevirtual 285, 3), (176, .return_, 1)])
set_option maxRecDepth 100000 in
theorem nm_d206 : ∀ e ∈ am_cd nm_m206, decode (am_b nm_m206) e.1 = .ok (e.2.1, e.2.2) := by decide +kernel
theorem nm_o206 : nm_okM nm_m206 [] := ⟨nm_d206, nm_pn10, (nm_in6 (List.mem_of_getElem? (i := 190) rfl) rfl), nm_ii10, nm_ne10, Nat.le_of_ble_eq_true rfl, Or.inl ⟨rfl, rfl⟩⟩
def nm_m207 : am_M := (⟨"CobolParserModel", "behindFactor", "(I)I"⟩, prog_13_method_70_code, 5, (some .int), [], 2, [(0, .iload_n 1, 1), (1, .istore_n 2, 1), (2, .aload_n 0, 1), (3, .getfield 392, 3), (6, .ifCond .le 66, 3), (9, .aload_n 0, 1), (10, .getfield 107, 3), (13, .aload_n 0, 1), (14, .getfield 392, 3), (17, .iconst 1, 1), (18, .isub, 1), (19, .iaload, 1), (20, .iconst (-1), 1), (21, .if_icmp .eq 51, 3), (24, .aload_n 0, 1), (25, .dup, 1), (26, .getfield 392, 3), (29, .iconst 1, 1), (30, .isub, 1), (31, .putfield 392, 3), (34, .aload_n 0, 1), (35, .dup, 1), (36, .getfield 313, 3), (39, .iconst 1, 1), (40, .isub, 1), (41, .putfield 313, 3), (44, .aload_n 0, 1), (45, .bipush 52, 2), (47, .iconst 0, 1), (48, .aload_n 0, 1), (49, .getfield 107, 3), (52, .aload_n 0, 1), (53, .getfield 392, 3), (56, .iaload, 1), (57, .invokevirtual 177, 3), (60, .istore_n 3, 1), (61, .aload_n 0, 1), (62, .iload_n 3, 1), (63, .iload_n 2, 1), (64, .invokevirtual 181, 3), (67, .iload_n 3, 1), (68, .istore_n 2, 1), (69, .goto (-67), 3), (72, .aload_n 0, 1), (73, .getfield 383, 3), (76, .iconst 1, 1), (77, .isub, 1), (78, .istore_n 3, 1), (79, .aload_n 0, 1), (80, .getfield 40, 3), (83, .iload_n 2, 1), (84, .iconst 0, 1), (85, .iastore, 1), (86, .aload_n 0, 1), (87, .getfield 116, 3), (90, .iload_n 3, 1), (91, .iaload, 1), (92, .ifCond .ne 13, 3), (95, .aload_n 0, 1), (96, .getfield 110, 3), (99, .iload_n 3, 1), (100, .iload_n 2, 1), (101, .iastore, 1), (102, .goto 15, 3), (105, .aload_n 0, 1), (106, .getfield 40, 3), (109, .aload_n 0, 1), (110, .getfield 113, 3), (113, .iload_n 3, 1), (114, .iaload, 1), (115, .iload_n 2, 1), (116, .iastore, 1), (117, .aload_n 0, 1), (118, .getfield 113, 3), (121, .iload_n 3, 1), (122, .iload_n 2, 1), (123, .iastore, 1), (124, .aload_n 0, 1), (125, .getfield 116, 3), (128, .iload_n 3, 1), (129, .dup2, 1), (130, .iaload, 1), (131, .iconst 1, 1), (132, .iadd, 1), (133, .iastore, 1), (134, .aload_n 0, 1), (135, .bipush 65, 2), (137, .invokevirtual 167, 3), (140, .ifCond .eq 5, 3), (143, .iconst 0, 1), (144, .ireturn, 1), (145, .aload_n 0, 1), (146, .invokevirtual 423, 3), (149, .aload_n 0, 1), (150, .bipush 66, 2), (152, .invokevirtual 167, 3), (155, .ifCond .eq 5, 3), (158, .iconst 0, 1), (159, .ireturn, 1), (160, .aload_n 0, 1), (161, .bipush 50, 2), (163, .aload_n 0, 1), (164, .getfield 119, 3), (167, .iload_n 3, 1), (168, .iaload, 1), (169, .aload_n 0, 1), (170, .getfield 122, 3), (173, .iload_n 3, 1), (174, .iaload, 1), (175, .aload_n 0, 1), (176, .getfield 125, 3), (179, .iload_n 3, 1), (180, .iaload, 1), (181, .invokevirtual 419, 3), (184, .istore 4, 2), (186, .aload_n 0, 1), (187, .getfield 392, 3), (190, .ifCond .ne 6, 3), (193, .iload 4, 2), (195, .ireturn, 1), (196, .aload_n 0, 1), (197, .aload_n 0, 1), (198, .getfield 161, 3), (201, .iconst 1, 1), (202, .invokevirtual 340, 3), (205, .ifCond .ne 15, 3), (208, .aload_n 0, 1), (209, .iconst 1, 1), (210, .aload_n 0, 1), (211, .getfield 161, 3), (214, .invokevirtual 171, 3), (217, .pop, 1), (218, .iconst 0, 1), (219, .ireturn, 1), (220, .aload_n 0, 1), (221, .dup, 1), (222, .getfield 161, 3), (225, .iconst 1, 1), (226, .iadd, 1), (227, .putfield 161, 3), (230, .aload_n 0, 1), (231, .dup, 1), (232, .getfield 392, 3), (235, .iconst 1, 1), (236, .isub, 1), (237, .putfield 392, 3), (240, .aload_n 0, 1), (241, .dup, 1), (242, .getfield 313, 3), (245, .iconst 1, 1), (246, .isub, 1), (247, .putfield 313, 3), (250, .aload_n 0, 1), (251, .dup, 1), (252, .getfield 383, 3), (255, .iconst 1, 1), (256, .isub, 1), (257, .putfield 383, 3), (260, .aload_n 0, 1), (261, .iconst 0, 1), (262, .putfield 386, 3), (265, .iload 4, 2), (267, .istore_n 2, 1), (268, .goto (-266), 3)])
set_option maxRecDepth 100000 in
theorem nm_d207 : ∀ e ∈ am_cd nm_m207, decode (am_b nm_m207) e.1 = .ok (e.2.1, e.2.2) := by decide +kernel
theorem nm_o207 : nm_okM nm_m207 [] := ⟨nm_d207, nm_pn10, (nm_in6 (List.mem_of_getElem? (i := 194) rfl) rfl), nm_ii10, nm_ne10, Nat.le_of_ble_eq_true rfl, Or.inl ⟨rfl, rfl⟩⟩
def nm_m208 : am_M := (⟨"CobolParserModel", "closeAnds", "()V"⟩, prog_13_method_69_code, 3, none, [], 1, [(0, .aload_n 0, 1), (1, .getfield 383, 3), (4, .iconst 1, 1), (5, .isub, 1), (6, .istore_n 1, 1), (7, .aload_n 0, 1), (8, .bipush 51, 2), (10, .aload_n 0, 1), (11, .getfield 110, 3), (14, .iload_n 1, 1), (15, .iaload, 1), (16, .aload_n 0, 1), (17, .getfield 113, 3), (20, .iload_n 1, 1), (21, .iaload, 1), (22, .aload_n 0, 1), (23, .getfield 116, 3), (26, .iload_n 1, 1), (27, .iaload, 1), (28, .invokevirtual 419, 3), (31, .istore_n 2, 1), (32, .aload_n 0, 1), (33, .getfield 116, 3), (36, .iload_n 1, 1), (37, .iconst 0, 1), (38, .iastore, 1), (39, .aload_n 0, 1), (40, .getfield 40, 3), (43, .iload_n 2, 1), (44, .iconst 0, 1), (45, .iastore, 1), (46, .aload_n 0, 1), (47, .getfield 125, 3), (50, .iload_n 1, 1), (51, .iaload, 1), (52, .ifCond .ne 13, 3), (55, .aload_n 0, 1), (56, .getfield 119, 3), (59, .iload_n 1, 1), (60, .iload_n 2, 1), (61, .iastore, 1), (62, .goto 15, 3), (65, .aload_n 0, 1), (66, .getfield 40, 3), (69, .aload_n 0, 1), (70, .getfield 122, 3), (73, .iload_n 1, 1), (74, .iaload, 1), (75, .iload_n 2, 1), (76, .iastore, 1), (77, .aload_n 0, 1), (78, .getfield 122, 3), (81, .iload_n 1, 1), (82, .iload_n 2, 1), (83, .iastore, 1), (84, .aload_n 0, 1), (85, .getfield 125, 3), (88, .iload_n 1, 1), (89, .dup2, 1), (90, .iaload, 1), (91, .iconst 1, 1), (92, .iadd, 1), (93, .iastore, 1), (94, .return_, 1)])
set_option maxRecDepth 100000 in
theorem nm_d208 : ∀ e ∈ am_cd nm_m208, decode (am_b nm_m208) e.1 = .ok (e.2.1, e.2.2) := by decide +kernel
theorem nm_o208 : nm_okM nm_m208 [] := ⟨nm_d208, nm_pn10, (nm_in6 (List.mem_of_getElem? (i := 198) rfl) rfl), nm_ii10, nm_ne10, Nat.le_of_ble_eq_true rfl, Or.inl ⟨rfl, rfl⟩⟩
def nm_m209 : am_M := (⟨"CobolParserModel", "whole", "(IIII)I"⟩, prog_13_method_68_code, 9, (some .int), [], 5, [(0, .iload 4, 2), (2, .iconst 1, 1), (3, .if_icmp .ne 5, 3), (6, .iload_n 2, 1), (7, .ireturn, 1), (8, .aload_n 0, 1), (9, .iload_n 1, 1), (10, .iconst 0, 1), (11, .aload_n 0, 1), (12, .getfield 28, 3), (15, .iload_n 2, 1), (16, .iaload, 1), (17, .invokevirtual 177, 3), (20, .istore 5, 2), (22, .iload_n 2, 1), (23, .istore 6, 2), (25, .iconst 0, 1), (26, .istore 7, 2), (28, .iload 7, 2), (30, .iload 4, 2), (32, .if_icmp .ge 30, 3), (35, .aload_n 0, 1), (36, .getfield 40, 3), (39, .iload 6, 2), (41, .iaload, 1), (42, .istore 8, 2), (44, .aload_n 0, 1), (45, .iload 5, 2), (47, .iload 6, 2), (49, .invokevirtual 181, 3), (52, .iload 8, 2), (54, .istore 6, 2), (56, .iinc 7 1, 3), (59, .goto (-31), 3), (62, .iload 5, 2), (64, .ireturn, 1)])
set_option maxRecDepth 100000 in
theorem nm_d209 : ∀ e ∈ am_cd nm_m209, decode (am_b nm_m209) e.1 = .ok (e.2.1, e.2.2) := by decide +kernel
theorem nm_o209 : nm_okM nm_m209 [] := ⟨nm_d209, nm_pn10, (nm_in6 (List.mem_of_getElem? (i := 202) rfl) rfl), nm_ii10, nm_ne10, Nat.le_of_ble_eq_true rfl, Or.inl ⟨rfl, rfl⟩⟩
def nm_m210 : am_M := (⟨"CobolParserModel", "perform", "(I)V"⟩, prog_13_method_49_code, 3, none, [], 2, [(0, .aload_n 0, 1), (1, .aload_n 0, 1), (2, .getfield 161, 3), (5, .iconst 1, 1), (6, .invokevirtual 143, 3), (9, .ifCond .eq 22, 3), (12, .aload_n 0, 1), (13, .aload_n 0, 1), (14, .getfield 161, 3), (17, .iconst 1, 1), (18, .iadd, 1), (19, .bipush 23, 2), (21, .invokevirtual 164, 3), (24, .ifCond .ne 7, 3), (27, .iconst 1, 1), (28, .goto 4, 3), (31, .iconst 0, 1), (32, .istore_n 2, 1), (33, .iload_n 2, 1), (34, .ifCond .eq 45, 3), (37, .aload_n 0, 1), (38, .iload_n 1, 1), (39, .invokevirtual 285, 3), (42, .aload_n 0, 1), (43, .bipush 21, 2), (45, .invokevirtual 167, 3), (48, .ifCond .eq 31, 3), (51, .aload_n 0, 1), (52, .iconst 1, 1), (53, .invokevirtual 192, 3), (56, .ifCond .eq 23, 3), (59, .aload_n 0, 1), (60, .iload_n 1, 1), (61, .bipush 41, 2), (63, .ldc 187, 2), (65, .aload_n 0, 1), (66, .invokevirtual 195, 3), (69, .iadd, 1), (70, .aload_n 0, 1), (71, .getfield 161, 3), (74, .iconst 1, 1), (75, .isub, 1), (76, .invokevirtual 198, 3), (79, .aload_n 0, 1), (80, .iload_n 1, 1), (81, .invokevirtual 346, 3), (84, .iload_n 2, 1), (85, .ifCond .eq 4, 3), (88, .return_, 1), (89, .aload_n 0, 1), (90, .getfield 25, 3), (93, .iload_n 1, 1), (94, .iconst 1, 1), (95, .iastore, 1), (96, .aload_n 0, 1), (97, .bipush 39, 2), (99, .iload_n 1, 1), (100, .invokevirtual 316, 3), (103, .return_, 1)])
set_option maxRecDepth 100000 in
theorem nm_d210 : ∀ e ∈ am_cd nm_m210, decode (am_b nm_m210) e.1 = .ok (e.2.1, e.2.2) := by decide +kernel
theorem nm_o210 : nm_okM nm_m210 [] := ⟨nm_d210, nm_pn10, (nm_in6 (List.mem_of_getElem? (i := 206) rfl) rfl), nm_ii10, nm_ne10, Nat.le_of_ble_eq_true rfl, Or.inl ⟨rfl, rfl⟩⟩
def nm_m211 : am_M := (⟨"CobolParserModel", "phrase", "(I)V"⟩, prog_13_method_50_code, 5, none, [], 2, [(0, .aload_n 0, 1), (1, .getfield 150, 3), (4, .ifCond .eq 4, 3), (7, .return_, 1), (8, .aload_n 0, 1), (9, .getfield 161, 3), (12, .istore_n 2, 1), (13, .aload_n 0, 1), (14, .invokevirtual 349, 3), (17, .ifCond .eq 34, 3), (20, .aload_n 0, 1), (21, .bipush 43, 2), (23, .iconst 0, 1), (24, .iload_n 2, 1), (25, .invokevirtual 177, 3), (28, .istore_n 3, 1), (29, .aload_n 0, 1), (30, .iload_n 1, 1), (31, .iload_n 3, 1), (32, .invokevirtual 181, 3), (35, .aload_n 0, 1), (36, .iload_n 3, 1), (37, .invokevirtual 285, 3), (40, .aload_n 0, 1), (41, .bipush 23, 2), (43, .invokevirtual 270, 3), (46, .istore 4, 2), (48, .goto 129, 3), (51, .aload_n 0, 1), (52, .bipush 56, 2), (54, .invokevirtual 167, 3), (57, .ifCond .eq 26, 3), (60, .aload_n 0, 1), (61, .bipush 44, 2), (63, .iconst 0, 1), (64, .iload_n 2, 1), (65, .invokevirtual 177, 3), (68, .istore_n 3, 1), (69, .aload_n 0, 1), (70, .iload_n 1, 1), (71, .iload_n 3, 1), (72, .invokevirtual 181, 3), (75, .aload_n 0, 1), (76, .iload_n 3, 1), (77, .invokevirtual 328, 3), (80, .goto 97, 3), (83, .aload_n 0, 1), (84, .bipush 57, 2), (86, .invokevirtual 167, 3), (89, .ifCond .eq 88, 3), (92, .aload_n 0, 1), (93, .bipush 45, 2), (95, .iconst 0, 1), (96, .iload_n 2, 1), (97, .invokevirtual 177, 3), (100, .istore_n 3, 1), (101, .aload_n 0, 1), (102, .iload_n 1, 1), (103, .iload_n 3, 1), (104, .invokevirtual 181, 3), (107, .aload_n 0, 1), (108, .iconst 1, 1), (109, .invokevirtual 192, 3), (112, .ifCond .eq 23, 3), (115, .aload_n 0, 1), (116, .iload_n 3, 1), (117, .bipush 41, 2), (119, .ldc 187, 2), (121, .aload_n 0, 1), (122, .invokevirtual 195, 3), (125, .iadd, 1), (126, .aload_n 0, 1), (127, .getfield 161, 3), (130, .iconst 1, 1), (131, .isub, 1), (132, .invokevirtual 198, 3), (135, .aload_n 0, 1), (136, .bipush 58, 2), (138, .invokevirtual 270, 3), (141, .ifCond .eq 8, 3), (144, .aload_n 0, 1), (145, .iload_n 3, 1), (146, .invokevirtual 285, 3), (149, .aload_n 0, 1), (150, .bipush 25, 2), (152, .invokevirtual 270, 3), (155, .ifCond .eq 8, 3), (158, .aload_n 0, 1), (159, .iload_n 3, 1), (160, .invokevirtual 285, 3), (163, .aload_n 0, 1), (164, .bipush 56, 2), (166, .invokevirtual 270, 3), (169, .ifCond .eq 8, 3), (172, .aload_n 0, 1), (173, .iload_n 3, 1), (174, .invokevirtual 328, 3), (177, .return_, 1)])
set_option maxRecDepth 100000 in
theorem nm_d211 : ∀ e ∈ am_cd nm_m211, decode (am_b nm_m211) e.1 = .ok (e.2.1, e.2.2) := by decide +kernel
theorem nm_o211 : nm_okM nm_m211 [] := ⟨nm_d211, nm_pn10, (nm_in6 (List.mem_of_getElem? (i := 210) rfl) rfl), nm_ii10, nm_ne10, Nat.le_of_ble_eq_true rfl, Or.inl ⟨rfl, rfl⟩⟩
def nm_m212 : am_M := (⟨"CobolParserModel", "isTimes", "()Z"⟩, prog_13_method_48_code, 1, (some .boolean), [], 1, [(0, .aload_n 0, 1), (1, .aload_n 0, 1), (2, .getfield 161, 3), (5, .iconst 2, 1), (6, .invokevirtual 143, 3), (9, .ifCond .ne 30, 3), (12, .aload_n 0, 1), (13, .aload_n 0, 1), (14, .getfield 161, 3), (17, .iconst 1, 1), (18, .invokevirtual 143, 3), (21, .ifCond .eq 22, 3), (24, .aload_n 0, 1), (25, .aload_n 0, 1), (26, .getfield 161, 3), (29, .iconst 1, 1), (30, .iadd, 1), (31, .bipush 23, 2), (33, .invokevirtual 164, 3), (36, .ifCond .eq 7, 3), (39, .iconst 1, 1), (40, .goto 4, 3), (43, .iconst 0, 1), (44, .ireturn, 1)])
set_option maxRecDepth 100000 in
theorem nm_d212 : ∀ e ∈ am_cd nm_m212, decode (am_b nm_m212) e.1 = .ok (e.2.1, e.2.2) := by decide +kernel
theorem nm_o212 : nm_okM nm_m212 [] := ⟨nm_d212, nm_pn10, (nm_in6 (List.mem_of_getElem? (i := 214) rfl) rfl), nm_ii10, nm_ne10, Nat.le_of_ble_eq_true rfl, Or.inl ⟨rfl, rfl⟩⟩
def nm_m213 : am_M := (⟨"CobolParserModel", "call", "(I)V"⟩, prog_13_method_46_code, 2, none, [], 2, [(0, .aload_n 0, 1), (1, .getfield 150, 3), (4, .ifCond .ne 40, 3), (7, .aload_n 0, 1), (8, .aload_n 0, 1), (9, .getfield 161, 3), (12, .iconst 1, 1), (13, .invokevirtual 143, 3), (16, .ifCond .ne 28, 3), (19, .aload_n 0, 1), (20, .aload_n 0, 1), (21, .getfield 161, 3), (24, .iconst 3, 1), (25, .invokevirtual 143, 3), (28, .ifCond .ne 16, 3), (31, .aload_n 0, 1), (32, .iconst 1, 1), (33, .aload_n 0, 1), (34, .getfield 161, 3), (37, .invokevirtual 171, 3), (40, .pop, 1), (41, .goto 8, 3), (44, .aload_n 0, 1), (45, .iload_n 1, 1), (46, .invokevirtual 285, 3), (49, .aload_n 0, 1), (50, .bipush 31, 2), (52, .invokevirtual 167, 3), (55, .ifCond .eq 10, 3), (58, .aload_n 0, 1), (59, .iload_n 1, 1), (60, .bipush 21, 2), (62, .invokevirtual 288, 3), (65, .aload_n 0, 1), (66, .bipush 42, 2), (68, .iload_n 1, 1), (69, .invokevirtual 316, 3), (72, .return_, 1)])
set_option maxRecDepth 100000 in
theorem nm_d213 : ∀ e ∈ am_cd nm_m213, decode (am_b nm_m213) e.1 = .ok (e.2.1, e.2.2) := by decide +kernel
theorem nm_o213 : nm_okM nm_m213 [] := ⟨nm_d213, nm_pn10, (nm_in6 (List.mem_of_getElem? (i := 218) rfl) rfl), nm_ii10, nm_ne10, Nat.le_of_ble_eq_true rfl, Or.inl ⟨rfl, rfl⟩⟩
def nm_m214 : am_M := (⟨"CobolParserModel", "compute", "(I)V"⟩, prog_13_method_47_code, 3, none, [], 2, [(0, .aload_n 0, 1), (1, .iconst 1, 1), (2, .invokevirtual 192, 3), (5, .ifCond .ne 4, 3), (8, .return_, 1), (9, .aload_n 0, 1), (10, .getfield 25, 3), (13, .iload_n 1, 1), (14, .aload_n 0, 1), (15, .invokevirtual 195, 3), (18, .iastore, 1), (19, .aload_n 0, 1), (20, .aload_n 0, 1), (21, .getfield 161, 3), (24, .iconst 2, 1), (25, .invokevirtual 340, 3), (28, .ifCond .ne 14, 3), (31, .aload_n 0, 1), (32, .iconst 1, 1), (33, .aload_n 0, 1), (34, .getfield 161, 3), (37, .invokevirtual 171, 3), (40, .pop, 1), (41, .return_, 1), (42, .aload_n 0, 1), (43, .dup, 1), (44, .getfield 161, 3), (47, .iconst 1, 1), (48, .iadd, 1), (49, .putfield 161, 3), (52, .aload_n 0, 1), (53, .invokevirtual 343, 3), (56, .istore_n 2, 1), (57, .aload_n 0, 1), (58, .getfield 150, 3), (61, .ifCond .eq 4, 3), (64, .return_, 1), (65, .aload_n 0, 1), (66, .iload_n 1, 1), (67, .iload_n 2, 1), (68, .invokevirtual 181, 3), (71, .aload_n 0, 1), (72, .getfield 31, 3), (75, .iload_n 1, 1), (76, .aload_n 0, 1), (77, .bipush 78, 2), (79, .invokevirtual 167, 3), (82, .ifCond .eq 7, 3), (85, .iconst 1, 1), (86, .goto 4, 3), (89, .iconst 0, 1), (90, .iastore, 1), (91, .return_, 1)])
set_option maxRecDepth 100000 in
theorem nm_d214 : ∀ e ∈ am_cd nm_m214, decode (am_b nm_m214) e.1 = .ok (e.2.1, e.2.2) := by decide +kernel
theorem nm_o214 : nm_okM nm_m214 [] := ⟨nm_d214, nm_pn10, (nm_in6 (List.mem_of_getElem? (i := 222) rfl) rfl), nm_ii10, nm_ne10, Nat.le_of_ble_eq_true rfl, Or.inl ⟨rfl, rfl⟩⟩
def nm_m215 : am_M := (⟨"CobolParserModel", "sum", "()I"⟩, prog_13_method_58_code, 2, (some .int), [], 1, [(0, .aload_n 0, 1), (1, .iconst 0, 1), (2, .putfield 371, 3), (5, .aload_n 0, 1), (6, .invokevirtual 374, 3), (9, .iconst 0, 1), (10, .istore_n 1, 1), (11, .iload_n 1, 1), (12, .ifCond .ne 117, 3), (15, .aload_n 0, 1), (16, .getfield 150, 3), (19, .ifCond .ne 110, 3), (22, .aload_n 0, 1), (23, .aload_n 0, 1), (24, .getfield 161, 3), (27, .iconst 0, 1), (28, .invokevirtual 340, 3), (31, .ifCond .eq 49, 3), (34, .aload_n 0, 1), (35, .getfield 313, 3), (38, .bipush 40, 2), (40, .if_icmp .ne 13, 3), (43, .aload_n 0, 1), (44, .iconst 3, 1), (45, .aload_n 0, 1), (46, .getfield 161, 3), (49, .invokevirtual 171, 3), (52, .pop, 1), (53, .aload_n 0, 1), (54, .dup, 1), (55, .getfield 313, 3), (58, .iconst 1, 1), (59, .iadd, 1), (60, .putfield 313, 3), (63, .aload_n 0, 1), (64, .dup, 1), (65, .getfield 161, 3), (68, .iconst 1, 1), (69, .iadd, 1), (70, .putfield 161, 3), (73, .aload_n 0, 1), (74, .invokevirtual 374, 3), (77, .goto (-66), 3), (80, .aload_n 0, 1), (81, .aload_n 0, 1), (82, .getfield 161, 3), (85, .iconst 1, 1), (86, .invokevirtual 143, 3), (89, .ifCond .ne 28, 3), (92, .aload_n 0, 1), (93, .aload_n 0, 1), (94, .getfield 161, 3), (97, .iconst 2, 1), (98, .invokevirtual 143, 3), (101, .ifCond .ne 16, 3), (104, .aload_n 0, 1), (105, .iconst 1, 1), (106, .aload_n 0, 1), (107, .getfield 161, 3), (110, .invokevirtual 171, 3), (113, .pop, 1), (114, .goto (-103), 3), (117, .aload_n 0, 1), (118, .aload_n 0, 1), (119, .invokevirtual 188, 3), (122, .invokevirtual 377, 3), (125, .istore_n 1, 1), (126, .goto (-115), 3), (129, .iload_n 1, 1), (130, .ireturn, 1)])
set_option maxRecDepth 100000 in
theorem nm_d215 : ∀ e ∈ am_cd nm_m215, decode (am_b nm_m215) e.1 = .ok (e.2.1, e.2.2) := by decide +kernel
theorem nm_o215 : nm_okM nm_m215 [] := ⟨nm_d215, nm_pn10, (nm_in6 (List.mem_of_getElem? (i := 226) rfl) rfl), nm_ii10, nm_ne10, Nat.le_of_ble_eq_true rfl, Or.inl ⟨rfl, rfl⟩⟩
def nm_m216 : am_M := (⟨"CobolParserModel", "context", "()V"⟩, prog_13_method_57_code, 1, none, [], 1, [(0, .aload_n 0, 1), (1, .getfield 98, 3), (4, .aload_n 0, 1), (5, .getfield 371, 3), (8, .iconst 0, 1), (9, .iastore, 1), (10, .aload_n 0, 1), (11, .getfield 104, 3), (14, .aload_n 0, 1), (15, .getfield 371, 3), (18, .iconst 0, 1), (19, .iastore, 1), (20, .aload_n 0, 1), (21, .dup, 1), (22, .getfield 371, 3), (25, .iconst 1, 1), (26, .iadd, 1), (27, .putfield 371, 3), (30, .return_, 1)])
set_option maxRecDepth 100000 in
theorem nm_d216 : ∀ e ∈ am_cd nm_m216, decode (am_b nm_m216) e.1 = .ok (e.2.1, e.2.2) := by decide +kernel
theorem nm_o216 : nm_okM nm_m216 [] := ⟨nm_d216, nm_pn10, (nm_in6 (List.mem_of_getElem? (i := 230) rfl) rfl), nm_ii10, nm_ne10, Nat.le_of_ble_eq_true rfl, Or.inl ⟨rfl, rfl⟩⟩
def nm_m217 : am_M := (⟨"CobolParserModel", "behindUnit", "(I)I"⟩, prog_13_method_59_code, 5, (some .int), [], 2, [(0, .iload_n 1, 1), (1, .istore_n 2, 1), (2, .aload_n 0, 1), (3, .getfield 371, 3), (6, .iconst 1, 1), (7, .isub, 1), (8, .istore_n 3, 1), (9, .aload_n 0, 1), (10, .getfield 101, 3), (13, .iload_n 3, 1), (14, .aload_n 0, 1), (15, .aload_n 0, 1), (16, .getfield 101, 3), (19, .iload_n 3, 1), (20, .iaload, 1), (21, .aload_n 0, 1), (22, .getfield 104, 3), (25, .iload_n 3, 1), (26, .iaload, 1), (27, .iload_n 2, 1), (28, .invokevirtual 380, 3), (31, .iastore, 1), (32, .aload_n 0, 1), (33, .getfield 104, 3), (36, .iload_n 3, 1), (37, .iconst 0, 1), (38, .iastore, 1), (39, .aload_n 0, 1), (40, .aload_n 0, 1), (41, .getfield 161, 3), (44, .iconst 5, 1), (45, .invokevirtual 143, 3), (48, .ifCond .eq 33, 3), (51, .aload_n 0, 1), (52, .getfield 13, 3), (55, .aload_n 0, 1), (56, .getfield 161, 3), (59, .iaload, 1), (60, .iconst 5, 1), (61, .bipush 8, 2), (63, .invokestatic 132, 3), (66, .ifCond .eq 15, 3), (69, .aload_n 0, 1), (70, .getfield 13, 3), (73, .aload_n 0, 1), (74, .getfield 161, 3), (77, .iaload, 1), (78, .goto 4, 3), (81, .iconst 0, 1), (82, .istore 4, 2), (84, .iload 4, 2), (86, .bipush 6, 2), (88, .if_icmp .le 23, 3), (91, .aload_n 0, 1), (92, .getfield 104, 3), (95, .iload_n 3, 1), (96, .iload 4, 2), (98, .iastore, 1), (99, .aload_n 0, 1), (100, .dup, 1), (101, .getfield 161, 3), (104, .iconst 1, 1), (105, .iadd, 1), (106, .putfield 161, 3), (109, .iconst 0, 1), (110, .ireturn, 1), (111, .aload_n 0, 1), (112, .getfield 95, 3), (115, .iload_n 3, 1), (116, .aload_n 0, 1), (117, .aload_n 0, 1), (118, .getfield 95, 3), (121, .iload_n 3, 1), (122, .iaload, 1), (123, .aload_n 0, 1), (124, .getfield 98, 3), (127, .iload_n 3, 1), (128, .iaload, 1), (129, .aload_n 0, 1), (130, .getfield 101, 3), (133, .iload_n 3, 1), (134, .iaload, 1), (135, .invokevirtual 380, 3), (138, .iastore, 1), (139, .aload_n 0, 1), (140, .getfield 98, 3), (143, .iload_n 3, 1), (144, .iload 4, 2), (146, .iastore, 1), (147, .iload 4, 2), (149, .ifCond .le 15, 3), (152, .aload_n 0, 1), (153, .dup, 1), (154, .getfield 161, 3), (157, .iconst 1, 1), (158, .iadd, 1), (159, .putfield 161, 3), (162, .iconst 0, 1), (163, .ireturn, 1), (164, .iload_n 3, 1), (165, .ifCond .ne 10, 3), (168, .aload_n 0, 1), (169, .getfield 95, 3), (172, .iconst 0, 1), (173, .iaload, 1), (174, .ireturn, 1), (175, .aload_n 0, 1), (176, .aload_n 0, 1), (177, .getfield 161, 3), (180, .iconst 1, 1), (181, .invokevirtual 340, 3), (184, .ifCond .ne 15, 3), (187, .aload_n 0, 1), (188, .iconst 1, 1), (189, .aload_n 0, 1), (190, .getfield 161, 3), (193, .invokevirtual 171, 3), (196, .pop, 1), (197, .iconst 0, 1), (198, .ireturn, 1), (199, .aload_n 0, 1), (200, .dup, 1), (201, .getfield 161, 3), (204, .iconst 1, 1), (205, .iadd, 1), (206, .putfield 161, 3), (209, .aload_n 0, 1), (210, .getfield 95, 3), (213, .iload_n 3, 1), (214, .iaload, 1), (215, .istore_n 2, 1), (216, .aload_n 0, 1), (217, .dup, 1), (218, .getfield 371, 3), (221, .iconst 1, 1), (222, .isub, 1), (223, .putfield 371, 3), (226, .aload_n 0, 1), (227, .dup, 1), (228, .getfield 313, 3), (231, .iconst 1, 1), (232, .isub, 1), (233, .putfield 313, 3), (236, .goto (-234), 3)])
set_option maxRecDepth 100000 in
theorem nm_d217 : ∀ e ∈ am_cd nm_m217, decode (am_b nm_m217) e.1 = .ok (e.2.1, e.2.2) := by decide +kernel
theorem nm_o217 : nm_okM nm_m217 [] := ⟨nm_d217, nm_pn10, (nm_in6 (List.mem_of_getElem? (i := 234) rfl) rfl), nm_ii10, nm_ne10, Nat.le_of_ble_eq_true rfl, Or.inl ⟨rfl, rfl⟩⟩
def nm_m218 : am_M := (⟨"CobolParserModel", "joined", "(III)I"⟩, prog_13_method_56_code, 5, (some .int), [], 4, [(0, .iload_n 2, 1), (1, .ifCond .ne 5, 3), (4, .iload_n 3, 1), (5, .ireturn, 1), (6, .aload_n 0, 1), (7, .bipush 55, 2), (9, .iload_n 2, 1), (10, .aload_n 0, 1), (11, .getfield 28, 3), (14, .iload_n 1, 1), (15, .iaload, 1), (16, .invokevirtual 177, 3), (19, .istore 4, 2), (21, .aload_n 0, 1), (22, .iload 4, 2), (24, .iload_n 1, 1), (25, .invokevirtual 181, 3), (28, .aload_n 0, 1), (29, .iload 4, 2), (31, .iload_n 3, 1), (32, .invokevirtual 181, 3), (35, .iload 4, 2), (37, .ireturn, 1)])
set_option maxRecDepth 100000 in
theorem nm_d218 : ∀ e ∈ am_cd nm_m218, decode (am_b nm_m218) e.1 = .ok (e.2.1, e.2.2) := by decide +kernel
theorem nm_o218 : nm_okM nm_m218 [] := ⟨nm_d218, nm_pn10, (nm_in6 (List.mem_of_getElem? (i := 238) rfl) rfl), nm_ii10, nm_ne10, Nat.le_of_ble_eq_true rfl, Or.inl ⟨rfl, rfl⟩⟩
def nm_m219 : am_M := (⟨"CobolParserModel", "identified", "(I)V"⟩, prog_13_method_27_code, 5, none, [], 2, [(0, .aload_n 0, 1), (1, .getfield 205, 3), (4, .ifCond .eq 38, 3), (7, .aload_n 0, 1), (8, .getfield 73, 3), (11, .aload_n 0, 1), (12, .getfield 205, 3), (15, .iconst 1, 1), (16, .isub, 1), (17, .baload, 1), (18, .ifCond .ne 28, 3), (21, .iload_n 1, 1), (22, .iconst 1, 1), (23, .bipush 8, 2), (25, .invokestatic 132, 3), (28, .ifCond .ne 14, 3), (31, .iload_n 1, 1), (32, .bipush 10, 2), (34, .bipush 12, 2), (36, .invokestatic 132, 3), (39, .ifCond .eq 7, 3), (42, .iconst 1, 1), (43, .goto 4, 3), (46, .iconst 0, 1), (47, .istore_n 2, 1), (48, .iload_n 2, 1), (49, .ifCond .eq 12, 3), (52, .aload_n 0, 1), (53, .getfield 205, 3), (56, .bipush 10, 2), (58, .if_icmp .ne 22, 3), (61, .aload_n 0, 1), (62, .iload_n 2, 1), (63, .ifCond .eq 7, 3), (66, .iconst 3, 1), (67, .goto 4, 3), (70, .iconst 1, 1), (71, .aload_n 0, 1), (72, .getfield 161, 3), (75, .invokevirtual 171, 3), (78, .pop, 1), (79, .return_, 1), (80, .aload_n 0, 1), (81, .getfield 161, 3), (84, .istore_n 3, 1), (85, .aload_n 0, 1), (86, .dup, 1), (87, .getfield 161, 3), (90, .iconst 1, 1), (91, .iadd, 1), (92, .putfield 161, 3), (95, .aload_n 0, 1), (96, .iconst 1, 1), (97, .invokevirtual 270, 3), (100, .ifCond .eq 11, 3), (103, .aload_n 0, 1), (104, .iconst 4, 1), (105, .invokevirtual 192, 3), (108, .ifCond .ne 4, 3), (111, .return_, 1), (112, .aload_n 0, 1), (113, .iconst 1, 1), (114, .iconst 0, 1), (115, .iload_n 3, 1), (116, .invokevirtual 177, 3), (119, .istore 4, 2), (121, .aload_n 0, 1), (122, .aload_n 0, 1), (123, .getfield 205, 3), (126, .ifCond .ne 7, 3), (129, .iconst 0, 1), (130, .goto 12, 3), (133, .aload_n 0, 1), (134, .getfield 52, 3), (137, .aload_n 0, 1), (138, .invokevirtual 258, 3), (141, .iaload, 1), (142, .iload 4, 2), (144, .invokevirtual 181, 3), (147, .aload_n 0, 1), (148, .getfield 205, 3), (151, .ifCond .le 21, 3), (154, .aload_n 0, 1), (155, .bipush 12, 2), (157, .invokevirtual 261, 3), (160, .aload_n 0, 1), (161, .getfield 77, 3), (164, .aload_n 0, 1), (165, .getfield 205, 3), (168, .iconst 1, 1), (169, .isub, 1), (170, .iconst 1, 1), (171, .bastore, 1), (172, .aload_n 0, 1), (173, .getfield 52, 3), (176, .aload_n 0, 1), (177, .getfield 202, 3), (180, .iload 4, 2), (182, .iastore, 1), (183, .aload_n 0, 1), (184, .getfield 55, 3), (187, .aload_n 0, 1), (188, .getfield 202, 3), (191, .iconst 0, 1), (192, .iastore, 1), (193, .aload_n 0, 1), (194, .getfield 58, 3), (197, .aload_n 0, 1), (198, .getfield 202, 3), (201, .iconst 0, 1), (202, .iastore, 1), (203, .aload_n 0, 1), (204, .getfield 61, 3), (207, .aload_n 0, 1), (208, .getfield 202, 3), (211, .iconst 0, 1), (212, .iastore, 1), (213, .aload_n 0, 1), (214, .getfield 64, 3), (217, .aload_n 0, 1), (218, .getfield 205, 3), (221, .iconst 0, 1), (222, .iastore, 1), (223, .aload_n 0, 1), (224, .getfield 70, 3), (227, .aload_n 0, 1), (228, .getfield 205, 3), (231, .aload_n 0, 1), (232, .getfield 202, 3), (235, .iastore, 1), (236, .aload_n 0, 1), (237, .getfield 73, 3), (240, .aload_n 0, 1), (241, .getfield 205, 3), (244, .iconst 0, 1), (245, .bastore, 1), (246, .aload_n 0, 1), (247, .getfield 77, 3), (250, .aload_n 0, 1), (251, .getfield 205, 3), (254, .iconst 0, 1), (255, .bastore, 1), (256, .aload_n 0, 1), (257, .dup, 1), (258, .getfield 205, 3), (261, .iconst 1, 1), (262, .iadd, 1), (263, .putfield 205, 3), (266, .aload_n 0, 1), (267, .dup, 1), (268, .getfield 202, 3), (271, .iconst 1, 1), (272, .iadd, 1), (273, .putfield 202, 3), (276, .return_, 1)])
set_option maxRecDepth 100000 in
theorem nm_d219 : ∀ e ∈ am_cd nm_m219, decode (am_b nm_m219) e.1 = .ok (e.2.1, e.2.2) := by decide +kernel
theorem nm_o219 : nm_okM nm_m219 [] := ⟨nm_d219, nm_pn10, (nm_in7 (List.mem_of_getElem? (i := 2) rfl) rfl), nm_ii10, nm_ne10, Nat.le_of_ble_eq_true rfl, Or.inl ⟨rfl, rfl⟩⟩
def nm_m220 : am_M := (⟨"CobolParserModel", "unitNamed", "(Z)V"⟩, prog_13_method_28_code, 3, none, [], 2, [(0, .aload_n 0, 1), (1, .iconst 1, 1), (2, .invokevirtual 192, 3), (5, .ifCond .ne 4, 3), (8, .return_, 1), (9, .aload_n 0, 1), (10, .invokevirtual 195, 3), (13, .istore_n 2, 1), (14, .aload_n 0, 1), (15, .iconst 4, 1), (16, .invokevirtual 192, 3), (19, .ifCond .ne 4, 3), (22, .return_, 1), (23, .aload_n 0, 1), (24, .getfield 22, 3), (27, .aload_n 0, 1), (28, .getfield 52, 3), (31, .aload_n 0, 1), (32, .invokevirtual 258, 3), (35, .iaload, 1), (36, .iload_n 1, 1), (37, .ifCond .eq 7, 3), (40, .iconst 2, 1), (41, .goto 4, 3), (44, .iconst 1, 1), (45, .iastore, 1), (46, .aload_n 0, 1), (47, .getfield 25, 3), (50, .aload_n 0, 1), (51, .getfield 52, 3), (54, .aload_n 0, 1), (55, .invokevirtual 258, 3), (58, .iaload, 1), (59, .iload_n 2, 1), (60, .iastore, 1), (61, .aload_n 0, 1), (62, .getfield 67, 3), (65, .aload_n 0, 1), (66, .getfield 205, 3), (69, .iconst 1, 1), (70, .isub, 1), (71, .iload_n 2, 1), (72, .iastore, 1), (73, .aload_n 0, 1), (74, .getfield 73, 3), (77, .aload_n 0, 1), (78, .getfield 205, 3), (81, .iconst 1, 1), (82, .isub, 1), (83, .iload_n 1, 1), (84, .bastore, 1), (85, .aload_n 0, 1), (86, .iconst 1, 1), (87, .invokevirtual 261, 3), (90, .return_, 1)])
set_option maxRecDepth 100000 in
theorem nm_d220 : ∀ e ∈ am_cd nm_m220, decode (am_b nm_m220) e.1 = .ok (e.2.1, e.2.2) := by decide +kernel
theorem nm_o220 : nm_okM nm_m220 [] := ⟨nm_d220, nm_pn10, (nm_in7 (List.mem_of_getElem? (i := 6) rfl) rfl), nm_ii10, nm_ne10, Nat.le_of_ble_eq_true rfl, Or.inl ⟨rfl, rfl⟩⟩
def nm_m221 : am_M := (⟨"CobolParserModel", "select", "(I)V"⟩, prog_13_method_29_code, 6, none, [], 2, [(0, .aload_n 0, 1), (1, .iconst 1, 1), (2, .invokevirtual 192, 3), (5, .ifCond .ne 4, 3), (8, .return_, 1), (9, .aload_n 0, 1), (10, .iconst 4, 1), (11, .aload_n 0, 1), (12, .invokevirtual 195, 3), (15, .iload_n 1, 1), (16, .invokevirtual 177, 3), (19, .istore_n 2, 1), (20, .aload_n 0, 1), (21, .bipush 6, 2), (23, .invokevirtual 270, 3), (26, .ifCond .ne 4, 3), (29, .return_, 1), (30, .aload_n 0, 1), (31, .bipush 48, 2), (33, .invokevirtual 167, 3), (36, .istore_n 3, 1), (37, .aload_n 0, 1), (38, .aload_n 0, 1), (39, .getfield 161, 3), (42, .iconst 1, 1), (43, .invokevirtual 143, 3), (46, .ifCond .ne 26, 3), (49, .aload_n 0, 1), (50, .aload_n 0, 1), (51, .getfield 161, 3), (54, .iconst 3, 1), (55, .invokevirtual 143, 3), (58, .ifCond .ne 14, 3), (61, .aload_n 0, 1), (62, .iconst 1, 1), (63, .aload_n 0, 1), (64, .getfield 161, 3), (67, .invokevirtual 171, 3), (70, .pop, 1), (71, .return_, 1), (72, .aload_n 0, 1), (73, .iload_n 2, 1), (74, .invokevirtual 285, 3), (77, .aload_n 0, 1), (78, .getfield 161, 3), (81, .istore 4, 2), (83, .aload_n 0, 1), (84, .bipush 7, 2), (86, .invokevirtual 167, 3), (89, .ifCond .eq 101, 3), (92, .aload_n 0, 1), (93, .bipush 67, 2), (95, .invokevirtual 167, 3), (98, .istore_n 3, 1), (99, .aload_n 0, 1), (100, .aload_n 0, 1), (101, .getfield 161, 3), (104, .iconst 0, 1), (105, .invokevirtual 143, 3), (108, .ifCond .eq 26, 3), (111, .aload_n 0, 1), (112, .getfield 13, 3), (115, .aload_n 0, 1), (116, .getfield 161, 3), (119, .iaload, 1), (120, .bipush 8, 2), (122, .bipush 10, 2), (124, .invokestatic 132, 3), (127, .ifCond .eq 7, 3), (130, .iconst 1, 1), (131, .goto 4, 3), (134, .iconst 0, 1), (135, .istore 5, 2), (137, .iload 5, 2), (139, .ifCond .eq 23, 3), (142, .aload_n 0, 1), (143, .iload_n 2, 1), (144, .iconst 5, 1), (145, .aload_n 0, 1), (146, .getfield 13, 3), (149, .aload_n 0, 1), (150, .getfield 161, 3), (153, .iaload, 1), (154, .bipush 8, 2), (156, .isub, 1), (157, .iload 4, 2), (159, .invokevirtual 198, 3), (162, .iload 5, 2), (164, .ifCond .eq 16, 3), (167, .aload_n 0, 1), (168, .dup, 1), (169, .getfield 161, 3), (172, .iconst 1, 1), (173, .iadd, 1), (174, .putfield 161, 3), (177, .goto 13, 3), (180, .aload_n 0, 1), (181, .iconst 1, 1), (182, .aload_n 0, 1), (183, .getfield 161, 3), (186, .invokevirtual 171, 3), (189, .pop, 1), (190, .aload_n 0, 1), (191, .getfield 161, 3), (194, .istore 4, 2), (196, .aload_n 0, 1), (197, .bipush 11, 2), (199, .invokevirtual 167, 3), (202, .ifCond .eq 31, 3), (205, .aload_n 0, 1), (206, .bipush 67, 2), (208, .invokevirtual 167, 3), (211, .istore_n 3, 1), (212, .aload_n 0, 1), (213, .iconst 1, 1), (214, .invokevirtual 192, 3), (217, .ifCond .eq 16, 3), (220, .aload_n 0, 1), (221, .iload_n 2, 1), (222, .bipush 6, 2), (224, .aload_n 0, 1), (225, .invokevirtual 195, 3), (228, .iload 4, 2), (230, .invokevirtual 198, 3), (233, .aload_n 0, 1), (234, .iconst 4, 1), (235, .invokevirtual 192, 3), (238, .ifCond .eq 17, 3), (241, .aload_n 0, 1), (242, .aload_n 0, 1), (243, .getfield 55, 3), (246, .aload_n 0, 1), (247, .invokevirtual 258, 3), (250, .iaload, 1), (251, .iload_n 2, 1), (252, .invokevirtual 181, 3), (255, .return_, 1)])
set_option maxRecDepth 100000 in
theorem nm_d221 : ∀ e ∈ am_cd nm_m221, decode (am_b nm_m221) e.1 = .ok (e.2.1, e.2.2) := by decide +kernel
theorem nm_o221 : nm_okM nm_m221 [] := ⟨nm_d221, nm_pn10, (nm_in7 (List.mem_of_getElem? (i := 10) rfl) rfl), nm_ii10, nm_ne10, Nat.le_of_ble_eq_true rfl, Or.inl ⟨rfl, rfl⟩⟩
def nm_m222 : am_M := (⟨"CobolParserModel", "described", "(I)V"⟩, prog_13_method_30_code, 3, none, [], 2, [(0, .aload_n 0, 1), (1, .iconst 1, 1), (2, .invokevirtual 192, 3), (5, .ifCond .ne 4, 3), (8, .return_, 1), (9, .aload_n 0, 1), (10, .bipush 11, 2), (12, .aload_n 0, 1), (13, .invokevirtual 195, 3), (16, .iload_n 1, 1), (17, .invokevirtual 177, 3), (20, .istore_n 2, 1), (21, .aload_n 0, 1), (22, .iconst 4, 1), (23, .invokevirtual 192, 3), (26, .ifCond .ne 4, 3), (29, .return_, 1), (30, .aload_n 0, 1), (31, .aload_n 0, 1), (32, .getfield 273, 3), (35, .iload_n 2, 1), (36, .invokevirtual 181, 3), (39, .aload_n 0, 1), (40, .iload_n 2, 1), (41, .putfield 276, 3), (44, .aload_n 0, 1), (45, .iconst 0, 1), (46, .putfield 279, 3), (49, .aload_n 0, 1), (50, .iconst 0, 1), (51, .putfield 282, 3), (54, .aload_n 0, 1), (55, .iconst 5, 1), (56, .invokevirtual 261, 3), (59, .return_, 1)])
set_option maxRecDepth 100000 in
theorem nm_d222 : ∀ e ∈ am_cd nm_m222, decode (am_b nm_m222) e.1 = .ok (e.2.1, e.2.2) := by decide +kernel
theorem nm_o222 : nm_okM nm_m222 [] := ⟨nm_d222, nm_pn10, (nm_in7 (List.mem_of_getElem? (i := 14) rfl) rfl), nm_ii10, nm_ne10, Nat.le_of_ble_eq_true rfl, Or.inl ⟨rfl, rfl⟩⟩
def nm_m223 : am_M := (⟨"CobolParserModel", "begun", "(I)V"⟩, prog_13_method_31_code, 3, none, [], 2, [(0, .aload_n 0, 1), (1, .iconst 1, 1), (2, .invokevirtual 270, 3), (5, .ifCond .ne 4, 3), (8, .return_, 1), (9, .aload_n 0, 1), (10, .bipush 20, 2), (12, .iconst 0, 1), (13, .iload_n 1, 1), (14, .invokevirtual 177, 3), (17, .istore_n 2, 1), (18, .aload_n 0, 1), (19, .bipush 31, 2), (21, .invokevirtual 167, 3), (24, .ifCond .eq 10, 3), (27, .aload_n 0, 1), (28, .iload_n 2, 1), (29, .bipush 21, 2), (31, .invokevirtual 288, 3), (34, .aload_n 0, 1), (35, .iconst 4, 1), (36, .invokevirtual 192, 3), (39, .ifCond .ne 4, 3), (42, .return_, 1), (43, .aload_n 0, 1), (44, .aload_n 0, 1), (45, .getfield 52, 3), (48, .aload_n 0, 1), (49, .invokevirtual 258, 3), (52, .iaload, 1), (53, .iload_n 2, 1), (54, .invokevirtual 181, 3), (57, .aload_n 0, 1), (58, .getfield 61, 3), (61, .aload_n 0, 1), (62, .invokevirtual 258, 3), (65, .iload_n 2, 1), (66, .iastore, 1), (67, .aload_n 0, 1), (68, .iconst 0, 1), (69, .putfield 233, 3), (72, .aload_n 0, 1), (73, .iconst 0, 1), (74, .putfield 291, 3), (77, .aload_n 0, 1), (78, .iconst 0, 1), (79, .putfield 255, 3), (82, .aload_n 0, 1), (83, .bipush 8, 2), (85, .invokevirtual 261, 3), (88, .return_, 1)])
set_option maxRecDepth 100000 in
theorem nm_d223 : ∀ e ∈ am_cd nm_m223, decode (am_b nm_m223) e.1 = .ok (e.2.1, e.2.2) := by decide +kernel
theorem nm_o223 : nm_okM nm_m223 [] := ⟨nm_d223, nm_pn10, (nm_in7 (List.mem_of_getElem? (i := 18) rfl) rfl), nm_ii10, nm_ne10, Nat.le_of_ble_eq_true rfl, Or.inl ⟨rfl, rfl⟩⟩
def nm_m224 : am_M := (⟨"CobolParserModel", "ended", "(I)V"⟩, prog_13_method_32_code, 4, none, [], 2, [(0, .iload_n 1, 1), (1, .bipush 9, 2), (3, .if_icmp .eq 39, 3), (6, .aload_n 0, 1), (7, .aload_n 0, 1), (8, .getfield 161, 3), (11, .aload_n 0, 1), (12, .getfield 73, 3), (15, .aload_n 0, 1), (16, .getfield 205, 3), (19, .iconst 1, 1), (20, .isub, 1), (21, .baload, 1), (22, .ifCond .eq 8, 3), (25, .bipush 35, 2), (27, .goto 5, 3), (30, .bipush 34, 2), (32, .invokevirtual 164, 3), (35, .ifCond .eq 7, 3), (38, .iconst 1, 1), (39, .goto 4, 3), (42, .iconst 0, 1), (43, .istore_n 2, 1), (44, .iload_n 2, 1), (45, .ifCond .ne 33, 3), (48, .iload_n 1, 1), (49, .bipush 9, 2), (51, .if_icmp .ne 16, 3), (54, .aload_n 0, 1), (55, .aload_n 0, 1), (56, .getfield 161, 3), (59, .bipush 32, 2), (61, .invokevirtual 164, 3), (64, .ifCond .ne 14, 3), (67, .aload_n 0, 1), (68, .iconst 1, 1), (69, .aload_n 0, 1), (70, .getfield 161, 3), (73, .invokevirtual 171, 3), (76, .pop, 1), (77, .return_, 1), (78, .aload_n 0, 1), (79, .dup, 1), (80, .getfield 161, 3), (83, .iconst 1, 1), (84, .iadd, 1), (85, .putfield 161, 3), (88, .iload_n 2, 1), (89, .ifCond .ne 29, 3), (92, .aload_n 0, 1), (93, .iconst 4, 1), (94, .invokevirtual 192, 3), (97, .ifCond .ne 4, 3), (100, .return_, 1), (101, .aload_n 0, 1), (102, .iconst 0, 1), (103, .putfield 233, 3), (106, .aload_n 0, 1), (107, .iconst 0, 1), (108, .putfield 291, 3), (111, .aload_n 0, 1), (112, .bipush 10, 2), (114, .invokevirtual 261, 3), (117, .return_, 1), (118, .aload_n 0, 1), (119, .iconst 1, 1), (120, .invokevirtual 192, 3), (123, .ifCond .ne 4, 3), (126, .return_, 1), (127, .aload_n 0, 1), (128, .getfield 161, 3), (131, .iconst 1, 1), (132, .isub, 1), (133, .istore_n 3, 1), (134, .aload_n 0, 1), (135, .iconst 4, 1), (136, .invokevirtual 192, 3), (139, .ifCond .ne 4, 3), (142, .return_, 1), (143, .aload_n 0, 1), (144, .getfield 13, 3), (147, .iload_n 3, 1), (148, .iaload, 1), (149, .aload_n 0, 1), (150, .getfield 67, 3), (153, .aload_n 0, 1), (154, .getfield 205, 3), (157, .iconst 1, 1), (158, .isub, 1), (159, .iaload, 1), (160, .if_icmp .eq 9, 3), (163, .aload_n 0, 1), (164, .iconst 2, 1), (165, .iload_n 3, 1), (166, .invokevirtual 154, 3), (169, .aload_n 0, 1), (170, .dup, 1), (171, .getfield 205, 3), (174, .iconst 1, 1), (175, .isub, 1), (176, .putfield 205, 3), (179, .return_, 1)])
set_option maxRecDepth 100000 in
theorem nm_d224 : ∀ e ∈ am_cd nm_m224, decode (am_b nm_m224) e.1 = .ok (e.2.1, e.2.2) := by decide +kernel
theorem nm_o224 : nm_okM nm_m224 [] := ⟨nm_d224, nm_pn10, (nm_in7 (List.mem_of_getElem? (i := 22) rfl) rfl), nm_ii10, nm_ne10, Nat.le_of_ble_eq_true rfl, Or.inl ⟨rfl, rfl⟩⟩
def nm_m225 : am_M := (⟨"CobolParserModel", "division2", "(II)V"⟩, prog_13_method_26_code, 6, none, [], 3, [(0, .iload_n 1, 1), (1, .iconst 4, 1), (2, .if_icmp .eq 9, 3), (5, .iload_n 1, 1), (6, .bipush 12, 2), (8, .if_icmp .ne 7, 3), (11, .iconst 1, 1), (12, .goto 4, 3), (15, .iconst 0, 1), (16, .istore_n 3, 1), (17, .aload_n 0, 1), (18, .iload_n 3, 1), (19, .ifCond .eq 7, 3), (22, .iconst 1, 1), (23, .goto 5, 3), (26, .bipush 16, 2), (28, .invokevirtual 270, 3), (31, .ifCond .eq 11, 3), (34, .aload_n 0, 1), (35, .iconst 4, 1), (36, .invokevirtual 192, 3), (39, .ifCond .ne 4, 3), (42, .return_, 1), (43, .aload_n 0, 1), (44, .iload_n 1, 1), (45, .iconst 4, 1), (46, .if_icmp .ne 7, 3), (49, .iconst 3, 1), (50, .goto 38, 3), (53, .iload_n 1, 1), (54, .bipush 12, 2), (56, .if_icmp .ne 8, 3), (59, .bipush 7, 2), (61, .goto 27, 3), (64, .iload_n 1, 1), (65, .bipush 13, 2), (67, .if_icmp .ne 8, 3), (70, .bipush 8, 2), (72, .goto 16, 3), (75, .iload_n 1, 1), (76, .bipush 14, 2), (78, .if_icmp .ne 8, 3), (81, .bipush 9, 2), (83, .goto 5, 3), (86, .bipush 10, 2), (88, .iconst 0, 1), (89, .iload_n 2, 1), (90, .invokevirtual 177, 3), (93, .istore 4, 2), (95, .aload_n 0, 1), (96, .invokevirtual 258, 3), (99, .istore 5, 2), (101, .aload_n 0, 1), (102, .iload_n 3, 1), (103, .ifCond .eq 13, 3), (106, .aload_n 0, 1), (107, .getfield 52, 3), (110, .iload 5, 2), (112, .iaload, 1), (113, .goto 10, 3), (116, .aload_n 0, 1), (117, .getfield 58, 3), (120, .iload 5, 2), (122, .iaload, 1), (123, .iload 4, 2), (125, .invokevirtual 181, 3), (128, .iload_n 1, 1), (129, .iconst 4, 1), (130, .if_icmp .ne 12, 3), (133, .aload_n 0, 1), (134, .getfield 55, 3), (137, .iload 5, 2), (139, .iload 4, 2), (141, .iastore, 1), (142, .iload_n 1, 1), (143, .bipush 12, 2), (145, .if_icmp .ne 12, 3), (148, .aload_n 0, 1), (149, .getfield 58, 3), (152, .iload 5, 2), (154, .iload 4, 2), (156, .iastore, 1), (157, .iload_n 1, 1), (158, .bipush 13, 2), (160, .if_icmp .ne 9, 3), (163, .aload_n 0, 1), (164, .iload 4, 2), (166, .putfield 273, 3), (169, .iload_n 3, 1), (170, .ifCond .ne 9, 3), (173, .aload_n 0, 1), (174, .iload 4, 2), (176, .putfield 276, 3), (179, .aload_n 0, 1), (180, .iconst 0, 1), (181, .putfield 279, 3), (184, .aload_n 0, 1), (185, .iconst 0, 1), (186, .putfield 282, 3), (189, .aload_n 0, 1), (190, .iload_n 1, 1), (191, .iconst 4, 1), (192, .if_icmp .ne 7, 3), (195, .iconst 2, 1), (196, .goto 36, 3), (199, .iload_n 1, 1), (200, .bipush 12, 2), (202, .if_icmp .ne 7, 3), (205, .iconst 3, 1), (206, .goto 26, 3), (209, .iload_n 1, 1), (210, .bipush 13, 2), (212, .if_icmp .ne 7, 3), (215, .iconst 4, 1), (216, .goto 16, 3), (219, .iload_n 1, 1), (220, .bipush 14, 2), (222, .if_icmp .ne 8, 3), (225, .bipush 6, 2), (227, .goto 5, 3), (230, .bipush 7, 2), (232, .invokevirtual 261, 3), (235, .return_, 1)])
set_option maxRecDepth 100000 in
theorem nm_d225 : ∀ e ∈ am_cd nm_m225, decode (am_b nm_m225) e.1 = .ok (e.2.1, e.2.2) := by decide +kernel
theorem nm_o225 : nm_okM nm_m225 [] := ⟨nm_d225, nm_pn10, (nm_in7 (List.mem_of_getElem? (i := 26) rfl) rfl), nm_ii10, nm_ne10, Nat.le_of_ble_eq_true rfl, Or.inl ⟨rfl, rfl⟩⟩
def nm_m226 : am_M := (⟨"CobolParserModel", "numberAll", "(I)V"⟩, prog_13_method_71_code, 4, none, [], 2, [(0, .aload_n 0, 1), (1, .getfield 34, 3), (4, .iload_n 1, 1), (5, .iaload, 1), (6, .istore_n 2, 1), (7, .iconst 1, 1), (8, .istore_n 3, 1), (9, .iload_n 2, 1), (10, .ifCond .le 117, 3), (13, .aload_n 0, 1), (14, .getfield 46, 3), (17, .iload_n 2, 1), (18, .aload_n 0, 1), (19, .getfield 208, 3), (22, .iastore, 1), (23, .aload_n 0, 1), (24, .getfield 49, 3), (27, .aload_n 0, 1), (28, .getfield 208, 3), (31, .iload_n 2, 1), (32, .iastore, 1), (33, .aload_n 0, 1), (34, .dup, 1), (35, .getfield 208, 3), (38, .iconst 1, 1), (39, .iadd, 1), (40, .putfield 208, 3), (43, .aload_n 0, 1), (44, .iload_n 3, 1), (45, .aload_n 0, 1), (46, .getfield 211, 3), (49, .if_icmp .le 7, 3), (52, .iload_n 3, 1), (53, .goto 7, 3), (56, .aload_n 0, 1), (57, .getfield 211, 3), (60, .putfield 211, 3), (63, .aload_n 0, 1), (64, .getfield 34, 3), (67, .iload_n 2, 1), (68, .iaload, 1), (69, .ifCond .le 16, 3), (72, .aload_n 0, 1), (73, .getfield 34, 3), (76, .iload_n 2, 1), (77, .iaload, 1), (78, .istore_n 2, 1), (79, .iinc 3 1, 3), (82, .goto (-73), 3), (85, .aload_n 0, 1), (86, .getfield 40, 3), (89, .iload_n 2, 1), (90, .iaload, 1), (91, .ifCond .ne 26, 3), (94, .aload_n 0, 1), (95, .getfield 43, 3), (98, .iload_n 2, 1), (99, .iaload, 1), (100, .iload_n 1, 1), (101, .if_icmp .eq 16, 3), (104, .aload_n 0, 1), (105, .getfield 43, 3), (108, .iload_n 2, 1), (109, .iaload, 1), (110, .istore_n 2, 1), (111, .iinc 3 (-1), 3), (114, .goto (-29), 3), (117, .aload_n 0, 1), (118, .getfield 40, 3), (121, .iload_n 2, 1), (122, .iaload, 1), (123, .istore_n 2, 1), (124, .goto (-115), 3), (127, .return_, 1)])
set_option maxRecDepth 100000 in
theorem nm_d226 : ∀ e ∈ am_cd nm_m226, decode (am_b nm_m226) e.1 = .ok (e.2.1, e.2.2) := by decide +kernel
theorem nm_o226 : nm_okM nm_m226 [] := ⟨nm_d226, nm_pn10, (nm_in7 (List.mem_of_getElem? (i := 30) rfl) rfl), nm_ii10, nm_ne10, Nat.le_of_ble_eq_true rfl, Or.inl ⟨rfl, rfl⟩⟩
def nm_m227 : am_M := (⟨"CobolParserModel", "node", "(II)I"⟩, prog_13_method_73_code, 7, (some .int), [], 3, [(0, .aload_n 0, 1), (1, .iconst 0, 1), (2, .putfield 128, 3), (5, .iload_n 1, 1), (6, .ifCond .lt 11, 3), (9, .iload_n 1, 1), (10, .aload_n 0, 1), (11, .getfield 208, 3), (14, .if_icmp .lt 5, 3), (17, .iconst (-1), 1), (18, .ireturn, 1), (19, .aload_n 0, 1), (20, .getfield 49, 3), (23, .iload_n 1, 1), (24, .iaload, 1), (25, .istore_n 3, 1), (26, .aload_n 0, 1), (27, .getfield 22, 3), (30, .iload_n 3, 1), (31, .iaload, 1), (32, .istore 4, 2), (34, .iload_n 2, 1), (35, .tableswitch 169 0 5 #[37, 40, 59, 66, 100, 125], 37), (72, .iload 4, 2), (74, .ireturn, 1), (75, .iload 4, 2), (77, .invokestatic 426, 3), (80, .ifCond .eq 12, 3), (83, .aload_n 0, 1), (84, .getfield 25, 3), (87, .iload_n 3, 1), (88, .iaload, 1), (89, .goto 4, 3), (92, .iconst 0, 1), (93, .ireturn, 1), (94, .aload_n 0, 1), (95, .getfield 28, 3), (98, .iload_n 3, 1), (99, .iaload, 1), (100, .ireturn, 1), (101, .iconst 0, 1), (102, .istore 5, 2), (104, .aload_n 0, 1), (105, .getfield 34, 3), (108, .iload_n 3, 1), (109, .iaload, 1), (110, .istore 6, 2), (112, .iload 6, 2), (114, .ifCond .le 18, 3), (117, .iinc 5 1, 3), (120, .aload_n 0, 1), (121, .getfield 40, 3), (124, .iload 6, 2), (126, .iaload, 1), (127, .istore 6, 2), (129, .goto (-17), 3), (132, .iload 5, 2), (134, .ireturn, 1), (135, .aload_n 0, 1), (136, .getfield 43, 3), (139, .iload_n 3, 1), (140, .iaload, 1), (141, .ifCond .ne 7, 3), (144, .iconst (-1), 1), (145, .goto 14, 3), (148, .aload_n 0, 1), (149, .getfield 46, 3), (152, .aload_n 0, 1), (153, .getfield 43, 3), (156, .iload_n 3, 1), (157, .iaload, 1), (158, .iaload, 1), (159, .ireturn, 1), (160, .iload 4, 2), (162, .bipush 53, 2), (164, .if_icmp .ne 17, 3), (167, .aload_n 0, 1), (168, .getfield 46, 3), (171, .aload_n 0, 1), (172, .getfield 31, 3), (175, .iload_n 3, 1), (176, .iaload, 1), (177, .iaload, 1), (178, .goto 25, 3), (181, .iload 4, 2), (183, .bipush 26, 2), (185, .bipush 38, 2), (187, .invokestatic 132, 3), (190, .ifCond .eq 12, 3), (193, .aload_n 0, 1), (194, .getfield 31, 3), (197, .iload_n 3, 1), (198, .iaload, 1), (199, .goto 4, 3), (202, .iconst (-1), 1), (203, .ireturn, 1), (204, .iconst (-1), 1), (205, .ireturn, 1)])
set_option maxRecDepth 100000 in
theorem nm_d227 : ∀ e ∈ am_cd nm_m227, decode (am_b nm_m227) e.1 = .ok (e.2.1, e.2.2) := by decide +kernel
theorem nm_o227 : nm_okM nm_m227 [] := ⟨nm_d227, nm_pn10, (nm_in7 (List.mem_of_getElem? (i := 34) rfl) rfl), nm_ii10, nm_ne10, Nat.le_of_ble_eq_true rfl, Or.inl ⟨rfl, rfl⟩⟩
def nm_m228 : am_M := (⟨"CobolParserModel", "hasValue", "(I)Z"⟩, prog_13_method_72_code, 1, (some .boolean), [], 1, [(0, .iload_n 0, 1), (1, .iconst 1, 1), (2, .if_icmp .eq 111, 3), (5, .iload_n 0, 1), (6, .iconst 2, 1), (7, .if_icmp .eq 106, 3), (10, .iload_n 0, 1), (11, .iconst 4, 1), (12, .bipush 6, 2), (14, .invokestatic 132, 3), (17, .ifCond .ne 96, 3), (20, .iload_n 0, 1), (21, .bipush 11, 2), (23, .if_icmp .eq 90, 3), (26, .iload_n 0, 1), (27, .bipush 12, 2), (29, .bipush 13, 2), (31, .invokestatic 132, 3), (34, .ifCond .ne 79, 3), (37, .iload_n 0, 1), (38, .bipush 15, 2), (40, .bipush 19, 2), (42, .invokestatic 132, 3), (45, .ifCond .ne 68, 3), (48, .iload_n 0, 1), (49, .bipush 21, 2), (51, .if_icmp .eq 62, 3), (54, .iload_n 0, 1), (55, .bipush 23, 2), (57, .if_icmp .eq 56, 3), (60, .iload_n 0, 1), (61, .bipush 24, 2), (63, .if_icmp .eq 50, 3), (66, .iload_n 0, 1), (67, .bipush 27, 2), (69, .if_icmp .eq 44, 3), (72, .iload_n 0, 1), (73, .bipush 29, 2), (75, .if_icmp .eq 38, 3), (78, .iload_n 0, 1), (79, .bipush 31, 2), (81, .if_icmp .eq 32, 3), (84, .iload_n 0, 1), (85, .bipush 34, 2), (87, .if_icmp .eq 26, 3), (90, .iload_n 0, 1), (91, .bipush 38, 2), (93, .if_icmp .eq 20, 3), (96, .iload_n 0, 1), (97, .bipush 41, 2), (99, .if_icmp .eq 14, 3), (102, .iload_n 0, 1), (103, .bipush 53, 2), (105, .bipush 55, 2), (107, .invokestatic 132, 3), (110, .ifCond .eq 7, 3), (113, .iconst 1, 1), (114, .goto 4, 3), (117, .iconst 0, 1), (118, .ireturn, 1)])
set_option maxRecDepth 100000 in
theorem nm_d228 : ∀ e ∈ am_cd nm_m228, decode (am_b nm_m228) e.1 = .ok (e.2.1, e.2.2) := by decide +kernel
theorem nm_o228 : nm_okM nm_m228 [] := ⟨nm_d228, nm_pn10, (nm_in7 (List.mem_of_getElem? (i := 37) rfl) rfl), nm_ii10, nm_ne10, Nat.le_of_ble_eq_true rfl, Or.inl ⟨rfl, rfl⟩⟩
def nm_m229 : am_M := (⟨"CobolParserModel", "child", "(II)I"⟩, prog_13_method_74_code, 5, (some .int), [], 3, [(0, .aload_n 0, 1), (1, .iconst 0, 1), (2, .putfield 128, 3), (5, .iload_n 1, 1), (6, .ifCond .lt 15, 3), (9, .iload_n 1, 1), (10, .aload_n 0, 1), (11, .getfield 208, 3), (14, .if_icmp .ge 7, 3), (17, .iload_n 2, 1), (18, .ifCond .ge 5, 3), (21, .iconst (-1), 1), (22, .ireturn, 1), (23, .aload_n 0, 1), (24, .getfield 34, 3), (27, .aload_n 0, 1), (28, .getfield 49, 3), (31, .iload_n 1, 1), (32, .iaload, 1), (33, .iaload, 1), (34, .istore_n 3, 1), (35, .iconst 0, 1), (36, .istore 4, 2), (38, .iload 4, 2), (40, .iload_n 2, 1), (41, .if_icmp .ge 20, 3), (44, .iload_n 3, 1), (45, .ifCond .le 16, 3), (48, .aload_n 0, 1), (49, .getfield 40, 3), (52, .iload_n 3, 1), (53, .iaload, 1), (54, .istore_n 3, 1), (55, .iinc 4 1, 3), (58, .goto (-20), 3), (61, .iload_n 3, 1), (62, .ifCond .le 12, 3), (65, .aload_n 0, 1), (66, .getfield 46, 3), (69, .iload_n 3, 1), (70, .iaload, 1), (71, .goto 4, 3), (74, .iconst (-1), 1), (75, .ireturn, 1)])
set_option maxRecDepth 100000 in
theorem nm_d229 : ∀ e ∈ am_cd nm_m229, decode (am_b nm_m229) e.1 = .ok (e.2.1, e.2.2) := by decide +kernel
theorem nm_o229 : nm_okM nm_m229 [] := ⟨nm_d229, nm_pn10, (nm_in7 (List.mem_of_getElem? (i := 41) rfl) rfl), nm_ii10, nm_ne10, Nat.le_of_ble_eq_true rfl, Or.inl ⟨rfl, rfl⟩⟩
def nm_m230 : am_M := (⟨"CobolParserModel", "faults", "()I"⟩, prog_13_method_75_code, 1, (some .int), [], 1, [(0, .aload_n 0, 1), (1, .iconst 0, 1), (2, .putfield 128, 3), (5, .aload_n 0, 1), (6, .getfield 147, 3), (9, .ireturn, 1)])
set_option maxRecDepth 100000 in
theorem nm_d230 : ∀ e ∈ am_cd nm_m230, decode (am_b nm_m230) e.1 = .ok (e.2.1, e.2.2) := by decide +kernel
theorem nm_o230 : nm_okM nm_m230 [] := ⟨nm_d230, nm_pn10, (nm_in7 (List.mem_of_getElem? (i := 45) rfl) rfl), nm_ii10, nm_ne10, Nat.le_of_ble_eq_true rfl, Or.inl ⟨rfl, rfl⟩⟩
def nm_m231 : am_M := (⟨"CobolParserModel", "fault", "(II)I"⟩, prog_13_method_76_code, 3, (some .int), [], 3, [(0, .aload_n 0, 1), (1, .iconst 0, 1), (2, .putfield 128, 3), (5, .iload_n 1, 1), (6, .ifCond .lt 11, 3), (9, .iload_n 1, 1), (10, .aload_n 0, 1), (11, .getfield 147, 3), (14, .if_icmp .lt 5, 3), (17, .iconst (-1), 1), (18, .ireturn, 1), (19, .iload_n 2, 1), (20, .ifCond .ne 12, 3), (23, .aload_n 0, 1), (24, .getfield 16, 3), (27, .iload_n 1, 1), (28, .iaload, 1), (29, .goto 18, 3), (32, .iload_n 2, 1), (33, .iconst 1, 1), (34, .if_icmp .ne 12, 3), (37, .aload_n 0, 1), (38, .getfield 19, 3), (41, .iload_n 1, 1), (42, .iaload, 1), (43, .goto 4, 3), (46, .iconst (-1), 1), (47, .ireturn, 1)])
set_option maxRecDepth 100000 in
theorem nm_d231 : ∀ e ∈ am_cd nm_m231, decode (am_b nm_m231) e.1 = .ok (e.2.1, e.2.2) := by decide +kernel
theorem nm_o231 : nm_okM nm_m231 [] := ⟨nm_d231, nm_pn10, (nm_in7 (List.mem_of_getElem? (i := 49) rfl) rfl), nm_ii10, nm_ne10, Nat.le_of_ble_eq_true rfl, Or.inl ⟨rfl, rfl⟩⟩
def nm_m232 : am_M := (⟨"CobolParserModel", "division", "(II)I"⟩, prog_13_method_77_code, 4, (some .int), [], 3, [(0, .aload_n 0, 1), (1, .iconst 0, 1), (2, .putfield 128, 3), (5, .iload_n 1, 1), (6, .ifCond .lt 20, 3), (9, .iload_n 1, 1), (10, .aload_n 0, 1), (11, .getfield 202, 3), (14, .if_icmp .ge 12, 3), (17, .iload_n 2, 1), (18, .iconst 0, 1), (19, .iconst 3, 1), (20, .invokestatic 132, 3), (23, .ifCond .ne 5, 3), (26, .iconst (-1), 1), (27, .ireturn, 1), (28, .iload_n 2, 1), (29, .ifCond .ne 12, 3), (32, .aload_n 0, 1), (33, .getfield 52, 3), (36, .iload_n 1, 1), (37, .iaload, 1), (38, .goto 37, 3), (41, .iload_n 2, 1), (42, .iconst 1, 1), (43, .if_icmp .ne 12, 3), (46, .aload_n 0, 1), (47, .getfield 55, 3), (50, .iload_n 1, 1), (51, .iaload, 1), (52, .goto 23, 3), (55, .iload_n 2, 1), (56, .iconst 2, 1), (57, .if_icmp .ne 12, 3), (60, .aload_n 0, 1), (61, .getfield 58, 3), (64, .iload_n 1, 1), (65, .iaload, 1), (66, .goto 9, 3), (69, .aload_n 0, 1), (70, .getfield 61, 3), (73, .iload_n 1, 1), (74, .iaload, 1), (75, .istore_n 3, 1), (76, .iload_n 3, 1), (77, .ifCond .le 12, 3), (80, .aload_n 0, 1), (81, .getfield 46, 3), (84, .iload_n 3, 1), (85, .iaload, 1), (86, .goto 4, 3), (89, .iconst (-1), 1), (90, .ireturn, 1)])
set_option maxRecDepth 100000 in
theorem nm_d232 : ∀ e ∈ am_cd nm_m232, decode (am_b nm_m232) e.1 = .ok (e.2.1, e.2.2) := by decide +kernel
theorem nm_o232 : nm_okM nm_m232 [] := ⟨nm_d232, nm_pn10, (nm_in7 (List.mem_of_getElem? (i := 53) rfl) rfl), nm_ii10, nm_ne10, Nat.le_of_ble_eq_true rfl, Or.inl ⟨rfl, rfl⟩⟩
def nm_m233 : am_M := (⟨"CobolParserModel", "depth", "()I"⟩, prog_13_method_78_code, 1, (some .int), [], 1, [(0, .aload_n 0, 1), (1, .iconst 0, 1), (2, .putfield 128, 3), (5, .aload_n 0, 1), (6, .getfield 211, 3), (9, .ireturn, 1)])
set_option maxRecDepth 100000 in
theorem nm_d233 : ∀ e ∈ am_cd nm_m233, decode (am_b nm_m233) e.1 = .ok (e.2.1, e.2.2) := by decide +kernel
theorem nm_o233 : nm_okM nm_m233 [] := ⟨nm_d233, nm_pn10, (nm_in7 (List.mem_of_getElem? (i := 57) rfl) rfl), nm_ii10, nm_ne10, Nat.le_of_ble_eq_true rfl, Or.inl ⟨rfl, rfl⟩⟩
def nm_m234 : am_M := (⟨"CobolParserModel", "count", "(I)I"⟩, prog_13_method_79_code, 2, (some .int), [], 2, [(0, .aload_n 0, 1), (1, .iconst 0, 1), (2, .putfield 128, 3), (5, .iload_n 1, 1), (6, .ifCond .ne 10, 3), (9, .aload_n 0, 1), (10, .getfield 137, 3), (13, .goto 28, 3), (16, .iload_n 1, 1), (17, .iconst 1, 1), (18, .if_icmp .ne 10, 3), (21, .aload_n 0, 1), (22, .getfield 208, 3), (25, .goto 16, 3), (28, .iload_n 1, 1), (29, .iconst 2, 1), (30, .if_icmp .ne 10, 3), (33, .aload_n 0, 1), (34, .getfield 202, 3), (37, .goto 4, 3), (40, .iconst (-1), 1), (41, .ireturn, 1)])
set_option maxRecDepth 100000 in
theorem nm_d234 : ∀ e ∈ am_cd nm_m234, decode (am_b nm_m234) e.1 = .ok (e.2.1, e.2.2) := by decide +kernel
theorem nm_o234 : nm_okM nm_m234 [] := ⟨nm_d234, nm_pn10, (nm_in7 (List.mem_of_getElem? (i := 61) rfl) rfl), nm_ii10, nm_ne10, Nat.le_of_ble_eq_true rfl, Or.inl ⟨rfl, rfl⟩⟩
end
section
/-! the table of methods, calls, throws, by wip/whole/gen.py -/
def nm_ML : List (am_M × List (Nat × Nat × Nat × Nat)) := [(nm_m0, []), (nm_m1, []), (nm_m2, []), (nm_m3, []), (nm_m4, []), (nm_m5, []), (nm_m6, []), (nm_m7, []), (nm_m8, []), (nm_m9, []), (nm_m10, []), (nm_m11, []), (nm_m12, []), (nm_m13, []), (nm_m14, []), (nm_m15, []), (nm_m16, []), (nm_m17, []), (nm_m18, []), (nm_m19, []), (nm_m20, []), (nm_m21, []), (nm_m22, []), (nm_m23, []), (nm_m24, []), (nm_m25, []), (nm_m26, []), (nm_m27, []), (nm_m28, []), (nm_m29, []), (nm_m30, []), (nm_m31, []), (nm_m32, []), (nm_m33, []), (nm_m34, []), (nm_m35, []), (nm_m36, []), (nm_m37, []), (nm_m38, []), (nm_m39, []), (nm_m40, []), (nm_m41, [(0, 8, 11, 13)]), (nm_m42, [(40, 47, 50, 73)]), (nm_m43, []), (nm_m44, []), (nm_m45, []), (nm_m46, []), (nm_m47, []), (nm_m48, []), (nm_m49, []), (nm_m50, []), (nm_m51, []), (nm_m52, []), (nm_m53, []), (nm_m54, []), (nm_m55, []), (nm_m56, []), (nm_m57, []), (nm_m58, []), (nm_m59, []), (nm_m60, []), (nm_m61, []), (nm_m62, []), (nm_m63, []), (nm_m64, []), (nm_m65, []), (nm_m66, []), (nm_m67, []), (nm_m68, []), (nm_m69, []), (nm_m70, []), (nm_m71, []), (nm_m72, []), (nm_m73, []), (nm_m74, []), (nm_m75, []), (nm_m76, []), (nm_m77, []), (nm_m78, []), (nm_m79, []), (nm_m80, []), (nm_m81, []), (nm_m82, []), (nm_m83, []), (nm_m84, []), (nm_m85, []), (nm_m86, []), (nm_m87, []), (nm_m88, []), (nm_m89, []), (nm_m90, []), (nm_m91, []), (nm_m92, []), (nm_m93, []), (nm_m94, []), (nm_m95, []), (nm_m96, []), (nm_m97, []), (nm_m98, []), (nm_m99, []), (nm_m100, []), (nm_m101, []), (nm_m102, []), (nm_m103, []), (nm_m104, []), (nm_m105, []), (nm_m106, []), (nm_m107, []), (nm_m108, []), (nm_m109, []), (nm_m110, []), (nm_m111, []), (nm_m112, []), (nm_m113, []), (nm_m114, []), (nm_m115, []), (nm_m116, []), (nm_m117, []), (nm_m118, []), (nm_m119, []), (nm_m120, []), (nm_m121, []), (nm_m122, []), (nm_m123, []), (nm_m124, []), (nm_m125, []), (nm_m126, []), (nm_m127, []), (nm_m128, []), (nm_m129, []), (nm_m130, []), (nm_m131, []), (nm_m132, []), (nm_m133, []), (nm_m134, []), (nm_m135, []), (nm_m136, []), (nm_m137, []), (nm_m138, []), (nm_m139, []), (nm_m140, []), (nm_m141, []), (nm_m142, []), (nm_m143, []), (nm_m144, []), (nm_m145, []), (nm_m146, []), (nm_m147, []), (nm_m148, []), (nm_m149, []), (nm_m150, []), (nm_m151, []), (nm_m152, []), (nm_m153, []), (nm_m154, []), (nm_m155, []), (nm_m156, []), (nm_m157, []), (nm_m158, []), (nm_m159, []), (nm_m160, []), (nm_m161, []), (nm_m162, []), (nm_m163, []), (nm_m164, []), (nm_m165, []), (nm_m166, []), (nm_m167, []), (nm_m168, []), (nm_m169, []), (nm_m170, []), (nm_m171, []), (nm_m172, []), (nm_m173, []), (nm_m174, []), (nm_m175, []), (nm_m176, []), (nm_m177, []), (nm_m178, []), (nm_m179, []), (nm_m180, []), (nm_m181, []), (nm_m182, []), (nm_m183, []), (nm_m184, []), (nm_m185, []), (nm_m186, []), (nm_m187, []), (nm_m188, []), (nm_m189, []), (nm_m190, []), (nm_m191, []), (nm_m192, []), (nm_m193, []), (nm_m194, []), (nm_m195, []), (nm_m196, []), (nm_m197, []), (nm_m198, []), (nm_m199, []), (nm_m200, []), (nm_m201, []), (nm_m202, []), (nm_m203, []), (nm_m204, []), (nm_m205, []), (nm_m206, []), (nm_m207, []), (nm_m208, []), (nm_m209, []), (nm_m210, []), (nm_m211, []), (nm_m212, []), (nm_m213, []), (nm_m214, []), (nm_m215, []), (nm_m216, []), (nm_m217, []), (nm_m218, []), (nm_m219, []), (nm_m220, []), (nm_m221, []), (nm_m222, []), (nm_m223, []), (nm_m224, []), (nm_m225, []), (nm_m226, []), (nm_m227, []), (nm_m228, []), (nm_m229, []), (nm_m230, []), (nm_m231, []), (nm_m232, []), (nm_m233, []), (nm_m234, [])]
set_option maxRecDepth 10000 in
theorem nm_ML_ok : ∀ q ∈ nm_ML, nm_okM q.1 q.2 := (nm_fc nm_o0 (nm_fc nm_o1 (nm_fc nm_o2 (nm_fc nm_o3 (nm_fc nm_o4 (nm_fc nm_o5 (nm_fc nm_o6 (nm_fc nm_o7 (nm_fc nm_o8 (nm_fc nm_o9 (nm_fc nm_o10 (nm_fc nm_o11 (nm_fc nm_o12 (nm_fc nm_o13 (nm_fc nm_o14 (nm_fc nm_o15 (nm_fc nm_o16 (nm_fc nm_o17 (nm_fc nm_o18 (nm_fc nm_o19 (nm_fc nm_o20 (nm_fc nm_o21 (nm_fc nm_o22 (nm_fc nm_o23 (nm_fc nm_o24 (nm_fc nm_o25 (nm_fc nm_o26 (nm_fc nm_o27 (nm_fc nm_o28 (nm_fc nm_o29 (nm_fc nm_o30 (nm_fc nm_o31 (nm_fc nm_o32 (nm_fc nm_o33 (nm_fc nm_o34 (nm_fc nm_o35 (nm_fc nm_o36 (nm_fc nm_o37 (nm_fc nm_o38 (nm_fc nm_o39 (nm_fc nm_o40 (nm_fc nm_o41 (nm_fc nm_o42 (nm_fc nm_o43 (nm_fc nm_o44 (nm_fc nm_o45 (nm_fc nm_o46 (nm_fc nm_o47 (nm_fc nm_o48 (nm_fc nm_o49 (nm_fc nm_o50 (nm_fc nm_o51 (nm_fc nm_o52 (nm_fc nm_o53 (nm_fc nm_o54 (nm_fc nm_o55 (nm_fc nm_o56 (nm_fc nm_o57 (nm_fc nm_o58 (nm_fc nm_o59 (nm_fc nm_o60 (nm_fc nm_o61 (nm_fc nm_o62 (nm_fc nm_o63 (nm_fc nm_o64 (nm_fc nm_o65 (nm_fc nm_o66 (nm_fc nm_o67 (nm_fc nm_o68 (nm_fc nm_o69 (nm_fc nm_o70 (nm_fc nm_o71 (nm_fc nm_o72 (nm_fc nm_o73 (nm_fc nm_o74 (nm_fc nm_o75 (nm_fc nm_o76 (nm_fc nm_o77 (nm_fc nm_o78 (nm_fc nm_o79 (nm_fc nm_o80 (nm_fc nm_o81 (nm_fc nm_o82 (nm_fc nm_o83 (nm_fc nm_o84 (nm_fc nm_o85 (nm_fc nm_o86 (nm_fc nm_o87 (nm_fc nm_o88 (nm_fc nm_o89 (nm_fc nm_o90 (nm_fc nm_o91 (nm_fc nm_o92 (nm_fc nm_o93 (nm_fc nm_o94 (nm_fc nm_o95 (nm_fc nm_o96 (nm_fc nm_o97 (nm_fc nm_o98 (nm_fc nm_o99 (nm_fc nm_o100 (nm_fc nm_o101 (nm_fc nm_o102 (nm_fc nm_o103 (nm_fc nm_o104 (nm_fc nm_o105 (nm_fc nm_o106 (nm_fc nm_o107 (nm_fc nm_o108 (nm_fc nm_o109 (nm_fc nm_o110 (nm_fc nm_o111 (nm_fc nm_o112 (nm_fc nm_o113 (nm_fc nm_o114 (nm_fc nm_o115 (nm_fc nm_o116 (nm_fc nm_o117 (nm_fc nm_o118 (nm_fc nm_o119 (nm_fc nm_o120 (nm_fc nm_o121 (nm_fc nm_o122 (nm_fc nm_o123 (nm_fc nm_o124 (nm_fc nm_o125 (nm_fc nm_o126 (nm_fc nm_o127 (nm_fc nm_o128 (nm_fc nm_o129 (nm_fc nm_o130 (nm_fc nm_o131 (nm_fc nm_o132 (nm_fc nm_o133 (nm_fc nm_o134 (nm_fc nm_o135 (nm_fc nm_o136 (nm_fc nm_o137 (nm_fc nm_o138 (nm_fc nm_o139 (nm_fc nm_o140 (nm_fc nm_o141 (nm_fc nm_o142 (nm_fc nm_o143 (nm_fc nm_o144 (nm_fc nm_o145 (nm_fc nm_o146 (nm_fc nm_o147 (nm_fc nm_o148 (nm_fc nm_o149 (nm_fc nm_o150 (nm_fc nm_o151 (nm_fc nm_o152 (nm_fc nm_o153 (nm_fc nm_o154 (nm_fc nm_o155 (nm_fc nm_o156 (nm_fc nm_o157 (nm_fc nm_o158 (nm_fc nm_o159 (nm_fc nm_o160 (nm_fc nm_o161 (nm_fc nm_o162 (nm_fc nm_o163 (nm_fc nm_o164 (nm_fc nm_o165 (nm_fc nm_o166 (nm_fc nm_o167 (nm_fc nm_o168 (nm_fc nm_o169 (nm_fc nm_o170 (nm_fc nm_o171 (nm_fc nm_o172 (nm_fc nm_o173 (nm_fc nm_o174 (nm_fc nm_o175 (nm_fc nm_o176 (nm_fc nm_o177 (nm_fc nm_o178 (nm_fc nm_o179 (nm_fc nm_o180 (nm_fc nm_o181 (nm_fc nm_o182 (nm_fc nm_o183 (nm_fc nm_o184 (nm_fc nm_o185 (nm_fc nm_o186 (nm_fc nm_o187 (nm_fc nm_o188 (nm_fc nm_o189 (nm_fc nm_o190 (nm_fc nm_o191 (nm_fc nm_o192 (nm_fc nm_o193 (nm_fc nm_o194 (nm_fc nm_o195 (nm_fc nm_o196 (nm_fc nm_o197 (nm_fc nm_o198 (nm_fc nm_o199 (nm_fc nm_o200 (nm_fc nm_o201 (nm_fc nm_o202 (nm_fc nm_o203 (nm_fc nm_o204 (nm_fc nm_o205 (nm_fc nm_o206 (nm_fc nm_o207 (nm_fc nm_o208 (nm_fc nm_o209 (nm_fc nm_o210 (nm_fc nm_o211 (nm_fc nm_o212 (nm_fc nm_o213 (nm_fc nm_o214 (nm_fc nm_o215 (nm_fc nm_o216 (nm_fc nm_o217 (nm_fc nm_o218 (nm_fc nm_o219 (nm_fc nm_o220 (nm_fc nm_o221 (nm_fc nm_o222 (nm_fc nm_o223 (nm_fc nm_o224 (nm_fc nm_o225 (nm_fc nm_o226 (nm_fc nm_o227 (nm_fc nm_o228 (nm_fc nm_o229 (nm_fc nm_o230 (nm_fc nm_o231 (nm_fc nm_o232 (nm_fc nm_o233 (nm_fc nm_o234 (fun _ h => nomatch h))))))))))))))))))))))))))))))))))))))))))))))))))))))))))))))))))))))))))))))))))))))))))))))))))))))))))))))))))))))))))))))))))))))))))))))))))))))))))))))))))))))))))))))))))))))))))))))))))))))))))))))))))))))))))))))))))))))))))))
def nm_ms (j : Nat) : Option am_M := (nm_ML[j]?).map (fun q => q.1)
def nm_hm (j : Nat) : List (Nat × Nat × Nat × Nat) := ((nm_ML[j]?).map (fun q => q.2)).getD []
theorem nm_okMs : am_okMs nm_cls nm_ms nm_hm nm_Tg nm_Ns := by
  intro j M h
  unfold nm_ms at h
  cases hq : nm_ML[j]? with
  | none => rw [hq] at h; cases h
  | some q =>
    rw [hq] at h
    have e : q.1 = M := Option.some.inj h
    have e2 : nm_hm j = q.2 := by unfold nm_hm; rw [hq]; rfl
    rw [e2, ← e]
    exact nm_ML_ok q (List.mem_of_getElem? hq)
/-- what is asked of a call's row -/
def nm_okC (q : (String × Nat) × (Nat × Nat)) : Prop :=
    (q.2.2 = 5 → Cond.methodLink q.1.1 q.1.2 Lib.objectInit ∈ nm_Tg ∧ Cond.instanceMethod Lib.objectInit ∈ nm_Tg ∧ Cond.code Lib.objectInit ⟨#[0xb1]⟩ 1 none ∈ nm_Tg) ∧
    (q.2.2 = 6 → Cond.methodLink q.1.1 q.1.2 arraycopyName ∈ nm_Tg ∧ Cond.native arraycopyName ∈ nm_Tg ∧ Cond.static arraycopyName ∈ nm_Tg ∧ Cond.initialized "java/lang/System" ∈ nm_Tg) ∧
    (q.2.2 = 7 → Cond.methodLink q.1.1 q.1.2 Lib.Math.max.name ∈ nm_Tg ∧ Cond.static Lib.Math.max.name ∈ nm_Tg ∧ Cond.initialized "java/lang/Math" ∈ nm_Tg ∧ Cond.code Lib.Math.max.name Lib.Math.max.code 2 (some .int) ∈ nm_Tg) ∧
    (q.2.2 = 8 → Cond.methodLink q.1.1 q.1.2 Lib.Math.min.name ∈ nm_Tg ∧ Cond.static Lib.Math.min.name ∈ nm_Tg ∧ Cond.initialized "java/lang/Math" ∈ nm_Tg ∧ Cond.code Lib.Math.min.name Lib.Math.min.code 2 (some .int) ∈ nm_Tg) ∧
    (q.2.2 < 5 → ∀ M, nm_ms q.2.1 = some M → ∃ n, (parseMethodDescriptor (am_y M).desc).map (fun d => d.parameters.length) = some n ∧
      (q.2.2 = 0 → Cond.methodLink q.1.1 q.1.2 (am_y M) ∈ nm_Tg ∧ Cond.instanceMethod (am_y M) ∈ nm_Tg ∧ Cond.selects (am_y M).cls (am_y M) (am_y M) ∈ nm_Tg ∧ am_k M = n + 1) ∧
      (q.2.2 = 1 → Cond.methodLink q.1.1 q.1.2 (am_y M) ∈ nm_Tg ∧ Cond.instanceMethod (am_y M) ∈ nm_Tg ∧ (am_y M).name = "<init>" ∧ am_r M = none ∧ nm_hm q.2.1 = [] ∧ am_k M = n + 1) ∧
      (q.2.2 = 2 → Cond.methodLink q.1.1 q.1.2 (am_y M) ∈ nm_Tg ∧ Cond.static (am_y M) ∈ nm_Tg ∧ am_k M = n) ∧
      (q.2.2 = 3 → ∃ host, Cond.methodLinkNest q.1.1 q.1.2 (am_y M) host ∈ nm_Ns ∧ Cond.instanceMethod (am_y M) ∈ nm_Tg ∧ Cond.selects (am_y M).cls (am_y M) (am_y M) ∈ nm_Tg ∧ am_k M = n + 1) ∧
      (q.2.2 = 4 → ∃ host, Cond.methodLinkNest q.1.1 q.1.2 (am_y M) host ∈ nm_Ns ∧ Cond.instanceMethod (am_y M) ∈ nm_Tg ∧ (am_y M).name = "<init>" ∧ am_r M = none ∧ nm_hm q.2.1 = [] ∧ am_k M = n + 1))
theorem nm_k0 {ow : String} {k j n : Nat} {N : am_M} (hj : nm_ms j = some N) (hp : (parseMethodDescriptor (am_y N).desc).map (fun d => d.parameters.length) = some n) (h1 : Cond.methodLink ow k (am_y N) ∈ nm_Tg) (h2 : Cond.instanceMethod (am_y N) ∈ nm_Tg) (h3 : Cond.selects (am_y N).cls (am_y N) (am_y N) ∈ nm_Tg) (h4 : am_k N = n + 1) : nm_okC ((ow, k), (j, 0)) := by
  refine ⟨(by intro h; exact absurd h (by simp)), (by intro h; exact absurd h (by simp)), (by intro h; exact absurd h (by simp)), (by intro h; exact absurd h (by simp)), fun _ M hM => ?_⟩
  cases Option.some.inj (hj.symm.trans hM)
  exact ⟨n, hp, fun _ => ⟨h1, h2, h3, h4⟩, (by intro h; exact absurd h (by simp)), (by intro h; exact absurd h (by simp)), (by intro h; exact absurd h (by simp)), (by intro h; exact absurd h (by simp))⟩
theorem nm_k1 {ow : String} {k j n : Nat} {N : am_M} (hj : nm_ms j = some N) (hp : (parseMethodDescriptor (am_y N).desc).map (fun d => d.parameters.length) = some n) (h1 : Cond.methodLink ow k (am_y N) ∈ nm_Tg) (h2 : Cond.instanceMethod (am_y N) ∈ nm_Tg) (h3 : (am_y N).name = "<init>") (h4 : am_r N = none) (h5 : nm_hm j = []) (h6 : am_k N = n + 1) : nm_okC ((ow, k), (j, 1)) := by
  refine ⟨(by intro h; exact absurd h (by simp)), (by intro h; exact absurd h (by simp)), (by intro h; exact absurd h (by simp)), (by intro h; exact absurd h (by simp)), fun _ M hM => ?_⟩
  cases Option.some.inj (hj.symm.trans hM)
  exact ⟨n, hp, (by intro h; exact absurd h (by simp)), fun _ => ⟨h1, h2, h3, h4, h5, h6⟩, (by intro h; exact absurd h (by simp)), (by intro h; exact absurd h (by simp)), (by intro h; exact absurd h (by simp))⟩
theorem nm_k2 {ow : String} {k j n : Nat} {N : am_M} (hj : nm_ms j = some N) (hp : (parseMethodDescriptor (am_y N).desc).map (fun d => d.parameters.length) = some n) (h1 : Cond.methodLink ow k (am_y N) ∈ nm_Tg) (h2 : Cond.static (am_y N) ∈ nm_Tg) (h3 : am_k N = n) : nm_okC ((ow, k), (j, 2)) := by
  refine ⟨(by intro h; exact absurd h (by simp)), (by intro h; exact absurd h (by simp)), (by intro h; exact absurd h (by simp)), (by intro h; exact absurd h (by simp)), fun _ M hM => ?_⟩
  cases Option.some.inj (hj.symm.trans hM)
  exact ⟨n, hp, (by intro h; exact absurd h (by simp)), (by intro h; exact absurd h (by simp)), fun _ => ⟨h1, h2, h3⟩, (by intro h; exact absurd h (by simp)), (by intro h; exact absurd h (by simp))⟩
theorem nm_k3 {ow : String} {k j n : Nat} {N : am_M} (hj : nm_ms j = some N) (hp : (parseMethodDescriptor (am_y N).desc).map (fun d => d.parameters.length) = some n) {host : String} (h1 : Cond.methodLinkNest ow k (am_y N) host ∈ nm_Ns) (h2 : Cond.instanceMethod (am_y N) ∈ nm_Tg) (h3 : Cond.selects (am_y N).cls (am_y N) (am_y N) ∈ nm_Tg) (h4 : am_k N = n + 1) : nm_okC ((ow, k), (j, 3)) := by
  refine ⟨(by intro h; exact absurd h (by simp)), (by intro h; exact absurd h (by simp)), (by intro h; exact absurd h (by simp)), (by intro h; exact absurd h (by simp)), fun _ M hM => ?_⟩
  cases Option.some.inj (hj.symm.trans hM)
  exact ⟨n, hp, (by intro h; exact absurd h (by simp)), (by intro h; exact absurd h (by simp)), (by intro h; exact absurd h (by simp)), fun _ => ⟨host, h1, h2, h3, h4⟩, (by intro h; exact absurd h (by simp))⟩
theorem nm_k4 {ow : String} {k j n : Nat} {N : am_M} (hj : nm_ms j = some N) (hp : (parseMethodDescriptor (am_y N).desc).map (fun d => d.parameters.length) = some n) {host : String} (h1 : Cond.methodLinkNest ow k (am_y N) host ∈ nm_Ns) (h2 : Cond.instanceMethod (am_y N) ∈ nm_Tg) (h3 : (am_y N).name = "<init>") (h4 : am_r N = none) (h5 : nm_hm j = []) (h6 : am_k N = n + 1) : nm_okC ((ow, k), (j, 4)) := by
  refine ⟨(by intro h; exact absurd h (by simp)), (by intro h; exact absurd h (by simp)), (by intro h; exact absurd h (by simp)), (by intro h; exact absurd h (by simp)), fun _ M hM => ?_⟩
  cases Option.some.inj (hj.symm.trans hM)
  exact ⟨n, hp, (by intro h; exact absurd h (by simp)), (by intro h; exact absurd h (by simp)), (by intro h; exact absurd h (by simp)), (by intro h; exact absurd h (by simp)), fun _ => ⟨host, h1, h2, h3, h4, h5, h6⟩⟩
theorem nm_pm0 : (parseMethodDescriptor "()I").map (fun d => d.parameters.length) = some 0 := by decide +kernel
theorem nm_pm1 : (parseMethodDescriptor "()V").map (fun d => d.parameters.length) = some 0 := by decide +kernel
theorem nm_pm2 : (parseMethodDescriptor "()Z").map (fun d => d.parameters.length) = some 0 := by decide +kernel
theorem nm_pm3 : (parseMethodDescriptor "(I)I").map (fun d => d.parameters.length) = some 1 := by decide +kernel
theorem nm_pm4 : (parseMethodDescriptor "(I)V").map (fun d => d.parameters.length) = some 1 := by decide +kernel
theorem nm_pm5 : (parseMethodDescriptor "(I)Z").map (fun d => d.parameters.length) = some 1 := by decide +kernel
theorem nm_pm6 : (parseMethodDescriptor "(II)I").map (fun d => d.parameters.length) = some 2 := by decide +kernel
theorem nm_pm7 : (parseMethodDescriptor "(II)V").map (fun d => d.parameters.length) = some 2 := by decide +kernel
theorem nm_pm8 : (parseMethodDescriptor "(II)Z").map (fun d => d.parameters.length) = some 2 := by decide +kernel
theorem nm_pm9 : (parseMethodDescriptor "(III)I").map (fun d => d.parameters.length) = some 3 := by decide +kernel
theorem nm_pm10 : (parseMethodDescriptor "(III)V").map (fun d => d.parameters.length) = some 3 := by decide +kernel
theorem nm_pm11 : (parseMethodDescriptor "(III)Z").map (fun d => d.parameters.length) = some 3 := by decide +kernel
theorem nm_pm12 : (parseMethodDescriptor "(IIII)I").map (fun d => d.parameters.length) = some 4 := by decide +kernel
theorem nm_pm13 : (parseMethodDescriptor "(IIII)V").map (fun d => d.parameters.length) = some 4 := by decide +kernel
theorem nm_pm14 : (parseMethodDescriptor "(IIIII)V").map (fun d => d.parameters.length) = some 5 := by decide +kernel
theorem nm_pm15 : (parseMethodDescriptor "(IIZ)V").map (fun d => d.parameters.length) = some 3 := by decide +kernel
theorem nm_pm16 : (parseMethodDescriptor "(LCobolParser$Row;LCobolParser$Tree;)V").map (fun d => d.parameters.length) = some 2 := by decide +kernel
theorem nm_pm17 : (parseMethodDescriptor "(LCobolParser$Row;LCobolParser$Tree;LCobolParser$Leaves;)V").map (fun d => d.parameters.length) = some 3 := by decide +kernel
theorem nm_pm18 : (parseMethodDescriptor "(LCobolParser$Row;LCobolParser$Tree;LCobolParser$Leaves;LCobolParser$Expressions;)V").map (fun d => d.parameters.length) = some 4 := by decide +kernel
theorem nm_pm19 : (parseMethodDescriptor "(LCobolParser$Row;LCobolParser$Tree;LCobolParser$Leaves;LCobolParser$Statements;LCobolParser$Items;)V").map (fun d => d.parameters.length) = some 5 := by decide +kernel
theorem nm_pm20 : (parseMethodDescriptor "(LCobolParser;[J)I").map (fun d => d.parameters.length) = some 2 := by decide +kernel
theorem nm_pm21 : (parseMethodDescriptor "(Z)V").map (fun d => d.parameters.length) = some 1 := by decide +kernel
theorem nm_pm22 : (parseMethodDescriptor "([II)[I").map (fun d => d.parameters.length) = some 2 := by decide +kernel
theorem nm_im0 : Cond.instanceMethod (am_y nm_m0) ∈ nm_Tg := (nm_in1 (List.mem_of_getElem? (i := 22) rfl) rfl)
theorem nm_im3 : Cond.instanceMethod (am_y nm_m3) ∈ nm_Tg := (nm_in1 (List.mem_of_getElem? (i := 84) rfl) rfl)
theorem nm_im4 : Cond.instanceMethod (am_y nm_m4) ∈ nm_Tg := (nm_in1 (List.mem_of_getElem? (i := 99) rfl) rfl)
theorem nm_im5 : Cond.instanceMethod (am_y nm_m5) ∈ nm_Tg := (nm_in1 (List.mem_of_getElem? (i := 119) rfl) rfl)
theorem nm_im6 : Cond.instanceMethod (am_y nm_m6) ∈ nm_Tg := (nm_in1 (List.mem_of_getElem? (i := 140) rfl) rfl)
theorem nm_im7 : Cond.instanceMethod (am_y nm_m7) ∈ nm_Tg := (nm_in1 (List.mem_of_getElem? (i := 166) rfl) rfl)
theorem nm_im9 : Cond.instanceMethod (am_y nm_m9) ∈ nm_Tg := (nm_in1 (List.mem_of_getElem? (i := 233) rfl) rfl)
theorem nm_sl9 : Cond.selects (am_y nm_m9).cls (am_y nm_m9) (am_y nm_m9) ∈ nm_Tg := (nm_in1 (List.mem_of_getElem? (i := 234) rfl) rfl)
theorem nm_im11 : Cond.instanceMethod (am_y nm_m11) ∈ nm_Tg := (nm_in2 (List.mem_of_getElem? (i := 1) rfl) rfl)
theorem nm_sl11 : Cond.selects (am_y nm_m11).cls (am_y nm_m11) (am_y nm_m11) ∈ nm_Tg := (nm_in2 (List.mem_of_getElem? (i := 2) rfl) rfl)
theorem nm_im12 : Cond.instanceMethod (am_y nm_m12) ∈ nm_Tg := (nm_in2 (List.mem_of_getElem? (i := 5) rfl) rfl)
theorem nm_sl12 : Cond.selects (am_y nm_m12).cls (am_y nm_m12) (am_y nm_m12) ∈ nm_Tg := (nm_in2 (List.mem_of_getElem? (i := 6) rfl) rfl)
theorem nm_im14 : Cond.instanceMethod (am_y nm_m14) ∈ nm_Tg := (nm_in2 (List.mem_of_getElem? (i := 25) rfl) rfl)
theorem nm_sl14 : Cond.selects (am_y nm_m14).cls (am_y nm_m14) (am_y nm_m14) ∈ nm_Tg := (nm_in2 (List.mem_of_getElem? (i := 26) rfl) rfl)
theorem nm_im15 : Cond.instanceMethod (am_y nm_m15) ∈ nm_Tg := (nm_in2 (List.mem_of_getElem? (i := 29) rfl) rfl)
theorem nm_sl15 : Cond.selects (am_y nm_m15).cls (am_y nm_m15) (am_y nm_m15) ∈ nm_Tg := (nm_in2 (List.mem_of_getElem? (i := 30) rfl) rfl)
theorem nm_im16 : Cond.instanceMethod (am_y nm_m16) ∈ nm_Tg := (nm_in2 (List.mem_of_getElem? (i := 34) rfl) rfl)
theorem nm_sl16 : Cond.selects (am_y nm_m16).cls (am_y nm_m16) (am_y nm_m16) ∈ nm_Tg := (nm_se1 (n := 5) (List.mem_of_getElem? (i := 0) rfl))
theorem nm_im17 : Cond.instanceMethod (am_y nm_m17) ∈ nm_Tg := (nm_in2 (List.mem_of_getElem? (i := 37) rfl) rfl)
theorem nm_sl17 : Cond.selects (am_y nm_m17).cls (am_y nm_m17) (am_y nm_m17) ∈ nm_Tg := (nm_in2 (List.mem_of_getElem? (i := 38) rfl) rfl)
theorem nm_im18 : Cond.instanceMethod (am_y nm_m18) ∈ nm_Tg := (nm_in2 (List.mem_of_getElem? (i := 41) rfl) rfl)
theorem nm_sl18 : Cond.selects (am_y nm_m18).cls (am_y nm_m18) (am_y nm_m18) ∈ nm_Tg := (nm_in2 (List.mem_of_getElem? (i := 42) rfl) rfl)
theorem nm_im19 : Cond.instanceMethod (am_y nm_m19) ∈ nm_Tg := (nm_in2 (List.mem_of_getElem? (i := 45) rfl) rfl)
theorem nm_sl19 : Cond.selects (am_y nm_m19).cls (am_y nm_m19) (am_y nm_m19) ∈ nm_Tg := (nm_in2 (List.mem_of_getElem? (i := 46) rfl) rfl)
theorem nm_im20 : Cond.instanceMethod (am_y nm_m20) ∈ nm_Tg := (nm_in2 (List.mem_of_getElem? (i := 49) rfl) rfl)
theorem nm_sl20 : Cond.selects (am_y nm_m20).cls (am_y nm_m20) (am_y nm_m20) ∈ nm_Tg := (nm_in2 (List.mem_of_getElem? (i := 50) rfl) rfl)
theorem nm_im21 : Cond.instanceMethod (am_y nm_m21) ∈ nm_Tg := (nm_in2 (List.mem_of_getElem? (i := 53) rfl) rfl)
theorem nm_sl21 : Cond.selects (am_y nm_m21).cls (am_y nm_m21) (am_y nm_m21) ∈ nm_Tg := (nm_in2 (List.mem_of_getElem? (i := 54) rfl) rfl)
theorem nm_im22 : Cond.instanceMethod (am_y nm_m22) ∈ nm_Tg := (nm_in2 (List.mem_of_getElem? (i := 58) rfl) rfl)
theorem nm_sl22 : Cond.selects (am_y nm_m22).cls (am_y nm_m22) (am_y nm_m22) ∈ nm_Tg := (nm_se1 (n := 5) (List.mem_of_getElem? (i := 1) rfl))
theorem nm_im23 : Cond.instanceMethod (am_y nm_m23) ∈ nm_Tg := (nm_in2 (List.mem_of_getElem? (i := 61) rfl) rfl)
theorem nm_sl23 : Cond.selects (am_y nm_m23).cls (am_y nm_m23) (am_y nm_m23) ∈ nm_Tg := (nm_in2 (List.mem_of_getElem? (i := 62) rfl) rfl)
theorem nm_im24 : Cond.instanceMethod (am_y nm_m24) ∈ nm_Tg := (nm_in2 (List.mem_of_getElem? (i := 66) rfl) rfl)
theorem nm_sl24 : Cond.selects (am_y nm_m24).cls (am_y nm_m24) (am_y nm_m24) ∈ nm_Tg := (nm_in2 (List.mem_of_getElem? (i := 67) rfl) rfl)
theorem nm_im25 : Cond.instanceMethod (am_y nm_m25) ∈ nm_Tg := (nm_in2 (List.mem_of_getElem? (i := 70) rfl) rfl)
theorem nm_sl25 : Cond.selects (am_y nm_m25).cls (am_y nm_m25) (am_y nm_m25) ∈ nm_Tg := (nm_in2 (List.mem_of_getElem? (i := 71) rfl) rfl)
theorem nm_im26 : Cond.instanceMethod (am_y nm_m26) ∈ nm_Tg := (nm_in2 (List.mem_of_getElem? (i := 74) rfl) rfl)
theorem nm_sl26 : Cond.selects (am_y nm_m26).cls (am_y nm_m26) (am_y nm_m26) ∈ nm_Tg := (nm_in2 (List.mem_of_getElem? (i := 75) rfl) rfl)
theorem nm_im27 : Cond.instanceMethod (am_y nm_m27) ∈ nm_Tg := (nm_in2 (List.mem_of_getElem? (i := 78) rfl) rfl)
theorem nm_sl27 : Cond.selects (am_y nm_m27).cls (am_y nm_m27) (am_y nm_m27) ∈ nm_Tg := (nm_in2 (List.mem_of_getElem? (i := 79) rfl) rfl)
theorem nm_im28 : Cond.instanceMethod (am_y nm_m28) ∈ nm_Tg := (nm_in2 (List.mem_of_getElem? (i := 82) rfl) rfl)
theorem nm_sl28 : Cond.selects (am_y nm_m28).cls (am_y nm_m28) (am_y nm_m28) ∈ nm_Tg := (nm_in2 (List.mem_of_getElem? (i := 83) rfl) rfl)
theorem nm_im29 : Cond.instanceMethod (am_y nm_m29) ∈ nm_Tg := (nm_in2 (List.mem_of_getElem? (i := 86) rfl) rfl)
theorem nm_sl29 : Cond.selects (am_y nm_m29).cls (am_y nm_m29) (am_y nm_m29) ∈ nm_Tg := (nm_in2 (List.mem_of_getElem? (i := 87) rfl) rfl)
theorem nm_im30 : Cond.instanceMethod (am_y nm_m30) ∈ nm_Tg := (nm_in2 (List.mem_of_getElem? (i := 90) rfl) rfl)
theorem nm_sl30 : Cond.selects (am_y nm_m30).cls (am_y nm_m30) (am_y nm_m30) ∈ nm_Tg := (nm_in2 (List.mem_of_getElem? (i := 91) rfl) rfl)
theorem nm_im31 : Cond.instanceMethod (am_y nm_m31) ∈ nm_Tg := (nm_in2 (List.mem_of_getElem? (i := 94) rfl) rfl)
theorem nm_sl31 : Cond.selects (am_y nm_m31).cls (am_y nm_m31) (am_y nm_m31) ∈ nm_Tg := (nm_in2 (List.mem_of_getElem? (i := 95) rfl) rfl)
theorem nm_im32 : Cond.instanceMethod (am_y nm_m32) ∈ nm_Tg := (nm_in2 (List.mem_of_getElem? (i := 98) rfl) rfl)
theorem nm_sl32 : Cond.selects (am_y nm_m32).cls (am_y nm_m32) (am_y nm_m32) ∈ nm_Tg := (nm_in2 (List.mem_of_getElem? (i := 99) rfl) rfl)
theorem nm_im33 : Cond.instanceMethod (am_y nm_m33) ∈ nm_Tg := (nm_in2 (List.mem_of_getElem? (i := 103) rfl) rfl)
theorem nm_sl33 : Cond.selects (am_y nm_m33).cls (am_y nm_m33) (am_y nm_m33) ∈ nm_Tg := (nm_se1 (n := 5) (List.mem_of_getElem? (i := 2) rfl))
theorem nm_im34 : Cond.instanceMethod (am_y nm_m34) ∈ nm_Tg := (nm_in2 (List.mem_of_getElem? (i := 106) rfl) rfl)
theorem nm_sl34 : Cond.selects (am_y nm_m34).cls (am_y nm_m34) (am_y nm_m34) ∈ nm_Tg := (nm_in2 (List.mem_of_getElem? (i := 107) rfl) rfl)
theorem nm_im35 : Cond.instanceMethod (am_y nm_m35) ∈ nm_Tg := (nm_in2 (List.mem_of_getElem? (i := 110) rfl) rfl)
theorem nm_sl35 : Cond.selects (am_y nm_m35).cls (am_y nm_m35) (am_y nm_m35) ∈ nm_Tg := (nm_in2 (List.mem_of_getElem? (i := 111) rfl) rfl)
theorem nm_im36 : Cond.instanceMethod (am_y nm_m36) ∈ nm_Tg := (nm_in2 (List.mem_of_getElem? (i := 114) rfl) rfl)
theorem nm_sl36 : Cond.selects (am_y nm_m36).cls (am_y nm_m36) (am_y nm_m36) ∈ nm_Tg := (nm_in2 (List.mem_of_getElem? (i := 115) rfl) rfl)
theorem nm_im37 : Cond.instanceMethod (am_y nm_m37) ∈ nm_Tg := (nm_in2 (List.mem_of_getElem? (i := 118) rfl) rfl)
theorem nm_sl37 : Cond.selects (am_y nm_m37).cls (am_y nm_m37) (am_y nm_m37) ∈ nm_Tg := (nm_in2 (List.mem_of_getElem? (i := 119) rfl) rfl)
theorem nm_im38 : Cond.instanceMethod (am_y nm_m38) ∈ nm_Tg := (nm_in2 (List.mem_of_getElem? (i := 122) rfl) rfl)
theorem nm_sl38 : Cond.selects (am_y nm_m38).cls (am_y nm_m38) (am_y nm_m38) ∈ nm_Tg := (nm_in2 (List.mem_of_getElem? (i := 123) rfl) rfl)
theorem nm_im39 : Cond.instanceMethod (am_y nm_m39) ∈ nm_Tg := (nm_in2 (List.mem_of_getElem? (i := 126) rfl) rfl)
theorem nm_sl39 : Cond.selects (am_y nm_m39).cls (am_y nm_m39) (am_y nm_m39) ∈ nm_Tg := (nm_in2 (List.mem_of_getElem? (i := 127) rfl) rfl)
theorem nm_im40 : Cond.instanceMethod (am_y nm_m40) ∈ nm_Tg := (nm_in2 (List.mem_of_getElem? (i := 130) rfl) rfl)
theorem nm_sl40 : Cond.selects (am_y nm_m40).cls (am_y nm_m40) (am_y nm_m40) ∈ nm_Tg := (nm_in2 (List.mem_of_getElem? (i := 131) rfl) rfl)
theorem nm_im42 : Cond.instanceMethod (am_y nm_m42) ∈ nm_Tg := (nm_in2 (List.mem_of_getElem? (i := 138) rfl) rfl)
theorem nm_sl42 : Cond.selects (am_y nm_m42).cls (am_y nm_m42) (am_y nm_m42) ∈ nm_Tg := (nm_in2 (List.mem_of_getElem? (i := 139) rfl) rfl)
theorem nm_im43 : Cond.instanceMethod (am_y nm_m43) ∈ nm_Tg := (nm_in2 (List.mem_of_getElem? (i := 143) rfl) rfl)
theorem nm_sl43 : Cond.selects (am_y nm_m43).cls (am_y nm_m43) (am_y nm_m43) ∈ nm_Tg := (nm_in2 (List.mem_of_getElem? (i := 144) rfl) rfl)
theorem nm_im44 : Cond.instanceMethod (am_y nm_m44) ∈ nm_Tg := (nm_in2 (List.mem_of_getElem? (i := 147) rfl) rfl)
theorem nm_sl44 : Cond.selects (am_y nm_m44).cls (am_y nm_m44) (am_y nm_m44) ∈ nm_Tg := (nm_in2 (List.mem_of_getElem? (i := 148) rfl) rfl)
theorem nm_im45 : Cond.instanceMethod (am_y nm_m45) ∈ nm_Tg := (nm_in2 (List.mem_of_getElem? (i := 151) rfl) rfl)
theorem nm_sl45 : Cond.selects (am_y nm_m45).cls (am_y nm_m45) (am_y nm_m45) ∈ nm_Tg := (nm_in2 (List.mem_of_getElem? (i := 152) rfl) rfl)
theorem nm_im46 : Cond.instanceMethod (am_y nm_m46) ∈ nm_Tg := (nm_in2 (List.mem_of_getElem? (i := 156) rfl) rfl)
theorem nm_sl46 : Cond.selects (am_y nm_m46).cls (am_y nm_m46) (am_y nm_m46) ∈ nm_Tg := (nm_in2 (List.mem_of_getElem? (i := 157) rfl) rfl)
theorem nm_im47 : Cond.instanceMethod (am_y nm_m47) ∈ nm_Tg := (nm_in2 (List.mem_of_getElem? (i := 160) rfl) rfl)
theorem nm_sl47 : Cond.selects (am_y nm_m47).cls (am_y nm_m47) (am_y nm_m47) ∈ nm_Tg := (nm_in2 (List.mem_of_getElem? (i := 161) rfl) rfl)
theorem nm_im48 : Cond.instanceMethod (am_y nm_m48) ∈ nm_Tg := (nm_in2 (List.mem_of_getElem? (i := 164) rfl) rfl)
theorem nm_sl48 : Cond.selects (am_y nm_m48).cls (am_y nm_m48) (am_y nm_m48) ∈ nm_Tg := (nm_in2 (List.mem_of_getElem? (i := 165) rfl) rfl)
theorem nm_im49 : Cond.instanceMethod (am_y nm_m49) ∈ nm_Tg := (nm_in2 (List.mem_of_getElem? (i := 168) rfl) rfl)
theorem nm_sl49 : Cond.selects (am_y nm_m49).cls (am_y nm_m49) (am_y nm_m49) ∈ nm_Tg := (nm_in2 (List.mem_of_getElem? (i := 169) rfl) rfl)
theorem nm_im50 : Cond.instanceMethod (am_y nm_m50) ∈ nm_Tg := (nm_in2 (List.mem_of_getElem? (i := 172) rfl) rfl)
theorem nm_sl50 : Cond.selects (am_y nm_m50).cls (am_y nm_m50) (am_y nm_m50) ∈ nm_Tg := (nm_in2 (List.mem_of_getElem? (i := 173) rfl) rfl)
theorem nm_im51 : Cond.instanceMethod (am_y nm_m51) ∈ nm_Tg := (nm_in2 (List.mem_of_getElem? (i := 177) rfl) rfl)
theorem nm_sl51 : Cond.selects (am_y nm_m51).cls (am_y nm_m51) (am_y nm_m51) ∈ nm_Tg := (nm_se1 (n := 10) (List.mem_of_getElem? (i := 3) rfl))
theorem nm_im52 : Cond.instanceMethod (am_y nm_m52) ∈ nm_Tg := (nm_in2 (List.mem_of_getElem? (i := 180) rfl) rfl)
theorem nm_sl52 : Cond.selects (am_y nm_m52).cls (am_y nm_m52) (am_y nm_m52) ∈ nm_Tg := (nm_in2 (List.mem_of_getElem? (i := 181) rfl) rfl)
theorem nm_im53 : Cond.instanceMethod (am_y nm_m53) ∈ nm_Tg := (nm_in2 (List.mem_of_getElem? (i := 185) rfl) rfl)
theorem nm_sl53 : Cond.selects (am_y nm_m53).cls (am_y nm_m53) (am_y nm_m53) ∈ nm_Tg := (nm_se1 (n := 10) (List.mem_of_getElem? (i := 4) rfl))
theorem nm_im54 : Cond.instanceMethod (am_y nm_m54) ∈ nm_Tg := (nm_in2 (List.mem_of_getElem? (i := 188) rfl) rfl)
theorem nm_sl54 : Cond.selects (am_y nm_m54).cls (am_y nm_m54) (am_y nm_m54) ∈ nm_Tg := (nm_in2 (List.mem_of_getElem? (i := 189) rfl) rfl)
theorem nm_im55 : Cond.instanceMethod (am_y nm_m55) ∈ nm_Tg := (nm_in2 (List.mem_of_getElem? (i := 193) rfl) rfl)
theorem nm_sl55 : Cond.selects (am_y nm_m55).cls (am_y nm_m55) (am_y nm_m55) ∈ nm_Tg := (nm_se1 (n := 10) (List.mem_of_getElem? (i := 5) rfl))
theorem nm_im56 : Cond.instanceMethod (am_y nm_m56) ∈ nm_Tg := (nm_in2 (List.mem_of_getElem? (i := 196) rfl) rfl)
theorem nm_sl56 : Cond.selects (am_y nm_m56).cls (am_y nm_m56) (am_y nm_m56) ∈ nm_Tg := (nm_in2 (List.mem_of_getElem? (i := 197) rfl) rfl)
theorem nm_im57 : Cond.instanceMethod (am_y nm_m57) ∈ nm_Tg := (nm_in3 (List.mem_of_getElem? (i := 28) rfl) rfl)
theorem nm_sl57 : Cond.selects (am_y nm_m57).cls (am_y nm_m57) (am_y nm_m57) ∈ nm_Tg := (nm_se1 (n := 10) (List.mem_of_getElem? (i := 7) rfl))
theorem nm_im58 : Cond.instanceMethod (am_y nm_m58) ∈ nm_Tg := (nm_in3 (List.mem_of_getElem? (i := 31) rfl) rfl)
theorem nm_sl58 : Cond.selects (am_y nm_m58).cls (am_y nm_m58) (am_y nm_m58) ∈ nm_Tg := (nm_in3 (List.mem_of_getElem? (i := 32) rfl) rfl)
theorem nm_im59 : Cond.instanceMethod (am_y nm_m59) ∈ nm_Tg := (nm_in3 (List.mem_of_getElem? (i := 35) rfl) rfl)
theorem nm_sl59 : Cond.selects (am_y nm_m59).cls (am_y nm_m59) (am_y nm_m59) ∈ nm_Tg := (nm_in3 (List.mem_of_getElem? (i := 36) rfl) rfl)
theorem nm_im60 : Cond.instanceMethod (am_y nm_m60) ∈ nm_Tg := (nm_in3 (List.mem_of_getElem? (i := 41) rfl) rfl)
theorem nm_sl60 : Cond.selects (am_y nm_m60).cls (am_y nm_m60) (am_y nm_m60) ∈ nm_Tg := (nm_in3 (List.mem_of_getElem? (i := 42) rfl) rfl)
theorem nm_im61 : Cond.instanceMethod (am_y nm_m61) ∈ nm_Tg := (nm_in3 (List.mem_of_getElem? (i := 45) rfl) rfl)
theorem nm_sl61 : Cond.selects (am_y nm_m61).cls (am_y nm_m61) (am_y nm_m61) ∈ nm_Tg := (nm_in3 (List.mem_of_getElem? (i := 46) rfl) rfl)
theorem nm_im62 : Cond.instanceMethod (am_y nm_m62) ∈ nm_Tg := (nm_in3 (List.mem_of_getElem? (i := 50) rfl) rfl)
theorem nm_sl62 : Cond.selects (am_y nm_m62).cls (am_y nm_m62) (am_y nm_m62) ∈ nm_Tg := (nm_in3 (List.mem_of_getElem? (i := 51) rfl) rfl)
theorem nm_im63 : Cond.instanceMethod (am_y nm_m63) ∈ nm_Tg := (nm_in3 (List.mem_of_getElem? (i := 54) rfl) rfl)
theorem nm_sl63 : Cond.selects (am_y nm_m63).cls (am_y nm_m63) (am_y nm_m63) ∈ nm_Tg := (nm_in3 (List.mem_of_getElem? (i := 55) rfl) rfl)
theorem nm_im64 : Cond.instanceMethod (am_y nm_m64) ∈ nm_Tg := (nm_in3 (List.mem_of_getElem? (i := 59) rfl) rfl)
theorem nm_sl64 : Cond.selects (am_y nm_m64).cls (am_y nm_m64) (am_y nm_m64) ∈ nm_Tg := (nm_se1 (n := 10) (List.mem_of_getElem? (i := 8) rfl))
theorem nm_im65 : Cond.instanceMethod (am_y nm_m65) ∈ nm_Tg := (nm_in3 (List.mem_of_getElem? (i := 62) rfl) rfl)
theorem nm_sl65 : Cond.selects (am_y nm_m65).cls (am_y nm_m65) (am_y nm_m65) ∈ nm_Tg := (nm_in3 (List.mem_of_getElem? (i := 63) rfl) rfl)
theorem nm_im66 : Cond.instanceMethod (am_y nm_m66) ∈ nm_Tg := (nm_in3 (List.mem_of_getElem? (i := 66) rfl) rfl)
theorem nm_sl66 : Cond.selects (am_y nm_m66).cls (am_y nm_m66) (am_y nm_m66) ∈ nm_Tg := (nm_in3 (List.mem_of_getElem? (i := 67) rfl) rfl)
theorem nm_im67 : Cond.instanceMethod (am_y nm_m67) ∈ nm_Tg := (nm_in3 (List.mem_of_getElem? (i := 72) rfl) rfl)
theorem nm_sl67 : Cond.selects (am_y nm_m67).cls (am_y nm_m67) (am_y nm_m67) ∈ nm_Tg := (nm_se1 (n := 7) (List.mem_of_getElem? (i := 9) rfl))
theorem nm_im68 : Cond.instanceMethod (am_y nm_m68) ∈ nm_Tg := (nm_in3 (List.mem_of_getElem? (i := 80) rfl) rfl)
theorem nm_sl68 : Cond.selects (am_y nm_m68).cls (am_y nm_m68) (am_y nm_m68) ∈ nm_Tg := (nm_se1 (n := 7) (List.mem_of_getElem? (i := 10) rfl))
theorem nm_im69 : Cond.instanceMethod (am_y nm_m69) ∈ nm_Tg := (nm_in3 (List.mem_of_getElem? (i := 86) rfl) rfl)
theorem nm_sl69 : Cond.selects (am_y nm_m69).cls (am_y nm_m69) (am_y nm_m69) ∈ nm_Tg := (nm_in3 (List.mem_of_getElem? (i := 87) rfl) rfl)
theorem nm_im70 : Cond.instanceMethod (am_y nm_m70) ∈ nm_Tg := (nm_in3 (List.mem_of_getElem? (i := 91) rfl) rfl)
theorem nm_sl70 : Cond.selects (am_y nm_m70).cls (am_y nm_m70) (am_y nm_m70) ∈ nm_Tg := (nm_se1 (n := 7) (List.mem_of_getElem? (i := 11) rfl))
theorem nm_im71 : Cond.instanceMethod (am_y nm_m71) ∈ nm_Tg := (nm_in3 (List.mem_of_getElem? (i := 95) rfl) rfl)
theorem nm_sl71 : Cond.selects (am_y nm_m71).cls (am_y nm_m71) (am_y nm_m71) ∈ nm_Tg := (nm_se1 (n := 7) (List.mem_of_getElem? (i := 12) rfl))
theorem nm_im72 : Cond.instanceMethod (am_y nm_m72) ∈ nm_Tg := (nm_in3 (List.mem_of_getElem? (i := 99) rfl) rfl)
theorem nm_sl72 : Cond.selects (am_y nm_m72).cls (am_y nm_m72) (am_y nm_m72) ∈ nm_Tg := (nm_se1 (n := 7) (List.mem_of_getElem? (i := 13) rfl))
theorem nm_im73 : Cond.instanceMethod (am_y nm_m73) ∈ nm_Tg := (nm_in3 (List.mem_of_getElem? (i := 104) rfl) rfl)
theorem nm_sl73 : Cond.selects (am_y nm_m73).cls (am_y nm_m73) (am_y nm_m73) ∈ nm_Tg := (nm_se1 (n := 7) (List.mem_of_getElem? (i := 14) rfl))
theorem nm_im74 : Cond.instanceMethod (am_y nm_m74) ∈ nm_Tg := (nm_in3 (List.mem_of_getElem? (i := 108) rfl) rfl)
theorem nm_sl74 : Cond.selects (am_y nm_m74).cls (am_y nm_m74) (am_y nm_m74) ∈ nm_Tg := (nm_se1 (n := 7) (List.mem_of_getElem? (i := 15) rfl))
theorem nm_im75 : Cond.instanceMethod (am_y nm_m75) ∈ nm_Tg := (nm_in3 (List.mem_of_getElem? (i := 111) rfl) rfl)
theorem nm_sl75 : Cond.selects (am_y nm_m75).cls (am_y nm_m75) (am_y nm_m75) ∈ nm_Tg := (nm_in3 (List.mem_of_getElem? (i := 112) rfl) rfl)
theorem nm_im76 : Cond.instanceMethod (am_y nm_m76) ∈ nm_Tg := (nm_in3 (List.mem_of_getElem? (i := 115) rfl) rfl)
theorem nm_sl76 : Cond.selects (am_y nm_m76).cls (am_y nm_m76) (am_y nm_m76) ∈ nm_Tg := (nm_in3 (List.mem_of_getElem? (i := 116) rfl) rfl)
theorem nm_im77 : Cond.instanceMethod (am_y nm_m77) ∈ nm_Tg := (nm_in3 (List.mem_of_getElem? (i := 121) rfl) rfl)
theorem nm_sl77 : Cond.selects (am_y nm_m77).cls (am_y nm_m77) (am_y nm_m77) ∈ nm_Tg := (nm_in3 (List.mem_of_getElem? (i := 122) rfl) rfl)
theorem nm_im78 : Cond.instanceMethod (am_y nm_m78) ∈ nm_Tg := (nm_in3 (List.mem_of_getElem? (i := 130) rfl) rfl)
theorem nm_sl78 : Cond.selects (am_y nm_m78).cls (am_y nm_m78) (am_y nm_m78) ∈ nm_Tg := (nm_se2 (n := 7) (List.mem_of_getElem? (i := 0) rfl))
theorem nm_im79 : Cond.instanceMethod (am_y nm_m79) ∈ nm_Tg := (nm_in3 (List.mem_of_getElem? (i := 133) rfl) rfl)
theorem nm_sl79 : Cond.selects (am_y nm_m79).cls (am_y nm_m79) (am_y nm_m79) ∈ nm_Tg := (nm_in3 (List.mem_of_getElem? (i := 134) rfl) rfl)
theorem nm_im80 : Cond.instanceMethod (am_y nm_m80) ∈ nm_Tg := (nm_in3 (List.mem_of_getElem? (i := 139) rfl) rfl)
theorem nm_sl80 : Cond.selects (am_y nm_m80).cls (am_y nm_m80) (am_y nm_m80) ∈ nm_Tg := (nm_in3 (List.mem_of_getElem? (i := 140) rfl) rfl)
theorem nm_im81 : Cond.instanceMethod (am_y nm_m81) ∈ nm_Tg := (nm_in3 (List.mem_of_getElem? (i := 145) rfl) rfl)
theorem nm_sl81 : Cond.selects (am_y nm_m81).cls (am_y nm_m81) (am_y nm_m81) ∈ nm_Tg := (nm_se2 (n := 7) (List.mem_of_getElem? (i := 1) rfl))
theorem nm_im82 : Cond.instanceMethod (am_y nm_m82) ∈ nm_Tg := (nm_in3 (List.mem_of_getElem? (i := 149) rfl) rfl)
theorem nm_sl82 : Cond.selects (am_y nm_m82).cls (am_y nm_m82) (am_y nm_m82) ∈ nm_Tg := (nm_se2 (n := 7) (List.mem_of_getElem? (i := 2) rfl))
theorem nm_im83 : Cond.instanceMethod (am_y nm_m83) ∈ nm_Tg := (nm_in3 (List.mem_of_getElem? (i := 152) rfl) rfl)
theorem nm_sl83 : Cond.selects (am_y nm_m83).cls (am_y nm_m83) (am_y nm_m83) ∈ nm_Tg := (nm_in3 (List.mem_of_getElem? (i := 153) rfl) rfl)
theorem nm_im84 : Cond.instanceMethod (am_y nm_m84) ∈ nm_Tg := (nm_in3 (List.mem_of_getElem? (i := 158) rfl) rfl)
theorem nm_sl84 : Cond.selects (am_y nm_m84).cls (am_y nm_m84) (am_y nm_m84) ∈ nm_Tg := (nm_se2 (n := 7) (List.mem_of_getElem? (i := 3) rfl))
theorem nm_im85 : Cond.instanceMethod (am_y nm_m85) ∈ nm_Tg := (nm_in3 (List.mem_of_getElem? (i := 161) rfl) rfl)
theorem nm_sl85 : Cond.selects (am_y nm_m85).cls (am_y nm_m85) (am_y nm_m85) ∈ nm_Tg := (nm_in3 (List.mem_of_getElem? (i := 162) rfl) rfl)
theorem nm_im86 : Cond.instanceMethod (am_y nm_m86) ∈ nm_Tg := (nm_in3 (List.mem_of_getElem? (i := 168) rfl) rfl)
theorem nm_sl86 : Cond.selects (am_y nm_m86).cls (am_y nm_m86) (am_y nm_m86) ∈ nm_Tg := (nm_se2 (n := 10) (List.mem_of_getElem? (i := 4) rfl))
theorem nm_im88 : Cond.instanceMethod (am_y nm_m88) ∈ nm_Tg := (nm_in3 (List.mem_of_getElem? (i := 180) rfl) rfl)
theorem nm_sl88 : Cond.selects (am_y nm_m88).cls (am_y nm_m88) (am_y nm_m88) ∈ nm_Tg := (nm_se2 (n := 4) (List.mem_of_getElem? (i := 6) rfl))
theorem nm_im89 : Cond.instanceMethod (am_y nm_m89) ∈ nm_Tg := (nm_in3 (List.mem_of_getElem? (i := 184) rfl) rfl)
theorem nm_sl89 : Cond.selects (am_y nm_m89).cls (am_y nm_m89) (am_y nm_m89) ∈ nm_Tg := (nm_se2 (n := 4) (List.mem_of_getElem? (i := 7) rfl))
theorem nm_im90 : Cond.instanceMethod (am_y nm_m90) ∈ nm_Tg := (nm_in3 (List.mem_of_getElem? (i := 188) rfl) rfl)
theorem nm_sl90 : Cond.selects (am_y nm_m90).cls (am_y nm_m90) (am_y nm_m90) ∈ nm_Tg := (nm_se2 (n := 4) (List.mem_of_getElem? (i := 8) rfl))
theorem nm_im91 : Cond.instanceMethod (am_y nm_m91) ∈ nm_Tg := (nm_in3 (List.mem_of_getElem? (i := 193) rfl) rfl)
theorem nm_sl91 : Cond.selects (am_y nm_m91).cls (am_y nm_m91) (am_y nm_m91) ∈ nm_Tg := (nm_in3 (List.mem_of_getElem? (i := 194) rfl) rfl)
theorem nm_im92 : Cond.instanceMethod (am_y nm_m92) ∈ nm_Tg := (nm_in3 (List.mem_of_getElem? (i := 201) rfl) rfl)
theorem nm_sl92 : Cond.selects (am_y nm_m92).cls (am_y nm_m92) (am_y nm_m92) ∈ nm_Tg := (nm_se2 (n := 4) (List.mem_of_getElem? (i := 9) rfl))
theorem nm_im93 : Cond.instanceMethod (am_y nm_m93) ∈ nm_Tg := (nm_in3 (List.mem_of_getElem? (i := 205) rfl) rfl)
theorem nm_sl93 : Cond.selects (am_y nm_m93).cls (am_y nm_m93) (am_y nm_m93) ∈ nm_Tg := (nm_se2 (n := 4) (List.mem_of_getElem? (i := 10) rfl))
theorem nm_im87 : Cond.instanceMethod (am_y nm_m87) ∈ nm_Tg := (nm_in3 (List.mem_of_getElem? (i := 172) rfl) rfl)
theorem nm_sl87 : Cond.selects (am_y nm_m87).cls (am_y nm_m87) (am_y nm_m87) ∈ nm_Tg := (nm_se2 (n := 4) (List.mem_of_getElem? (i := 5) rfl))
theorem nm_im94 : Cond.instanceMethod (am_y nm_m94) ∈ nm_Tg := (nm_in3 (List.mem_of_getElem? (i := 215) rfl) rfl)
theorem nm_sl94 : Cond.selects (am_y nm_m94).cls (am_y nm_m94) (am_y nm_m94) ∈ nm_Tg := (nm_se2 (n := 4) (List.mem_of_getElem? (i := 11) rfl))
theorem nm_im95 : Cond.instanceMethod (am_y nm_m95) ∈ nm_Tg := (nm_in3 (List.mem_of_getElem? (i := 219) rfl) rfl)
theorem nm_sl95 : Cond.selects (am_y nm_m95).cls (am_y nm_m95) (am_y nm_m95) ∈ nm_Tg := (nm_se2 (n := 4) (List.mem_of_getElem? (i := 12) rfl))
theorem nm_im97 : Cond.instanceMethod (am_y nm_m97) ∈ nm_Tg := (nm_in3 (List.mem_of_getElem? (i := 227) rfl) rfl)
theorem nm_sl97 : Cond.selects (am_y nm_m97).cls (am_y nm_m97) (am_y nm_m97) ∈ nm_Tg := (nm_se2 (n := 5) (List.mem_of_getElem? (i := 14) rfl))
theorem nm_im98 : Cond.instanceMethod (am_y nm_m98) ∈ nm_Tg := (nm_in3 (List.mem_of_getElem? (i := 231) rfl) rfl)
theorem nm_sl98 : Cond.selects (am_y nm_m98).cls (am_y nm_m98) (am_y nm_m98) ∈ nm_Tg := (nm_se2 (n := 5) (List.mem_of_getElem? (i := 15) rfl))
theorem nm_im99 : Cond.instanceMethod (am_y nm_m99) ∈ nm_Tg := (nm_in3 (List.mem_of_getElem? (i := 235) rfl) rfl)
theorem nm_sl99 : Cond.selects (am_y nm_m99).cls (am_y nm_m99) (am_y nm_m99) ∈ nm_Tg := (nm_in3 (List.mem_of_getElem? (i := 236) rfl) rfl)
theorem nm_im100 : Cond.instanceMethod (am_y nm_m100) ∈ nm_Tg := (nm_in4 (List.mem_of_getElem? (i := 2) rfl) rfl)
theorem nm_sl100 : Cond.selects (am_y nm_m100).cls (am_y nm_m100) (am_y nm_m100) ∈ nm_Tg := (nm_se3 (n := 5) (List.mem_of_getElem? (i := 0) rfl))
theorem nm_im101 : Cond.instanceMethod (am_y nm_m101) ∈ nm_Tg := (nm_in4 (List.mem_of_getElem? (i := 8) rfl) rfl)
theorem nm_sl101 : Cond.selects (am_y nm_m101).cls (am_y nm_m101) (am_y nm_m101) ∈ nm_Tg := (nm_in4 (List.mem_of_getElem? (i := 9) rfl) rfl)
theorem nm_im96 : Cond.instanceMethod (am_y nm_m96) ∈ nm_Tg := (nm_in3 (List.mem_of_getElem? (i := 223) rfl) rfl)
theorem nm_sl96 : Cond.selects (am_y nm_m96).cls (am_y nm_m96) (am_y nm_m96) ∈ nm_Tg := (nm_se2 (n := 5) (List.mem_of_getElem? (i := 13) rfl))
theorem nm_im102 : Cond.instanceMethod (am_y nm_m102) ∈ nm_Tg := (nm_in4 (List.mem_of_getElem? (i := 13) rfl) rfl)
theorem nm_sl102 : Cond.selects (am_y nm_m102).cls (am_y nm_m102) (am_y nm_m102) ∈ nm_Tg := (nm_in4 (List.mem_of_getElem? (i := 14) rfl) rfl)
theorem nm_im103 : Cond.instanceMethod (am_y nm_m103) ∈ nm_Tg := (nm_in4 (List.mem_of_getElem? (i := 19) rfl) rfl)
theorem nm_sl103 : Cond.selects (am_y nm_m103).cls (am_y nm_m103) (am_y nm_m103) ∈ nm_Tg := (nm_se3 (n := 5) (List.mem_of_getElem? (i := 1) rfl))
theorem nm_im104 : Cond.instanceMethod (am_y nm_m104) ∈ nm_Tg := (nm_in4 (List.mem_of_getElem? (i := 24) rfl) rfl)
theorem nm_sl104 : Cond.selects (am_y nm_m104).cls (am_y nm_m104) (am_y nm_m104) ∈ nm_Tg := (nm_se3 (n := 5) (List.mem_of_getElem? (i := 2) rfl))
theorem nm_im105 : Cond.instanceMethod (am_y nm_m105) ∈ nm_Tg := (nm_in4 (List.mem_of_getElem? (i := 28) rfl) rfl)
theorem nm_sl105 : Cond.selects (am_y nm_m105).cls (am_y nm_m105) (am_y nm_m105) ∈ nm_Tg := (nm_se3 (n := 5) (List.mem_of_getElem? (i := 3) rfl))
theorem nm_im106 : Cond.instanceMethod (am_y nm_m106) ∈ nm_Tg := (nm_in4 (List.mem_of_getElem? (i := 35) rfl) rfl)
theorem nm_sl106 : Cond.selects (am_y nm_m106).cls (am_y nm_m106) (am_y nm_m106) ∈ nm_Tg := (nm_se3 (n := 5) (List.mem_of_getElem? (i := 4) rfl))
theorem nm_im107 : Cond.instanceMethod (am_y nm_m107) ∈ nm_Tg := (nm_in4 (List.mem_of_getElem? (i := 41) rfl) rfl)
theorem nm_sl107 : Cond.selects (am_y nm_m107).cls (am_y nm_m107) (am_y nm_m107) ∈ nm_Tg := (nm_se3 (n := 5) (List.mem_of_getElem? (i := 5) rfl))
theorem nm_im108 : Cond.instanceMethod (am_y nm_m108) ∈ nm_Tg := (nm_in4 (List.mem_of_getElem? (i := 46) rfl) rfl)
theorem nm_sl108 : Cond.selects (am_y nm_m108).cls (am_y nm_m108) (am_y nm_m108) ∈ nm_Tg := (nm_se3 (n := 4) (List.mem_of_getElem? (i := 6) rfl))
theorem nm_im109 : Cond.instanceMethod (am_y nm_m109) ∈ nm_Tg := (nm_in4 (List.mem_of_getElem? (i := 51) rfl) rfl)
theorem nm_sl109 : Cond.selects (am_y nm_m109).cls (am_y nm_m109) (am_y nm_m109) ∈ nm_Tg := (nm_se3 (n := 4) (List.mem_of_getElem? (i := 7) rfl))
theorem nm_im110 : Cond.instanceMethod (am_y nm_m110) ∈ nm_Tg := (nm_in4 (List.mem_of_getElem? (i := 55) rfl) rfl)
theorem nm_sl110 : Cond.selects (am_y nm_m110).cls (am_y nm_m110) (am_y nm_m110) ∈ nm_Tg := (nm_se3 (n := 4) (List.mem_of_getElem? (i := 8) rfl))
theorem nm_im111 : Cond.instanceMethod (am_y nm_m111) ∈ nm_Tg := (nm_in4 (List.mem_of_getElem? (i := 59) rfl) rfl)
theorem nm_sl111 : Cond.selects (am_y nm_m111).cls (am_y nm_m111) (am_y nm_m111) ∈ nm_Tg := (nm_se3 (n := 4) (List.mem_of_getElem? (i := 9) rfl))
theorem nm_im112 : Cond.instanceMethod (am_y nm_m112) ∈ nm_Tg := (nm_in4 (List.mem_of_getElem? (i := 63) rfl) rfl)
theorem nm_sl112 : Cond.selects (am_y nm_m112).cls (am_y nm_m112) (am_y nm_m112) ∈ nm_Tg := (nm_se3 (n := 4) (List.mem_of_getElem? (i := 10) rfl))
theorem nm_im113 : Cond.instanceMethod (am_y nm_m113) ∈ nm_Tg := (nm_in4 (List.mem_of_getElem? (i := 67) rfl) rfl)
theorem nm_sl113 : Cond.selects (am_y nm_m113).cls (am_y nm_m113) (am_y nm_m113) ∈ nm_Tg := (nm_se3 (n := 4) (List.mem_of_getElem? (i := 11) rfl))
theorem nm_im114 : Cond.instanceMethod (am_y nm_m114) ∈ nm_Tg := (nm_in4 (List.mem_of_getElem? (i := 71) rfl) rfl)
theorem nm_sl114 : Cond.selects (am_y nm_m114).cls (am_y nm_m114) (am_y nm_m114) ∈ nm_Tg := (nm_se3 (n := 4) (List.mem_of_getElem? (i := 12) rfl))
theorem nm_im115 : Cond.instanceMethod (am_y nm_m115) ∈ nm_Tg := (nm_in4 (List.mem_of_getElem? (i := 75) rfl) rfl)
theorem nm_sl115 : Cond.selects (am_y nm_m115).cls (am_y nm_m115) (am_y nm_m115) ∈ nm_Tg := (nm_se3 (n := 4) (List.mem_of_getElem? (i := 13) rfl))
theorem nm_im116 : Cond.instanceMethod (am_y nm_m116) ∈ nm_Tg := (nm_in4 (List.mem_of_getElem? (i := 80) rfl) rfl)
theorem nm_sl116 : Cond.selects (am_y nm_m116).cls (am_y nm_m116) (am_y nm_m116) ∈ nm_Tg := (nm_se3 (n := 4) (List.mem_of_getElem? (i := 14) rfl))
theorem nm_im117 : Cond.instanceMethod (am_y nm_m117) ∈ nm_Tg := (nm_in4 (List.mem_of_getElem? (i := 84) rfl) rfl)
theorem nm_sl117 : Cond.selects (am_y nm_m117).cls (am_y nm_m117) (am_y nm_m117) ∈ nm_Tg := (nm_se3 (n := 4) (List.mem_of_getElem? (i := 15) rfl))
theorem nm_im118 : Cond.instanceMethod (am_y nm_m118) ∈ nm_Tg := (nm_in4 (List.mem_of_getElem? (i := 88) rfl) rfl)
theorem nm_sl118 : Cond.selects (am_y nm_m118).cls (am_y nm_m118) (am_y nm_m118) ∈ nm_Tg := (nm_se4 (n := 4) (List.mem_of_getElem? (i := 0) rfl))
theorem nm_im119 : Cond.instanceMethod (am_y nm_m119) ∈ nm_Tg := (nm_in4 (List.mem_of_getElem? (i := 92) rfl) rfl)
theorem nm_sl119 : Cond.selects (am_y nm_m119).cls (am_y nm_m119) (am_y nm_m119) ∈ nm_Tg := (nm_se4 (n := 4) (List.mem_of_getElem? (i := 1) rfl))
theorem nm_im120 : Cond.instanceMethod (am_y nm_m120) ∈ nm_Tg := (nm_in4 (List.mem_of_getElem? (i := 96) rfl) rfl)
theorem nm_sl120 : Cond.selects (am_y nm_m120).cls (am_y nm_m120) (am_y nm_m120) ∈ nm_Tg := (nm_se4 (n := 4) (List.mem_of_getElem? (i := 2) rfl))
theorem nm_im122 : Cond.instanceMethod (am_y nm_m122) ∈ nm_Tg := (nm_in4 (List.mem_of_getElem? (i := 105) rfl) rfl)
theorem nm_sl122 : Cond.selects (am_y nm_m122).cls (am_y nm_m122) (am_y nm_m122) ∈ nm_Tg := (nm_se4 (n := 5) (List.mem_of_getElem? (i := 4) rfl))
theorem nm_im123 : Cond.instanceMethod (am_y nm_m123) ∈ nm_Tg := (nm_in4 (List.mem_of_getElem? (i := 109) rfl) rfl)
theorem nm_sl123 : Cond.selects (am_y nm_m123).cls (am_y nm_m123) (am_y nm_m123) ∈ nm_Tg := (nm_se4 (n := 5) (List.mem_of_getElem? (i := 5) rfl))
theorem nm_im121 : Cond.instanceMethod (am_y nm_m121) ∈ nm_Tg := (nm_in4 (List.mem_of_getElem? (i := 101) rfl) rfl)
theorem nm_sl121 : Cond.selects (am_y nm_m121).cls (am_y nm_m121) (am_y nm_m121) ∈ nm_Tg := (nm_se4 (n := 5) (List.mem_of_getElem? (i := 3) rfl))
theorem nm_im124 : Cond.instanceMethod (am_y nm_m124) ∈ nm_Tg := (nm_in4 (List.mem_of_getElem? (i := 114) rfl) rfl)
theorem nm_sl124 : Cond.selects (am_y nm_m124).cls (am_y nm_m124) (am_y nm_m124) ∈ nm_Tg := (nm_se4 (n := 10) (List.mem_of_getElem? (i := 6) rfl))
theorem nm_im125 : Cond.instanceMethod (am_y nm_m125) ∈ nm_Tg := (nm_in4 (List.mem_of_getElem? (i := 119) rfl) rfl)
theorem nm_sl125 : Cond.selects (am_y nm_m125).cls (am_y nm_m125) (am_y nm_m125) ∈ nm_Tg := (nm_se4 (n := 10) (List.mem_of_getElem? (i := 7) rfl))
theorem nm_im126 : Cond.instanceMethod (am_y nm_m126) ∈ nm_Tg := (nm_in4 (List.mem_of_getElem? (i := 122) rfl) rfl)
theorem nm_sl126 : Cond.selects (am_y nm_m126).cls (am_y nm_m126) (am_y nm_m126) ∈ nm_Tg := (nm_in4 (List.mem_of_getElem? (i := 123) rfl) rfl)
theorem nm_im127 : Cond.instanceMethod (am_y nm_m127) ∈ nm_Tg := (nm_in4 (List.mem_of_getElem? (i := 126) rfl) rfl)
theorem nm_sl127 : Cond.selects (am_y nm_m127).cls (am_y nm_m127) (am_y nm_m127) ∈ nm_Tg := (nm_in4 (List.mem_of_getElem? (i := 127) rfl) rfl)
theorem nm_im128 : Cond.instanceMethod (am_y nm_m128) ∈ nm_Tg := (nm_in4 (List.mem_of_getElem? (i := 131) rfl) rfl)
theorem nm_sl128 : Cond.selects (am_y nm_m128).cls (am_y nm_m128) (am_y nm_m128) ∈ nm_Tg := (nm_se4 (n := 10) (List.mem_of_getElem? (i := 8) rfl))
theorem nm_im129 : Cond.instanceMethod (am_y nm_m129) ∈ nm_Tg := (nm_in4 (List.mem_of_getElem? (i := 134) rfl) rfl)
theorem nm_sl129 : Cond.selects (am_y nm_m129).cls (am_y nm_m129) (am_y nm_m129) ∈ nm_Tg := (nm_in4 (List.mem_of_getElem? (i := 135) rfl) rfl)
theorem nm_im130 : Cond.instanceMethod (am_y nm_m130) ∈ nm_Tg := (nm_in4 (List.mem_of_getElem? (i := 138) rfl) rfl)
theorem nm_sl130 : Cond.selects (am_y nm_m130).cls (am_y nm_m130) (am_y nm_m130) ∈ nm_Tg := (nm_in4 (List.mem_of_getElem? (i := 139) rfl) rfl)
theorem nm_im131 : Cond.instanceMethod (am_y nm_m131) ∈ nm_Tg := (nm_in4 (List.mem_of_getElem? (i := 143) rfl) rfl)
theorem nm_sl131 : Cond.selects (am_y nm_m131).cls (am_y nm_m131) (am_y nm_m131) ∈ nm_Tg := (nm_se4 (n := 10) (List.mem_of_getElem? (i := 9) rfl))
theorem nm_im132 : Cond.instanceMethod (am_y nm_m132) ∈ nm_Tg := (nm_in4 (List.mem_of_getElem? (i := 148) rfl) rfl)
theorem nm_sl132 : Cond.selects (am_y nm_m132).cls (am_y nm_m132) (am_y nm_m132) ∈ nm_Tg := (nm_in4 (List.mem_of_getElem? (i := 149) rfl) rfl)
theorem nm_im133 : Cond.instanceMethod (am_y nm_m133) ∈ nm_Tg := (nm_in4 (List.mem_of_getElem? (i := 153) rfl) rfl)
theorem nm_sl133 : Cond.selects (am_y nm_m133).cls (am_y nm_m133) (am_y nm_m133) ∈ nm_Tg := (nm_se4 (n := 10) (List.mem_of_getElem? (i := 10) rfl))
theorem nm_im134 : Cond.instanceMethod (am_y nm_m134) ∈ nm_Tg := (nm_in4 (List.mem_of_getElem? (i := 156) rfl) rfl)
theorem nm_sl134 : Cond.selects (am_y nm_m134).cls (am_y nm_m134) (am_y nm_m134) ∈ nm_Tg := (nm_in4 (List.mem_of_getElem? (i := 157) rfl) rfl)
theorem nm_im135 : Cond.instanceMethod (am_y nm_m135) ∈ nm_Tg := (nm_in4 (List.mem_of_getElem? (i := 162) rfl) rfl)
theorem nm_sl135 : Cond.selects (am_y nm_m135).cls (am_y nm_m135) (am_y nm_m135) ∈ nm_Tg := (nm_se4 (n := 10) (List.mem_of_getElem? (i := 11) rfl))
theorem nm_im136 : Cond.instanceMethod (am_y nm_m136) ∈ nm_Tg := (nm_in4 (List.mem_of_getElem? (i := 167) rfl) rfl)
theorem nm_sl136 : Cond.selects (am_y nm_m136).cls (am_y nm_m136) (am_y nm_m136) ∈ nm_Tg := (nm_se4 (n := 10) (List.mem_of_getElem? (i := 12) rfl))
theorem nm_im137 : Cond.instanceMethod (am_y nm_m137) ∈ nm_Tg := (nm_in4 (List.mem_of_getElem? (i := 171) rfl) rfl)
theorem nm_sl137 : Cond.selects (am_y nm_m137).cls (am_y nm_m137) (am_y nm_m137) ∈ nm_Tg := (nm_se4 (n := 10) (List.mem_of_getElem? (i := 13) rfl))
theorem nm_im138 : Cond.instanceMethod (am_y nm_m138) ∈ nm_Tg := (nm_in4 (List.mem_of_getElem? (i := 175) rfl) rfl)
theorem nm_sl138 : Cond.selects (am_y nm_m138).cls (am_y nm_m138) (am_y nm_m138) ∈ nm_Tg := (nm_se4 (n := 10) (List.mem_of_getElem? (i := 14) rfl))
theorem nm_im139 : Cond.instanceMethod (am_y nm_m139) ∈ nm_Tg := (nm_in4 (List.mem_of_getElem? (i := 180) rfl) rfl)
theorem nm_sl139 : Cond.selects (am_y nm_m139).cls (am_y nm_m139) (am_y nm_m139) ∈ nm_Tg := (nm_se4 (n := 10) (List.mem_of_getElem? (i := 15) rfl))
theorem nm_im140 : Cond.instanceMethod (am_y nm_m140) ∈ nm_Tg := (nm_in4 (List.mem_of_getElem? (i := 184) rfl) rfl)
theorem nm_sl140 : Cond.selects (am_y nm_m140).cls (am_y nm_m140) (am_y nm_m140) ∈ nm_Tg := (nm_se5 (n := 10) (List.mem_of_getElem? (i := 0) rfl))
theorem nm_im141 : Cond.instanceMethod (am_y nm_m141) ∈ nm_Tg := (nm_in4 (List.mem_of_getElem? (i := 188) rfl) rfl)
theorem nm_sl141 : Cond.selects (am_y nm_m141).cls (am_y nm_m141) (am_y nm_m141) ∈ nm_Tg := (nm_se5 (n := 10) (List.mem_of_getElem? (i := 1) rfl))
theorem nm_im142 : Cond.instanceMethod (am_y nm_m142) ∈ nm_Tg := (nm_in4 (List.mem_of_getElem? (i := 192) rfl) rfl)
theorem nm_sl142 : Cond.selects (am_y nm_m142).cls (am_y nm_m142) (am_y nm_m142) ∈ nm_Tg := (nm_se5 (n := 10) (List.mem_of_getElem? (i := 2) rfl))
theorem nm_im143 : Cond.instanceMethod (am_y nm_m143) ∈ nm_Tg := (nm_in4 (List.mem_of_getElem? (i := 195) rfl) rfl)
theorem nm_sl143 : Cond.selects (am_y nm_m143).cls (am_y nm_m143) (am_y nm_m143) ∈ nm_Tg := (nm_in4 (List.mem_of_getElem? (i := 196) rfl) rfl)
theorem nm_im144 : Cond.instanceMethod (am_y nm_m144) ∈ nm_Tg := (nm_in4 (List.mem_of_getElem? (i := 199) rfl) rfl)
theorem nm_sl144 : Cond.selects (am_y nm_m144).cls (am_y nm_m144) (am_y nm_m144) ∈ nm_Tg := (nm_in4 (List.mem_of_getElem? (i := 200) rfl) rfl)
theorem nm_im145 : Cond.instanceMethod (am_y nm_m145) ∈ nm_Tg := (nm_in4 (List.mem_of_getElem? (i := 203) rfl) rfl)
theorem nm_sl145 : Cond.selects (am_y nm_m145).cls (am_y nm_m145) (am_y nm_m145) ∈ nm_Tg := (nm_in4 (List.mem_of_getElem? (i := 204) rfl) rfl)
theorem nm_im146 : Cond.instanceMethod (am_y nm_m146) ∈ nm_Tg := (nm_in4 (List.mem_of_getElem? (i := 208) rfl) rfl)
theorem nm_sl146 : Cond.selects (am_y nm_m146).cls (am_y nm_m146) (am_y nm_m146) ∈ nm_Tg := (nm_se5 (n := 10) (List.mem_of_getElem? (i := 3) rfl))
theorem nm_im147 : Cond.instanceMethod (am_y nm_m147) ∈ nm_Tg := (nm_in4 (List.mem_of_getElem? (i := 212) rfl) rfl)
theorem nm_sl147 : Cond.selects (am_y nm_m147).cls (am_y nm_m147) (am_y nm_m147) ∈ nm_Tg := (nm_se5 (n := 10) (List.mem_of_getElem? (i := 4) rfl))
theorem nm_im148 : Cond.instanceMethod (am_y nm_m148) ∈ nm_Tg := (nm_in4 (List.mem_of_getElem? (i := 215) rfl) rfl)
theorem nm_sl148 : Cond.selects (am_y nm_m148).cls (am_y nm_m148) (am_y nm_m148) ∈ nm_Tg := (nm_in4 (List.mem_of_getElem? (i := 216) rfl) rfl)
theorem nm_im149 : Cond.instanceMethod (am_y nm_m149) ∈ nm_Tg := (nm_in4 (List.mem_of_getElem? (i := 220) rfl) rfl)
theorem nm_sl149 : Cond.selects (am_y nm_m149).cls (am_y nm_m149) (am_y nm_m149) ∈ nm_Tg := (nm_se5 (n := 10) (List.mem_of_getElem? (i := 5) rfl))
theorem nm_im150 : Cond.instanceMethod (am_y nm_m150) ∈ nm_Tg := (nm_in4 (List.mem_of_getElem? (i := 223) rfl) rfl)
theorem nm_sl150 : Cond.selects (am_y nm_m150).cls (am_y nm_m150) (am_y nm_m150) ∈ nm_Tg := (nm_in4 (List.mem_of_getElem? (i := 224) rfl) rfl)
theorem nm_im151 : Cond.instanceMethod (am_y nm_m151) ∈ nm_Tg := (nm_in4 (List.mem_of_getElem? (i := 228) rfl) rfl)
theorem nm_sl151 : Cond.selects (am_y nm_m151).cls (am_y nm_m151) (am_y nm_m151) ∈ nm_Tg := (nm_in4 (List.mem_of_getElem? (i := 229) rfl) rfl)
theorem nm_im152 : Cond.instanceMethod (am_y nm_m152) ∈ nm_Tg := (nm_in4 (List.mem_of_getElem? (i := 233) rfl) rfl)
theorem nm_sl152 : Cond.selects (am_y nm_m152).cls (am_y nm_m152) (am_y nm_m152) ∈ nm_Tg := (nm_se5 (n := 3) (List.mem_of_getElem? (i := 6) rfl))
theorem nm_im153 : Cond.instanceMethod (am_y nm_m153) ∈ nm_Tg := (nm_in4 (List.mem_of_getElem? (i := 236) rfl) rfl)
theorem nm_sl153 : Cond.selects (am_y nm_m153).cls (am_y nm_m153) (am_y nm_m153) ∈ nm_Tg := (nm_in4 (List.mem_of_getElem? (i := 237) rfl) rfl)
theorem nm_im154 : Cond.instanceMethod (am_y nm_m154) ∈ nm_Tg := (nm_in5 (List.mem_of_getElem? (i := 16) rfl) rfl)
theorem nm_sl154 : Cond.selects (am_y nm_m154).cls (am_y nm_m154) (am_y nm_m154) ∈ nm_Tg := (nm_in5 (List.mem_of_getElem? (i := 17) rfl) rfl)
theorem nm_im155 : Cond.instanceMethod (am_y nm_m155) ∈ nm_Tg := (nm_in5 (List.mem_of_getElem? (i := 25) rfl) rfl)
theorem nm_sl155 : Cond.selects (am_y nm_m155).cls (am_y nm_m155) (am_y nm_m155) ∈ nm_Tg := (nm_se5 (n := 5) (List.mem_of_getElem? (i := 7) rfl))
theorem nm_im156 : Cond.instanceMethod (am_y nm_m156) ∈ nm_Tg := (nm_in5 (List.mem_of_getElem? (i := 30) rfl) rfl)
theorem nm_im157 : Cond.instanceMethod (am_y nm_m157) ∈ nm_Tg := (nm_in5 (List.mem_of_getElem? (i := 231) rfl) rfl)
theorem nm_sl157 : Cond.selects (am_y nm_m157).cls (am_y nm_m157) (am_y nm_m157) ∈ nm_Tg := (nm_in5 (List.mem_of_getElem? (i := 232) rfl) rfl)
theorem nm_im158 : Cond.instanceMethod (am_y nm_m158) ∈ nm_Tg := (nm_in5 (List.mem_of_getElem? (i := 235) rfl) rfl)
theorem nm_sl158 : Cond.selects (am_y nm_m158).cls (am_y nm_m158) (am_y nm_m158) ∈ nm_Tg := (nm_in5 (List.mem_of_getElem? (i := 236) rfl) rfl)
theorem nm_im160 : Cond.instanceMethod (am_y nm_m160) ∈ nm_Tg := (nm_in6 (List.mem_of_getElem? (i := 3) rfl) rfl)
theorem nm_sl160 : Cond.selects (am_y nm_m160).cls (am_y nm_m160) (am_y nm_m160) ∈ nm_Tg := (nm_in6 (List.mem_of_getElem? (i := 4) rfl) rfl)
theorem nm_im161 : Cond.instanceMethod (am_y nm_m161) ∈ nm_Tg := (nm_in6 (List.mem_of_getElem? (i := 8) rfl) rfl)
theorem nm_sl161 : Cond.selects (am_y nm_m161).cls (am_y nm_m161) (am_y nm_m161) ∈ nm_Tg := (nm_se5 (n := 65) (List.mem_of_getElem? (i := 8) rfl))
theorem nm_im162 : Cond.instanceMethod (am_y nm_m162) ∈ nm_Tg := (nm_in6 (List.mem_of_getElem? (i := 12) rfl) rfl)
theorem nm_sl162 : Cond.selects (am_y nm_m162).cls (am_y nm_m162) (am_y nm_m162) ∈ nm_Tg := (nm_se5 (n := 65) (List.mem_of_getElem? (i := 9) rfl))
theorem nm_im163 : Cond.instanceMethod (am_y nm_m163) ∈ nm_Tg := (nm_in6 (List.mem_of_getElem? (i := 16) rfl) rfl)
theorem nm_sl163 : Cond.selects (am_y nm_m163).cls (am_y nm_m163) (am_y nm_m163) ∈ nm_Tg := (nm_se5 (n := 65) (List.mem_of_getElem? (i := 10) rfl))
theorem nm_im164 : Cond.instanceMethod (am_y nm_m164) ∈ nm_Tg := (nm_in6 (List.mem_of_getElem? (i := 20) rfl) rfl)
theorem nm_sl164 : Cond.selects (am_y nm_m164).cls (am_y nm_m164) (am_y nm_m164) ∈ nm_Tg := (nm_se5 (n := 65) (List.mem_of_getElem? (i := 11) rfl))
theorem nm_im165 : Cond.instanceMethod (am_y nm_m165) ∈ nm_Tg := (nm_in6 (List.mem_of_getElem? (i := 24) rfl) rfl)
theorem nm_sl165 : Cond.selects (am_y nm_m165).cls (am_y nm_m165) (am_y nm_m165) ∈ nm_Tg := (nm_se5 (n := 65) (List.mem_of_getElem? (i := 12) rfl))
theorem nm_im166 : Cond.instanceMethod (am_y nm_m166) ∈ nm_Tg := (nm_in6 (List.mem_of_getElem? (i := 28) rfl) rfl)
theorem nm_sl166 : Cond.selects (am_y nm_m166).cls (am_y nm_m166) (am_y nm_m166) ∈ nm_Tg := (nm_se5 (n := 65) (List.mem_of_getElem? (i := 13) rfl))
theorem nm_im167 : Cond.instanceMethod (am_y nm_m167) ∈ nm_Tg := (nm_in6 (List.mem_of_getElem? (i := 32) rfl) rfl)
theorem nm_sl167 : Cond.selects (am_y nm_m167).cls (am_y nm_m167) (am_y nm_m167) ∈ nm_Tg := (nm_se5 (n := 65) (List.mem_of_getElem? (i := 14) rfl))
theorem nm_im168 : Cond.instanceMethod (am_y nm_m168) ∈ nm_Tg := (nm_in6 (List.mem_of_getElem? (i := 36) rfl) rfl)
theorem nm_sl168 : Cond.selects (am_y nm_m168).cls (am_y nm_m168) (am_y nm_m168) ∈ nm_Tg := (nm_se5 (n := 65) (List.mem_of_getElem? (i := 15) rfl))
theorem nm_im169 : Cond.instanceMethod (am_y nm_m169) ∈ nm_Tg := (nm_in6 (List.mem_of_getElem? (i := 40) rfl) rfl)
theorem nm_sl169 : Cond.selects (am_y nm_m169).cls (am_y nm_m169) (am_y nm_m169) ∈ nm_Tg := (nm_se6 (n := 65) (List.mem_of_getElem? (i := 0) rfl))
theorem nm_im170 : Cond.instanceMethod (am_y nm_m170) ∈ nm_Tg := (nm_in6 (List.mem_of_getElem? (i := 44) rfl) rfl)
theorem nm_sl170 : Cond.selects (am_y nm_m170).cls (am_y nm_m170) (am_y nm_m170) ∈ nm_Tg := (nm_se6 (n := 65) (List.mem_of_getElem? (i := 1) rfl))
theorem nm_im171 : Cond.instanceMethod (am_y nm_m171) ∈ nm_Tg := (nm_in6 (List.mem_of_getElem? (i := 48) rfl) rfl)
theorem nm_sl171 : Cond.selects (am_y nm_m171).cls (am_y nm_m171) (am_y nm_m171) ∈ nm_Tg := (nm_se6 (n := 65) (List.mem_of_getElem? (i := 2) rfl))
theorem nm_im172 : Cond.instanceMethod (am_y nm_m172) ∈ nm_Tg := (nm_in6 (List.mem_of_getElem? (i := 52) rfl) rfl)
theorem nm_sl172 : Cond.selects (am_y nm_m172).cls (am_y nm_m172) (am_y nm_m172) ∈ nm_Tg := (nm_se6 (n := 65) (List.mem_of_getElem? (i := 3) rfl))
theorem nm_im173 : Cond.instanceMethod (am_y nm_m173) ∈ nm_Tg := (nm_in6 (List.mem_of_getElem? (i := 56) rfl) rfl)
theorem nm_sl173 : Cond.selects (am_y nm_m173).cls (am_y nm_m173) (am_y nm_m173) ∈ nm_Tg := (nm_se6 (n := 65) (List.mem_of_getElem? (i := 4) rfl))
theorem nm_im174 : Cond.instanceMethod (am_y nm_m174) ∈ nm_Tg := (nm_in6 (List.mem_of_getElem? (i := 60) rfl) rfl)
theorem nm_sl174 : Cond.selects (am_y nm_m174).cls (am_y nm_m174) (am_y nm_m174) ∈ nm_Tg := (nm_se6 (n := 65) (List.mem_of_getElem? (i := 5) rfl))
theorem nm_im175 : Cond.instanceMethod (am_y nm_m175) ∈ nm_Tg := (nm_in6 (List.mem_of_getElem? (i := 64) rfl) rfl)
theorem nm_sl175 : Cond.selects (am_y nm_m175).cls (am_y nm_m175) (am_y nm_m175) ∈ nm_Tg := (nm_se6 (n := 65) (List.mem_of_getElem? (i := 6) rfl))
theorem nm_im176 : Cond.instanceMethod (am_y nm_m176) ∈ nm_Tg := (nm_in6 (List.mem_of_getElem? (i := 68) rfl) rfl)
theorem nm_sl176 : Cond.selects (am_y nm_m176).cls (am_y nm_m176) (am_y nm_m176) ∈ nm_Tg := (nm_se6 (n := 65) (List.mem_of_getElem? (i := 7) rfl))
theorem nm_im177 : Cond.instanceMethod (am_y nm_m177) ∈ nm_Tg := (nm_in6 (List.mem_of_getElem? (i := 72) rfl) rfl)
theorem nm_sl177 : Cond.selects (am_y nm_m177).cls (am_y nm_m177) (am_y nm_m177) ∈ nm_Tg := (nm_se6 (n := 65) (List.mem_of_getElem? (i := 8) rfl))
theorem nm_im178 : Cond.instanceMethod (am_y nm_m178) ∈ nm_Tg := (nm_in6 (List.mem_of_getElem? (i := 76) rfl) rfl)
theorem nm_sl178 : Cond.selects (am_y nm_m178).cls (am_y nm_m178) (am_y nm_m178) ∈ nm_Tg := (nm_se6 (n := 65) (List.mem_of_getElem? (i := 9) rfl))
theorem nm_im179 : Cond.instanceMethod (am_y nm_m179) ∈ nm_Tg := (nm_in6 (List.mem_of_getElem? (i := 81) rfl) rfl)
theorem nm_sl179 : Cond.selects (am_y nm_m179).cls (am_y nm_m179) (am_y nm_m179) ∈ nm_Tg := (nm_se6 (n := 65) (List.mem_of_getElem? (i := 10) rfl))
theorem nm_im180 : Cond.instanceMethod (am_y nm_m180) ∈ nm_Tg := (nm_in6 (List.mem_of_getElem? (i := 85) rfl) rfl)
theorem nm_sl180 : Cond.selects (am_y nm_m180).cls (am_y nm_m180) (am_y nm_m180) ∈ nm_Tg := (nm_se6 (n := 65) (List.mem_of_getElem? (i := 11) rfl))
theorem nm_im181 : Cond.instanceMethod (am_y nm_m181) ∈ nm_Tg := (nm_in6 (List.mem_of_getElem? (i := 89) rfl) rfl)
theorem nm_sl181 : Cond.selects (am_y nm_m181).cls (am_y nm_m181) (am_y nm_m181) ∈ nm_Tg := (nm_se6 (n := 65) (List.mem_of_getElem? (i := 12) rfl))
theorem nm_im182 : Cond.instanceMethod (am_y nm_m182) ∈ nm_Tg := (nm_in6 (List.mem_of_getElem? (i := 93) rfl) rfl)
theorem nm_sl182 : Cond.selects (am_y nm_m182).cls (am_y nm_m182) (am_y nm_m182) ∈ nm_Tg := (nm_se6 (n := 65) (List.mem_of_getElem? (i := 13) rfl))
theorem nm_im183 : Cond.instanceMethod (am_y nm_m183) ∈ nm_Tg := (nm_in6 (List.mem_of_getElem? (i := 97) rfl) rfl)
theorem nm_sl183 : Cond.selects (am_y nm_m183).cls (am_y nm_m183) (am_y nm_m183) ∈ nm_Tg := (nm_se6 (n := 65) (List.mem_of_getElem? (i := 14) rfl))
theorem nm_im184 : Cond.instanceMethod (am_y nm_m184) ∈ nm_Tg := (nm_in6 (List.mem_of_getElem? (i := 101) rfl) rfl)
theorem nm_sl184 : Cond.selects (am_y nm_m184).cls (am_y nm_m184) (am_y nm_m184) ∈ nm_Tg := (nm_se6 (n := 65) (List.mem_of_getElem? (i := 15) rfl))
theorem nm_im185 : Cond.instanceMethod (am_y nm_m185) ∈ nm_Tg := (nm_in6 (List.mem_of_getElem? (i := 105) rfl) rfl)
theorem nm_sl185 : Cond.selects (am_y nm_m185).cls (am_y nm_m185) (am_y nm_m185) ∈ nm_Tg := (nm_se7 (n := 65) (List.mem_of_getElem? (i := 0) rfl))
theorem nm_im186 : Cond.instanceMethod (am_y nm_m186) ∈ nm_Tg := (nm_in6 (List.mem_of_getElem? (i := 109) rfl) rfl)
theorem nm_sl186 : Cond.selects (am_y nm_m186).cls (am_y nm_m186) (am_y nm_m186) ∈ nm_Tg := (nm_se7 (n := 65) (List.mem_of_getElem? (i := 1) rfl))
theorem nm_im187 : Cond.instanceMethod (am_y nm_m187) ∈ nm_Tg := (nm_in6 (List.mem_of_getElem? (i := 113) rfl) rfl)
theorem nm_sl187 : Cond.selects (am_y nm_m187).cls (am_y nm_m187) (am_y nm_m187) ∈ nm_Tg := (nm_se7 (n := 65) (List.mem_of_getElem? (i := 2) rfl))
theorem nm_im188 : Cond.instanceMethod (am_y nm_m188) ∈ nm_Tg := (nm_in6 (List.mem_of_getElem? (i := 117) rfl) rfl)
theorem nm_sl188 : Cond.selects (am_y nm_m188).cls (am_y nm_m188) (am_y nm_m188) ∈ nm_Tg := (nm_se7 (n := 65) (List.mem_of_getElem? (i := 3) rfl))
theorem nm_im189 : Cond.instanceMethod (am_y nm_m189) ∈ nm_Tg := (nm_in6 (List.mem_of_getElem? (i := 121) rfl) rfl)
theorem nm_sl189 : Cond.selects (am_y nm_m189).cls (am_y nm_m189) (am_y nm_m189) ∈ nm_Tg := (nm_se7 (n := 65) (List.mem_of_getElem? (i := 4) rfl))
theorem nm_im190 : Cond.instanceMethod (am_y nm_m190) ∈ nm_Tg := (nm_in6 (List.mem_of_getElem? (i := 125) rfl) rfl)
theorem nm_sl190 : Cond.selects (am_y nm_m190).cls (am_y nm_m190) (am_y nm_m190) ∈ nm_Tg := (nm_se7 (n := 65) (List.mem_of_getElem? (i := 5) rfl))
theorem nm_im191 : Cond.instanceMethod (am_y nm_m191) ∈ nm_Tg := (nm_in6 (List.mem_of_getElem? (i := 129) rfl) rfl)
theorem nm_sl191 : Cond.selects (am_y nm_m191).cls (am_y nm_m191) (am_y nm_m191) ∈ nm_Tg := (nm_se7 (n := 65) (List.mem_of_getElem? (i := 6) rfl))
theorem nm_im192 : Cond.instanceMethod (am_y nm_m192) ∈ nm_Tg := (nm_in6 (List.mem_of_getElem? (i := 133) rfl) rfl)
theorem nm_sl192 : Cond.selects (am_y nm_m192).cls (am_y nm_m192) (am_y nm_m192) ∈ nm_Tg := (nm_se7 (n := 65) (List.mem_of_getElem? (i := 7) rfl))
theorem nm_im193 : Cond.instanceMethod (am_y nm_m193) ∈ nm_Tg := (nm_in6 (List.mem_of_getElem? (i := 137) rfl) rfl)
theorem nm_sl193 : Cond.selects (am_y nm_m193).cls (am_y nm_m193) (am_y nm_m193) ∈ nm_Tg := (nm_se7 (n := 65) (List.mem_of_getElem? (i := 8) rfl))
theorem nm_im194 : Cond.instanceMethod (am_y nm_m194) ∈ nm_Tg := (nm_in6 (List.mem_of_getElem? (i := 141) rfl) rfl)
theorem nm_sl194 : Cond.selects (am_y nm_m194).cls (am_y nm_m194) (am_y nm_m194) ∈ nm_Tg := (nm_se7 (n := 65) (List.mem_of_getElem? (i := 9) rfl))
theorem nm_im195 : Cond.instanceMethod (am_y nm_m195) ∈ nm_Tg := (nm_in6 (List.mem_of_getElem? (i := 145) rfl) rfl)
theorem nm_sl195 : Cond.selects (am_y nm_m195).cls (am_y nm_m195) (am_y nm_m195) ∈ nm_Tg := (nm_se7 (n := 65) (List.mem_of_getElem? (i := 10) rfl))
theorem nm_im196 : Cond.instanceMethod (am_y nm_m196) ∈ nm_Tg := (nm_in6 (List.mem_of_getElem? (i := 149) rfl) rfl)
theorem nm_sl196 : Cond.selects (am_y nm_m196).cls (am_y nm_m196) (am_y nm_m196) ∈ nm_Tg := (nm_se7 (n := 65) (List.mem_of_getElem? (i := 11) rfl))
theorem nm_im197 : Cond.instanceMethod (am_y nm_m197) ∈ nm_Tg := (nm_in6 (List.mem_of_getElem? (i := 153) rfl) rfl)
theorem nm_sl197 : Cond.selects (am_y nm_m197).cls (am_y nm_m197) (am_y nm_m197) ∈ nm_Tg := (nm_se7 (n := 65) (List.mem_of_getElem? (i := 12) rfl))
theorem nm_im198 : Cond.instanceMethod (am_y nm_m198) ∈ nm_Tg := (nm_in6 (List.mem_of_getElem? (i := 157) rfl) rfl)
theorem nm_sl198 : Cond.selects (am_y nm_m198).cls (am_y nm_m198) (am_y nm_m198) ∈ nm_Tg := (nm_se7 (n := 65) (List.mem_of_getElem? (i := 13) rfl))
theorem nm_im199 : Cond.instanceMethod (am_y nm_m199) ∈ nm_Tg := (nm_in6 (List.mem_of_getElem? (i := 161) rfl) rfl)
theorem nm_sl199 : Cond.selects (am_y nm_m199).cls (am_y nm_m199) (am_y nm_m199) ∈ nm_Tg := (nm_se7 (n := 65) (List.mem_of_getElem? (i := 14) rfl))
theorem nm_im200 : Cond.instanceMethod (am_y nm_m200) ∈ nm_Tg := (nm_in6 (List.mem_of_getElem? (i := 165) rfl) rfl)
theorem nm_sl200 : Cond.selects (am_y nm_m200).cls (am_y nm_m200) (am_y nm_m200) ∈ nm_Tg := (nm_se7 (n := 65) (List.mem_of_getElem? (i := 15) rfl))
theorem nm_im201 : Cond.instanceMethod (am_y nm_m201) ∈ nm_Tg := (nm_in6 (List.mem_of_getElem? (i := 169) rfl) rfl)
theorem nm_sl201 : Cond.selects (am_y nm_m201).cls (am_y nm_m201) (am_y nm_m201) ∈ nm_Tg := (nm_se8 (n := 65) (List.mem_of_getElem? (i := 0) rfl))
theorem nm_im202 : Cond.instanceMethod (am_y nm_m202) ∈ nm_Tg := (nm_in6 (List.mem_of_getElem? (i := 173) rfl) rfl)
theorem nm_sl202 : Cond.selects (am_y nm_m202).cls (am_y nm_m202) (am_y nm_m202) ∈ nm_Tg := (nm_se8 (n := 65) (List.mem_of_getElem? (i := 1) rfl))
theorem nm_im203 : Cond.instanceMethod (am_y nm_m203) ∈ nm_Tg := (nm_in6 (List.mem_of_getElem? (i := 177) rfl) rfl)
theorem nm_sl203 : Cond.selects (am_y nm_m203).cls (am_y nm_m203) (am_y nm_m203) ∈ nm_Tg := (nm_se8 (n := 65) (List.mem_of_getElem? (i := 2) rfl))
theorem nm_im204 : Cond.instanceMethod (am_y nm_m204) ∈ nm_Tg := (nm_in6 (List.mem_of_getElem? (i := 181) rfl) rfl)
theorem nm_sl204 : Cond.selects (am_y nm_m204).cls (am_y nm_m204) (am_y nm_m204) ∈ nm_Tg := (nm_se8 (n := 65) (List.mem_of_getElem? (i := 3) rfl))
theorem nm_im205 : Cond.instanceMethod (am_y nm_m205) ∈ nm_Tg := (nm_in6 (List.mem_of_getElem? (i := 185) rfl) rfl)
theorem nm_sl205 : Cond.selects (am_y nm_m205).cls (am_y nm_m205) (am_y nm_m205) ∈ nm_Tg := (nm_se8 (n := 65) (List.mem_of_getElem? (i := 4) rfl))
theorem nm_im206 : Cond.instanceMethod (am_y nm_m206) ∈ nm_Tg := (nm_in6 (List.mem_of_getElem? (i := 189) rfl) rfl)
theorem nm_sl206 : Cond.selects (am_y nm_m206).cls (am_y nm_m206) (am_y nm_m206) ∈ nm_Tg := (nm_se8 (n := 65) (List.mem_of_getElem? (i := 5) rfl))
theorem nm_im207 : Cond.instanceMethod (am_y nm_m207) ∈ nm_Tg := (nm_in6 (List.mem_of_getElem? (i := 193) rfl) rfl)
theorem nm_sl207 : Cond.selects (am_y nm_m207).cls (am_y nm_m207) (am_y nm_m207) ∈ nm_Tg := (nm_se8 (n := 65) (List.mem_of_getElem? (i := 6) rfl))
theorem nm_im208 : Cond.instanceMethod (am_y nm_m208) ∈ nm_Tg := (nm_in6 (List.mem_of_getElem? (i := 197) rfl) rfl)
theorem nm_sl208 : Cond.selects (am_y nm_m208).cls (am_y nm_m208) (am_y nm_m208) ∈ nm_Tg := (nm_se8 (n := 65) (List.mem_of_getElem? (i := 7) rfl))
theorem nm_im209 : Cond.instanceMethod (am_y nm_m209) ∈ nm_Tg := (nm_in6 (List.mem_of_getElem? (i := 201) rfl) rfl)
theorem nm_sl209 : Cond.selects (am_y nm_m209).cls (am_y nm_m209) (am_y nm_m209) ∈ nm_Tg := (nm_se8 (n := 65) (List.mem_of_getElem? (i := 8) rfl))
theorem nm_im210 : Cond.instanceMethod (am_y nm_m210) ∈ nm_Tg := (nm_in6 (List.mem_of_getElem? (i := 205) rfl) rfl)
theorem nm_sl210 : Cond.selects (am_y nm_m210).cls (am_y nm_m210) (am_y nm_m210) ∈ nm_Tg := (nm_se8 (n := 65) (List.mem_of_getElem? (i := 9) rfl))
theorem nm_im211 : Cond.instanceMethod (am_y nm_m211) ∈ nm_Tg := (nm_in6 (List.mem_of_getElem? (i := 209) rfl) rfl)
theorem nm_sl211 : Cond.selects (am_y nm_m211).cls (am_y nm_m211) (am_y nm_m211) ∈ nm_Tg := (nm_se8 (n := 65) (List.mem_of_getElem? (i := 10) rfl))
theorem nm_im212 : Cond.instanceMethod (am_y nm_m212) ∈ nm_Tg := (nm_in6 (List.mem_of_getElem? (i := 213) rfl) rfl)
theorem nm_sl212 : Cond.selects (am_y nm_m212).cls (am_y nm_m212) (am_y nm_m212) ∈ nm_Tg := (nm_se8 (n := 65) (List.mem_of_getElem? (i := 11) rfl))
theorem nm_im213 : Cond.instanceMethod (am_y nm_m213) ∈ nm_Tg := (nm_in6 (List.mem_of_getElem? (i := 217) rfl) rfl)
theorem nm_sl213 : Cond.selects (am_y nm_m213).cls (am_y nm_m213) (am_y nm_m213) ∈ nm_Tg := (nm_se8 (n := 65) (List.mem_of_getElem? (i := 12) rfl))
theorem nm_im214 : Cond.instanceMethod (am_y nm_m214) ∈ nm_Tg := (nm_in6 (List.mem_of_getElem? (i := 221) rfl) rfl)
theorem nm_sl214 : Cond.selects (am_y nm_m214).cls (am_y nm_m214) (am_y nm_m214) ∈ nm_Tg := (nm_se8 (n := 65) (List.mem_of_getElem? (i := 13) rfl))
theorem nm_im215 : Cond.instanceMethod (am_y nm_m215) ∈ nm_Tg := (nm_in6 (List.mem_of_getElem? (i := 225) rfl) rfl)
theorem nm_sl215 : Cond.selects (am_y nm_m215).cls (am_y nm_m215) (am_y nm_m215) ∈ nm_Tg := (nm_se8 (n := 65) (List.mem_of_getElem? (i := 14) rfl))
theorem nm_im216 : Cond.instanceMethod (am_y nm_m216) ∈ nm_Tg := (nm_in6 (List.mem_of_getElem? (i := 229) rfl) rfl)
theorem nm_sl216 : Cond.selects (am_y nm_m216).cls (am_y nm_m216) (am_y nm_m216) ∈ nm_Tg := (nm_se8 (n := 65) (List.mem_of_getElem? (i := 15) rfl))
theorem nm_im217 : Cond.instanceMethod (am_y nm_m217) ∈ nm_Tg := (nm_in6 (List.mem_of_getElem? (i := 233) rfl) rfl)
theorem nm_sl217 : Cond.selects (am_y nm_m217).cls (am_y nm_m217) (am_y nm_m217) ∈ nm_Tg := (nm_se9 (n := 65) (List.mem_of_getElem? (i := 0) rfl))
theorem nm_im218 : Cond.instanceMethod (am_y nm_m218) ∈ nm_Tg := (nm_in6 (List.mem_of_getElem? (i := 237) rfl) rfl)
theorem nm_sl218 : Cond.selects (am_y nm_m218).cls (am_y nm_m218) (am_y nm_m218) ∈ nm_Tg := (nm_se9 (n := 65) (List.mem_of_getElem? (i := 1) rfl))
theorem nm_im219 : Cond.instanceMethod (am_y nm_m219) ∈ nm_Tg := (nm_in7 (List.mem_of_getElem? (i := 1) rfl) rfl)
theorem nm_sl219 : Cond.selects (am_y nm_m219).cls (am_y nm_m219) (am_y nm_m219) ∈ nm_Tg := (nm_se9 (n := 65) (List.mem_of_getElem? (i := 2) rfl))
theorem nm_im220 : Cond.instanceMethod (am_y nm_m220) ∈ nm_Tg := (nm_in7 (List.mem_of_getElem? (i := 5) rfl) rfl)
theorem nm_sl220 : Cond.selects (am_y nm_m220).cls (am_y nm_m220) (am_y nm_m220) ∈ nm_Tg := (nm_se9 (n := 65) (List.mem_of_getElem? (i := 3) rfl))
theorem nm_im221 : Cond.instanceMethod (am_y nm_m221) ∈ nm_Tg := (nm_in7 (List.mem_of_getElem? (i := 9) rfl) rfl)
theorem nm_sl221 : Cond.selects (am_y nm_m221).cls (am_y nm_m221) (am_y nm_m221) ∈ nm_Tg := (nm_se9 (n := 65) (List.mem_of_getElem? (i := 4) rfl))
theorem nm_im222 : Cond.instanceMethod (am_y nm_m222) ∈ nm_Tg := (nm_in7 (List.mem_of_getElem? (i := 13) rfl) rfl)
theorem nm_sl222 : Cond.selects (am_y nm_m222).cls (am_y nm_m222) (am_y nm_m222) ∈ nm_Tg := (nm_se9 (n := 65) (List.mem_of_getElem? (i := 5) rfl))
theorem nm_im223 : Cond.instanceMethod (am_y nm_m223) ∈ nm_Tg := (nm_in7 (List.mem_of_getElem? (i := 17) rfl) rfl)
theorem nm_sl223 : Cond.selects (am_y nm_m223).cls (am_y nm_m223) (am_y nm_m223) ∈ nm_Tg := (nm_se9 (n := 65) (List.mem_of_getElem? (i := 6) rfl))
theorem nm_im224 : Cond.instanceMethod (am_y nm_m224) ∈ nm_Tg := (nm_in7 (List.mem_of_getElem? (i := 21) rfl) rfl)
theorem nm_sl224 : Cond.selects (am_y nm_m224).cls (am_y nm_m224) (am_y nm_m224) ∈ nm_Tg := (nm_se9 (n := 65) (List.mem_of_getElem? (i := 7) rfl))
theorem nm_im225 : Cond.instanceMethod (am_y nm_m225) ∈ nm_Tg := (nm_in7 (List.mem_of_getElem? (i := 25) rfl) rfl)
theorem nm_sl225 : Cond.selects (am_y nm_m225).cls (am_y nm_m225) (am_y nm_m225) ∈ nm_Tg := (nm_se9 (n := 65) (List.mem_of_getElem? (i := 8) rfl))
theorem nm_im226 : Cond.instanceMethod (am_y nm_m226) ∈ nm_Tg := (nm_in7 (List.mem_of_getElem? (i := 29) rfl) rfl)
theorem nm_sl226 : Cond.selects (am_y nm_m226).cls (am_y nm_m226) (am_y nm_m226) ∈ nm_Tg := (nm_se9 (n := 65) (List.mem_of_getElem? (i := 9) rfl))
theorem nm_im227 : Cond.instanceMethod (am_y nm_m227) ∈ nm_Tg := (nm_in7 (List.mem_of_getElem? (i := 32) rfl) rfl)
theorem nm_sl227 : Cond.selects (am_y nm_m227).cls (am_y nm_m227) (am_y nm_m227) ∈ nm_Tg := (nm_in7 (List.mem_of_getElem? (i := 33) rfl) rfl)
theorem nm_im229 : Cond.instanceMethod (am_y nm_m229) ∈ nm_Tg := (nm_in7 (List.mem_of_getElem? (i := 39) rfl) rfl)
theorem nm_sl229 : Cond.selects (am_y nm_m229).cls (am_y nm_m229) (am_y nm_m229) ∈ nm_Tg := (nm_in7 (List.mem_of_getElem? (i := 40) rfl) rfl)
theorem nm_im230 : Cond.instanceMethod (am_y nm_m230) ∈ nm_Tg := (nm_in7 (List.mem_of_getElem? (i := 43) rfl) rfl)
theorem nm_sl230 : Cond.selects (am_y nm_m230).cls (am_y nm_m230) (am_y nm_m230) ∈ nm_Tg := (nm_in7 (List.mem_of_getElem? (i := 44) rfl) rfl)
theorem nm_im231 : Cond.instanceMethod (am_y nm_m231) ∈ nm_Tg := (nm_in7 (List.mem_of_getElem? (i := 47) rfl) rfl)
theorem nm_sl231 : Cond.selects (am_y nm_m231).cls (am_y nm_m231) (am_y nm_m231) ∈ nm_Tg := (nm_in7 (List.mem_of_getElem? (i := 48) rfl) rfl)
theorem nm_im232 : Cond.instanceMethod (am_y nm_m232) ∈ nm_Tg := (nm_in7 (List.mem_of_getElem? (i := 51) rfl) rfl)
theorem nm_sl232 : Cond.selects (am_y nm_m232).cls (am_y nm_m232) (am_y nm_m232) ∈ nm_Tg := (nm_in7 (List.mem_of_getElem? (i := 52) rfl) rfl)
theorem nm_im233 : Cond.instanceMethod (am_y nm_m233) ∈ nm_Tg := (nm_in7 (List.mem_of_getElem? (i := 55) rfl) rfl)
theorem nm_sl233 : Cond.selects (am_y nm_m233).cls (am_y nm_m233) (am_y nm_m233) ∈ nm_Tg := (nm_in7 (List.mem_of_getElem? (i := 56) rfl) rfl)
theorem nm_im234 : Cond.instanceMethod (am_y nm_m234) ∈ nm_Tg := (nm_in7 (List.mem_of_getElem? (i := 59) rfl) rfl)
theorem nm_sl234 : Cond.selects (am_y nm_m234).cls (am_y nm_m234) (am_y nm_m234) ∈ nm_Tg := (nm_in7 (List.mem_of_getElem? (i := 60) rfl) rfl)
theorem nm_im1 : Cond.instanceMethod (am_y nm_m1) ∈ nm_Tg := (nm_in1 (List.mem_of_getElem? (i := 30) rfl) rfl)
theorem nm_im2 : Cond.instanceMethod (am_y nm_m2) ∈ nm_Tg := (nm_in1 (List.mem_of_getElem? (i := 62) rfl) rfl)
theorem nm_im8 : Cond.instanceMethod (am_y nm_m8) ∈ nm_Tg := (nm_in1 (List.mem_of_getElem? (i := 172) rfl) rfl)
def nm_ct_0 : List ((String × Nat) × (Nat × Nat)) := [(("CobolParserLaw", 15), (0, 1)), (("CobolParser", 1), (0, 5)), (("CobolParser$Row", 3), (0, 5)), (("CobolParser$Tree", 3), (0, 5)), (("CobolParser", 25), (3, 1)), (("CobolParser$Leaves", 3), (0, 5)), (("CobolParser", 32), (4, 1)), (("CobolParser$Expressions", 3), (0, 5)), (("CobolParser", 35), (5, 1)), (("CobolParser$Statements", 3), (0, 5)), (("CobolParser", 42), (6, 1)), (("CobolParser$Items", 3), (0, 5)), (("CobolParser", 43), (7, 1)), (("CobolParser$Clauses", 3), (0, 5)), (("CobolParser$Units", 3), (0, 5)), (("CobolParserLaw", 19), (9, 0)), (("CobolParser", 50), (10, 2)), (("CobolParser", 54), (11, 0)), (("CobolParser", 58), (12, 0)), (("CobolParser$Row", 37), (13, 2))]
theorem nm_ct_ok_0 : ∀ q ∈ nm_ct_0, nm_okC q := (nm_fc (nm_k1 (N := nm_m0) rfl nm_pm1 (nm_in1 (List.mem_of_getElem? (i := 21) rfl) rfl) nm_im0 rfl rfl rfl rfl) (nm_fc (⟨fun _ => ⟨(nm_in1 (List.mem_of_getElem? (i := 24) rfl) rfl), (nm_in1 (List.mem_of_getElem? (i := 25) rfl) rfl), (nm_in1 (List.mem_of_getElem? (i := 26) rfl) rfl)⟩, (by intro h; exact absurd h (by simp)), (by intro h; exact absurd h (by simp)), (by intro h; exact absurd h (by simp)), (by intro h; exact absurd h (by simp))⟩) (nm_fc (⟨fun _ => ⟨(nm_in1 (List.mem_of_getElem? (i := 32) rfl) rfl), (nm_in1 (List.mem_of_getElem? (i := 25) rfl) rfl), (nm_in1 (List.mem_of_getElem? (i := 26) rfl) rfl)⟩, (by intro h; exact absurd h (by simp)), (by intro h; exact absurd h (by simp)), (by intro h; exact absurd h (by simp)), (by intro h; exact absurd h (by simp))⟩) (nm_fc (⟨fun _ => ⟨(nm_in1 (List.mem_of_getElem? (i := 64) rfl) rfl), (nm_in1 (List.mem_of_getElem? (i := 25) rfl) rfl), (nm_in1 (List.mem_of_getElem? (i := 26) rfl) rfl)⟩, (by intro h; exact absurd h (by simp)), (by intro h; exact absurd h (by simp)), (by intro h; exact absurd h (by simp)), (by intro h; exact absurd h (by simp))⟩) (nm_fc (nm_k1 (N := nm_m3) rfl nm_pm16 (nm_in1 (List.mem_of_getElem? (i := 83) rfl) rfl) nm_im3 rfl rfl rfl rfl) (nm_fc (⟨fun _ => ⟨(nm_in1 (List.mem_of_getElem? (i := 86) rfl) rfl), (nm_in1 (List.mem_of_getElem? (i := 25) rfl) rfl), (nm_in1 (List.mem_of_getElem? (i := 26) rfl) rfl)⟩, (by intro h; exact absurd h (by simp)), (by intro h; exact absurd h (by simp)), (by intro h; exact absurd h (by simp)), (by intro h; exact absurd h (by simp))⟩) (nm_fc (nm_k1 (N := nm_m4) rfl nm_pm17 (nm_in1 (List.mem_of_getElem? (i := 98) rfl) rfl) nm_im4 rfl rfl rfl rfl) (nm_fc (⟨fun _ => ⟨(nm_in1 (List.mem_of_getElem? (i := 101) rfl) rfl), (nm_in1 (List.mem_of_getElem? (i := 25) rfl) rfl), (nm_in1 (List.mem_of_getElem? (i := 26) rfl) rfl)⟩, (by intro h; exact absurd h (by simp)), (by intro h; exact absurd h (by simp)), (by intro h; exact absurd h (by simp)), (by intro h; exact absurd h (by simp))⟩) (nm_fc (nm_k1 (N := nm_m5) rfl nm_pm18 (nm_in1 (List.mem_of_getElem? (i := 118) rfl) rfl) nm_im5 rfl rfl rfl rfl) (nm_fc (⟨fun _ => ⟨(nm_in1 (List.mem_of_getElem? (i := 121) rfl) rfl), (nm_in1 (List.mem_of_getElem? (i := 25) rfl) rfl), (nm_in1 (List.mem_of_getElem? (i := 26) rfl) rfl)⟩, (by intro h; exact absurd h (by simp)), (by intro h; exact absurd h (by simp)), (by intro h; exact absurd h (by simp)), (by intro h; exact absurd h (by simp))⟩) (nm_fc (nm_k1 (N := nm_m6) rfl nm_pm17 (nm_in1 (List.mem_of_getElem? (i := 139) rfl) rfl) nm_im6 rfl rfl rfl rfl) (nm_fc (⟨fun _ => ⟨(nm_in1 (List.mem_of_getElem? (i := 142) rfl) rfl), (nm_in1 (List.mem_of_getElem? (i := 25) rfl) rfl), (nm_in1 (List.mem_of_getElem? (i := 26) rfl) rfl)⟩, (by intro h; exact absurd h (by simp)), (by intro h; exact absurd h (by simp)), (by intro h; exact absurd h (by simp)), (by intro h; exact absurd h (by simp))⟩) (nm_fc (nm_k1 (N := nm_m7) rfl nm_pm19 (nm_in1 (List.mem_of_getElem? (i := 165) rfl) rfl) nm_im7 rfl rfl rfl rfl) (nm_fc (⟨fun _ => ⟨(nm_in1 (List.mem_of_getElem? (i := 168) rfl) rfl), (nm_in1 (List.mem_of_getElem? (i := 25) rfl) rfl), (nm_in1 (List.mem_of_getElem? (i := 26) rfl) rfl)⟩, (by intro h; exact absurd h (by simp)), (by intro h; exact absurd h (by simp)), (by intro h; exact absurd h (by simp)), (by intro h; exact absurd h (by simp))⟩) (nm_fc (⟨fun _ => ⟨(nm_in1 (List.mem_of_getElem? (i := 174) rfl) rfl), (nm_in1 (List.mem_of_getElem? (i := 25) rfl) rfl), (nm_in1 (List.mem_of_getElem? (i := 26) rfl) rfl)⟩, (by intro h; exact absurd h (by simp)), (by intro h; exact absurd h (by simp)), (by intro h; exact absurd h (by simp)), (by intro h; exact absurd h (by simp))⟩) (nm_fc (nm_k0 (N := nm_m9) rfl nm_pm6 (nm_in1 (List.mem_of_getElem? (i := 232) rfl) rfl) nm_im9 nm_sl9 rfl) (nm_fc (nm_k2 (N := nm_m10) rfl nm_pm8 (nm_in1 (List.mem_of_getElem? (i := 236) rfl) rfl) (nm_in1 (List.mem_of_getElem? (i := 237) rfl) rfl) rfl) (nm_fc (nm_k0 (N := nm_m11) rfl nm_pm2 (nm_in2 (List.mem_of_getElem? (i := 0) rfl) rfl) nm_im11 nm_sl11 rfl) (nm_fc (nm_k0 (N := nm_m12) rfl nm_pm6 (nm_in2 (List.mem_of_getElem? (i := 4) rfl) rfl) nm_im12 nm_sl12 rfl) (nm_fc (nm_k2 (N := nm_m13) rfl nm_pm22 (nm_in2 (List.mem_of_getElem? (i := 8) rfl) rfl) (nm_in2 (List.mem_of_getElem? (i := 9) rfl) rfl) rfl) (fun _ h => nomatch h)))))))))))))))))))))
def nm_ct_1 : List ((String × Nat) × (Nat × Nat)) := [(("java/util/Arrays", 304), (0, 8)), (("java/util/Arrays", 150), (0, 6)), (("CobolParserLaw", 33), (14, 0)), (("CobolParser", 85), (15, 0)), (("CobolParser$Tree", 59), (16, 0)), (("CobolParser$Tree", 38), (17, 0)), (("CobolParser", 89), (18, 0)), (("CobolParser", 92), (19, 0)), (("CobolParser", 95), (20, 0)), (("CobolParser", 98), (21, 0)), (("CobolParser$Tree", 62), (22, 0)), (("CobolParser", 101), (23, 0)), (("CobolParser$Tree", 65), (15, 0)), (("CobolParserLaw", 37), (24, 0)), (("CobolParser", 104), (25, 0)), (("CobolParserLaw", 41), (26, 0)), (("CobolParser", 107), (27, 0)), (("CobolParserLaw", 45), (28, 0)), (("CobolParser", 110), (29, 0)), (("CobolParser", 113), (30, 0))]
theorem nm_ct_ok_1 : ∀ q ∈ nm_ct_1, nm_okC q := (nm_fc (⟨(by intro h; exact absurd h (by simp)), (by intro h; exact absurd h (by simp)), (by intro h; exact absurd h (by simp)), fun _ => ⟨(nm_in2 (List.mem_of_getElem? (i := 18) rfl) rfl), (nm_in2 (List.mem_of_getElem? (i := 19) rfl) rfl), (nm_in1 (List.mem_of_getElem? (i := 12) rfl) rfl), (nm_in2 (List.mem_of_getElem? (i := 20) rfl) rfl)⟩, (by intro h; exact absurd h (by simp))⟩) (nm_fc (⟨(by intro h; exact absurd h (by simp)), fun _ => ⟨(nm_in2 (List.mem_of_getElem? (i := 21) rfl) rfl), (nm_in2 (List.mem_of_getElem? (i := 23) rfl) rfl), (nm_in2 (List.mem_of_getElem? (i := 22) rfl) rfl), (nm_in1 (List.mem_of_getElem? (i := 13) rfl) rfl)⟩, (by intro h; exact absurd h (by simp)), (by intro h; exact absurd h (by simp)), (by intro h; exact absurd h (by simp))⟩) (nm_fc (nm_k0 (N := nm_m14) rfl nm_pm6 (nm_in2 (List.mem_of_getElem? (i := 24) rfl) rfl) nm_im14 nm_sl14 rfl) (nm_fc (nm_k0 (N := nm_m15) rfl nm_pm3 (nm_in2 (List.mem_of_getElem? (i := 28) rfl) rfl) nm_im15 nm_sl15 rfl) (nm_fc (nm_k0 (N := nm_m16) rfl nm_pm3 (nm_in2 (List.mem_of_getElem? (i := 32) rfl) rfl) nm_im16 nm_sl16 rfl) (nm_fc (nm_k0 (N := nm_m17) rfl nm_pm6 (nm_in2 (List.mem_of_getElem? (i := 36) rfl) rfl) nm_im17 nm_sl17 rfl) (nm_fc (nm_k0 (N := nm_m18) rfl nm_pm3 (nm_in2 (List.mem_of_getElem? (i := 40) rfl) rfl) nm_im18 nm_sl18 rfl) (nm_fc (nm_k0 (N := nm_m19) rfl nm_pm3 (nm_in2 (List.mem_of_getElem? (i := 44) rfl) rfl) nm_im19 nm_sl19 rfl) (nm_fc (nm_k0 (N := nm_m20) rfl nm_pm3 (nm_in2 (List.mem_of_getElem? (i := 48) rfl) rfl) nm_im20 nm_sl20 rfl) (nm_fc (nm_k0 (N := nm_m21) rfl nm_pm3 (nm_in2 (List.mem_of_getElem? (i := 52) rfl) rfl) nm_im21 nm_sl21 rfl) (nm_fc (nm_k0 (N := nm_m22) rfl nm_pm3 (nm_in2 (List.mem_of_getElem? (i := 56) rfl) rfl) nm_im22 nm_sl22 rfl) (nm_fc (nm_k0 (N := nm_m23) rfl nm_pm3 (nm_in2 (List.mem_of_getElem? (i := 60) rfl) rfl) nm_im23 nm_sl23 rfl) (nm_fc (nm_k0 (N := nm_m15) rfl nm_pm3 (nm_in2 (List.mem_of_getElem? (i := 64) rfl) rfl) nm_im15 nm_sl15 rfl) (nm_fc (nm_k0 (N := nm_m24) rfl nm_pm6 (nm_in2 (List.mem_of_getElem? (i := 65) rfl) rfl) nm_im24 nm_sl24 rfl) (nm_fc (nm_k0 (N := nm_m25) rfl nm_pm6 (nm_in2 (List.mem_of_getElem? (i := 69) rfl) rfl) nm_im25 nm_sl25 rfl) (nm_fc (nm_k0 (N := nm_m26) rfl nm_pm0 (nm_in2 (List.mem_of_getElem? (i := 73) rfl) rfl) nm_im26 nm_sl26 rfl) (nm_fc (nm_k0 (N := nm_m27) rfl nm_pm0 (nm_in2 (List.mem_of_getElem? (i := 77) rfl) rfl) nm_im27 nm_sl27 rfl) (nm_fc (nm_k0 (N := nm_m28) rfl nm_pm6 (nm_in2 (List.mem_of_getElem? (i := 81) rfl) rfl) nm_im28 nm_sl28 rfl) (nm_fc (nm_k0 (N := nm_m29) rfl nm_pm3 (nm_in2 (List.mem_of_getElem? (i := 85) rfl) rfl) nm_im29 nm_sl29 rfl) (nm_fc (nm_k0 (N := nm_m30) rfl nm_pm3 (nm_in2 (List.mem_of_getElem? (i := 89) rfl) rfl) nm_im30 nm_sl30 rfl) (fun _ h => nomatch h)))))))))))))))))))))
def nm_ct_2 : List ((String × Nat) × (Nat × Nat)) := [(("CobolParserLaw", 49), (31, 0)), (("CobolParser", 116), (32, 0)), (("CobolParser$Tree", 51), (33, 0)), (("CobolParser", 121), (34, 0)), (("CobolParserLaw", 53), (35, 0)), (("CobolParser", 124), (36, 0)), (("CobolParserLaw", 57), (37, 0)), (("CobolParser", 127), (38, 0)), (("CobolParser", 130), (39, 0)), (("CobolParser", 133), (40, 0)), (("CobolParserLaw", 24), (41, 2)), (("CobolParserLaw", 7), (42, 0)), (("CobolParser", 62), (43, 0)), (("CobolParser", 65), (44, 0)), (("CobolParser$Tree", 28), (45, 0)), (("CobolParser$Tree", 32), (13, 2)), (("CobolParser", 66), (46, 0)), (("CobolParser$Clauses", 51), (47, 0)), (("CobolParser", 67), (48, 0)), (("CobolParser", 70), (49, 0))]
theorem nm_ct_ok_2 : ∀ q ∈ nm_ct_2, nm_okC q := (nm_fc (nm_k0 (N := nm_m31) rfl nm_pm6 (nm_in2 (List.mem_of_getElem? (i := 93) rfl) rfl) nm_im31 nm_sl31 rfl) (nm_fc (nm_k0 (N := nm_m32) rfl nm_pm3 (nm_in2 (List.mem_of_getElem? (i := 97) rfl) rfl) nm_im32 nm_sl32 rfl) (nm_fc (nm_k0 (N := nm_m33) rfl nm_pm5 (nm_in2 (List.mem_of_getElem? (i := 101) rfl) rfl) nm_im33 nm_sl33 rfl) (nm_fc (nm_k0 (N := nm_m34) rfl nm_pm6 (nm_in2 (List.mem_of_getElem? (i := 105) rfl) rfl) nm_im34 nm_sl34 rfl) (nm_fc (nm_k0 (N := nm_m35) rfl nm_pm0 (nm_in2 (List.mem_of_getElem? (i := 109) rfl) rfl) nm_im35 nm_sl35 rfl) (nm_fc (nm_k0 (N := nm_m36) rfl nm_pm0 (nm_in2 (List.mem_of_getElem? (i := 113) rfl) rfl) nm_im36 nm_sl36 rfl) (nm_fc (nm_k0 (N := nm_m37) rfl nm_pm3 (nm_in2 (List.mem_of_getElem? (i := 117) rfl) rfl) nm_im37 nm_sl37 rfl) (nm_fc (nm_k0 (N := nm_m38) rfl nm_pm0 (nm_in2 (List.mem_of_getElem? (i := 121) rfl) rfl) nm_im38 nm_sl38 rfl) (nm_fc (nm_k0 (N := nm_m39) rfl nm_pm0 (nm_in2 (List.mem_of_getElem? (i := 125) rfl) rfl) nm_im39 nm_sl39 rfl) (nm_fc (nm_k0 (N := nm_m40) rfl nm_pm0 (nm_in2 (List.mem_of_getElem? (i := 129) rfl) rfl) nm_im40 nm_sl40 rfl) (nm_fc (nm_k2 (N := nm_m41) rfl nm_pm20 (nm_in2 (List.mem_of_getElem? (i := 133) rfl) rfl) (nm_in2 (List.mem_of_getElem? (i := 134) rfl) rfl) rfl) (nm_fc (nm_k0 (N := nm_m42) rfl nm_pm0 (nm_in2 (List.mem_of_getElem? (i := 137) rfl) rfl) nm_im42 nm_sl42 rfl) (nm_fc (nm_k0 (N := nm_m43) rfl nm_pm1 (nm_in2 (List.mem_of_getElem? (i := 142) rfl) rfl) nm_im43 nm_sl43 rfl) (nm_fc (nm_k0 (N := nm_m44) rfl nm_pm1 (nm_in2 (List.mem_of_getElem? (i := 146) rfl) rfl) nm_im44 nm_sl44 rfl) (nm_fc (nm_k0 (N := nm_m45) rfl nm_pm9 (nm_in2 (List.mem_of_getElem? (i := 150) rfl) rfl) nm_im45 nm_sl45 rfl) (nm_fc (nm_k2 (N := nm_m13) rfl nm_pm22 (nm_in2 (List.mem_of_getElem? (i := 154) rfl) rfl) (nm_in2 (List.mem_of_getElem? (i := 9) rfl) rfl) rfl) (nm_fc (nm_k0 (N := nm_m46) rfl nm_pm1 (nm_in2 (List.mem_of_getElem? (i := 155) rfl) rfl) nm_im46 nm_sl46 rfl) (nm_fc (nm_k0 (N := nm_m47) rfl nm_pm1 (nm_in2 (List.mem_of_getElem? (i := 159) rfl) rfl) nm_im47 nm_sl47 rfl) (nm_fc (nm_k0 (N := nm_m48) rfl nm_pm2 (nm_in2 (List.mem_of_getElem? (i := 163) rfl) rfl) nm_im48 nm_sl48 rfl) (nm_fc (nm_k0 (N := nm_m49) rfl nm_pm1 (nm_in2 (List.mem_of_getElem? (i := 167) rfl) rfl) nm_im49 nm_sl49 rfl) (fun _ h => nomatch h)))))))))))))))))))))
def nm_ct_3 : List ((String × Nat) × (Nat × Nat)) := [(("CobolParser$Clauses", 70), (50, 0)), (("CobolParser$Clauses", 74), (51, 0)), (("CobolParser$Clauses", 194), (52, 0)), (("CobolParser$Clauses", 77), (53, 0)), (("CobolParser$Clauses", 54), (54, 0)), (("CobolParser$Clauses", 112), (55, 0)), (("CobolParser$Clauses", 97), (56, 0)), (("CobolParser$Clauses", 222), (57, 0)), (("CobolParser$Clauses", 61), (58, 0)), (("CobolParser$Clauses", 160), (59, 0)), (("CobolParser$Row", 60), (50, 0)), (("CobolParser$Row", 49), (56, 0)), (("CobolParser$Row", 63), (60, 0)), (("CobolParser$Row", 57), (61, 0)), (("CobolParser$Clauses", 149), (45, 0)), (("CobolParser$Clauses", 186), (62, 0)), (("CobolParser$Clauses", 164), (63, 0)), (("CobolParser$Clauses", 225), (64, 0)), (("CobolParser$Clauses", 125), (65, 0)), (("CobolParser$Clauses", 80), (66, 0))]
theorem nm_ct_ok_3 : ∀ q ∈ nm_ct_3, nm_okC q := (nm_fc (nm_k0 (N := nm_m50) rfl nm_pm5 (nm_in2 (List.mem_of_getElem? (i := 171) rfl) rfl) nm_im50 nm_sl50 rfl) (nm_fc (nm_k0 (N := nm_m51) rfl nm_pm1 (nm_in2 (List.mem_of_getElem? (i := 175) rfl) rfl) nm_im51 nm_sl51 rfl) (nm_fc (nm_k0 (N := nm_m52) rfl nm_pm8 (nm_in2 (List.mem_of_getElem? (i := 179) rfl) rfl) nm_im52 nm_sl52 rfl) (nm_fc (nm_k0 (N := nm_m53) rfl nm_pm7 (nm_in2 (List.mem_of_getElem? (i := 183) rfl) rfl) nm_im53 nm_sl53 rfl) (nm_fc (nm_k0 (N := nm_m54) rfl nm_pm0 (nm_in2 (List.mem_of_getElem? (i := 187) rfl) rfl) nm_im54 nm_sl54 rfl) (nm_fc (nm_k0 (N := nm_m55) rfl nm_pm21 (nm_in2 (List.mem_of_getElem? (i := 191) rfl) rfl) nm_im55 nm_sl55 rfl) (nm_fc (nm_k0 (N := nm_m56) rfl nm_pm4 (nm_in2 (List.mem_of_getElem? (i := 195) rfl) rfl) nm_im56 nm_sl56 rfl) (nm_fc (nm_k0 (N := nm_m57) rfl nm_pm2 (nm_in3 (List.mem_of_getElem? (i := 26) rfl) rfl) nm_im57 nm_sl57 rfl) (nm_fc (nm_k0 (N := nm_m58) rfl nm_pm0 (nm_in3 (List.mem_of_getElem? (i := 30) rfl) rfl) nm_im58 nm_sl58 rfl) (nm_fc (nm_k0 (N := nm_m59) rfl nm_pm3 (nm_in3 (List.mem_of_getElem? (i := 34) rfl) rfl) nm_im59 nm_sl59 rfl) (nm_fc (nm_k0 (N := nm_m50) rfl nm_pm5 (nm_in3 (List.mem_of_getElem? (i := 38) rfl) rfl) nm_im50 nm_sl50 rfl) (nm_fc (nm_k0 (N := nm_m56) rfl nm_pm4 (nm_in3 (List.mem_of_getElem? (i := 39) rfl) rfl) nm_im56 nm_sl56 rfl) (nm_fc (nm_k0 (N := nm_m60) rfl nm_pm0 (nm_in3 (List.mem_of_getElem? (i := 40) rfl) rfl) nm_im60 nm_sl60 rfl) (nm_fc (nm_k0 (N := nm_m61) rfl nm_pm1 (nm_in3 (List.mem_of_getElem? (i := 44) rfl) rfl) nm_im61 nm_sl61 rfl) (nm_fc (nm_k0 (N := nm_m45) rfl nm_pm9 (nm_in3 (List.mem_of_getElem? (i := 48) rfl) rfl) nm_im45 nm_sl45 rfl) (nm_fc (nm_k0 (N := nm_m62) rfl nm_pm5 (nm_in3 (List.mem_of_getElem? (i := 49) rfl) rfl) nm_im62 nm_sl62 rfl) (nm_fc (nm_k0 (N := nm_m63) rfl nm_pm7 (nm_in3 (List.mem_of_getElem? (i := 53) rfl) rfl) nm_im63 nm_sl63 rfl) (nm_fc (nm_k0 (N := nm_m64) rfl nm_pm1 (nm_in3 (List.mem_of_getElem? (i := 57) rfl) rfl) nm_im64 nm_sl64 rfl) (nm_fc (nm_k0 (N := nm_m65) rfl nm_pm4 (nm_in3 (List.mem_of_getElem? (i := 61) rfl) rfl) nm_im65 nm_sl65 rfl) (nm_fc (nm_k0 (N := nm_m66) rfl nm_pm1 (nm_in3 (List.mem_of_getElem? (i := 65) rfl) rfl) nm_im66 nm_sl66 rfl) (fun _ h => nomatch h)))))))))))))))))))))
def nm_ct_4 : List ((String × Nat) × (Nat × Nat)) := [(("CobolParser$Items", 37), (60, 0)), (("CobolParser$Items", 43), (67, 0)), (("CobolParser$Items", 47), (56, 0)), (("CobolParser$Items", 53), (58, 0)), (("CobolParser$Items", 56), (45, 0)), (("CobolParser$Items", 62), (61, 0)), (("CobolParser$Items", 65), (68, 0)), (("CobolParser$Items", 72), (50, 0)), (("CobolParser$Items", 79), (59, 0)), (("CobolParser$Items", 90), (62, 0)), (("CobolParser$Items", 68), (69, 0)), (("CobolParser$Items", 76), (70, 0)), (("CobolParser$Items", 93), (71, 0)), (("CobolParser$Items", 108), (72, 0)), (("CobolParser$Items", 84), (63, 0)), (("CobolParser$Items", 96), (73, 0)), (("CobolParser$Items", 112), (74, 0)), (("CobolParser$Items", 115), (75, 0)), (("CobolParser$Leaves", 19), (76, 0)), (("CobolParser$Leaves", 25), (56, 0))]
theorem nm_ct_ok_4 : ∀ q ∈ nm_ct_4, nm_okC q := (nm_fc (nm_k0 (N := nm_m60) rfl nm_pm0 (nm_in3 (List.mem_of_getElem? (i := 69) rfl) rfl) nm_im60 nm_sl60 rfl) (nm_fc (nm_k0 (N := nm_m67) rfl nm_pm3 (nm_in3 (List.mem_of_getElem? (i := 70) rfl) rfl) nm_im67 nm_sl67 rfl) (nm_fc (nm_k0 (N := nm_m56) rfl nm_pm4 (nm_in3 (List.mem_of_getElem? (i := 74) rfl) rfl) nm_im56 nm_sl56 rfl) (nm_fc (nm_k0 (N := nm_m58) rfl nm_pm0 (nm_in3 (List.mem_of_getElem? (i := 75) rfl) rfl) nm_im58 nm_sl58 rfl) (nm_fc (nm_k0 (N := nm_m45) rfl nm_pm9 (nm_in3 (List.mem_of_getElem? (i := 76) rfl) rfl) nm_im45 nm_sl45 rfl) (nm_fc (nm_k0 (N := nm_m61) rfl nm_pm1 (nm_in3 (List.mem_of_getElem? (i := 77) rfl) rfl) nm_im61 nm_sl61 rfl) (nm_fc (nm_k0 (N := nm_m68) rfl nm_pm0 (nm_in3 (List.mem_of_getElem? (i := 78) rfl) rfl) nm_im68 nm_sl68 rfl) (nm_fc (nm_k0 (N := nm_m50) rfl nm_pm5 (nm_in3 (List.mem_of_getElem? (i := 82) rfl) rfl) nm_im50 nm_sl50 rfl) (nm_fc (nm_k0 (N := nm_m59) rfl nm_pm3 (nm_in3 (List.mem_of_getElem? (i := 83) rfl) rfl) nm_im59 nm_sl59 rfl) (nm_fc (nm_k0 (N := nm_m62) rfl nm_pm5 (nm_in3 (List.mem_of_getElem? (i := 84) rfl) rfl) nm_im62 nm_sl62 rfl) (nm_fc (nm_k0 (N := nm_m69) rfl nm_pm10 (nm_in3 (List.mem_of_getElem? (i := 85) rfl) rfl) nm_im69 nm_sl69 rfl) (nm_fc (nm_k0 (N := nm_m70) rfl nm_pm4 (nm_in3 (List.mem_of_getElem? (i := 89) rfl) rfl) nm_im70 nm_sl70 rfl) (nm_fc (nm_k0 (N := nm_m71) rfl nm_pm4 (nm_in3 (List.mem_of_getElem? (i := 93) rfl) rfl) nm_im71 nm_sl71 rfl) (nm_fc (nm_k0 (N := nm_m72) rfl nm_pm6 (nm_in3 (List.mem_of_getElem? (i := 97) rfl) rfl) nm_im72 nm_sl72 rfl) (nm_fc (nm_k0 (N := nm_m63) rfl nm_pm7 (nm_in3 (List.mem_of_getElem? (i := 101) rfl) rfl) nm_im63 nm_sl63 rfl) (nm_fc (nm_k0 (N := nm_m73) rfl nm_pm4 (nm_in3 (List.mem_of_getElem? (i := 102) rfl) rfl) nm_im73 nm_sl73 rfl) (nm_fc (nm_k0 (N := nm_m74) rfl nm_pm4 (nm_in3 (List.mem_of_getElem? (i := 106) rfl) rfl) nm_im74 nm_sl74 rfl) (nm_fc (nm_k0 (N := nm_m75) rfl nm_pm0 (nm_in3 (List.mem_of_getElem? (i := 110) rfl) rfl) nm_im75 nm_sl75 rfl) (nm_fc (nm_k0 (N := nm_m76) rfl nm_pm2 (nm_in3 (List.mem_of_getElem? (i := 114) rfl) rfl) nm_im76 nm_sl76 rfl) (nm_fc (nm_k0 (N := nm_m56) rfl nm_pm4 (nm_in3 (List.mem_of_getElem? (i := 118) rfl) rfl) nm_im56 nm_sl56 rfl) (fun _ h => nomatch h)))))))))))))))))))))
def nm_ct_5 : List ((String × Nat) × (Nat × Nat)) := [(("CobolParser$Leaves", 32), (77, 0)), (("CobolParser$Leaves", 36), (60, 0)), (("CobolParser$Leaves", 39), (58, 0)), (("CobolParser$Leaves", 42), (45, 0)), (("CobolParser$Leaves", 48), (61, 0)), (("CobolParser$Items", 99), (78, 0)), (("CobolParser$Items", 120), (79, 0)), (("CobolParser$Leaves", 58), (50, 0)), (("CobolParser$Leaves", 54), (63, 0)), (("CobolParser$Items", 123), (80, 0)), (("CobolParser$Leaves", 62), (79, 0)), (("CobolParser$Items", 102), (81, 0)), (("CobolParser$Items", 105), (82, 0)), (("CobolParser$Items", 126), (83, 0)), (("CobolParser$Row", 45), (62, 0)), (("CobolParser$Items", 82), (84, 0)), (("CobolParser$Clauses", 85), (85, 0)), (("CobolParser$Statements", 27), (60, 0)), (("CobolParser$Statements", 35), (50, 0)), (("CobolParser$Clauses", 91), (86, 0))]
theorem nm_ct_ok_5 : ∀ q ∈ nm_ct_5, nm_okC q := (nm_fc (nm_k0 (N := nm_m77) rfl nm_pm0 (nm_in3 (List.mem_of_getElem? (i := 120) rfl) rfl) nm_im77 nm_sl77 rfl) (nm_fc (nm_k0 (N := nm_m60) rfl nm_pm0 (nm_in3 (List.mem_of_getElem? (i := 124) rfl) rfl) nm_im60 nm_sl60 rfl) (nm_fc (nm_k0 (N := nm_m58) rfl nm_pm0 (nm_in3 (List.mem_of_getElem? (i := 125) rfl) rfl) nm_im58 nm_sl58 rfl) (nm_fc (nm_k0 (N := nm_m45) rfl nm_pm9 (nm_in3 (List.mem_of_getElem? (i := 126) rfl) rfl) nm_im45 nm_sl45 rfl) (nm_fc (nm_k0 (N := nm_m61) rfl nm_pm1 (nm_in3 (List.mem_of_getElem? (i := 127) rfl) rfl) nm_im61 nm_sl61 rfl) (nm_fc (nm_k0 (N := nm_m78) rfl nm_pm4 (nm_in3 (List.mem_of_getElem? (i := 128) rfl) rfl) nm_im78 nm_sl78 rfl) (nm_fc (nm_k0 (N := nm_m79) rfl nm_pm7 (nm_in3 (List.mem_of_getElem? (i := 132) rfl) rfl) nm_im79 nm_sl79 rfl) (nm_fc (nm_k0 (N := nm_m50) rfl nm_pm5 (nm_in3 (List.mem_of_getElem? (i := 136) rfl) rfl) nm_im50 nm_sl50 rfl) (nm_fc (nm_k0 (N := nm_m63) rfl nm_pm7 (nm_in3 (List.mem_of_getElem? (i := 137) rfl) rfl) nm_im63 nm_sl63 rfl) (nm_fc (nm_k0 (N := nm_m80) rfl nm_pm7 (nm_in3 (List.mem_of_getElem? (i := 138) rfl) rfl) nm_im80 nm_sl80 rfl) (nm_fc (nm_k0 (N := nm_m79) rfl nm_pm7 (nm_in3 (List.mem_of_getElem? (i := 142) rfl) rfl) nm_im79 nm_sl79 rfl) (nm_fc (nm_k0 (N := nm_m81) rfl nm_pm4 (nm_in3 (List.mem_of_getElem? (i := 143) rfl) rfl) nm_im81 nm_sl81 rfl) (nm_fc (nm_k0 (N := nm_m82) rfl nm_pm4 (nm_in3 (List.mem_of_getElem? (i := 147) rfl) rfl) nm_im82 nm_sl82 rfl) (nm_fc (nm_k0 (N := nm_m83) rfl nm_pm4 (nm_in3 (List.mem_of_getElem? (i := 151) rfl) rfl) nm_im83 nm_sl83 rfl) (nm_fc (nm_k0 (N := nm_m62) rfl nm_pm5 (nm_in3 (List.mem_of_getElem? (i := 155) rfl) rfl) nm_im62 nm_sl62 rfl) (nm_fc (nm_k0 (N := nm_m84) rfl nm_pm10 (nm_in3 (List.mem_of_getElem? (i := 156) rfl) rfl) nm_im84 nm_sl84 rfl) (nm_fc (nm_k0 (N := nm_m85) rfl nm_pm2 (nm_in3 (List.mem_of_getElem? (i := 160) rfl) rfl) nm_im85 nm_sl85 rfl) (nm_fc (nm_k0 (N := nm_m60) rfl nm_pm0 (nm_in3 (List.mem_of_getElem? (i := 164) rfl) rfl) nm_im60 nm_sl60 rfl) (nm_fc (nm_k0 (N := nm_m50) rfl nm_pm5 (nm_in3 (List.mem_of_getElem? (i := 165) rfl) rfl) nm_im50 nm_sl50 rfl) (nm_fc (nm_k0 (N := nm_m86) rfl nm_pm1 (nm_in3 (List.mem_of_getElem? (i := 166) rfl) rfl) nm_im86 nm_sl86 rfl) (fun _ h => nomatch h)))))))))))))))))))))
def nm_ct_6 : List ((String × Nat) × (Nat × Nat)) := [(("CobolParser$Statements", 39), (85, 0)), (("CobolParser$Statements", 43), (56, 0)), (("CobolParser$Statements", 47), (58, 0)), (("CobolParser$Statements", 50), (45, 0)), (("CobolParser$Statements", 56), (88, 0)), (("CobolParser$Statements", 64), (89, 0)), (("CobolParser$Statements", 96), (90, 0)), (("CobolParser$Statements", 102), (69, 0)), (("CobolParser$Statements", 106), (61, 0)), (("CobolParser$Statements", 120), (91, 0)), (("CobolParser$Leaves", 51), (75, 0)), (("CobolParser$Statements", 123), (83, 0)), (("CobolParser$Statements", 126), (80, 0)), (("CobolParser$Statements", 67), (92, 0)), (("CobolParser$Statements", 129), (93, 0)), (("CobolParser$Statements", 112), (75, 0)), (("CobolParser$Statements", 60), (63, 0)), (("CobolParser$Statements", 117), (76, 0)), (("CobolParser$Statements", 109), (62, 0)), (("CobolParser$Statements", 146), (79, 0))]
theorem nm_ct_ok_6 : ∀ q ∈ nm_ct_6, nm_okC q := (nm_fc (nm_k0 (N := nm_m85) rfl nm_pm2 (nm_in3 (List.mem_of_getElem? (i := 174) rfl) rfl) nm_im85 nm_sl85 rfl) (nm_fc (nm_k0 (N := nm_m56) rfl nm_pm4 (nm_in3 (List.mem_of_getElem? (i := 175) rfl) rfl) nm_im56 nm_sl56 rfl) (nm_fc (nm_k0 (N := nm_m58) rfl nm_pm0 (nm_in3 (List.mem_of_getElem? (i := 176) rfl) rfl) nm_im58 nm_sl58 rfl) (nm_fc (nm_k0 (N := nm_m45) rfl nm_pm9 (nm_in3 (List.mem_of_getElem? (i := 177) rfl) rfl) nm_im45 nm_sl45 rfl) (nm_fc (nm_k0 (N := nm_m88) rfl nm_pm3 (nm_in3 (List.mem_of_getElem? (i := 178) rfl) rfl) nm_im88 nm_sl88 rfl) (nm_fc (nm_k0 (N := nm_m89) rfl nm_pm0 (nm_in3 (List.mem_of_getElem? (i := 182) rfl) rfl) nm_im89 nm_sl89 rfl) (nm_fc (nm_k0 (N := nm_m90) rfl nm_pm3 (nm_in3 (List.mem_of_getElem? (i := 186) rfl) rfl) nm_im90 nm_sl90 rfl) (nm_fc (nm_k0 (N := nm_m69) rfl nm_pm10 (nm_in3 (List.mem_of_getElem? (i := 190) rfl) rfl) nm_im69 nm_sl69 rfl) (nm_fc (nm_k0 (N := nm_m61) rfl nm_pm1 (nm_in3 (List.mem_of_getElem? (i := 191) rfl) rfl) nm_im61 nm_sl61 rfl) (nm_fc (nm_k0 (N := nm_m91) rfl nm_pm4 (nm_in3 (List.mem_of_getElem? (i := 192) rfl) rfl) nm_im91 nm_sl91 rfl) (nm_fc (nm_k0 (N := nm_m75) rfl nm_pm0 (nm_in3 (List.mem_of_getElem? (i := 196) rfl) rfl) nm_im75 nm_sl75 rfl) (nm_fc (nm_k0 (N := nm_m83) rfl nm_pm4 (nm_in3 (List.mem_of_getElem? (i := 197) rfl) rfl) nm_im83 nm_sl83 rfl) (nm_fc (nm_k0 (N := nm_m80) rfl nm_pm7 (nm_in3 (List.mem_of_getElem? (i := 198) rfl) rfl) nm_im80 nm_sl80 rfl) (nm_fc (nm_k0 (N := nm_m92) rfl nm_pm3 (nm_in3 (List.mem_of_getElem? (i := 199) rfl) rfl) nm_im92 nm_sl92 rfl) (nm_fc (nm_k0 (N := nm_m93) rfl nm_pm4 (nm_in3 (List.mem_of_getElem? (i := 203) rfl) rfl) nm_im93 nm_sl93 rfl) (nm_fc (nm_k0 (N := nm_m75) rfl nm_pm0 (nm_in3 (List.mem_of_getElem? (i := 207) rfl) rfl) nm_im75 nm_sl75 rfl) (nm_fc (nm_k0 (N := nm_m63) rfl nm_pm7 (nm_in3 (List.mem_of_getElem? (i := 208) rfl) rfl) nm_im63 nm_sl63 rfl) (nm_fc (nm_k0 (N := nm_m76) rfl nm_pm2 (nm_in3 (List.mem_of_getElem? (i := 209) rfl) rfl) nm_im76 nm_sl76 rfl) (nm_fc (nm_k0 (N := nm_m62) rfl nm_pm5 (nm_in3 (List.mem_of_getElem? (i := 210) rfl) rfl) nm_im62 nm_sl62 rfl) (nm_fc (nm_k0 (N := nm_m79) rfl nm_pm7 (nm_in3 (List.mem_of_getElem? (i := 211) rfl) rfl) nm_im79 nm_sl79 rfl) (fun _ h => nomatch h)))))))))))))))))))))
def nm_ct_7 : List ((String × Nat) × (Nat × Nat)) := [(("CobolParser$Statements", 149), (87, 0)), (("CobolParser$Statements", 143), (94, 0)), (("CobolParser$Statements", 70), (95, 0)), (("CobolParser$Expressions", 84), (97, 0)), (("CobolParser$Expressions", 95), (98, 0)), (("CobolParser$Expressions", 89), (52, 0)), (("CobolParser$Expressions", 98), (99, 0)), (("CobolParser$Expressions", 101), (58, 0)), (("CobolParser$Expressions", 104), (45, 0)), (("CobolParser$Expressions", 62), (100, 0)), (("CobolParser$Expressions", 76), (56, 0)), (("CobolParser$Expressions", 50), (61, 0)), (("CobolParser$Expressions", 53), (63, 0)), (("CobolParser$Expressions", 34), (101, 0)), (("CobolParser$Expressions", 107), (96, 0)), (("CobolParser$Expressions", 69), (102, 0)), (("CobolParser$Row", 53), (101, 0)), (("CobolParser$Expressions", 110), (103, 0)), (("CobolParser$Expressions", 113), (76, 0)), (("CobolParser$Expressions", 117), (104, 0))]
theorem nm_ct_ok_7 : ∀ q ∈ nm_ct_7, nm_okC q := (nm_fc (nm_k0 (N := nm_m87) rfl nm_pm6 (nm_in3 (List.mem_of_getElem? (i := 212) rfl) rfl) nm_im87 nm_sl87 rfl) (nm_fc (nm_k0 (N := nm_m94) rfl nm_pm7 (nm_in3 (List.mem_of_getElem? (i := 213) rfl) rfl) nm_im94 nm_sl94 rfl) (nm_fc (nm_k0 (N := nm_m95) rfl nm_pm3 (nm_in3 (List.mem_of_getElem? (i := 217) rfl) rfl) nm_im95 nm_sl95 rfl) (nm_fc (nm_k0 (N := nm_m97) rfl nm_pm3 (nm_in3 (List.mem_of_getElem? (i := 225) rfl) rfl) nm_im97 nm_sl97 rfl) (nm_fc (nm_k0 (N := nm_m98) rfl nm_pm3 (nm_in3 (List.mem_of_getElem? (i := 229) rfl) rfl) nm_im98 nm_sl98 rfl) (nm_fc (nm_k0 (N := nm_m52) rfl nm_pm8 (nm_in3 (List.mem_of_getElem? (i := 233) rfl) rfl) nm_im52 nm_sl52 rfl) (nm_fc (nm_k0 (N := nm_m99) rfl nm_pm5 (nm_in3 (List.mem_of_getElem? (i := 234) rfl) rfl) nm_im99 nm_sl99 rfl) (nm_fc (nm_k0 (N := nm_m58) rfl nm_pm0 (nm_in3 (List.mem_of_getElem? (i := 238) rfl) rfl) nm_im58 nm_sl58 rfl) (nm_fc (nm_k0 (N := nm_m45) rfl nm_pm9 (nm_in3 (List.mem_of_getElem? (i := 239) rfl) rfl) nm_im45 nm_sl45 rfl) (nm_fc (nm_k0 (N := nm_m100) rfl nm_pm4 (nm_in4 (List.mem_of_getElem? (i := 0) rfl) rfl) nm_im100 nm_sl100 rfl) (nm_fc (nm_k0 (N := nm_m56) rfl nm_pm4 (nm_in4 (List.mem_of_getElem? (i := 4) rfl) rfl) nm_im56 nm_sl56 rfl) (nm_fc (nm_k0 (N := nm_m61) rfl nm_pm1 (nm_in4 (List.mem_of_getElem? (i := 5) rfl) rfl) nm_im61 nm_sl61 rfl) (nm_fc (nm_k0 (N := nm_m63) rfl nm_pm7 (nm_in4 (List.mem_of_getElem? (i := 6) rfl) rfl) nm_im63 nm_sl63 rfl) (nm_fc (nm_k0 (N := nm_m101) rfl nm_pm8 (nm_in4 (List.mem_of_getElem? (i := 7) rfl) rfl) nm_im101 nm_sl101 rfl) (nm_fc (nm_k0 (N := nm_m96) rfl nm_pm3 (nm_in4 (List.mem_of_getElem? (i := 11) rfl) rfl) nm_im96 nm_sl96 rfl) (nm_fc (nm_k0 (N := nm_m102) rfl nm_pm4 (nm_in4 (List.mem_of_getElem? (i := 12) rfl) rfl) nm_im102 nm_sl102 rfl) (nm_fc (nm_k0 (N := nm_m101) rfl nm_pm8 (nm_in4 (List.mem_of_getElem? (i := 16) rfl) rfl) nm_im101 nm_sl101 rfl) (nm_fc (nm_k0 (N := nm_m103) rfl nm_pm0 (nm_in4 (List.mem_of_getElem? (i := 17) rfl) rfl) nm_im103 nm_sl103 rfl) (nm_fc (nm_k0 (N := nm_m76) rfl nm_pm2 (nm_in4 (List.mem_of_getElem? (i := 21) rfl) rfl) nm_im76 nm_sl76 rfl) (nm_fc (nm_k0 (N := nm_m104) rfl nm_pm5 (nm_in4 (List.mem_of_getElem? (i := 22) rfl) rfl) nm_im104 nm_sl104 rfl) (fun _ h => nomatch h)))))))))))))))))))))
def nm_ct_8 : List ((String × Nat) × (Nat × Nat)) := [(("CobolParser$Expressions", 120), (105, 0)), (("CobolParser$Expressions", 72), (50, 0)), (("CobolParser$Expressions", 42), (60, 0)), (("CobolParser$Expressions", 79), (75, 0)), (("CobolParser$Expressions", 123), (106, 0)), (("CobolParser$Expressions", 92), (62, 0)), (("CobolParser$Expressions", 126), (69, 0)), (("CobolParser$Expressions", 46), (107, 0)), (("CobolParser$Expressions", 130), (17, 0)), (("CobolParser$Statements", 156), (108, 0)), (("CobolParser$Statements", 159), (52, 0)), (("CobolParser$Statements", 73), (109, 0)), (("CobolParser$Statements", 166), (110, 0)), (("CobolParser$Statements", 169), (111, 0)), (("CobolParser$Statements", 172), (112, 0)), (("CobolParser$Statements", 76), (113, 0)), (("CobolParser$Statements", 163), (114, 0)), (("CobolParser$Statements", 79), (115, 0)), (("CobolParser$Statements", 132), (59, 0)), (("CobolParser$Statements", 82), (116, 0))]
theorem nm_ct_ok_8 : ∀ q ∈ nm_ct_8, nm_okC q := (nm_fc (nm_k0 (N := nm_m105) rfl nm_pm3 (nm_in4 (List.mem_of_getElem? (i := 26) rfl) rfl) nm_im105 nm_sl105 rfl) (nm_fc (nm_k0 (N := nm_m50) rfl nm_pm5 (nm_in4 (List.mem_of_getElem? (i := 30) rfl) rfl) nm_im50 nm_sl50 rfl) (nm_fc (nm_k0 (N := nm_m60) rfl nm_pm0 (nm_in4 (List.mem_of_getElem? (i := 31) rfl) rfl) nm_im60 nm_sl60 rfl) (nm_fc (nm_k0 (N := nm_m75) rfl nm_pm0 (nm_in4 (List.mem_of_getElem? (i := 32) rfl) rfl) nm_im75 nm_sl75 rfl) (nm_fc (nm_k0 (N := nm_m106) rfl nm_pm0 (nm_in4 (List.mem_of_getElem? (i := 33) rfl) rfl) nm_im106 nm_sl106 rfl) (nm_fc (nm_k0 (N := nm_m62) rfl nm_pm5 (nm_in4 (List.mem_of_getElem? (i := 37) rfl) rfl) nm_im62 nm_sl62 rfl) (nm_fc (nm_k0 (N := nm_m69) rfl nm_pm10 (nm_in4 (List.mem_of_getElem? (i := 38) rfl) rfl) nm_im69 nm_sl69 rfl) (nm_fc (nm_k0 (N := nm_m107) rfl nm_pm9 (nm_in4 (List.mem_of_getElem? (i := 39) rfl) rfl) nm_im107 nm_sl107 rfl) (nm_fc (nm_k0 (N := nm_m17) rfl nm_pm6 (nm_in4 (List.mem_of_getElem? (i := 43) rfl) rfl) nm_im17 nm_sl17 rfl) (nm_fc (nm_k0 (N := nm_m108) rfl nm_pm3 (nm_in4 (List.mem_of_getElem? (i := 44) rfl) rfl) nm_im108 nm_sl108 rfl) (nm_fc (nm_k0 (N := nm_m52) rfl nm_pm8 (nm_in4 (List.mem_of_getElem? (i := 48) rfl) rfl) nm_im52 nm_sl52 rfl) (nm_fc (nm_k0 (N := nm_m109) rfl nm_pm3 (nm_in4 (List.mem_of_getElem? (i := 49) rfl) rfl) nm_im109 nm_sl109 rfl) (nm_fc (nm_k0 (N := nm_m110) rfl nm_pm4 (nm_in4 (List.mem_of_getElem? (i := 53) rfl) rfl) nm_im110 nm_sl110 rfl) (nm_fc (nm_k0 (N := nm_m111) rfl nm_pm6 (nm_in4 (List.mem_of_getElem? (i := 57) rfl) rfl) nm_im111 nm_sl111 rfl) (nm_fc (nm_k0 (N := nm_m112) rfl nm_pm3 (nm_in4 (List.mem_of_getElem? (i := 61) rfl) rfl) nm_im112 nm_sl112 rfl) (nm_fc (nm_k0 (N := nm_m113) rfl nm_pm3 (nm_in4 (List.mem_of_getElem? (i := 65) rfl) rfl) nm_im113 nm_sl113 rfl) (nm_fc (nm_k0 (N := nm_m114) rfl nm_pm3 (nm_in4 (List.mem_of_getElem? (i := 69) rfl) rfl) nm_im114 nm_sl114 rfl) (nm_fc (nm_k0 (N := nm_m115) rfl nm_pm3 (nm_in4 (List.mem_of_getElem? (i := 73) rfl) rfl) nm_im115 nm_sl115 rfl) (nm_fc (nm_k0 (N := nm_m59) rfl nm_pm3 (nm_in4 (List.mem_of_getElem? (i := 77) rfl) rfl) nm_im59 nm_sl59 rfl) (nm_fc (nm_k0 (N := nm_m116) rfl nm_pm3 (nm_in4 (List.mem_of_getElem? (i := 78) rfl) rfl) nm_im116 nm_sl116 rfl) (fun _ h => nomatch h)))))))))))))))))))))
def nm_ct_9 : List ((String × Nat) × (Nat × Nat)) := [(("CobolParser$Statements", 85), (117, 0)), (("CobolParser$Statements", 88), (118, 0)), (("CobolParser$Statements", 91), (119, 0)), (("CobolParser$Statements", 99), (120, 0)), (("CobolParser$Statements", 135), (102, 0)), (("CobolParser$Expressions", 30), (122, 0)), (("CobolParser$Expressions", 59), (123, 0)), (("CobolParser$Expressions", 66), (121, 0)), (("CobolParser$Clauses", 94), (124, 0)), (("CobolParser$Clauses", 101), (60, 0)), (("CobolParser$Clauses", 104), (125, 0)), (("CobolParser$Clauses", 58), (126, 0)), (("CobolParser$Clauses", 167), (127, 0)), (("CobolParser$Clauses", 170), (128, 0)), (("CobolParser$Clauses", 173), (129, 0)), (("CobolParser$Clauses", 118), (130, 0)), (("CobolParser$Clauses", 121), (131, 0)), (("CobolParser$Clauses", 154), (61, 0)), (("CobolParser$Clauses", 157), (83, 0)), (("CobolParser$Clauses", 176), (132, 0))]
theorem nm_ct_ok_9 : ∀ q ∈ nm_ct_9, nm_okC q := (nm_fc (nm_k0 (N := nm_m117) rfl nm_pm0 (nm_in4 (List.mem_of_getElem? (i := 82) rfl) rfl) nm_im117 nm_sl117 rfl) (nm_fc (nm_k0 (N := nm_m118) rfl nm_pm0 (nm_in4 (List.mem_of_getElem? (i := 86) rfl) rfl) nm_im118 nm_sl118 rfl) (nm_fc (nm_k0 (N := nm_m119) rfl nm_pm0 (nm_in4 (List.mem_of_getElem? (i := 90) rfl) rfl) nm_im119 nm_sl119 rfl) (nm_fc (nm_k0 (N := nm_m120) rfl nm_pm3 (nm_in4 (List.mem_of_getElem? (i := 94) rfl) rfl) nm_im120 nm_sl120 rfl) (nm_fc (nm_k0 (N := nm_m102) rfl nm_pm4 (nm_in4 (List.mem_of_getElem? (i := 98) rfl) rfl) nm_im102 nm_sl102 rfl) (nm_fc (nm_k0 (N := nm_m122) rfl nm_pm3 (nm_in4 (List.mem_of_getElem? (i := 103) rfl) rfl) nm_im122 nm_sl122 rfl) (nm_fc (nm_k0 (N := nm_m123) rfl nm_pm3 (nm_in4 (List.mem_of_getElem? (i := 107) rfl) rfl) nm_im123 nm_sl123 rfl) (nm_fc (nm_k0 (N := nm_m121) rfl nm_pm3 (nm_in4 (List.mem_of_getElem? (i := 111) rfl) rfl) nm_im121 nm_sl121 rfl) (nm_fc (nm_k0 (N := nm_m124) rfl nm_pm1 (nm_in4 (List.mem_of_getElem? (i := 112) rfl) rfl) nm_im124 nm_sl124 rfl) (nm_fc (nm_k0 (N := nm_m60) rfl nm_pm0 (nm_in4 (List.mem_of_getElem? (i := 116) rfl) rfl) nm_im60 nm_sl60 rfl) (nm_fc (nm_k0 (N := nm_m125) rfl nm_pm1 (nm_in4 (List.mem_of_getElem? (i := 117) rfl) rfl) nm_im125 nm_sl125 rfl) (nm_fc (nm_k0 (N := nm_m126) rfl nm_pm0 (nm_in4 (List.mem_of_getElem? (i := 121) rfl) rfl) nm_im126 nm_sl126 rfl) (nm_fc (nm_k0 (N := nm_m127) rfl nm_pm0 (nm_in4 (List.mem_of_getElem? (i := 125) rfl) rfl) nm_im127 nm_sl127 rfl) (nm_fc (nm_k0 (N := nm_m128) rfl nm_pm2 (nm_in4 (List.mem_of_getElem? (i := 129) rfl) rfl) nm_im128 nm_sl128 rfl) (nm_fc (nm_k0 (N := nm_m129) rfl nm_pm2 (nm_in4 (List.mem_of_getElem? (i := 133) rfl) rfl) nm_im129 nm_sl129 rfl) (nm_fc (nm_k0 (N := nm_m130) rfl nm_pm0 (nm_in4 (List.mem_of_getElem? (i := 137) rfl) rfl) nm_im130 nm_sl130 rfl) (nm_fc (nm_k0 (N := nm_m131) rfl nm_pm9 (nm_in4 (List.mem_of_getElem? (i := 141) rfl) rfl) nm_im131 nm_sl131 rfl) (nm_fc (nm_k0 (N := nm_m61) rfl nm_pm1 (nm_in4 (List.mem_of_getElem? (i := 145) rfl) rfl) nm_im61 nm_sl61 rfl) (nm_fc (nm_k0 (N := nm_m83) rfl nm_pm4 (nm_in4 (List.mem_of_getElem? (i := 146) rfl) rfl) nm_im83 nm_sl83 rfl) (nm_fc (nm_k0 (N := nm_m132) rfl nm_pm4 (nm_in4 (List.mem_of_getElem? (i := 147) rfl) rfl) nm_im132 nm_sl132 rfl) (fun _ h => nomatch h)))))))))))))))))))))
def nm_ct_10 : List ((String × Nat) × (Nat × Nat)) := [(("CobolParser$Clauses", 109), (133, 0)), (("CobolParser$Clauses", 179), (134, 0)), (("CobolParser$Clauses", 182), (69, 0)), (("CobolParser$Clauses", 128), (135, 0)), (("CobolParser$Clauses", 189), (91, 0)), (("CobolParser$Clauses", 198), (136, 0)), (("CobolParser$Clauses", 201), (137, 0)), (("CobolParser$Clauses", 131), (138, 0)), (("CobolParser$Clauses", 207), (80, 0)), (("CobolParser$Clauses", 134), (139, 0)), (("CobolParser$Clauses", 137), (140, 0)), (("CobolParser$Clauses", 210), (141, 0)), (("CobolParser$Clauses", 213), (142, 0)), (("CobolParser$Clauses", 216), (143, 0)), (("CobolParser$Clauses", 66), (144, 0)), (("CobolParser$Clauses", 219), (145, 0)), (("CobolParser$Clauses", 140), (146, 0)), (("CobolParser$Clauses", 143), (147, 0)), (("CobolParser$Clauses", 204), (148, 0)), (("CobolParser$Clauses", 146), (149, 0))]
theorem nm_ct_ok_10 : ∀ q ∈ nm_ct_10, nm_okC q := (nm_fc (nm_k0 (N := nm_m133) rfl nm_pm4 (nm_in4 (List.mem_of_getElem? (i := 151) rfl) rfl) nm_im133 nm_sl133 rfl) (nm_fc (nm_k0 (N := nm_m134) rfl nm_pm7 (nm_in4 (List.mem_of_getElem? (i := 155) rfl) rfl) nm_im134 nm_sl134 rfl) (nm_fc (nm_k0 (N := nm_m69) rfl nm_pm10 (nm_in4 (List.mem_of_getElem? (i := 159) rfl) rfl) nm_im69 nm_sl69 rfl) (nm_fc (nm_k0 (N := nm_m135) rfl nm_pm1 (nm_in4 (List.mem_of_getElem? (i := 160) rfl) rfl) nm_im135 nm_sl135 rfl) (nm_fc (nm_k0 (N := nm_m91) rfl nm_pm4 (nm_in4 (List.mem_of_getElem? (i := 164) rfl) rfl) nm_im91 nm_sl91 rfl) (nm_fc (nm_k0 (N := nm_m136) rfl nm_pm4 (nm_in4 (List.mem_of_getElem? (i := 165) rfl) rfl) nm_im136 nm_sl136 rfl) (nm_fc (nm_k0 (N := nm_m137) rfl nm_pm4 (nm_in4 (List.mem_of_getElem? (i := 169) rfl) rfl) nm_im137 nm_sl137 rfl) (nm_fc (nm_k0 (N := nm_m138) rfl nm_pm1 (nm_in4 (List.mem_of_getElem? (i := 173) rfl) rfl) nm_im138 nm_sl138 rfl) (nm_fc (nm_k0 (N := nm_m80) rfl nm_pm7 (nm_in4 (List.mem_of_getElem? (i := 177) rfl) rfl) nm_im80 nm_sl80 rfl) (nm_fc (nm_k0 (N := nm_m139) rfl nm_pm1 (nm_in4 (List.mem_of_getElem? (i := 178) rfl) rfl) nm_im139 nm_sl139 rfl) (nm_fc (nm_k0 (N := nm_m140) rfl nm_pm1 (nm_in4 (List.mem_of_getElem? (i := 182) rfl) rfl) nm_im140 nm_sl140 rfl) (nm_fc (nm_k0 (N := nm_m141) rfl nm_pm1 (nm_in4 (List.mem_of_getElem? (i := 186) rfl) rfl) nm_im141 nm_sl141 rfl) (nm_fc (nm_k0 (N := nm_m142) rfl nm_pm1 (nm_in4 (List.mem_of_getElem? (i := 190) rfl) rfl) nm_im142 nm_sl142 rfl) (nm_fc (nm_k0 (N := nm_m143) rfl nm_pm0 (nm_in4 (List.mem_of_getElem? (i := 194) rfl) rfl) nm_im143 nm_sl143 rfl) (nm_fc (nm_k0 (N := nm_m144) rfl nm_pm7 (nm_in4 (List.mem_of_getElem? (i := 198) rfl) rfl) nm_im144 nm_sl144 rfl) (nm_fc (nm_k0 (N := nm_m145) rfl nm_pm1 (nm_in4 (List.mem_of_getElem? (i := 202) rfl) rfl) nm_im145 nm_sl145 rfl) (nm_fc (nm_k0 (N := nm_m146) rfl nm_pm1 (nm_in4 (List.mem_of_getElem? (i := 206) rfl) rfl) nm_im146 nm_sl146 rfl) (nm_fc (nm_k0 (N := nm_m147) rfl nm_pm7 (nm_in4 (List.mem_of_getElem? (i := 210) rfl) rfl) nm_im147 nm_sl147 rfl) (nm_fc (nm_k0 (N := nm_m148) rfl nm_pm4 (nm_in4 (List.mem_of_getElem? (i := 214) rfl) rfl) nm_im148 nm_sl148 rfl) (nm_fc (nm_k0 (N := nm_m149) rfl nm_pm1 (nm_in4 (List.mem_of_getElem? (i := 218) rfl) rfl) nm_im149 nm_sl149 rfl) (fun _ h => nomatch h)))))))))))))))))))))
def nm_ct_11 : List ((String × Nat) × (Nat × Nat)) := [(("CobolParser", 75), (150, 0)), (("CobolParser$Row", 74), (144, 0)), (("CobolParser", 78), (151, 0)), (("CobolParser", 81), (152, 0)), (("CobolParser", 139), (153, 0)), (("CobolParser", 149), (154, 0)), (("CobolParser$Tree", 42), (69, 0)), (("CobolParser$Tree", 46), (0, 7)), (("CobolParser$Tree", 55), (155, 0)), (("CobolParserLaw", 18), (156, 1)), (("CobolParserModel", 1), (0, 5)), (("CobolParserLaw", 30), (157, 0)), (("CobolParserLaw", 23), (158, 0)), (("CobolParserModel", 132), (159, 2)), (("CobolParserLaw", 29), (160, 0)), (("CobolParserModel", 177), (161, 0)), (("CobolParserModel", 214), (162, 0)), (("CobolParserModel", 221), (163, 0)), (("CobolParserModel", 297), (164, 0)), (("CobolParserModel", 171), (165, 0))]
theorem nm_ct_ok_11 : ∀ q ∈ nm_ct_11, nm_okC q := (nm_fc (nm_k0 (N := nm_m150) rfl nm_pm1 (nm_in4 (List.mem_of_getElem? (i := 222) rfl) rfl) nm_im150 nm_sl150 rfl) (nm_fc (nm_k0 (N := nm_m144) rfl nm_pm7 (nm_in4 (List.mem_of_getElem? (i := 226) rfl) rfl) nm_im144 nm_sl144 rfl) (nm_fc (nm_k0 (N := nm_m151) rfl nm_pm1 (nm_in4 (List.mem_of_getElem? (i := 227) rfl) rfl) nm_im151 nm_sl151 rfl) (nm_fc (nm_k0 (N := nm_m152) rfl nm_pm0 (nm_in4 (List.mem_of_getElem? (i := 231) rfl) rfl) nm_im152 nm_sl152 rfl) (nm_fc (nm_k0 (N := nm_m153) rfl nm_pm1 (nm_in4 (List.mem_of_getElem? (i := 235) rfl) rfl) nm_im153 nm_sl153 rfl) (nm_fc (nm_k0 (N := nm_m154) rfl nm_pm1 (nm_in5 (List.mem_of_getElem? (i := 15) rfl) rfl) nm_im154 nm_sl154 rfl) (nm_fc (nm_k0 (N := nm_m69) rfl nm_pm10 (nm_in5 (List.mem_of_getElem? (i := 19) rfl) rfl) nm_im69 nm_sl69 rfl) (nm_fc (⟨(by intro h; exact absurd h (by simp)), (by intro h; exact absurd h (by simp)), fun _ => ⟨(nm_in5 (List.mem_of_getElem? (i := 20) rfl) rfl), (nm_in5 (List.mem_of_getElem? (i := 21) rfl) rfl), (nm_in1 (List.mem_of_getElem? (i := 12) rfl) rfl), (nm_in5 (List.mem_of_getElem? (i := 22) rfl) rfl)⟩, (by intro h; exact absurd h (by simp)), (by intro h; exact absurd h (by simp))⟩) (nm_fc (nm_k0 (N := nm_m155) rfl nm_pm3 (nm_in5 (List.mem_of_getElem? (i := 23) rfl) rfl) nm_im155 nm_sl155 rfl) (nm_fc (nm_k1 (N := nm_m156) rfl nm_pm1 (nm_in5 (List.mem_of_getElem? (i := 29) rfl) rfl) nm_im156 rfl rfl rfl rfl) (nm_fc (⟨fun _ => ⟨(nm_in5 (List.mem_of_getElem? (i := 32) rfl) rfl), (nm_in1 (List.mem_of_getElem? (i := 25) rfl) rfl), (nm_in1 (List.mem_of_getElem? (i := 26) rfl) rfl)⟩, (by intro h; exact absurd h (by simp)), (by intro h; exact absurd h (by simp)), (by intro h; exact absurd h (by simp)), (by intro h; exact absurd h (by simp))⟩) (nm_fc (nm_k0 (N := nm_m157) rfl nm_pm0 (nm_in5 (List.mem_of_getElem? (i := 230) rfl) rfl) nm_im157 nm_sl157 rfl) (nm_fc (nm_k0 (N := nm_m158) rfl nm_pm6 (nm_in5 (List.mem_of_getElem? (i := 234) rfl) rfl) nm_im158 nm_sl158 rfl) (nm_fc (nm_k2 (N := nm_m159) rfl nm_pm11 (nm_in5 (List.mem_of_getElem? (i := 238) rfl) rfl) (nm_in5 (List.mem_of_getElem? (i := 239) rfl) rfl) rfl) (nm_fc (nm_k0 (N := nm_m160) rfl nm_pm0 (nm_in6 (List.mem_of_getElem? (i := 2) rfl) rfl) nm_im160 nm_sl160 rfl) (nm_fc (nm_k0 (N := nm_m161) rfl nm_pm9 (nm_in6 (List.mem_of_getElem? (i := 6) rfl) rfl) nm_im161 nm_sl161 rfl) (nm_fc (nm_k0 (N := nm_m162) rfl nm_pm1 (nm_in6 (List.mem_of_getElem? (i := 10) rfl) rfl) nm_im162 nm_sl162 rfl) (nm_fc (nm_k0 (N := nm_m163) rfl nm_pm1 (nm_in6 (List.mem_of_getElem? (i := 14) rfl) rfl) nm_im163 nm_sl163 rfl) (nm_fc (nm_k0 (N := nm_m164) rfl nm_pm3 (nm_in6 (List.mem_of_getElem? (i := 18) rfl) rfl) nm_im164 nm_sl164 rfl) (nm_fc (nm_k0 (N := nm_m165) rfl nm_pm8 (nm_in6 (List.mem_of_getElem? (i := 22) rfl) rfl) nm_im165 nm_sl165 rfl) (fun _ h => nomatch h)))))))))))))))))))))
def nm_ct_12 : List ((String × Nat) × (Nat × Nat)) := [(("CobolParserModel", 154), (166, 0)), (("CobolParserModel", 143), (167, 0)), (("CobolParserModel", 164), (168, 0)), (("CobolParserModel", 301), (169, 0)), (("CobolParserModel", 167), (170, 0)), (("CobolParserModel", 192), (171, 0)), (("CobolParserModel", 195), (172, 0)), (("CobolParserModel", 198), (173, 0)), (("CobolParserModel", 181), (174, 0)), (("CobolParserModel", 304), (175, 0)), (("CobolParserModel", 285), (176, 0)), (("CobolParserModel", 188), (177, 0)), (("CobolParserModel", 184), (178, 0)), (("CobolParserModel", 307), (179, 0)), (("CobolParserModel", 288), (180, 0)), (("CobolParserModel", 224), (181, 0)), (("CobolParserModel", 258), (182, 0)), (("CobolParserModel", 261), (183, 0)), (("CobolParserModel", 227), (184, 0)), (("CobolParserModel", 230), (185, 0))]
theorem nm_ct_ok_12 : ∀ q ∈ nm_ct_12, nm_okC q := (nm_fc (nm_k0 (N := nm_m166) rfl nm_pm7 (nm_in6 (List.mem_of_getElem? (i := 26) rfl) rfl) nm_im166 nm_sl166 rfl) (nm_fc (nm_k0 (N := nm_m167) rfl nm_pm8 (nm_in6 (List.mem_of_getElem? (i := 30) rfl) rfl) nm_im167 nm_sl167 rfl) (nm_fc (nm_k0 (N := nm_m168) rfl nm_pm8 (nm_in6 (List.mem_of_getElem? (i := 34) rfl) rfl) nm_im168 nm_sl168 rfl) (nm_fc (nm_k0 (N := nm_m169) rfl nm_pm4 (nm_in6 (List.mem_of_getElem? (i := 38) rfl) rfl) nm_im169 nm_sl169 rfl) (nm_fc (nm_k0 (N := nm_m170) rfl nm_pm5 (nm_in6 (List.mem_of_getElem? (i := 42) rfl) rfl) nm_im170 nm_sl170 rfl) (nm_fc (nm_k0 (N := nm_m171) rfl nm_pm5 (nm_in6 (List.mem_of_getElem? (i := 46) rfl) rfl) nm_im171 nm_sl171 rfl) (nm_fc (nm_k0 (N := nm_m172) rfl nm_pm0 (nm_in6 (List.mem_of_getElem? (i := 50) rfl) rfl) nm_im172 nm_sl172 rfl) (nm_fc (nm_k0 (N := nm_m173) rfl nm_pm13 (nm_in6 (List.mem_of_getElem? (i := 54) rfl) rfl) nm_im173 nm_sl173 rfl) (nm_fc (nm_k0 (N := nm_m174) rfl nm_pm7 (nm_in6 (List.mem_of_getElem? (i := 58) rfl) rfl) nm_im174 nm_sl174 rfl) (nm_fc (nm_k0 (N := nm_m175) rfl nm_pm4 (nm_in6 (List.mem_of_getElem? (i := 62) rfl) rfl) nm_im175 nm_sl175 rfl) (nm_fc (nm_k0 (N := nm_m176) rfl nm_pm4 (nm_in6 (List.mem_of_getElem? (i := 66) rfl) rfl) nm_im176 nm_sl176 rfl) (nm_fc (nm_k0 (N := nm_m177) rfl nm_pm0 (nm_in6 (List.mem_of_getElem? (i := 70) rfl) rfl) nm_im177 nm_sl177 rfl) (nm_fc (nm_k0 (N := nm_m178) rfl nm_pm5 (nm_in6 (List.mem_of_getElem? (i := 74) rfl) rfl) nm_im178 nm_sl178 rfl) (nm_fc (nm_k0 (N := nm_m179) rfl nm_pm7 (nm_in6 (List.mem_of_getElem? (i := 79) rfl) rfl) nm_im179 nm_sl179 rfl) (nm_fc (nm_k0 (N := nm_m180) rfl nm_pm7 (nm_in6 (List.mem_of_getElem? (i := 83) rfl) rfl) nm_im180 nm_sl180 rfl) (nm_fc (nm_k0 (N := nm_m181) rfl nm_pm4 (nm_in6 (List.mem_of_getElem? (i := 87) rfl) rfl) nm_im181 nm_sl181 rfl) (nm_fc (nm_k0 (N := nm_m182) rfl nm_pm0 (nm_in6 (List.mem_of_getElem? (i := 91) rfl) rfl) nm_im182 nm_sl182 rfl) (nm_fc (nm_k0 (N := nm_m183) rfl nm_pm4 (nm_in6 (List.mem_of_getElem? (i := 95) rfl) rfl) nm_im183 nm_sl183 rfl) (nm_fc (nm_k0 (N := nm_m184) rfl nm_pm7 (nm_in6 (List.mem_of_getElem? (i := 99) rfl) rfl) nm_im184 nm_sl184 rfl) (nm_fc (nm_k0 (N := nm_m185) rfl nm_pm5 (nm_in6 (List.mem_of_getElem? (i := 103) rfl) rfl) nm_im185 nm_sl185 rfl) (fun _ h => nomatch h)))))))))))))))))))))
def nm_ct_13 : List ((String × Nat) × (Nat × Nat)) := [(("CobolParserModel", 236), (186, 0)), (("CobolParserModel", 294), (187, 0)), (("CobolParserModel", 316), (188, 0)), (("CobolParserModel", 319), (189, 0)), (("CobolParserModel", 353), (190, 0)), (("CobolParserModel", 364), (191, 0)), (("CobolParserModel", 270), (192, 0)), (("CobolParserModel", 361), (193, 0)), (("CobolParserModel", 357), (194, 0)), (("CobolParserModel", 368), (195, 0)), (("CobolParserModel", 322), (196, 0)), (("CobolParserModel", 325), (197, 0)), (("CobolParserModel", 328), (198, 0)), (("CobolParserModel", 389), (199, 0)), (("CobolParserModel", 395), (200, 0)), (("CobolParserModel", 398), (201, 0)), (("CobolParserModel", 404), (202, 0)), (("CobolParserModel", 407), (203, 0)), (("CobolParserModel", 340), (204, 0)), (("CobolParserModel", 410), (205, 0))]
theorem nm_ct_ok_13 : ∀ q ∈ nm_ct_13, nm_okC q := (nm_fc (nm_k0 (N := nm_m186) rfl nm_pm4 (nm_in6 (List.mem_of_getElem? (i := 107) rfl) rfl) nm_im186 nm_sl186 rfl) (nm_fc (nm_k0 (N := nm_m187) rfl nm_pm4 (nm_in6 (List.mem_of_getElem? (i := 111) rfl) rfl) nm_im187 nm_sl187 rfl) (nm_fc (nm_k0 (N := nm_m188) rfl nm_pm7 (nm_in6 (List.mem_of_getElem? (i := 115) rfl) rfl) nm_im188 nm_sl188 rfl) (nm_fc (nm_k0 (N := nm_m189) rfl nm_pm7 (nm_in6 (List.mem_of_getElem? (i := 119) rfl) rfl) nm_im189 nm_sl189 rfl) (nm_fc (nm_k0 (N := nm_m190) rfl nm_pm14 (nm_in6 (List.mem_of_getElem? (i := 123) rfl) rfl) nm_im190 nm_sl190 rfl) (nm_fc (nm_k0 (N := nm_m191) rfl nm_pm15 (nm_in6 (List.mem_of_getElem? (i := 127) rfl) rfl) nm_im191 nm_sl191 rfl) (nm_fc (nm_k0 (N := nm_m192) rfl nm_pm5 (nm_in6 (List.mem_of_getElem? (i := 131) rfl) rfl) nm_im192 nm_sl192 rfl) (nm_fc (nm_k0 (N := nm_m193) rfl nm_pm4 (nm_in6 (List.mem_of_getElem? (i := 135) rfl) rfl) nm_im193 nm_sl193 rfl) (nm_fc (nm_k0 (N := nm_m194) rfl nm_pm10 (nm_in6 (List.mem_of_getElem? (i := 139) rfl) rfl) nm_im194 nm_sl194 rfl) (nm_fc (nm_k0 (N := nm_m195) rfl nm_pm10 (nm_in6 (List.mem_of_getElem? (i := 143) rfl) rfl) nm_im195 nm_sl195 rfl) (nm_fc (nm_k0 (N := nm_m196) rfl nm_pm4 (nm_in6 (List.mem_of_getElem? (i := 147) rfl) rfl) nm_im196 nm_sl196 rfl) (nm_fc (nm_k0 (N := nm_m197) rfl nm_pm4 (nm_in6 (List.mem_of_getElem? (i := 151) rfl) rfl) nm_im197 nm_sl197 rfl) (nm_fc (nm_k0 (N := nm_m198) rfl nm_pm4 (nm_in6 (List.mem_of_getElem? (i := 155) rfl) rfl) nm_im198 nm_sl198 rfl) (nm_fc (nm_k0 (N := nm_m199) rfl nm_pm0 (nm_in6 (List.mem_of_getElem? (i := 159) rfl) rfl) nm_im199 nm_sl199 rfl) (nm_fc (nm_k0 (N := nm_m200) rfl nm_pm1 (nm_in6 (List.mem_of_getElem? (i := 163) rfl) rfl) nm_im200 nm_sl200 rfl) (nm_fc (nm_k0 (N := nm_m201) rfl nm_pm0 (nm_in6 (List.mem_of_getElem? (i := 167) rfl) rfl) nm_im201 nm_sl201 rfl) (nm_fc (nm_k0 (N := nm_m202) rfl nm_pm5 (nm_in6 (List.mem_of_getElem? (i := 171) rfl) rfl) nm_im202 nm_sl202 rfl) (nm_fc (nm_k0 (N := nm_m203) rfl nm_pm4 (nm_in6 (List.mem_of_getElem? (i := 175) rfl) rfl) nm_im203 nm_sl203 rfl) (nm_fc (nm_k0 (N := nm_m204) rfl nm_pm8 (nm_in6 (List.mem_of_getElem? (i := 179) rfl) rfl) nm_im204 nm_sl204 rfl) (nm_fc (nm_k0 (N := nm_m205) rfl nm_pm2 (nm_in6 (List.mem_of_getElem? (i := 183) rfl) rfl) nm_im205 nm_sl205 rfl) (fun _ h => nomatch h)))))))))))))))))))))
def nm_ct_14 : List ((String × Nat) × (Nat × Nat)) := [(("CobolParserModel", 413), (206, 0)), (("CobolParserModel", 401), (207, 0)), (("CobolParserModel", 423), (208, 0)), (("CobolParserModel", 419), (209, 0)), (("CobolParserModel", 331), (210, 0)), (("CobolParserModel", 346), (211, 0)), (("CobolParserModel", 349), (212, 0)), (("CobolParserModel", 334), (213, 0)), (("CobolParserModel", 337), (214, 0)), (("CobolParserModel", 343), (215, 0)), (("CobolParserModel", 374), (216, 0)), (("CobolParserModel", 377), (217, 0)), (("CobolParserModel", 380), (218, 0)), (("CobolParserModel", 239), (219, 0)), (("CobolParserModel", 242), (220, 0)), (("CobolParserModel", 246), (221, 0)), (("CobolParserModel", 249), (222, 0)), (("CobolParserModel", 252), (223, 0)), (("CobolParserModel", 264), (224, 0)), (("CobolParserModel", 267), (225, 0))]
theorem nm_ct_ok_14 : ∀ q ∈ nm_ct_14, nm_okC q := (nm_fc (nm_k0 (N := nm_m206) rfl nm_pm4 (nm_in6 (List.mem_of_getElem? (i := 187) rfl) rfl) nm_im206 nm_sl206 rfl) (nm_fc (nm_k0 (N := nm_m207) rfl nm_pm3 (nm_in6 (List.mem_of_getElem? (i := 191) rfl) rfl) nm_im207 nm_sl207 rfl) (nm_fc (nm_k0 (N := nm_m208) rfl nm_pm1 (nm_in6 (List.mem_of_getElem? (i := 195) rfl) rfl) nm_im208 nm_sl208 rfl) (nm_fc (nm_k0 (N := nm_m209) rfl nm_pm12 (nm_in6 (List.mem_of_getElem? (i := 199) rfl) rfl) nm_im209 nm_sl209 rfl) (nm_fc (nm_k0 (N := nm_m210) rfl nm_pm4 (nm_in6 (List.mem_of_getElem? (i := 203) rfl) rfl) nm_im210 nm_sl210 rfl) (nm_fc (nm_k0 (N := nm_m211) rfl nm_pm4 (nm_in6 (List.mem_of_getElem? (i := 207) rfl) rfl) nm_im211 nm_sl211 rfl) (nm_fc (nm_k0 (N := nm_m212) rfl nm_pm2 (nm_in6 (List.mem_of_getElem? (i := 211) rfl) rfl) nm_im212 nm_sl212 rfl) (nm_fc (nm_k0 (N := nm_m213) rfl nm_pm4 (nm_in6 (List.mem_of_getElem? (i := 215) rfl) rfl) nm_im213 nm_sl213 rfl) (nm_fc (nm_k0 (N := nm_m214) rfl nm_pm4 (nm_in6 (List.mem_of_getElem? (i := 219) rfl) rfl) nm_im214 nm_sl214 rfl) (nm_fc (nm_k0 (N := nm_m215) rfl nm_pm0 (nm_in6 (List.mem_of_getElem? (i := 223) rfl) rfl) nm_im215 nm_sl215 rfl) (nm_fc (nm_k0 (N := nm_m216) rfl nm_pm1 (nm_in6 (List.mem_of_getElem? (i := 227) rfl) rfl) nm_im216 nm_sl216 rfl) (nm_fc (nm_k0 (N := nm_m217) rfl nm_pm3 (nm_in6 (List.mem_of_getElem? (i := 231) rfl) rfl) nm_im217 nm_sl217 rfl) (nm_fc (nm_k0 (N := nm_m218) rfl nm_pm9 (nm_in6 (List.mem_of_getElem? (i := 235) rfl) rfl) nm_im218 nm_sl218 rfl) (nm_fc (nm_k0 (N := nm_m219) rfl nm_pm4 (nm_in6 (List.mem_of_getElem? (i := 239) rfl) rfl) nm_im219 nm_sl219 rfl) (nm_fc (nm_k0 (N := nm_m220) rfl nm_pm21 (nm_in7 (List.mem_of_getElem? (i := 3) rfl) rfl) nm_im220 nm_sl220 rfl) (nm_fc (nm_k0 (N := nm_m221) rfl nm_pm4 (nm_in7 (List.mem_of_getElem? (i := 7) rfl) rfl) nm_im221 nm_sl221 rfl) (nm_fc (nm_k0 (N := nm_m222) rfl nm_pm4 (nm_in7 (List.mem_of_getElem? (i := 11) rfl) rfl) nm_im222 nm_sl222 rfl) (nm_fc (nm_k0 (N := nm_m223) rfl nm_pm4 (nm_in7 (List.mem_of_getElem? (i := 15) rfl) rfl) nm_im223 nm_sl223 rfl) (nm_fc (nm_k0 (N := nm_m224) rfl nm_pm4 (nm_in7 (List.mem_of_getElem? (i := 19) rfl) rfl) nm_im224 nm_sl224 rfl) (nm_fc (nm_k0 (N := nm_m225) rfl nm_pm7 (nm_in7 (List.mem_of_getElem? (i := 23) rfl) rfl) nm_im225 nm_sl225 rfl) (fun _ h => nomatch h)))))))))))))))))))))
def nm_ct_15 : List ((String × Nat) × (Nat × Nat)) := [(("CobolParserModel", 217), (226, 0)), (("CobolParserLaw", 36), (227, 0)), (("CobolParserModel", 426), (228, 2)), (("CobolParserLaw", 40), (229, 0)), (("CobolParserLaw", 44), (230, 0)), (("CobolParserLaw", 48), (231, 0)), (("CobolParserLaw", 52), (232, 0)), (("CobolParserLaw", 56), (233, 0)), (("CobolParserLaw", 61), (234, 0)), (("CobolParser", 9), (1, 4)), (("CobolParser", 18), (2, 4)), (("CobolParser$Clauses", 11), (8, 4)), (("CobolParser$Clauses", 228), (87, 3)), (("CobolParser$Statements", 153), (96, 3)), (("CobolParser$Statements", 138), (121, 3))]
theorem nm_ct_ok_15 : ∀ q ∈ nm_ct_15, nm_okC q := (nm_fc (nm_k0 (N := nm_m226) rfl nm_pm4 (nm_in7 (List.mem_of_getElem? (i := 27) rfl) rfl) nm_im226 nm_sl226 rfl) (nm_fc (nm_k0 (N := nm_m227) rfl nm_pm6 (nm_in7 (List.mem_of_getElem? (i := 31) rfl) rfl) nm_im227 nm_sl227 rfl) (nm_fc (nm_k2 (N := nm_m228) rfl nm_pm5 (nm_in7 (List.mem_of_getElem? (i := 35) rfl) rfl) (nm_in7 (List.mem_of_getElem? (i := 36) rfl) rfl) rfl) (nm_fc (nm_k0 (N := nm_m229) rfl nm_pm6 (nm_in7 (List.mem_of_getElem? (i := 38) rfl) rfl) nm_im229 nm_sl229 rfl) (nm_fc (nm_k0 (N := nm_m230) rfl nm_pm0 (nm_in7 (List.mem_of_getElem? (i := 42) rfl) rfl) nm_im230 nm_sl230 rfl) (nm_fc (nm_k0 (N := nm_m231) rfl nm_pm6 (nm_in7 (List.mem_of_getElem? (i := 46) rfl) rfl) nm_im231 nm_sl231 rfl) (nm_fc (nm_k0 (N := nm_m232) rfl nm_pm6 (nm_in7 (List.mem_of_getElem? (i := 50) rfl) rfl) nm_im232 nm_sl232 rfl) (nm_fc (nm_k0 (N := nm_m233) rfl nm_pm0 (nm_in7 (List.mem_of_getElem? (i := 54) rfl) rfl) nm_im233 nm_sl233 rfl) (nm_fc (nm_k0 (N := nm_m234) rfl nm_pm3 (nm_in7 (List.mem_of_getElem? (i := 58) rfl) rfl) nm_im234 nm_sl234 rfl) (nm_fc (nm_k4 (N := nm_m1) rfl nm_pm1 (host := "CobolParser") (List.mem_of_getElem? (i := 0) rfl) nm_im1 rfl rfl rfl rfl) (nm_fc (nm_k4 (N := nm_m2) rfl nm_pm1 (host := "CobolParser") (List.mem_of_getElem? (i := 1) rfl) nm_im2 rfl rfl rfl rfl) (nm_fc (nm_k4 (N := nm_m8) rfl nm_pm1 (host := "CobolParser") (List.mem_of_getElem? (i := 2) rfl) nm_im8 rfl rfl rfl rfl) (nm_fc (nm_k3 (N := nm_m87) rfl nm_pm6 (host := "CobolParser") (List.mem_of_getElem? (i := 3) rfl) nm_im87 nm_sl87 rfl) (nm_fc (nm_k3 (N := nm_m96) rfl nm_pm3 (host := "CobolParser") (List.mem_of_getElem? (i := 4) rfl) nm_im96 nm_sl96 rfl) (nm_fc (nm_k3 (N := nm_m121) rfl nm_pm3 (host := "CobolParser") (List.mem_of_getElem? (i := 5) rfl) nm_im121 nm_sl121 rfl) (fun _ h => nomatch h))))))))))))))))
def nm_ct : List ((String × Nat) × (Nat × Nat)) := nm_ct_0 ++ nm_ct_1 ++ nm_ct_2 ++ nm_ct_3 ++ nm_ct_4 ++ nm_ct_5 ++ nm_ct_6 ++ nm_ct_7 ++ nm_ct_8 ++ nm_ct_9 ++ nm_ct_10 ++ nm_ct_11 ++ nm_ct_12 ++ nm_ct_13 ++ nm_ct_14 ++ nm_ct_15
theorem nm_ct_ok : ∀ q ∈ nm_ct, nm_okC q := (nm_fa (nm_fa (nm_fa (nm_fa (nm_fa (nm_fa (nm_fa (nm_fa (nm_fa (nm_fa (nm_fa (nm_fa (nm_fa (nm_fa (nm_fa nm_ct_ok_0 nm_ct_ok_1) nm_ct_ok_2) nm_ct_ok_3) nm_ct_ok_4) nm_ct_ok_5) nm_ct_ok_6) nm_ct_ok_7) nm_ct_ok_8) nm_ct_ok_9) nm_ct_ok_10) nm_ct_ok_11) nm_ct_ok_12) nm_ct_ok_13) nm_ct_ok_14) nm_ct_ok_15)
end
section
/-! throws; the tables are valid; by wip/whole/gen.py -/
def nm_th : List ((String × Nat) × (Nat × Nat × Nat)) := [(("CobolParser$Row", 67), (10, 69, 71)), (("CobolParser", 142), (11, 144, 146))]
def nm_St (sa : Nat → Nat) : List (String × Nat × String × Nat) := [("CobolParser$Row", 69, "a bad clause", sa 0), ("CobolParser", 144, "the words have faults", sa 1)]
set_option maxRecDepth 10000 in
theorem nm_at0 : ∀ w ∈ Bundle.ownAtoms "CobolParser$Row" 71 "java/lang/IllegalArgumentException" ["java/lang/RuntimeException", "java/lang/Exception"], am_nh w = true → (w ∈ nm_Tg ∨ w ∈ nm_Ns) ∧ w.onTables = true := (nm_fa (nm_fa (nm_fa (nm_fc (fun _ => ⟨Or.inl (nm_in1 (List.mem_of_getElem? (i := 14) rfl) rfl), rfl⟩) (nm_fc (fun _ => ⟨Or.inl (nm_in2 (List.mem_of_getElem? (i := 221) rfl) rfl), rfl⟩) (nm_fc (fun _ => ⟨Or.inl (nm_in2 (List.mem_of_getElem? (i := 230) rfl) rfl), rfl⟩) (nm_fc (fun _ => ⟨Or.inl (nm_in2 (List.mem_of_getElem? (i := 233) rfl) rfl), rfl⟩) (nm_fc (fun _ => ⟨Or.inl (nm_in2 (List.mem_of_getElem? (i := 236) rfl) rfl), rfl⟩) (nm_fc (fun _ => ⟨Or.inl (nm_in2 (List.mem_of_getElem? (i := 238) rfl) rfl), rfl⟩) (nm_fc (fun _ => ⟨Or.inl (nm_in2 (List.mem_of_getElem? (i := 222) rfl) rfl), rfl⟩) (nm_fc (fun _ => ⟨Or.inl (nm_in2 (List.mem_of_getElem? (i := 223) rfl) rfl), rfl⟩) (nm_fc (fun _ => ⟨Or.inl (nm_in1 (List.mem_of_getElem? (i := 25) rfl) rfl), rfl⟩) (nm_fc (fun _ => ⟨Or.inl (nm_in1 (List.mem_of_getElem? (i := 26) rfl) rfl), rfl⟩) (nm_fc (fun _ => ⟨Or.inl (nm_in2 (List.mem_of_getElem? (i := 224) rfl) rfl), rfl⟩) (nm_fc (fun _ => ⟨Or.inl (nm_in2 (List.mem_of_getElem? (i := 229) rfl) rfl), rfl⟩) (nm_fc (fun _ => ⟨Or.inl (nm_in2 (List.mem_of_getElem? (i := 234) rfl) rfl), rfl⟩) (nm_fc (fun _ => ⟨Or.inl (nm_in3 (List.mem_of_getElem? (i := 14) rfl) rfl), rfl⟩) (nm_fc (fun _ => ⟨Or.inl (nm_in2 (List.mem_of_getElem? (i := 211) rfl) rfl), rfl⟩) (nm_fc (fun _ => ⟨Or.inl (nm_in3 (List.mem_of_getElem? (i := 15) rfl) rfl), rfl⟩) (nm_fc (fun _ => ⟨Or.inl (nm_in2 (List.mem_of_getElem? (i := 213) rfl) rfl), rfl⟩) (nm_fc (fun _ => ⟨Or.inl (nm_in3 (List.mem_of_getElem? (i := 16) rfl) rfl), rfl⟩) (nm_fc (fun _ => ⟨Or.inl (nm_in2 (List.mem_of_getElem? (i := 215) rfl) rfl), rfl⟩) (nm_fc (fun _ => ⟨Or.inl (nm_in2 (List.mem_of_getElem? (i := 225) rfl) rfl), rfl⟩) (nm_fc (fun h => absurd h (by decide +kernel)) (nm_fc (fun _ => ⟨Or.inl (nm_in2 (List.mem_of_getElem? (i := 227) rfl) rfl), rfl⟩) (nm_fc (fun h => absurd h (by decide +kernel)) (nm_fc (fun _ => ⟨Or.inl (nm_in2 (List.mem_of_getElem? (i := 217) rfl) rfl), rfl⟩) (fun _ h => nomatch h))))))))))))))))))))))))) (nm_fc (fun _ => ⟨Or.inl (nm_in3 (List.mem_of_getElem? (i := 10) rfl) rfl), rfl⟩) (nm_fc (fun _ => ⟨Or.inl (nm_in3 (List.mem_of_getElem? (i := 11) rfl) rfl), rfl⟩) (nm_fc (fun _ => ⟨Or.inl (nm_in3 (List.mem_of_getElem? (i := 13) rfl) rfl), rfl⟩) (nm_fc (fun _ => ⟨Or.inl (nm_in2 (List.mem_of_getElem? (i := 217) rfl) rfl), rfl⟩) (fun _ h => nomatch h)))))) (nm_fa (nm_fc (fun _ => ⟨Or.inl (nm_in3 (List.mem_of_getElem? (i := 1) rfl) rfl), rfl⟩) (nm_fc (fun _ => ⟨Or.inl (nm_in3 (List.mem_of_getElem? (i := 2) rfl) rfl), rfl⟩) (nm_fc (fun _ => ⟨Or.inl (nm_in3 (List.mem_of_getElem? (i := 3) rfl) rfl), rfl⟩) (nm_fc (fun _ => ⟨Or.inl (nm_in3 (List.mem_of_getElem? (i := 4) rfl) rfl), rfl⟩) (nm_fc (fun _ => ⟨Or.inr (List.mem_of_getElem? (i := 9) rfl), rfl⟩) (fun _ h => nomatch h)))))) (nm_fa (nm_fc (fun _ => ⟨Or.inl (nm_in3 (List.mem_of_getElem? (i := 4) rfl) rfl), rfl⟩) (nm_fc (fun _ => ⟨Or.inl (nm_in3 (List.mem_of_getElem? (i := 5) rfl) rfl), rfl⟩) (nm_fc (fun _ => ⟨Or.inl (nm_in3 (List.mem_of_getElem? (i := 6) rfl) rfl), rfl⟩) (nm_fc (fun _ => ⟨Or.inl (nm_in3 (List.mem_of_getElem? (i := 7) rfl) rfl), rfl⟩) (nm_fc (fun _ => ⟨Or.inr (List.mem_of_getElem? (i := 11) rfl), rfl⟩) (fun _ h => nomatch h)))))) (nm_fc (fun _ => ⟨Or.inl (nm_in3 (List.mem_of_getElem? (i := 7) rfl) rfl), rfl⟩) (nm_fc (fun _ => ⟨Or.inl (nm_in3 (List.mem_of_getElem? (i := 8) rfl) rfl), rfl⟩) (nm_fc (fun _ => ⟨Or.inl (nm_in3 (List.mem_of_getElem? (i := 9) rfl) rfl), rfl⟩) (nm_fc (fun _ => ⟨Or.inl (nm_in3 (List.mem_of_getElem? (i := 10) rfl) rfl), rfl⟩) (nm_fc (fun _ => ⟨Or.inr (List.mem_of_getElem? (i := 13) rfl), rfl⟩) (fun _ h => nomatch h))))))))) (nm_fc (fun _ => ⟨Or.inl (nm_in3 (List.mem_of_getElem? (i := 0) rfl) rfl), rfl⟩) (nm_fc (fun _ => ⟨Or.inl (nm_in2 (List.mem_of_getElem? (i := 200) rfl) rfl), rfl⟩) (nm_fc (fun _ => ⟨Or.inr (List.mem_of_getElem? (i := 6) rfl), rfl⟩) (nm_fc (fun _ => ⟨Or.inl (nm_in2 (List.mem_of_getElem? (i := 208) rfl) rfl), rfl⟩) (nm_fc (fun _ => ⟨Or.inl (nm_in2 (List.mem_of_getElem? (i := 209) rfl) rfl), rfl⟩) (nm_fc (fun _ => ⟨Or.inl (nm_in2 (List.mem_of_getElem? (i := 210) rfl) rfl), rfl⟩) (nm_fc (fun _ => ⟨Or.inl (nm_in2 (List.mem_of_getElem? (i := 212) rfl) rfl), rfl⟩) (nm_fc (fun _ => ⟨Or.inl (nm_in2 (List.mem_of_getElem? (i := 214) rfl) rfl), rfl⟩) (nm_fc (fun _ => ⟨Or.inl (nm_in2 (List.mem_of_getElem? (i := 216) rfl) rfl), rfl⟩) (nm_fc (fun h => absurd h (by decide +kernel)) (nm_fc (fun h => absurd h (by decide +kernel)) (nm_fc (fun _ => ⟨Or.inl (nm_in2 (List.mem_of_getElem? (i := 220) rfl) rfl), rfl⟩) (nm_fc (fun _ => ⟨Or.inl (nm_in2 (List.mem_of_getElem? (i := 219) rfl) rfl), rfl⟩) (nm_fc (fun _ => ⟨Or.inl (nm_in2 (List.mem_of_getElem? (i := 218) rfl) rfl), rfl⟩) (fun _ h => nomatch h))))))))))))))))
set_option maxRecDepth 10000 in
theorem nm_at1 : ∀ w ∈ Bundle.ownAtoms "CobolParser" 146 "java/lang/IllegalStateException" ["java/lang/RuntimeException", "java/lang/Exception"], am_nh w = true → (w ∈ nm_Tg ∨ w ∈ nm_Ns) ∧ w.onTables = true := (nm_fa (nm_fa (nm_fa (nm_fc (fun _ => ⟨Or.inl (nm_in1 (List.mem_of_getElem? (i := 14) rfl) rfl), rfl⟩) (nm_fc (fun _ => ⟨Or.inl (nm_in2 (List.mem_of_getElem? (i := 221) rfl) rfl), rfl⟩) (nm_fc (fun _ => ⟨Or.inl (nm_in2 (List.mem_of_getElem? (i := 230) rfl) rfl), rfl⟩) (nm_fc (fun _ => ⟨Or.inl (nm_in2 (List.mem_of_getElem? (i := 233) rfl) rfl), rfl⟩) (nm_fc (fun _ => ⟨Or.inl (nm_in2 (List.mem_of_getElem? (i := 236) rfl) rfl), rfl⟩) (nm_fc (fun _ => ⟨Or.inl (nm_in2 (List.mem_of_getElem? (i := 238) rfl) rfl), rfl⟩) (nm_fc (fun _ => ⟨Or.inl (nm_in2 (List.mem_of_getElem? (i := 222) rfl) rfl), rfl⟩) (nm_fc (fun _ => ⟨Or.inl (nm_in2 (List.mem_of_getElem? (i := 223) rfl) rfl), rfl⟩) (nm_fc (fun _ => ⟨Or.inl (nm_in1 (List.mem_of_getElem? (i := 25) rfl) rfl), rfl⟩) (nm_fc (fun _ => ⟨Or.inl (nm_in1 (List.mem_of_getElem? (i := 26) rfl) rfl), rfl⟩) (nm_fc (fun _ => ⟨Or.inl (nm_in2 (List.mem_of_getElem? (i := 224) rfl) rfl), rfl⟩) (nm_fc (fun _ => ⟨Or.inl (nm_in2 (List.mem_of_getElem? (i := 229) rfl) rfl), rfl⟩) (nm_fc (fun _ => ⟨Or.inl (nm_in2 (List.mem_of_getElem? (i := 234) rfl) rfl), rfl⟩) (nm_fc (fun _ => ⟨Or.inl (nm_in3 (List.mem_of_getElem? (i := 14) rfl) rfl), rfl⟩) (nm_fc (fun _ => ⟨Or.inl (nm_in2 (List.mem_of_getElem? (i := 211) rfl) rfl), rfl⟩) (nm_fc (fun _ => ⟨Or.inl (nm_in3 (List.mem_of_getElem? (i := 15) rfl) rfl), rfl⟩) (nm_fc (fun _ => ⟨Or.inl (nm_in2 (List.mem_of_getElem? (i := 213) rfl) rfl), rfl⟩) (nm_fc (fun _ => ⟨Or.inl (nm_in3 (List.mem_of_getElem? (i := 16) rfl) rfl), rfl⟩) (nm_fc (fun _ => ⟨Or.inl (nm_in2 (List.mem_of_getElem? (i := 215) rfl) rfl), rfl⟩) (nm_fc (fun _ => ⟨Or.inl (nm_in2 (List.mem_of_getElem? (i := 225) rfl) rfl), rfl⟩) (nm_fc (fun h => absurd h (by decide +kernel)) (nm_fc (fun _ => ⟨Or.inl (nm_in2 (List.mem_of_getElem? (i := 227) rfl) rfl), rfl⟩) (nm_fc (fun h => absurd h (by decide +kernel)) (nm_fc (fun _ => ⟨Or.inl (nm_in2 (List.mem_of_getElem? (i := 217) rfl) rfl), rfl⟩) (fun _ h => nomatch h))))))))))))))))))))))))) (nm_fc (fun _ => ⟨Or.inl (nm_in3 (List.mem_of_getElem? (i := 10) rfl) rfl), rfl⟩) (nm_fc (fun _ => ⟨Or.inl (nm_in3 (List.mem_of_getElem? (i := 11) rfl) rfl), rfl⟩) (nm_fc (fun _ => ⟨Or.inl (nm_in3 (List.mem_of_getElem? (i := 13) rfl) rfl), rfl⟩) (nm_fc (fun _ => ⟨Or.inl (nm_in2 (List.mem_of_getElem? (i := 217) rfl) rfl), rfl⟩) (fun _ h => nomatch h)))))) (nm_fa (nm_fc (fun _ => ⟨Or.inl (nm_in5 (List.mem_of_getElem? (i := 10) rfl) rfl), rfl⟩) (nm_fc (fun _ => ⟨Or.inl (nm_in5 (List.mem_of_getElem? (i := 11) rfl) rfl), rfl⟩) (nm_fc (fun _ => ⟨Or.inl (nm_in5 (List.mem_of_getElem? (i := 12) rfl) rfl), rfl⟩) (nm_fc (fun _ => ⟨Or.inl (nm_in3 (List.mem_of_getElem? (i := 4) rfl) rfl), rfl⟩) (nm_fc (fun _ => ⟨Or.inr (List.mem_of_getElem? (i := 9) rfl), rfl⟩) (fun _ h => nomatch h)))))) (nm_fa (nm_fc (fun _ => ⟨Or.inl (nm_in3 (List.mem_of_getElem? (i := 4) rfl) rfl), rfl⟩) (nm_fc (fun _ => ⟨Or.inl (nm_in3 (List.mem_of_getElem? (i := 5) rfl) rfl), rfl⟩) (nm_fc (fun _ => ⟨Or.inl (nm_in3 (List.mem_of_getElem? (i := 6) rfl) rfl), rfl⟩) (nm_fc (fun _ => ⟨Or.inl (nm_in3 (List.mem_of_getElem? (i := 7) rfl) rfl), rfl⟩) (nm_fc (fun _ => ⟨Or.inr (List.mem_of_getElem? (i := 11) rfl), rfl⟩) (fun _ h => nomatch h)))))) (nm_fc (fun _ => ⟨Or.inl (nm_in3 (List.mem_of_getElem? (i := 7) rfl) rfl), rfl⟩) (nm_fc (fun _ => ⟨Or.inl (nm_in3 (List.mem_of_getElem? (i := 8) rfl) rfl), rfl⟩) (nm_fc (fun _ => ⟨Or.inl (nm_in3 (List.mem_of_getElem? (i := 9) rfl) rfl), rfl⟩) (nm_fc (fun _ => ⟨Or.inl (nm_in3 (List.mem_of_getElem? (i := 10) rfl) rfl), rfl⟩) (nm_fc (fun _ => ⟨Or.inr (List.mem_of_getElem? (i := 13) rfl), rfl⟩) (fun _ h => nomatch h))))))))) (nm_fc (fun _ => ⟨Or.inl (nm_in5 (List.mem_of_getElem? (i := 9) rfl) rfl), rfl⟩) (nm_fc (fun _ => ⟨Or.inl (nm_in5 (List.mem_of_getElem? (i := 0) rfl) rfl), rfl⟩) (nm_fc (fun _ => ⟨Or.inr (List.mem_of_getElem? (i := 7) rfl), rfl⟩) (nm_fc (fun _ => ⟨Or.inl (nm_in5 (List.mem_of_getElem? (i := 2) rfl) rfl), rfl⟩) (nm_fc (fun _ => ⟨Or.inl (nm_in2 (List.mem_of_getElem? (i := 232) rfl) rfl), rfl⟩) (nm_fc (fun _ => ⟨Or.inl (nm_in5 (List.mem_of_getElem? (i := 3) rfl) rfl), rfl⟩) (nm_fc (fun _ => ⟨Or.inl (nm_in5 (List.mem_of_getElem? (i := 4) rfl) rfl), rfl⟩) (nm_fc (fun _ => ⟨Or.inl (nm_in5 (List.mem_of_getElem? (i := 5) rfl) rfl), rfl⟩) (nm_fc (fun _ => ⟨Or.inl (nm_in5 (List.mem_of_getElem? (i := 6) rfl) rfl), rfl⟩) (nm_fc (fun h => absurd h (by decide +kernel)) (nm_fc (fun h => absurd h (by decide +kernel)) (nm_fc (fun _ => ⟨Or.inl (nm_in2 (List.mem_of_getElem? (i := 220) rfl) rfl), rfl⟩) (nm_fc (fun _ => ⟨Or.inl (nm_in2 (List.mem_of_getElem? (i := 219) rfl) rfl), rfl⟩) (nm_fc (fun _ => ⟨Or.inl (nm_in5 (List.mem_of_getElem? (i := 7) rfl) rfl), rfl⟩) (fun _ h => nomatch h))))))))))))))))
/-- what follows a 'new' of a class that is thrown -/
def nm_chk (M : am_M) : Bool := (am_cd M).all fun e => match am_isNew (some e.2) with
  | some k => match nm_th.lookup ((am_y M).cls, k) with
    | some r => decide ((am_cd M).lookup (e.1 + 4) = some (.ldc r.2.1, 2) ∧ (am_cd M).lookup (e.1 + 6) = some (.invokespecial r.2.2, 3))
    | none => true
  | none => true
theorem nm_ch0 : ∀ q ∈ ([nm_m0, nm_m1, nm_m2, nm_m3, nm_m4, nm_m5, nm_m6, nm_m7, nm_m8, nm_m9, nm_m10, nm_m11, nm_m12, nm_m13, nm_m14, nm_m15, nm_m16, nm_m17, nm_m18, nm_m19, nm_m20, nm_m21, nm_m22, nm_m23, nm_m24, nm_m25, nm_m26, nm_m27, nm_m28, nm_m29, nm_m30, nm_m31, nm_m32, nm_m33, nm_m34, nm_m35, nm_m36, nm_m37, nm_m38, nm_m39] : List am_M), nm_chk q = true := by decide +kernel
theorem nm_ch1 : ∀ q ∈ ([nm_m40, nm_m41, nm_m42, nm_m43, nm_m44, nm_m45, nm_m46, nm_m47, nm_m48, nm_m49, nm_m50, nm_m51, nm_m52, nm_m53, nm_m54, nm_m55, nm_m56, nm_m57, nm_m58, nm_m59, nm_m60, nm_m61, nm_m62, nm_m63, nm_m64, nm_m65, nm_m66, nm_m67, nm_m68, nm_m69, nm_m70, nm_m71, nm_m72, nm_m73, nm_m74, nm_m75, nm_m76, nm_m77, nm_m78, nm_m79] : List am_M), nm_chk q = true := by decide +kernel
theorem nm_ch2 : ∀ q ∈ ([nm_m80, nm_m81, nm_m82, nm_m83, nm_m84, nm_m85, nm_m86, nm_m87, nm_m88, nm_m89, nm_m90, nm_m91, nm_m92, nm_m93, nm_m94, nm_m95, nm_m96, nm_m97, nm_m98, nm_m99, nm_m100, nm_m101, nm_m102, nm_m103, nm_m104, nm_m105, nm_m106, nm_m107, nm_m108, nm_m109, nm_m110, nm_m111, nm_m112, nm_m113, nm_m114, nm_m115, nm_m116, nm_m117, nm_m118, nm_m119] : List am_M), nm_chk q = true := by decide +kernel
theorem nm_ch3 : ∀ q ∈ ([nm_m120, nm_m121, nm_m122, nm_m123, nm_m124, nm_m125, nm_m126, nm_m127, nm_m128, nm_m129, nm_m130, nm_m131, nm_m132, nm_m133, nm_m134, nm_m135, nm_m136, nm_m137, nm_m138, nm_m139, nm_m140, nm_m141, nm_m142, nm_m143, nm_m144, nm_m145, nm_m146, nm_m147, nm_m148, nm_m149, nm_m150, nm_m151, nm_m152, nm_m153, nm_m154, nm_m155, nm_m156, nm_m157, nm_m158, nm_m159] : List am_M), nm_chk q = true := by decide +kernel
theorem nm_ch4 : ∀ q ∈ ([nm_m160, nm_m161, nm_m162, nm_m163, nm_m164, nm_m165, nm_m166, nm_m167, nm_m168, nm_m169, nm_m170, nm_m171, nm_m172, nm_m173, nm_m174, nm_m175, nm_m176, nm_m177, nm_m178, nm_m179, nm_m180, nm_m181, nm_m182, nm_m183, nm_m184, nm_m185, nm_m186, nm_m187, nm_m188, nm_m189, nm_m190, nm_m191, nm_m192, nm_m193, nm_m194, nm_m195, nm_m196, nm_m197, nm_m198, nm_m199] : List am_M), nm_chk q = true := by decide +kernel
theorem nm_ch5 : ∀ q ∈ ([nm_m200, nm_m201, nm_m202, nm_m203, nm_m204, nm_m205, nm_m206, nm_m207, nm_m208, nm_m209, nm_m210, nm_m211, nm_m212, nm_m213, nm_m214, nm_m215, nm_m216, nm_m217, nm_m218, nm_m219, nm_m220, nm_m221, nm_m222, nm_m223, nm_m224, nm_m225, nm_m226, nm_m227, nm_m228, nm_m229, nm_m230, nm_m231, nm_m232, nm_m233, nm_m234] : List am_M), nm_chk q = true := by decide +kernel
set_option maxRecDepth 10000 in
theorem nm_chk_all : ∀ q ∈ nm_ML, nm_chk q.1 = true := (nm_fc (nm_ch0 _ (List.mem_of_getElem? (i := 0) rfl)) (nm_fc (nm_ch0 _ (List.mem_of_getElem? (i := 1) rfl)) (nm_fc (nm_ch0 _ (List.mem_of_getElem? (i := 2) rfl)) (nm_fc (nm_ch0 _ (List.mem_of_getElem? (i := 3) rfl)) (nm_fc (nm_ch0 _ (List.mem_of_getElem? (i := 4) rfl)) (nm_fc (nm_ch0 _ (List.mem_of_getElem? (i := 5) rfl)) (nm_fc (nm_ch0 _ (List.mem_of_getElem? (i := 6) rfl)) (nm_fc (nm_ch0 _ (List.mem_of_getElem? (i := 7) rfl)) (nm_fc (nm_ch0 _ (List.mem_of_getElem? (i := 8) rfl)) (nm_fc (nm_ch0 _ (List.mem_of_getElem? (i := 9) rfl)) (nm_fc (nm_ch0 _ (List.mem_of_getElem? (i := 10) rfl)) (nm_fc (nm_ch0 _ (List.mem_of_getElem? (i := 11) rfl)) (nm_fc (nm_ch0 _ (List.mem_of_getElem? (i := 12) rfl)) (nm_fc (nm_ch0 _ (List.mem_of_getElem? (i := 13) rfl)) (nm_fc (nm_ch0 _ (List.mem_of_getElem? (i := 14) rfl)) (nm_fc (nm_ch0 _ (List.mem_of_getElem? (i := 15) rfl)) (nm_fc (nm_ch0 _ (List.mem_of_getElem? (i := 16) rfl)) (nm_fc (nm_ch0 _ (List.mem_of_getElem? (i := 17) rfl)) (nm_fc (nm_ch0 _ (List.mem_of_getElem? (i := 18) rfl)) (nm_fc (nm_ch0 _ (List.mem_of_getElem? (i := 19) rfl)) (nm_fc (nm_ch0 _ (List.mem_of_getElem? (i := 20) rfl)) (nm_fc (nm_ch0 _ (List.mem_of_getElem? (i := 21) rfl)) (nm_fc (nm_ch0 _ (List.mem_of_getElem? (i := 22) rfl)) (nm_fc (nm_ch0 _ (List.mem_of_getElem? (i := 23) rfl)) (nm_fc (nm_ch0 _ (List.mem_of_getElem? (i := 24) rfl)) (nm_fc (nm_ch0 _ (List.mem_of_getElem? (i := 25) rfl)) (nm_fc (nm_ch0 _ (List.mem_of_getElem? (i := 26) rfl)) (nm_fc (nm_ch0 _ (List.mem_of_getElem? (i := 27) rfl)) (nm_fc (nm_ch0 _ (List.mem_of_getElem? (i := 28) rfl)) (nm_fc (nm_ch0 _ (List.mem_of_getElem? (i := 29) rfl)) (nm_fc (nm_ch0 _ (List.mem_of_getElem? (i := 30) rfl)) (nm_fc (nm_ch0 _ (List.mem_of_getElem? (i := 31) rfl)) (nm_fc (nm_ch0 _ (List.mem_of_getElem? (i := 32) rfl)) (nm_fc (nm_ch0 _ (List.mem_of_getElem? (i := 33) rfl)) (nm_fc (nm_ch0 _ (List.mem_of_getElem? (i := 34) rfl)) (nm_fc (nm_ch0 _ (List.mem_of_getElem? (i := 35) rfl)) (nm_fc (nm_ch0 _ (List.mem_of_getElem? (i := 36) rfl)) (nm_fc (nm_ch0 _ (List.mem_of_getElem? (i := 37) rfl)) (nm_fc (nm_ch0 _ (List.mem_of_getElem? (i := 38) rfl)) (nm_fc (nm_ch0 _ (List.mem_of_getElem? (i := 39) rfl)) (nm_fc (nm_ch1 _ (List.mem_of_getElem? (i := 0) rfl)) (nm_fc (nm_ch1 _ (List.mem_of_getElem? (i := 1) rfl)) (nm_fc (nm_ch1 _ (List.mem_of_getElem? (i := 2) rfl)) (nm_fc (nm_ch1 _ (List.mem_of_getElem? (i := 3) rfl)) (nm_fc (nm_ch1 _ (List.mem_of_getElem? (i := 4) rfl)) (nm_fc (nm_ch1 _ (List.mem_of_getElem? (i := 5) rfl)) (nm_fc (nm_ch1 _ (List.mem_of_getElem? (i := 6) rfl)) (nm_fc (nm_ch1 _ (List.mem_of_getElem? (i := 7) rfl)) (nm_fc (nm_ch1 _ (List.mem_of_getElem? (i := 8) rfl)) (nm_fc (nm_ch1 _ (List.mem_of_getElem? (i := 9) rfl)) (nm_fc (nm_ch1 _ (List.mem_of_getElem? (i := 10) rfl)) (nm_fc (nm_ch1 _ (List.mem_of_getElem? (i := 11) rfl)) (nm_fc (nm_ch1 _ (List.mem_of_getElem? (i := 12) rfl)) (nm_fc (nm_ch1 _ (List.mem_of_getElem? (i := 13) rfl)) (nm_fc (nm_ch1 _ (List.mem_of_getElem? (i := 14) rfl)) (nm_fc (nm_ch1 _ (List.mem_of_getElem? (i := 15) rfl)) (nm_fc (nm_ch1 _ (List.mem_of_getElem? (i := 16) rfl)) (nm_fc (nm_ch1 _ (List.mem_of_getElem? (i := 17) rfl)) (nm_fc (nm_ch1 _ (List.mem_of_getElem? (i := 18) rfl)) (nm_fc (nm_ch1 _ (List.mem_of_getElem? (i := 19) rfl)) (nm_fc (nm_ch1 _ (List.mem_of_getElem? (i := 20) rfl)) (nm_fc (nm_ch1 _ (List.mem_of_getElem? (i := 21) rfl)) (nm_fc (nm_ch1 _ (List.mem_of_getElem? (i := 22) rfl)) (nm_fc (nm_ch1 _ (List.mem_of_getElem? (i := 23) rfl)) (nm_fc (nm_ch1 _ (List.mem_of_getElem? (i := 24) rfl)) (nm_fc (nm_ch1 _ (List.mem_of_getElem? (i := 25) rfl)) (nm_fc (nm_ch1 _ (List.mem_of_getElem? (i := 26) rfl)) (nm_fc (nm_ch1 _ (List.mem_of_getElem? (i := 27) rfl)) (nm_fc (nm_ch1 _ (List.mem_of_getElem? (i := 28) rfl)) (nm_fc (nm_ch1 _ (List.mem_of_getElem? (i := 29) rfl)) (nm_fc (nm_ch1 _ (List.mem_of_getElem? (i := 30) rfl)) (nm_fc (nm_ch1 _ (List.mem_of_getElem? (i := 31) rfl)) (nm_fc (nm_ch1 _ (List.mem_of_getElem? (i := 32) rfl)) (nm_fc (nm_ch1 _ (List.mem_of_getElem? (i := 33) rfl)) (nm_fc (nm_ch1 _ (List.mem_of_getElem? (i := 34) rfl)) (nm_fc (nm_ch1 _ (List.mem_of_getElem? (i := 35) rfl)) (nm_fc (nm_ch1 _ (List.mem_of_getElem? (i := 36) rfl)) (nm_fc (nm_ch1 _ (List.mem_of_getElem? (i := 37) rfl)) (nm_fc (nm_ch1 _ (List.mem_of_getElem? (i := 38) rfl)) (nm_fc (nm_ch1 _ (List.mem_of_getElem? (i := 39) rfl)) (nm_fc (nm_ch2 _ (List.mem_of_getElem? (i := 0) rfl)) (nm_fc (nm_ch2 _ (List.mem_of_getElem? (i := 1) rfl)) (nm_fc (nm_ch2 _ (List.mem_of_getElem? (i := 2) rfl)) (nm_fc (nm_ch2 _ (List.mem_of_getElem? (i := 3) rfl)) (nm_fc (nm_ch2 _ (List.mem_of_getElem? (i := 4) rfl)) (nm_fc (nm_ch2 _ (List.mem_of_getElem? (i := 5) rfl)) (nm_fc (nm_ch2 _ (List.mem_of_getElem? (i := 6) rfl)) (nm_fc (nm_ch2 _ (List.mem_of_getElem? (i := 7) rfl)) (nm_fc (nm_ch2 _ (List.mem_of_getElem? (i := 8) rfl)) (nm_fc (nm_ch2 _ (List.mem_of_getElem? (i := 9) rfl)) (nm_fc (nm_ch2 _ (List.mem_of_getElem? (i := 10) rfl)) (nm_fc (nm_ch2 _ (List.mem_of_getElem? (i := 11) rfl)) (nm_fc (nm_ch2 _ (List.mem_of_getElem? (i := 12) rfl)) (nm_fc (nm_ch2 _ (List.mem_of_getElem? (i := 13) rfl)) (nm_fc (nm_ch2 _ (List.mem_of_getElem? (i := 14) rfl)) (nm_fc (nm_ch2 _ (List.mem_of_getElem? (i := 15) rfl)) (nm_fc (nm_ch2 _ (List.mem_of_getElem? (i := 16) rfl)) (nm_fc (nm_ch2 _ (List.mem_of_getElem? (i := 17) rfl)) (nm_fc (nm_ch2 _ (List.mem_of_getElem? (i := 18) rfl)) (nm_fc (nm_ch2 _ (List.mem_of_getElem? (i := 19) rfl)) (nm_fc (nm_ch2 _ (List.mem_of_getElem? (i := 20) rfl)) (nm_fc (nm_ch2 _ (List.mem_of_getElem? (i := 21) rfl)) (nm_fc (nm_ch2 _ (List.mem_of_getElem? (i := 22) rfl)) (nm_fc (nm_ch2 _ (List.mem_of_getElem? (i := 23) rfl)) (nm_fc (nm_ch2 _ (List.mem_of_getElem? (i := 24) rfl)) (nm_fc (nm_ch2 _ (List.mem_of_getElem? (i := 25) rfl)) (nm_fc (nm_ch2 _ (List.mem_of_getElem? (i := 26) rfl)) (nm_fc (nm_ch2 _ (List.mem_of_getElem? (i := 27) rfl)) (nm_fc (nm_ch2 _ (List.mem_of_getElem? (i := 28) rfl)) (nm_fc (nm_ch2 _ (List.mem_of_getElem? (i := 29) rfl)) (nm_fc (nm_ch2 _ (List.mem_of_getElem? (i := 30) rfl)) (nm_fc (nm_ch2 _ (List.mem_of_getElem? (i := 31) rfl)) (nm_fc (nm_ch2 _ (List.mem_of_getElem? (i := 32) rfl)) (nm_fc (nm_ch2 _ (List.mem_of_getElem? (i := 33) rfl)) (nm_fc (nm_ch2 _ (List.mem_of_getElem? (i := 34) rfl)) (nm_fc (nm_ch2 _ (List.mem_of_getElem? (i := 35) rfl)) (nm_fc (nm_ch2 _ (List.mem_of_getElem? (i := 36) rfl)) (nm_fc (nm_ch2 _ (List.mem_of_getElem? (i := 37) rfl)) (nm_fc (nm_ch2 _ (List.mem_of_getElem? (i := 38) rfl)) (nm_fc (nm_ch2 _ (List.mem_of_getElem? (i := 39) rfl)) (nm_fc (nm_ch3 _ (List.mem_of_getElem? (i := 0) rfl)) (nm_fc (nm_ch3 _ (List.mem_of_getElem? (i := 1) rfl)) (nm_fc (nm_ch3 _ (List.mem_of_getElem? (i := 2) rfl)) (nm_fc (nm_ch3 _ (List.mem_of_getElem? (i := 3) rfl)) (nm_fc (nm_ch3 _ (List.mem_of_getElem? (i := 4) rfl)) (nm_fc (nm_ch3 _ (List.mem_of_getElem? (i := 5) rfl)) (nm_fc (nm_ch3 _ (List.mem_of_getElem? (i := 6) rfl)) (nm_fc (nm_ch3 _ (List.mem_of_getElem? (i := 7) rfl)) (nm_fc (nm_ch3 _ (List.mem_of_getElem? (i := 8) rfl)) (nm_fc (nm_ch3 _ (List.mem_of_getElem? (i := 9) rfl)) (nm_fc (nm_ch3 _ (List.mem_of_getElem? (i := 10) rfl)) (nm_fc (nm_ch3 _ (List.mem_of_getElem? (i := 11) rfl)) (nm_fc (nm_ch3 _ (List.mem_of_getElem? (i := 12) rfl)) (nm_fc (nm_ch3 _ (List.mem_of_getElem? (i := 13) rfl)) (nm_fc (nm_ch3 _ (List.mem_of_getElem? (i := 14) rfl)) (nm_fc (nm_ch3 _ (List.mem_of_getElem? (i := 15) rfl)) (nm_fc (nm_ch3 _ (List.mem_of_getElem? (i := 16) rfl)) (nm_fc (nm_ch3 _ (List.mem_of_getElem? (i := 17) rfl)) (nm_fc (nm_ch3 _ (List.mem_of_getElem? (i := 18) rfl)) (nm_fc (nm_ch3 _ (List.mem_of_getElem? (i := 19) rfl)) (nm_fc (nm_ch3 _ (List.mem_of_getElem? (i := 20) rfl)) (nm_fc (nm_ch3 _ (List.mem_of_getElem? (i := 21) rfl)) (nm_fc (nm_ch3 _ (List.mem_of_getElem? (i := 22) rfl)) (nm_fc (nm_ch3 _ (List.mem_of_getElem? (i := 23) rfl)) (nm_fc (nm_ch3 _ (List.mem_of_getElem? (i := 24) rfl)) (nm_fc (nm_ch3 _ (List.mem_of_getElem? (i := 25) rfl)) (nm_fc (nm_ch3 _ (List.mem_of_getElem? (i := 26) rfl)) (nm_fc (nm_ch3 _ (List.mem_of_getElem? (i := 27) rfl)) (nm_fc (nm_ch3 _ (List.mem_of_getElem? (i := 28) rfl)) (nm_fc (nm_ch3 _ (List.mem_of_getElem? (i := 29) rfl)) (nm_fc (nm_ch3 _ (List.mem_of_getElem? (i := 30) rfl)) (nm_fc (nm_ch3 _ (List.mem_of_getElem? (i := 31) rfl)) (nm_fc (nm_ch3 _ (List.mem_of_getElem? (i := 32) rfl)) (nm_fc (nm_ch3 _ (List.mem_of_getElem? (i := 33) rfl)) (nm_fc (nm_ch3 _ (List.mem_of_getElem? (i := 34) rfl)) (nm_fc (nm_ch3 _ (List.mem_of_getElem? (i := 35) rfl)) (nm_fc (nm_ch3 _ (List.mem_of_getElem? (i := 36) rfl)) (nm_fc (nm_ch3 _ (List.mem_of_getElem? (i := 37) rfl)) (nm_fc (nm_ch3 _ (List.mem_of_getElem? (i := 38) rfl)) (nm_fc (nm_ch3 _ (List.mem_of_getElem? (i := 39) rfl)) (nm_fc (nm_ch4 _ (List.mem_of_getElem? (i := 0) rfl)) (nm_fc (nm_ch4 _ (List.mem_of_getElem? (i := 1) rfl)) (nm_fc (nm_ch4 _ (List.mem_of_getElem? (i := 2) rfl)) (nm_fc (nm_ch4 _ (List.mem_of_getElem? (i := 3) rfl)) (nm_fc (nm_ch4 _ (List.mem_of_getElem? (i := 4) rfl)) (nm_fc (nm_ch4 _ (List.mem_of_getElem? (i := 5) rfl)) (nm_fc (nm_ch4 _ (List.mem_of_getElem? (i := 6) rfl)) (nm_fc (nm_ch4 _ (List.mem_of_getElem? (i := 7) rfl)) (nm_fc (nm_ch4 _ (List.mem_of_getElem? (i := 8) rfl)) (nm_fc (nm_ch4 _ (List.mem_of_getElem? (i := 9) rfl)) (nm_fc (nm_ch4 _ (List.mem_of_getElem? (i := 10) rfl)) (nm_fc (nm_ch4 _ (List.mem_of_getElem? (i := 11) rfl)) (nm_fc (nm_ch4 _ (List.mem_of_getElem? (i := 12) rfl)) (nm_fc (nm_ch4 _ (List.mem_of_getElem? (i := 13) rfl)) (nm_fc (nm_ch4 _ (List.mem_of_getElem? (i := 14) rfl)) (nm_fc (nm_ch4 _ (List.mem_of_getElem? (i := 15) rfl)) (nm_fc (nm_ch4 _ (List.mem_of_getElem? (i := 16) rfl)) (nm_fc (nm_ch4 _ (List.mem_of_getElem? (i := 17) rfl)) (nm_fc (nm_ch4 _ (List.mem_of_getElem? (i := 18) rfl)) (nm_fc (nm_ch4 _ (List.mem_of_getElem? (i := 19) rfl)) (nm_fc (nm_ch4 _ (List.mem_of_getElem? (i := 20) rfl)) (nm_fc (nm_ch4 _ (List.mem_of_getElem? (i := 21) rfl)) (nm_fc (nm_ch4 _ (List.mem_of_getElem? (i := 22) rfl)) (nm_fc (nm_ch4 _ (List.mem_of_getElem? (i := 23) rfl)) (nm_fc (nm_ch4 _ (List.mem_of_getElem? (i := 24) rfl)) (nm_fc (nm_ch4 _ (List.mem_of_getElem? (i := 25) rfl)) (nm_fc (nm_ch4 _ (List.mem_of_getElem? (i := 26) rfl)) (nm_fc (nm_ch4 _ (List.mem_of_getElem? (i := 27) rfl)) (nm_fc (nm_ch4 _ (List.mem_of_getElem? (i := 28) rfl)) (nm_fc (nm_ch4 _ (List.mem_of_getElem? (i := 29) rfl)) (nm_fc (nm_ch4 _ (List.mem_of_getElem? (i := 30) rfl)) (nm_fc (nm_ch4 _ (List.mem_of_getElem? (i := 31) rfl)) (nm_fc (nm_ch4 _ (List.mem_of_getElem? (i := 32) rfl)) (nm_fc (nm_ch4 _ (List.mem_of_getElem? (i := 33) rfl)) (nm_fc (nm_ch4 _ (List.mem_of_getElem? (i := 34) rfl)) (nm_fc (nm_ch4 _ (List.mem_of_getElem? (i := 35) rfl)) (nm_fc (nm_ch4 _ (List.mem_of_getElem? (i := 36) rfl)) (nm_fc (nm_ch4 _ (List.mem_of_getElem? (i := 37) rfl)) (nm_fc (nm_ch4 _ (List.mem_of_getElem? (i := 38) rfl)) (nm_fc (nm_ch4 _ (List.mem_of_getElem? (i := 39) rfl)) (nm_fc (nm_ch5 _ (List.mem_of_getElem? (i := 0) rfl)) (nm_fc (nm_ch5 _ (List.mem_of_getElem? (i := 1) rfl)) (nm_fc (nm_ch5 _ (List.mem_of_getElem? (i := 2) rfl)) (nm_fc (nm_ch5 _ (List.mem_of_getElem? (i := 3) rfl)) (nm_fc (nm_ch5 _ (List.mem_of_getElem? (i := 4) rfl)) (nm_fc (nm_ch5 _ (List.mem_of_getElem? (i := 5) rfl)) (nm_fc (nm_ch5 _ (List.mem_of_getElem? (i := 6) rfl)) (nm_fc (nm_ch5 _ (List.mem_of_getElem? (i := 7) rfl)) (nm_fc (nm_ch5 _ (List.mem_of_getElem? (i := 8) rfl)) (nm_fc (nm_ch5 _ (List.mem_of_getElem? (i := 9) rfl)) (nm_fc (nm_ch5 _ (List.mem_of_getElem? (i := 10) rfl)) (nm_fc (nm_ch5 _ (List.mem_of_getElem? (i := 11) rfl)) (nm_fc (nm_ch5 _ (List.mem_of_getElem? (i := 12) rfl)) (nm_fc (nm_ch5 _ (List.mem_of_getElem? (i := 13) rfl)) (nm_fc (nm_ch5 _ (List.mem_of_getElem? (i := 14) rfl)) (nm_fc (nm_ch5 _ (List.mem_of_getElem? (i := 15) rfl)) (nm_fc (nm_ch5 _ (List.mem_of_getElem? (i := 16) rfl)) (nm_fc (nm_ch5 _ (List.mem_of_getElem? (i := 17) rfl)) (nm_fc (nm_ch5 _ (List.mem_of_getElem? (i := 18) rfl)) (nm_fc (nm_ch5 _ (List.mem_of_getElem? (i := 19) rfl)) (nm_fc (nm_ch5 _ (List.mem_of_getElem? (i := 20) rfl)) (nm_fc (nm_ch5 _ (List.mem_of_getElem? (i := 21) rfl)) (nm_fc (nm_ch5 _ (List.mem_of_getElem? (i := 22) rfl)) (nm_fc (nm_ch5 _ (List.mem_of_getElem? (i := 23) rfl)) (nm_fc (nm_ch5 _ (List.mem_of_getElem? (i := 24) rfl)) (nm_fc (nm_ch5 _ (List.mem_of_getElem? (i := 25) rfl)) (nm_fc (nm_ch5 _ (List.mem_of_getElem? (i := 26) rfl)) (nm_fc (nm_ch5 _ (List.mem_of_getElem? (i := 27) rfl)) (nm_fc (nm_ch5 _ (List.mem_of_getElem? (i := 28) rfl)) (nm_fc (nm_ch5 _ (List.mem_of_getElem? (i := 29) rfl)) (nm_fc (nm_ch5 _ (List.mem_of_getElem? (i := 30) rfl)) (nm_fc (nm_ch5 _ (List.mem_of_getElem? (i := 31) rfl)) (nm_fc (nm_ch5 _ (List.mem_of_getElem? (i := 32) rfl)) (nm_fc (nm_ch5 _ (List.mem_of_getElem? (i := 33) rfl)) (nm_fc (nm_ch5 _ (List.mem_of_getElem? (i := 34) rfl)) (fun _ h => nomatch h))))))))))))))))))))))))))))))))))))))))))))))))))))))))))))))))))))))))))))))))))))))))))))))))))))))))))))))))))))))))))))))))))))))))))))))))))))))))))))))))))))))))))))))))))))))))))))))))))))))))))))))))))))))))))))))))))))))))))))
/-- what is asked of a throw's row -/
def nm_okH (q : (String × Nat) × (Nat × Nat × Nat)) : Prop := ∃ (E : String) (T : u_T) (text : String) (n : Nat) (names : List String), nm_cls[q.2.1]? = some (E, T, 0) ∧ Bundle.fit E = true ∧ (∀ n ∈ names, Bundle.fit n = true) ∧ names.length ≤ 4 ∧ Cond.classLink q.1.1 q.1.2 E ∈ nm_Tg ∧ Cond.initialized E ∈ nm_Tg ∧ (∀ sa : Nat → Nat, (q.1.1, q.2.2.1, text, sa n) ∈ nm_St sa) ∧ (∀ w ∈ Bundle.ownAtoms q.1.1 q.2.2.2 E names, am_nh w = true → (w ∈ nm_Tg ∨ w ∈ nm_Ns) ∧ w.onTables = true)
theorem nm_th_ok : ∀ q ∈ nm_th, nm_okH q := (nm_fc ⟨"java/lang/IllegalArgumentException", nm_T10, "a bad clause", 0, ["java/lang/RuntimeException", "java/lang/Exception"], rfl, by decide +kernel, by decide +kernel, by decide, (nm_in2 (List.mem_of_getElem? (i := 199) rfl) rfl), (nm_in1 (List.mem_of_getElem? (i := 17) rfl) rfl), fun sa => List.mem_of_getElem? (i := 0) rfl, nm_at0⟩ (nm_fc ⟨"java/lang/IllegalStateException", nm_T11, "the words have faults", 1, ["java/lang/RuntimeException", "java/lang/Exception"], rfl, by decide +kernel, by decide +kernel, by decide, (nm_in4 (List.mem_of_getElem? (i := 239) rfl) rfl), (nm_in1 (List.mem_of_getElem? (i := 18) rfl) rfl), fun sa => List.mem_of_getElem? (i := 1) rfl, nm_at1⟩ (fun _ h => nomatch h)))
theorem nm_ar0 : Cond.arrayClass .int ∈ nm_Tg := (nm_in1 (List.mem_of_getElem? (i := 58) rfl) rfl)
theorem nm_ar1 : Cond.arrayClass .boolean ∈ nm_Tg := (nm_in5 (List.mem_of_getElem? (i := 229) rfl) rfl)
theorem nm_ar2 : Cond.arrayClass .long ∈ nm_Tg := (nm_in7 (List.mem_of_getElem? (i := 62) rfl) rfl)
end
section
/-! The tables of this claim, as the abstract machine takes them. -/
def nm_F (n : Nat) (xs : Nat → Int32) : am_F := (fun ow k => nm_fl.lookup (ow, k), fun ow k => nm_nw.lookup (ow, k), fun ow k => nm_ld.lookup (ow, k), fun ow k => nm_ct.lookup (ow, k), fun ow k => (nm_th.lookup (ow, k)).map (fun r => r.1), n, xs)
theorem nm_G : ∀ w ∈ nm_Tg, goodWord w = true := fun _ h => (List.mem_filter.mp h).2
theorem nm_Nk : ∀ w ∈ nm_Ns, am_nk w = true := by
  intro w hw
  have h : nm_Ns.all am_nk = true := rfl
  exact List.all_eq_true.mp h w hw
theorem nm_okT (n : Nat) (xs : Nat → Int32) : am_okT (nm_F n xs) nm_cls nm_Tg :=
  ⟨fun _ C T N h => nm_cl_ok (C, T, N) (List.mem_of_getElem? h), fun ow k ci j ty fin h => nm_fl_ok ((ow, k), (ci, j, ty, fin)) (nm_lk h), fun ow k ci fs h => nm_nw_ok ((ow, k), (ci, fs)) (nm_lk h), fun ow k v h => nm_ld_ok ((ow, k), v) (nm_lk h), nm_ar0, nm_ar1, nm_ar2⟩
theorem nm_okCl (n : Nat) (xs : Nat → Int32) : am_okCl (nm_F n xs) nm_ms nm_hm nm_Tg nm_Ns := fun ow k j w h => nm_ct_ok ((ow, k), (j, w)) (nm_lk h)
theorem nm_okTh (n : Nat) (xs : Nat → Int32) (sa : Nat → Nat) : am_okTh (nm_F n xs) nm_cls nm_ms nm_Tg nm_Ns (nm_St sa) := by
  intro j M pc ik is ic x hj l0 l4 l6 hx
  have hx' : (nm_th.lookup ((am_y M).cls, ik)).map (fun r => r.1) = some x := hx
  cases hr : nm_th.lookup ((am_y M).cls, ik) with
  | none => rw [hr] at hx'; cases hx'
  | some r =>
    rw [hr] at hx'
    have ex : r.1 = x := Option.some.inj hx'
    have hM : nm_chk M = true := by
      unfold nm_ms at hj
      cases hq : nm_ML[j]? with
      | none => rw [hq] at hj; cases hj
      | some q =>
        rw [hq] at hj
        rw [← Option.some.inj hj]
        exact nm_chk_all q (List.mem_of_getElem? hq)
    have h1 := List.all_eq_true.mp hM (pc, .new ik, 3) (am_look l0)
    have h2 : (match nm_th.lookup ((am_y M).cls, ik) with
      | some r => decide ((am_cd M).lookup (pc + 4) = some (.ldc r.2.1, 2) ∧ (am_cd M).lookup (pc + 6) = some (.invokespecial r.2.2, 3))
      | none => true) = true := h1
    rw [hr] at h2
    obtain ⟨h3, h4⟩ := of_decide_eq_true h2
    rw [l4] at h3
    rw [l6] at h4
    cases h3
    cases h4
    obtain ⟨E, T, text, n', names, g1, g2, g3, g4, g5, g6, g7, g8⟩ := nm_th_ok (((am_y M).cls, ik), r) (nm_lk hr)
    refine ⟨E, T, text, sa n', names, by rw [← ex]; exact g1, g2, g3, g4, g5, g6, g7 sa, fun w hw => ?_⟩
    obtain ⟨m1, m2⟩ := List.mem_filter.mp hw
    exact g8 w m1 m2
end
section
/-! the law's own code; words at its start; by wip/whole/gen.py -/
theorem nm_NsL : ∀ w ∈ nm_Ns, w ∈ lw_tbl := (nm_fc (List.mem_append_right _ (List.mem_append_left _ (List.mem_of_getElem? (i := 29) rfl))) (nm_fc (List.mem_append_right _ (List.mem_append_left _ (List.mem_of_getElem? (i := 61) rfl))) (nm_fc (List.mem_append_right _ (List.mem_append_left _ (List.mem_of_getElem? (i := 171) rfl))) (nm_fc (List.mem_append_right _ (List.mem_append_right _ (List.mem_append_right _ (List.mem_append_left _ (List.mem_of_getElem? (i := 170) rfl))))) (nm_fc (List.mem_append_right _ (List.mem_append_right _ (List.mem_append_right _ (List.mem_append_left _ (List.mem_of_getElem? (i := 221) rfl))))) (nm_fc (List.mem_append_right _ (List.mem_append_right _ (List.mem_append_right _ (List.mem_append_right _ (List.mem_append_left _ (List.mem_of_getElem? (i := 99) rfl)))))) (nm_fc (List.mem_append_right _ (List.mem_append_right _ (List.mem_append_left _ (List.mem_of_getElem? (i := 201) rfl)))) (nm_fc (List.mem_append_right _ (List.mem_append_right _ (List.mem_append_right _ (List.mem_append_right _ (List.mem_append_right _ (List.mem_append_left _ (List.mem_of_getElem? (i := 1) rfl))))))) (nm_fc (List.mem_append_right _ (List.mem_append_right _ (List.mem_append_left _ (List.mem_of_getElem? (i := 202) rfl)))) (nm_fc (List.mem_append_right _ (List.mem_append_right _ (List.mem_append_left _ (List.mem_of_getElem? (i := 203) rfl)))) (nm_fc (List.mem_append_right _ (List.mem_append_right _ (List.mem_append_left _ (List.mem_of_getElem? (i := 204) rfl)))) (nm_fc (List.mem_append_right _ (List.mem_append_right _ (List.mem_append_left _ (List.mem_of_getElem? (i := 205) rfl)))) (nm_fc (List.mem_append_right _ (List.mem_append_right _ (List.mem_append_left _ (List.mem_of_getElem? (i := 206) rfl)))) (nm_fc (List.mem_append_right _ (List.mem_append_right _ (List.mem_append_left _ (List.mem_of_getElem? (i := 207) rfl)))) (fun _ h => nomatch h)))))))))))))))
theorem nm_it : ∀ q ∈ nm_cls, ∃ n, Cond.instantiable q.1 n ∈ nm_Tg := (nm_fc ⟨3, (nm_in1 (List.mem_of_getElem? (i := 20) rfl) rfl)⟩ (nm_fc ⟨8, (nm_in1 (List.mem_of_getElem? (i := 28) rfl) rfl)⟩ (nm_fc ⟨5, (nm_in1 (List.mem_of_getElem? (i := 60) rfl) rfl)⟩ (nm_fc ⟨2, (nm_in1 (List.mem_of_getElem? (i := 82) rfl) rfl)⟩ (nm_fc ⟨4, (nm_in1 (List.mem_of_getElem? (i := 95) rfl) rfl)⟩ (nm_fc ⟨5, (nm_in1 (List.mem_of_getElem? (i := 97) rfl) rfl)⟩ (nm_fc ⟨10, (nm_in1 (List.mem_of_getElem? (i := 136) rfl) rfl)⟩ (nm_fc ⟨7, (nm_in1 (List.mem_of_getElem? (i := 138) rfl) rfl)⟩ (nm_fc ⟨5, (nm_in1 (List.mem_of_getElem? (i := 170) rfl) rfl)⟩ (nm_fc ⟨65, (nm_in5 (List.mem_of_getElem? (i := 28) rfl) rfl)⟩ (nm_fc ⟨6, (nm_in2 (List.mem_of_getElem? (i := 200) rfl) rfl)⟩ (nm_fc ⟨6, (nm_in5 (List.mem_of_getElem? (i := 0) rfl) rfl)⟩ (fun _ h => nomatch h)))))))))))))
theorem nm_ls0 : Cond.laysStatic Bundle.tN "UNASSIGNED_STACK" Bundle.steD ∈ lw_tbl := (List.mem_append_right _ (List.mem_append_right _ (List.mem_append_left _ (List.mem_of_getElem? (i := 226) rfl))))
theorem nm_ls1 : Cond.laysStatic Bundle.tN "SUPPRESSED_SENTINEL" Bundle.listD ∈ lw_tbl := (List.mem_append_right _ (List.mem_append_right _ (List.mem_append_left _ (List.mem_of_getElem? (i := 228) rfl))))
theorem nm_it0 : Cond.initialized Bundle.tN ∈ lw_tbl := (List.mem_append_right _ (List.mem_append_left _ (List.mem_of_getElem? (i := 14) rfl)))
theorem nm_sr0 : Cond.stringRef "CobolParser$Row" 69 "a bad clause" ∈ lw_tbl := (List.mem_append_right _ (List.mem_append_right _ (List.mem_append_left _ (List.mem_of_getElem? (i := 239) rfl))))
theorem nm_sr1 : Cond.stringRef "CobolParser" 144 "the words have faults" ∈ lw_tbl := (List.mem_append_right _ (List.mem_append_right _ (List.mem_append_right _ (List.mem_append_right _ (List.mem_append_right _ (List.mem_append_left _ (List.mem_of_getElem? (i := 8) rfl)))))))
theorem nm_strs {s : State} {args : Array Value} (hts : ∀ w ∈ lw_tbl, w.before args s = true) {D : va_G} {tys : List (ClassId × FieldType)} (hK : va_K D nm_cls tys s) : ∃ sa : Nat → Nat, ∀ q ∈ nm_St sa, vk_R q.1 q.2.1 q.2.2.1 q.2.2.2 s := by
  obtain ⟨_, _, _, a0, -, -, -, -, -, e0⟩ := Cond.stringRef_spec (cur := D.1 1) (hK.1 1 _ rfl).2.1 (hts _ nm_sr0)
  obtain ⟨_, _, _, a1, -, -, -, -, -, e1⟩ := Cond.stringRef_spec (cur := D.1 0) (hK.1 0 _ rfl).2.1 (hts _ nm_sr1)
  exact ⟨fun k => match k with | 0 => a0 | _ => a1, (nm_fc (vk_R.of (hts _ nm_sr0) e0) (nm_fc (vk_R.of (hts _ nm_sr1) e1) (fun _ h => nomatch h)))⟩
def nm_law : am_M := (x, code, 7, ret, [], 1, [(0, .new 8, 3), (3, .dup, 1), (4, .invokespecial 15, 3), (7, .astore_n 1, 1), (8, .new 16, 3), (11, .dup, 1), (12, .invokespecial 18, 3), (15, .astore_n 2, 1), (16, .iconst 1, 1), (17, .newarray .long, 2), (19, .astore_n 3, 1), (20, .iconst 0, 1), (21, .istore 4, 2), (23, .iload 4, 2), (25, .aload_n 0, 1), (26, .arraylength, 1), (27, .iconst 3, 1), (28, .isub, 1), (29, .if_icmp .gt 345, 3), (32, .aload_n 0, 1), (33, .iload 4, 2), (35, .iaload, 1), (36, .bipush 15, 2), (38, .iand, 1), (39, .tableswitch 329 0 8 #[49, 86, 130, 167, 204, 217, 254, 291, 304], 49), (88, .aload_n 1, 1), (89, .aload_n 0, 1), (90, .iload 4, 2), (92, .iconst 1, 1), (93, .iadd, 1), (94, .iaload, 1), (95, .aload_n 0, 1), (96, .iload 4, 2), (98, .iconst 2, 1), (99, .iadd, 1), (100, .iaload, 1), (101, .invokevirtual 19, 3), (104, .aload_n 2, 1), (105, .aload_n 0, 1), (106, .iload 4, 2), (108, .iconst 1, 1), (109, .iadd, 1), (110, .iaload, 1), (111, .aload_n 0, 1), (112, .iload 4, 2), (114, .iconst 2, 1), (115, .iadd, 1), (116, .iaload, 1), (117, .invokevirtual 23, 3), (120, .if_icmp .eq 248, 3), (123, .iconst 0, 1), (124, .ireturn, 1), (125, .aload_n 1, 1), (126, .aload_n 3, 1), (127, .invokestatic 24, 3), (130, .istore 5, 2), (132, .aload_n 2, 1), (133, .invokevirtual 29, 3), (136, .istore 6, 2), (138, .aload_n 2, 1), (139, .invokevirtual 30, 3), (142, .iload 5, 2), (144, .if_icmp .eq 5, 3), (147, .iconst 0, 1), (148, .ireturn, 1), (149, .iload 5, 2), (151, .ifCond .ne 15, 3), (154, .aload_n 3, 1), (155, .iconst 0, 1), (156, .laload, 1), (157, .iload 6, 2), (159, .i2l, 1), (160, .lcmp, 1), (161, .ifCond .eq 5, 3), (164, .iconst 0, 1), (165, .ireturn, 1), (166, .goto 202, 3), (169, .aload_n 1, 1), (170, .aload_n 0, 1), (171, .iload 4, 2), (173, .iconst 1, 1), (174, .iadd, 1), (175, .iaload, 1), (176, .aload_n 0, 1), (177, .iload 4, 2), (179, .iconst 2, 1), (180, .iadd, 1), (181, .iaload, 1), (182, .invokevirtual 33, 3), (185, .aload_n 2, 1), (186, .aload_n 0, 1), (187, .iload 4, 2), (189, .iconst 1, 1), (190, .iadd, 1), (191, .iaload, 1), (192, .aload_n 0, 1), (193, .iload 4, 2), (195, .iconst 2, 1), (196, .iadd, 1), (197, .iaload, 1), (198, .invokevirtual 36, 3), (201, .if_icmp .eq 167, 3), (204, .iconst 0, 1), (205, .ireturn, 1), (206, .aload_n 1, 1), (207, .aload_n 0, 1), (208, .iload 4, 2), (210, .iconst 1, 1), (211, .iadd, 1), (212, .iaload, 1), (213, .aload_n 0, 1), (214, .iload 4, 2), (216, .iconst 2, 1), (217, .iadd, 1), (218, .iaload, 1), (219, .invokevirtual 37, 3), (222, .aload_n 2, 1), (223, .aload_n 0, 1), (224, .iload 4, 2), (226, .iconst 1, 1), (227, .iadd, 1), (228, .iaload, 1), (229, .aload_n 0, 1), (230, .iload 4, 2), (232, .iconst 2, 1), (233, .iadd, 1), (234, .iaload, 1), (235, .invokevirtual 40, 3), (238, .if_icmp .eq 130, 3), (241, .iconst 0, 1), (242, .ireturn, 1), (243, .aload_n 1, 1), (244, .invokevirtual 41, 3), (247, .aload_n 2, 1), (248, .invokevirtual 44, 3), (251, .if_icmp .eq 117, 3), (254, .iconst 0, 1), (255, .ireturn, 1), (256, .aload_n 1, 1), (257, .aload_n 0, 1), (258, .iload 4, 2), (260, .iconst 1, 1), (261, .iadd, 1), (262, .iaload, 1), (263, .aload_n 0, 1), (264, .iload 4, 2), (266, .iconst 2, 1), (267, .iadd, 1), (268, .iaload, 1), (269, .invokevirtual 45, 3), (272, .aload_n 2, 1), (273, .aload_n 0, 1), (274, .iload 4, 2), (276, .iconst 1, 1), (277, .iadd, 1), (278, .iaload, 1), (279, .aload_n 0, 1), (280, .iload 4, 2), (282, .iconst 2, 1), (283, .iadd, 1), (284, .iaload, 1), (285, .invokevirtual 48, 3), (288, .if_icmp .eq 80, 3), (291, .iconst 0, 1), (292, .ireturn, 1), (293, .aload_n 1, 1), (294, .aload_n 0, 1), (295, .iload 4, 2), (297, .iconst 1, 1), (298, .iadd, 1), (299, .iaload, 1), (300, .aload_n 0, 1), (301, .iload 4, 2), (303, .iconst 2, 1), (304, .iadd, 1), (305, .iaload, 1), (306, .invokevirtual 49, 3), (309, .aload_n 2, 1), (310, .aload_n 0, 1), (311, .iload 4, 2), (313, .iconst 1, 1), (314, .iadd, 1), (315, .iaload, 1), (316, .aload_n 0, 1), (317, .iload 4, 2), (319, .iconst 2, 1), (320, .iadd, 1), (321, .iaload, 1), (322, .invokevirtual 52, 3), (325, .if_icmp .eq 43, 3), (328, .iconst 0, 1), (329, .ireturn, 1), (330, .aload_n 1, 1), (331, .invokevirtual 53, 3), (334, .aload_n 2, 1), (335, .invokevirtual 56, 3), (338, .if_icmp .eq 30, 3), (341, .iconst 0, 1), (342, .ireturn, 1), (343, .aload_n 1, 1), (344, .aload_n 0, 1), (345, .iload 4, 2), (347, .iconst 1, 1), (348, .iadd, 1), (349, .iaload, 1), (350, .invokevirtual 57, 3), (353, .aload_n 2, 1), (354, .aload_n 0, 1), (355, .iload 4, 2), (357, .iconst 1, 1), (358, .iadd, 1), (359, .iaload, 1), (360, .invokevirtual 61, 3), (363, .if_icmp .eq 5, 3), (366, .iconst 0, 1), (367, .ireturn, 1), (368, .iinc 4 3, 3), (371, .goto (-348), 3), (374, .iconst 1, 1), (375, .ireturn, 1)])
set_option maxRecDepth 100000 in
theorem nm_dlaw : ∀ e ∈ am_cd nm_law, decode code e.1 = .ok (e.2.1, e.2.2) := by decide +kernel
end
section
/-! The law's entry, out of a run of the abstract machine. -/
def R_law : String := "CobolParserLaw"
def lw_P (b : Addr) (xs : List Int32) (args : Array Value) (s : State) : Prop := args = #[.ref b] ∧ s.IntsAt b xs ∧ xs.length ≤ 1536 ∧ (Jvm.Cond.and given_1 narrow_1).before args s = true
def lw_Q (_ : Array Value) (s : State) (o : Outcome) (t : State) : Prop := o = .returned (some (.int 1)) ∧ Framed s o t [] 601024 7293034
def lw_Z (below : List Frame) (a : Array Value) (s : State) : State → Prop := fun t => ∃ o, t.status = .running ∧ Ended t below o ∧ lw_Q a s o t
/-- what holds at the law's entry -/
def lw_At (p : Program) (s : State) (m : MethodId) (meth : Method) (c : Code) (b L : Nat) (xs : Nat → Int32) : Prop :=
  p.tables.exec = Jvm.exec ∧ c.code = code ∧ meth.sig.returnType = ret ∧ c.maxLocals = 7 ∧ s.vm.findClass R_law = some m.cls ∧ (∀ w ∈ lw_tbl, w.before #[Value.ref b] s = true) ∧ va_X b L xs s s.heap ∧ b < s.heap.size ∧ meth.locks = false ∧ (Jvm.Cond.and given_1 narrow_1).before #[Value.ref b] s = true ∧ c.exceptionTable.toList = []
theorem nm_arr {s : State} {args : Array Value} {ty : FieldType} (h : (Cond.arrayClass ty).before args s = true) : ∃ cA, ArrOfT s cA ty ∧ s.vm.findClass ("[" ++ ty.toString) = some cA := by
  obtain ⟨c, k, comp, h1, h2, h3⟩ := Cond.arrayClass_spec h
  exact ⟨c, fun n z => ⟨fun k h => (by cases h), k, h2, comp, h3⟩, h1⟩
theorem nm_lst {C n d : String} {args a : Array Value} {s V : State} (h : (Cond.laysStatic C n d).before args s = true) (hvm : s.vm.Alike V.vm) (hk : ∀ q : Nat, q < s.heap.size → V.heap[q]? = s.heap[q]?) : (Cond.laysStatic C n d).before a V = true := by
  obtain ⟨c, k, i, f, q, cell, h1, h2, h3, h4, h5, h6, h7, h8, h9⟩ := Cond.laysStatic_spec h
  obtain ⟨k', hi', he⟩ := State.fieldFound?_setVm hvm h2
  show (Cond.laysStatic C n d).holds a V none V [] = true
  exact Cond.laysStatic_of (by rw [hvm.findClass]; exact h1) hi' h3 (by rw [he]; exact h4) (by rw [hk q (Array.getElem?_eq_some_iff.mp h5).1]; exact h5) h6 h7 h8 (by rw [he]; exact h9)
theorem nm_irf {C n d : String} {v : Value} {A : Nat → Prop} {V : State} {a : Array Value} (h : va_Z C n d v A V V.heap) (hv : v.isRef = true) : (Cond.isRef (.static C n d)).before a V = true := by
  obtain ⟨cf, kf, fi, f, q, cell, h1, h2, h3, h4, h5, h6, h7, -⟩ := h
  have he : (Term.static C n d).eval a V none [] V = some v := by
    simp [Term.eval, State.fieldNamed?, h1, h2, h4, h5, h6, h7]
  simp only [Cond.before, Cond.holds, Cond.value, he]
  cases v <;> simp_all [Value.isRef]
theorem nm_irq {C n d : String} {args a : Array Value} {s V : State} (hl : (Cond.laysStatic C n d).before args s = true) (hini : (Cond.initialized C).before args s = true) (h : (Cond.isRef (.static C n d)).before args s = true) (hvm : s.vm.Alike V.vm) (hk : ∀ q : Nat, q < s.heap.size → V.heap[q]? = s.heap[q]?) : (Cond.isRef (.static C n d)).before a V = true := by
  have h1 := va_Zqof (A := fun q : Nat => s.heap.size ≤ q) hl hini h (fun q hq => Nat.not_le.mpr hq)
  have h2 := va_Zq.kept (va_Zq.moved hvm h1) (H1 := V.heap) (fun q hq _ => hk q hq)
  rcases h2 with h2 | ⟨t, h2⟩
  · exact nm_irf h2 rfl
  · exact nm_irf h2 rfl
theorem nm_same {s u : State} {L : List Loc} {k n : Nat} (h : s.sameButNew u L k n) (hL : ∀ q ∈ L, s.heap.size ≤ q.base) : s.sameButNew u [] k n := by
  obtain ⟨h1, h2, h3, h4, h5, h6⟩ := h
  refine ⟨h1, h2, h3, h4, h5, fun a c hc => ?_⟩
  obtain ⟨c', g1, g2, g3, g4⟩ := h6 a c hc
  refine ⟨c', g1, g2, g3, fun i _ => g4 i fun hm => ?_⟩
  have h7 : s.heap.size ≤ a := hL _ hm
  have h8 := (Array.getElem?_eq_some_iff.mp hc).1
  omega
theorem nm_start {p : Program} {e : Env} {s : State} {m : MethodId} {below : List Frame} {meth : Method} {c : Code} {l : Launch} (hl : l.stackTraces = false) {b L : Nat} {xs : Nat → Int32} (C0 : lw_At p s m meth c b L xs) {d : Nat} (hd : d ≤ 1300) {hf : am_H}
    (hgo : am_Go (nm_F L xs) nm_cls nm_ms (am_Ev (nm_F L xs) nm_cls nm_ms d) nm_law (.inl (some (.int 1)), hf) (none, 0, am_ent nm_law [.retAddr 0], [], [])) (hfc : hf.length ≤ 601024) (hfz : am_sz hf ≤ 7293034) :
    W p l e room_1 s m #[Value.ref b] below meth c s.heap [] 0 0 (lw_Z below #[Value.ref b] s) (entryFrame m ([Value.ref b] : List Value).toArray 7) := by
  obtain ⟨hx, hb, hr, hml, hown, hts, hX, hbl, hlocks, hgv, htb⟩ := C0
  have hbA : ¬ (fun q : Nat => s.heap.size ≤ q) b := Nat.not_le.mpr hbl
  have htT : ∀ w ∈ nm_Tg, w.before #[Value.ref b] s = true := fun w hw => hts w (List.mem_filter.mp hw).1
  have hch : ∀ k : Nat, ∃ z : ClassId × (Nat → Nat), ∀ q, nm_cls[k]? = some q → u_Kn s q.1 q.2.1 q.2.2 z.1 z.2 := by
    intro k
    cases hk : nm_cls[k]? with
    | none => exact ⟨(0, fun _ => 0), fun q h => by cases h⟩
    | some q =>
      have hm := List.mem_of_getElem? hk
      obtain ⟨n, hn⟩ := nm_it q hm
      obtain ⟨cC, iS, hKn⟩ := u_known (C := q.1) (T := q.2.1) (N := q.2.2) (n := n) htT (nm_cl_ok q hm).1 (htT _ hn)
      exact ⟨(cC, iS), fun q' h => by cases h; exact hKn⟩
  obtain ⟨dz, hdz⟩ := Classical.axiomOfChoice hch
  obtain ⟨c1, a1, n1⟩ := nm_arr (htT _ nm_ar0)
  obtain ⟨c2, a2, n2⟩ := nm_arr (htT _ nm_ar1)
  obtain ⟨c3, a3, n3⟩ := nm_arr (htT _ nm_ar2)
  have hK : va_K ((fun k => (dz k).1), fun k => (dz k).2) nm_cls (am_ty (c1, c2, c3)) s := by
    refine ⟨fun k q h => hdz k q h, fun k q h => ?_⟩
    match k, h with
    | 0, h => cases h; exact ⟨a1, n1⟩
    | 1, h => cases h; exact ⟨a2, n2⟩
    | 2, h => cases h; exact ⟨a3, n3⟩
    | k + 3, h => simp at h
  obtain ⟨sa, hsa⟩ := nm_strs hts hK
  have hflat := flat_of_before _ hgv
  have hZ : am_Zs (fun q : Nat => s.heap.size ≤ q) s s.heap := by
    intro V a hvm hk
    have hk' : ∀ q : Nat, q < s.heap.size → V.heap[q]? = s.heap[q]? := fun q hq => hk q hq (Nat.not_le.mpr hq)
    exact ⟨nm_irq (hts _ nm_ls0) (hts _ nm_it0) (hflat _ (by decide +kernel)) hvm hk', nm_irq (hts _ nm_ls1) (hts _ nm_it0) (hflat _ (by decide +kernel)) hvm hk', nm_lst (hts _ nm_ls0) hvm hk', nm_lst (hts _ nm_ls1) hvm hk'⟩
  have hKx : am_Kx (nm_F L xs) nm_cls ((fun k => (dz k).1), fun k => (dz k).2) (c1, c2, c3) (fun q : Nat => s.heap.size ≤ q) b nm_Ns (nm_St sa) s :=
    ⟨hK, hX, hbl, fun _ h => h, fun w hw => va_Nw.of (am_nk_tab (nm_Nk w hw)) (hts w (nm_NsL w hw)), hsa, hZ⟩
  have hC : am_Cx (nm_F L xs) nm_cls nm_Tg ((fun k => (dz k).1), fun k => (dz k).2) (c1, c2, c3) (fun q : Nat => s.heap.size ≤ q) b p s m #[Value.ref b] meth c (am_b nm_law) (am_n nm_law) (am_y nm_law).cls (am_ini nm_law) :=
    ⟨hx, hb, hml, hown, htT, fun h => absurd h (by decide +kernel), fun _ h => h, hK, hX, hbl, hbA, nm_okT L xs⟩
  have htab : c.exceptionTable.toList.map (fun h => (h.startPc, h.endPc, h.handlerPc, h.catchType)) = nm_hm 100000 := by rw [htb]; rfl
  have hth : ∀ pc ik is ic x, (am_cd nm_law).lookup pc = some (.new ik, 3) → (am_cd nm_law).lookup (pc + 4) = some (.ldc is, 2) → (am_cd nm_law).lookup (pc + 6) = some (.invokespecial ic, 3) → am_th (nm_F L xs) (am_y nm_law).cls ik = some x → ∃ (E : String) (T : u_T) (text : String) (sa' : Nat) (names : List String), nm_cls[x]? = some (E, T, 0) ∧ Bundle.fit E = true ∧ (∀ n ∈ names, Bundle.fit n = true) ∧ names.length ≤ 4 ∧ Cond.classLink (am_y nm_law).cls ik E ∈ nm_Tg ∧ Cond.initialized E ∈ nm_Tg ∧ ((am_y nm_law).cls, is, text, sa') ∈ nm_St sa ∧ (∀ w ∈ (Bundle.ownAtoms (am_y nm_law).cls ic E names).filter am_nh, (w ∈ nm_Tg ∨ w ∈ nm_Ns) ∧ w.onTables = true) := by
    intro pc ik is ic x _ _ _ hx9
    have hx8 : (nm_th.lookup (R_law, ik)).map (fun r => r.1) = some x := hx9
    cases hr9 : nm_th.lookup (R_law, ik) with
    | none => rw [hr9] at hx8; cases hx8
    | some r =>
      have h7 := nm_lk hr9
      simp [nm_th, R_law] at h7
  have hst := hgo (am_Pm nm_cls ((fun k => (dz k).1), fun k => (dz k).2) (c1, c2, c3) (fun q : Nat => s.heap.size ≤ q) b (am_n nm_law) (fun _ => 0) [] (.inl (some (.int 1))) hf room_1 p l e s m #[Value.ref b] below meth c)
    (fun a hfin => am_body_fin (d := d) (R := room_1) (h0 := []) (hf := hf) (hm := nm_hm) (j := 100000) (Ns := nm_Ns) (St := nm_St sa) (by show d + 11 ≤ 2048; omega) (by show 60 * (d + 1) + 200 ≤ 84000; omega) (Nat.le_trans (Nat.sub_le _ _) hfc) (Nat.le_trans (Nat.sub_le _ _) hfz) hl nm_dlaw (Or.inl ⟨rfl, rfl⟩) hth hC hKx hr hlocks htab hfin)
    (fun a a' hs hb' => am_body_step (d := d) (R := room_1) (h0 := []) (hf := hf) (hm := nm_hm) (j := 100000) (by show d + 11 ≤ 2048; omega) (by show 60 * (d + 1) + 200 ≤ 84000; omega) (Nat.le_trans (Nat.sub_le _ _) hfc) (Nat.le_trans (Nat.sub_le _ _) hfz) nm_G nm_Nk nm_okMs (nm_okCl L xs) nm_dlaw (Or.inl ⟨rfl, rfl⟩) hC hKx htab
      (am_sound hl hbA nm_G nm_Nk (nm_okT L xs) nm_okMs (nm_okCl L xs) (nm_okTh L xs sa) d) hs hb')
  obtain ⟨-, kk⟩ := hst
  dsimp only at kk
  rw [lg_entry_eq]
  have hR : am_Rl nm_cls ((fun k => (dz k).1), fun k => (dz k).2) (c1, c2, c3) (fun q : Nat => s.heap.size ≤ q) b (am_n nm_law) ([] : am_H).length (fun _ => 0) (fun _ => 0) (am_ent nm_law [.retAddr 0]) [] [] ((lg_sl ([Value.ref b]) ++ List.replicate (7 - (lg_sl ([Value.ref b])).length) Slot.unset).toArray) s.heap s.heap [] :=
    ⟨am_entry (M := nm_law) (as := [.retAddr 0]) (b := b) (ad := fun _ => 0) (fun v hv => by rw [List.mem_singleton.mp hv]; rfl) (by decide), (fun v hv => by cases hv), am_ent_ok (fun v hv => by rw [List.mem_singleton.mp hv]; trivial), (fun e he => by cases he), (fun k q h => by simp [am_ws] at h), ⟨fun i j p q h => by simp [am_ws] at h, fun k q h => by simp [am_ws] at h⟩, va_S.rf, Nat.le_refl _, fun _ _ => rfl⟩
  have k3 := kk (fun _ => 0) _ s.heap [] hR (am_Gr.rf []) (fun x k hx => by cases hx)
  intro T hT X
  obtain ⟨t, z1, o, z2, z3, ⟨ad', -, z4, -⟩, z5, L9, z6, z7⟩ := k3 T hT X
  exact ⟨t, z1, o, z2, z3, z4, ⟨_, z4⟩, z5, (nm_same z6 z7).mono hfc hfz⟩
end
section
/-! A SECOND ABSTRACT MACHINE, without cells: every class has one object, every field is a register. A reference below 9000 is the object of the class of that number; 10000 + 100 * class + field is the array that this field holds. -/
abbrev a2_G : Type := Nat → Int32
abbrev a2_A : Type := Nat → Nat × (Nat → Int32)
/-- the fields of a class: 0 int, 1 boolean, 2 an object (its class), 3 ints, 4 booleans -/
abbrev a2_Y : Type := Nat → List (Nat × Nat)
def a2_ua (f : a2_A) (k : Nat) (x : Nat × (Nat → Int32)) : a2_A := fun j => if j = k then x else f j
def a2_fv (Y : a2_Y) (ci j : Nat) (g : a2_G) : Option Value := match (Y ci)[j]? with
  | some (0, _) => some (.int (g (100 * ci + j)))
  | some (1, _) => some (.int (g (100 * ci + j)))
  | some (2, cj) => some (.ref cj)
  | some (3, _) => some (.ref (10000 + (100 * ci + j)))
  | some (4, _) => some (.ref (10000 + (100 * ci + j)))
  | _ => none
/-- no reference to the array of a field that is made anew -/
def a2_nr (a : Nat) (v : Value) : Bool := match v with
  | .ref k => decide (k ≠ 10000 + a)
  | _ => true
def a2_nl (a : Nat) (v : Option Value) : Bool := match v with
  | some v => a2_nr a v
  | none => true
/-- which array a reference is, and of what: 3 ints, 4 booleans -/
def a2_ar (Y : a2_Y) (k : Nat) : Option (Nat × Nat) := if 10000 ≤ k then match (Y ((k - 10000) / 100))[(k - 10000) % 100]? with
    | some (3, _) => some (k - 10000, 3)
    | some (4, _) => some (k - 10000, 4)
    | _ => none
  else none
def a2_st (F : am_F) (Y : a2_Y) (own : String) (i : Instr) (len pc : Nat) (L : am_L) (S : List Value) (g : a2_G) (r : a2_A) : Option (Nat × am_L × List Value × a2_G × a2_A) :=
  match i, len, S with
  | .getfield k, 3, .ref a :: S => match am_fl F own k with
    | some (ci, j, _, _) => if a = ci then match a2_fv Y ci j g with
        | some v => some (pc + 3, L, v :: S, g, r)
        | none => none
      else none
    | none => none
  | .putfield k, 3, v :: .ref a :: S => match am_fl F own k with
    | some (ci, j, _, false) => if a = ci then match (Y ci)[j]?, v with
        | some (0, _), .int x => some (pc + 3, L, S, upd g (100 * ci + j) x, r)
        | some (1, _), .int x => if x = 0 ∨ x = 1 then some (pc + 3, L, S, upd g (100 * ci + j) x, r) else none
        | _, _ => none
      else none
    | _ => none
  | .arraylength, 1, .ref a :: S => match a2_ar Y a with
    | some (q, _) => some (pc + 1, L, .int (Int32.ofNat (r q).1) :: S, g, r)
    | none => none
  | .iaload, 1, .int i :: .ref a :: S => match a2_ar Y a with
    | some (q, 3) => if am_inr i (r q).1 then some (pc + 1, L, .int ((r q).2 i.toNatClampNeg) :: S, g, r) else none
    | _ => none
  | .iastore, 1, .int x :: .int i :: .ref a :: S => match a2_ar Y a with
    | some (q, 3) => if am_inr i (r q).1 then some (pc + 1, L, S, g, a2_ua r q ((r q).1, upd (r q).2 i.toNatClampNeg x)) else none
    | _ => none
  | .baload, 1, .int i :: .ref a :: S => match a2_ar Y a with
    | some (q, 4) => if am_inr i (r q).1 then some (pc + 1, L, .int ((r q).2 i.toNatClampNeg) :: S, g, r) else none
    | _ => none
  | .bastore, 1, .int x :: .int i :: .ref a :: S => match a2_ar Y a with
    | some (q, 4) => if am_inr i (r q).1 then some (pc + 1, L, S, g, a2_ua r q ((r q).1, upd (r q).2 i.toNatClampNeg (vp_nar .boolean x))) else none
    | _ => none
  | i, len, S => match am_st F own false i len pc L S [] with
    | some (pc', L', S', []) => some (pc', L', S', g, r)
    | _ => none
/-- values of the second machine, as the first has them -/
def a2_tv (rho : Nat → Nat) (v : Value) : Value := match v with
  | .ref k => .ref (rho k)
  | v => v
theorem a2_tv_cat (rho : Nat → Nat) (v : Value) : (a2_tv rho v).category = v.category := by cases v <;> rfl
theorem a2_tv_R (rho : Nat → Nat) (v : Value) : am_isR (a2_tv rho v) = am_isR v := by cases v <;> rfl
abbrev a2_tl (rho : Nat → Nat) (L : am_L) : am_L := L.map (fun o => o.map (a2_tv rho))
theorem a2_tl_get {rho : Nat → Nat} {L : am_L} {k : Nat} {v : Value} (h : L[k]? = some (some v)) : (a2_tl rho L)[k]? = some (some (a2_tv rho v)) := by
  show (L.map _)[k]? = _
  rw [List.getElem?_map, h]
  rfl
theorem a2_tl_set {rho : Nat → Nat} {L : am_L} {k : Nat} {v : Value} : a2_tl rho (L.set k (some v)) = (a2_tl rho L).set k (some (a2_tv rho v)) := by
  show (L.set k (some v)).map _ = _
  rw [List.map_set]
  rfl
/-- an instruction that touches no cell does the same over any cells -/
theorem a2_simple {F : am_F} {own : String} {ini : Bool} {i : Instr} {len pc pc' : Nat} {L L' : am_L} {S S' : List Value} (rho : Nat → Nat) (h : am_H) (hs : am_st F own ini i len pc L S [] = some (pc', L', S', [])) :
    am_st F own ini i len pc (a2_tl rho L) (S.map (a2_tv rho)) h = some (pc', a2_tl rho L', S'.map (a2_tv rho), h) := by
  unfold am_st at hs
  split at hs
  · cases hs; rfl
  · cases hs; rfl
  · cases hs; rfl
  -- ldc
  · split at hs
    · rename_i hv
      cases hs
      simp [am_st, hv, a2_tv]
    · cases hs
  -- iload_n, iload
  · split at hs
    · rename_i hv
      cases hs
      simp [am_st, a2_tl_get hv, a2_tv]
    · cases hs
  · split at hs
    · rename_i hv
      cases hs
      simp [am_st, a2_tl_get hv, a2_tv]
    · cases hs
  -- aload_n, aload
  · split at hs
    · rename_i v hv
      split at hs
      · rename_i hr
        cases hs
        simp [am_st, a2_tl_get hv, a2_tv_R, hr]
      · cases hs
    · cases hs
  · split at hs
    · rename_i v hv
      split at hs
      · rename_i hr
        cases hs
        simp [am_st, a2_tl_get hv, a2_tv_R, hr]
      · cases hs
    · cases hs
  -- istore_n, istore
  · split at hs
    · rename_i hk
      cases hs
      rw [a2_tl_set]
      simp [am_st, a2_tv, hk]
    · cases hs
  · split at hs
    · rename_i hk
      cases hs
      rw [a2_tl_set]
      simp [am_st, a2_tv, hk]
    · cases hs
  -- astore_n, astore
  · split at hs
    · rename_i hk
      cases hs
      rw [a2_tl_set]
      simp [am_st, a2_tv_R, hk.1, hk.2]
    · cases hs
  · split at hs
    · rename_i hk
      cases hs
      rw [a2_tl_set]
      simp [am_st, a2_tv_R, hk.1, hk.2]
    · cases hs
  -- iinc
  · split at hs
    · rename_i hv
      cases hs
      rw [a2_tl_set]
      simp [am_st, a2_tl_get hv, a2_tv]
    · cases hs
  -- dup, dup2, pop
  · split at hs
    · rename_i hk
      cases hs
      simp [am_st, a2_tv_cat, hk]
    · cases hs
  · split at hs
    · rename_i hk
      cases hs
      simp [am_st, a2_tv_cat, hk.1, hk.2]
    · cases hs
  · split at hs
    · rename_i hk
      cases hs
      simp [am_st, a2_tv_cat, hk]
    · cases hs
  -- arithmetic
  · cases hs; rfl
  · cases hs; rfl
  · cases hs; rfl
  · cases hs; rfl
  · cases hs; rfl
  · cases hs; rfl
  -- goto, ifs
  · split at hs
    · rename_i t ht
      cases hs
      simp [am_st, ht]
    · cases hs
  · split at hs
    · rename_i t ht
      cases hs
      simp [am_st, ht, a2_tv]
    · cases hs
  · split at hs
    · rename_i t ht
      cases hs
      simp [am_st, ht, a2_tv]
    · cases hs
  -- switches
  · split at hs
    · rename_i hcnd
      split at hs
      · rename_i t ht
        cases hs
        simp [am_st, ht, a2_tv, hcnd]
      · cases hs
    · rename_i hcnd
      split at hs
      · rename_i off hoff
        split at hs
        · rename_i t ht
          cases hs
          simp only [am_st, List.map_cons, a2_tv, if_neg hcnd, hoff, ht]
        · cases hs
      · cases hs
  · split at hs
    · rename_i hcnd
      split at hs
      · rename_i t ht
        cases hs
        simp only [am_st, List.map_cons, a2_tv, if_pos hcnd, ht]
      · cases hs
    · cases hs
  -- what touches cells
  · simp at hs
  · simp at hs
  · split at hs
    · simp at hs
    · cases hs
  · split at hs
    · cases hs
    · split at hs
      · simp at hs
      · cases hs
  · split at hs
    · cases hs
      simp [am_st, a2_tv]
    · simp at hs
    · cases hs
  · split at hs
    · split at hs
      · rename_i hi
        cases hs
        simp [am_st, a2_tv, hi]
      · cases hs
    · simp at hs
    · cases hs
  · simp at hs
  · simp at hs
  · simp at hs
  · simp at hs
  · simp at hs
  · cases hs
/-- the fields of a class's object -/
def a2_f1 (rho : Nat → Nat) (ci j : Nat) (k : Nat × Nat) (g : a2_G) : Value := match k with
  | (0, _) => .int (g (100 * ci + j))
  | (1, _) => .int (g (100 * ci + j))
  | (2, cj) => .ref (rho cj)
  | (3, _) => .ref (rho (10000 + (100 * ci + j)))
  | (4, _) => .ref (rho (10000 + (100 * ci + j)))
  | _ => .null
def a2_fs (Y : a2_Y) (rho : Nat → Nat) (ci : Nat) (g : a2_G) : List Value := (Y ci).mapIdx (fun j k => a2_f1 rho ci j k g)
/-- the registers are what the cells hold -/
def a2_Rel (Y : a2_Y) (rho : Nat → Nat) (g : a2_G) (r : a2_A) (h : am_H) : Prop :=
  (∀ ci, Y ci ≠ [] → h[rho ci]? = some (.inl (ci, a2_fs Y rho ci g))) ∧
  (∀ ci j x, (Y ci)[j]? = some (3, x) → h[rho (10000 + (100 * ci + j))]? = some (.inr (.inl (false, r (100 * ci + j))))) ∧
  (∀ ci j x, (Y ci)[j]? = some (4, x) → h[rho (10000 + (100 * ci + j))]? = some (.inr (.inl (true, r (100 * ci + j))))) ∧
  (∀ ci j x ci' j' x', (Y ci)[j]? = some (3, x) ∨ (Y ci)[j]? = some (4, x) → (Y ci')[j']? = some (3, x') ∨ (Y ci')[j']? = some (4, x') → rho (10000 + (100 * ci + j)) = rho (10000 + (100 * ci' + j')) → ci = ci' ∧ j = j') ∧
  (∀ ci, (Y ci).length ≤ 100)
/-- the layout is the table's -/
def a2_okY (F : am_F) (Y : a2_Y) : Prop := ∀ own k ci j ty fin, am_fl F own k = some (ci, j, ty, fin) → ∀ q, ((Y ci)[j]? = some (0, q) → ty = .int) ∧ ((Y ci)[j]? = some (1, q) → ty = .boolean)
theorem a2_fs_get {Y : a2_Y} {rho : Nat → Nat} {ci j : Nat} {g : a2_G} {k : Nat × Nat} (h : (Y ci)[j]? = some k) : (a2_fs Y rho ci g)[j]? = some (a2_f1 rho ci j k g) := by
  simp [a2_fs, h]
theorem a2_fv_f1 {Y : a2_Y} {rho : Nat → Nat} {ci j : Nat} {g : a2_G} {v : Value} (h : a2_fv Y ci j g = some v) : (a2_fs Y rho ci g)[j]? = some (a2_tv rho v) := by
  unfold a2_fv at h
  split at h <;> first | (rename_i hk; cases h; rw [a2_fs_get hk]; rfl) | cases h
theorem a2_fs_upd {Y : a2_Y} {rho : Nat → Nat} {ci j : Nat} {g : a2_G} {x : Int32} {b : Nat} (hb : b = 0 ∨ b = 1) {q : Nat} (h : (Y ci)[j]? = some (b, q)) (hl : (Y ci).length ≤ 100) : a2_fs Y rho ci (upd g (100 * ci + j) x) = (a2_fs Y rho ci g).set j (.int x) := by
  apply List.ext_getElem?
  intro i
  have hj : j < (Y ci).length := (List.getElem?_eq_some_iff.mp h).1
  by_cases hi : i = j
  · subst hi
    rw [a2_fs_get h, List.getElem?_set_self (by simp [a2_fs]; exact hj)]
    rcases hb with rfl | rfl <;> simp [a2_f1, upd]
  · rw [List.getElem?_set_ne (Ne.symm hi)]
    cases hk : (Y ci)[i]? with
    | none => simp [a2_fs, hk]
    | some k =>
      rw [a2_fs_get hk, a2_fs_get hk]
      have hne : 100 * ci + i ≠ 100 * ci + j := by omega
      unfold a2_f1
      split <;> simp [upd, hi]
theorem a2_fs_keep {Y : a2_Y} {rho : Nat → Nat} {ci ci' j : Nat} {g : a2_G} {x : Int32} (hl : (Y ci').length ≤ 100) (hj : j < 100) (hne : ci' ≠ ci) : a2_fs Y rho ci' (upd g (100 * ci + j) x) = a2_fs Y rho ci' g := by
  apply List.ext_getElem?
  intro i
  cases hk : (Y ci')[i]? with
  | none => simp [a2_fs, hk]
  | some k =>
    rw [a2_fs_get hk, a2_fs_get hk]
    have hi : i < 100 := Nat.lt_of_lt_of_le (List.getElem?_eq_some_iff.mp hk).1 hl
    have h1 : ¬ 100 * ci' + i = 100 * ci + j := by omega
    unfold a2_f1
    split <;> simp [upd, h1]
theorem a2_ar_eq {Y : a2_Y} {a q z : Nat} (h : a2_ar Y a = some (q, z)) : ∃ ci j x, a = 10000 + (100 * ci + j) ∧ q = 100 * ci + j ∧ (Y ci)[j]? = some (z, x) ∧ (z = 3 ∨ z = 4) := by
  unfold a2_ar at h
  split at h
  · rename_i hk
    split at h
    · rename_i x hx
      obtain ⟨e1, e2⟩ := Prod.mk.inj (Option.some.inj h)
      exact ⟨(a - 10000) / 100, (a - 10000) % 100, x, by omega, by omega, by rw [← e2]; exact hx, Or.inl e2.symm⟩
    · rename_i x hx
      obtain ⟨e1, e2⟩ := Prod.mk.inj (Option.some.inj h)
      exact ⟨(a - 10000) / 100, (a - 10000) % 100, x, by omega, by omega, by rw [← e2]; exact hx, Or.inr e2.symm⟩
    · cases h
  · cases h
theorem a2_ne {α : Type} {l : List α} {j : Nat} {x : α} (h : l[j]? = some x) : l ≠ [] := fun e => by rw [e] at h; cases h
/-- an array changes -/
theorem a2_Rel.arr {Y : a2_Y} {rho : Nat → Nat} {g : a2_G} {r : a2_A} {h : am_H} (hR : a2_Rel Y rho g r h) {ci j z x : Nat} (hz : z = 3 ∨ z = 4) (hk : (Y ci)[j]? = some (z, x)) (e : Nat × (Nat → Int32)) :
    a2_Rel Y rho g (a2_ua r (100 * ci + j) e) (h.set (rho (10000 + (100 * ci + j))) (.inr (.inl (decide (z = 4), e)))) := by
  obtain ⟨h1, h2, h3, h4, h5⟩ := hR
  have hcell : ∃ b' e', h[rho (10000 + (100 * ci + j))]? = some (.inr (.inl (b', e'))) := by
    rcases hz with rfl | rfl
    · exact ⟨_, _, h2 ci j x hk⟩
    · exact ⟨_, _, h3 ci j x hk⟩
  obtain ⟨b', e', hcell⟩ := hcell
  have hlt := (List.getElem?_eq_some_iff.mp hcell).1
  have hz' : (Y ci)[j]? = some (3, x) ∨ (Y ci)[j]? = some (4, x) := by
    rcases hz with rfl | rfl
    · exact Or.inl hk
    · exact Or.inr hk
  have bound : ∀ {c i y z' : Nat}, (Y c)[i]? = some (z', y) → i < 100 := fun {c i y z'} hh => Nat.lt_of_lt_of_le (List.getElem?_eq_some_iff.mp hh).1 (h5 c)
  have other : ∀ {c i y : Nat}, (Y c)[i]? = some (3, y) ∨ (Y c)[i]? = some (4, y) → ¬ (c = ci ∧ i = j) → rho (10000 + (100 * ci + j)) ≠ rho (10000 + (100 * c + i)) ∧ 100 * c + i ≠ 100 * ci + j := by
    intro c i y hc hne
    refine ⟨fun e9 => hne ?_, fun e9 => hne ?_⟩
    · obtain ⟨q1, q2⟩ := h4 ci j x c i y hz' hc e9
      exact ⟨q1.symm, q2.symm⟩
    · have b1 : i < 100 := by rcases hc with hc | hc <;> exact bound hc
      have b2 : j < 100 := bound hk
      omega
  refine ⟨fun c hc => ?_, fun c i y hc => ?_, fun c i y hc => ?_, h4, h5⟩
  · have hne : rho (10000 + (100 * ci + j)) ≠ rho c := fun e9 => by
      have h6 := h1 c hc
      rw [← e9, hcell] at h6
      cases h6
    rw [List.getElem?_set_ne hne]
    exact h1 c hc
  · by_cases hs : c = ci ∧ i = j
    · obtain ⟨rfl, rfl⟩ := hs
      rw [hk] at hc
      cases hc
      rw [List.getElem?_set_self hlt]
      simp [a2_ua]
    · obtain ⟨q1, q2⟩ := other (Or.inl hc) hs
      rw [List.getElem?_set_ne q1]
      simp only [a2_ua, if_neg q2]
      exact h2 c i y hc
  · by_cases hs : c = ci ∧ i = j
    · obtain ⟨rfl, rfl⟩ := hs
      rw [hk] at hc
      cases hc
      rw [List.getElem?_set_self hlt]
      simp [a2_ua]
    · obtain ⟨q1, q2⟩ := other (Or.inr hc) hs
      rw [List.getElem?_set_ne q1]
      simp only [a2_ua, if_neg q2]
      exact h3 c i y hc
/-- a register changes -/
theorem a2_Rel.reg {Y : a2_Y} {rho : Nat → Nat} {g : a2_G} {r : a2_A} {h : am_H} (hR : a2_Rel Y rho g r h) {ci j z q : Nat} (hz : z = 0 ∨ z = 1) (hk : (Y ci)[j]? = some (z, q)) (x : Int32) :
    a2_Rel Y rho (upd g (100 * ci + j) x) r (h.set (rho ci) (.inl (ci, (a2_fs Y rho ci g).set j (.int x)))) := by
  obtain ⟨h1, h2, h3, h4, h5⟩ := hR
  have hcell := h1 ci (a2_ne hk)
  have hlt := (List.getElem?_eq_some_iff.mp hcell).1
  have hj : j < 100 := Nat.lt_of_lt_of_le (List.getElem?_eq_some_iff.mp hk).1 (h5 ci)
  refine ⟨fun c hc => ?_, fun c i y hc => ?_, fun c i y hc => ?_, h4, h5⟩
  · by_cases hs : c = ci
    · subst hs
      rw [List.getElem?_set_self hlt, a2_fs_upd hz hk (h5 c)]
    · have hne : rho ci ≠ rho c := fun e9 => by
        have h6 := h1 c hc
        rw [← e9, hcell] at h6
        have h7 := Option.some.inj h6
        have h8 : ci = c := congrArg (fun q : Nat × List Value => q.1) (Sum.inl.inj h7)
        exact hs h8.symm
      rw [List.getElem?_set_ne hne, a2_fs_keep (h5 c) hj hs]
      exact h1 c hc
  · have hne : rho ci ≠ rho (10000 + (100 * c + i)) := fun e9 => by
      have h6 := h2 c i y hc
      rw [← e9, hcell] at h6
      cases h6
    rw [List.getElem?_set_ne hne]
    exact h2 c i y hc
  · have hne : rho ci ≠ rho (10000 + (100 * c + i)) := fun e9 => by
      have h6 := h3 c i y hc
      rw [← e9, hcell] at h6
      cases h6
    rw [List.getElem?_set_ne hne]
    exact h3 c i y hc
/-- one instruction of the second machine is one of the first -/
theorem a2_one {F : am_F} {Y : a2_Y} (hY : a2_okY F Y) {own : String} {i : Instr} {len pc pc' : Nat} {L L' : am_L} {S S' : List Value} {g g' : a2_G} {r r' : a2_A} {rho : Nat → Nat} {h : am_H} (hs : a2_st F Y own i len pc L S g r = some (pc', L', S', g', r')) (hR : a2_Rel Y rho g r h) :
    ∃ h', am_st F own false i len pc (a2_tl rho L) (S.map (a2_tv rho)) h = some (pc', a2_tl rho L', S'.map (a2_tv rho), h') ∧ a2_Rel Y rho g' r' h' := by
  unfold a2_st at hs
  split at hs
  · rename_i k a S0
    split at hs
    · rename_i ci j ty fin hf
      split at hs
      · rename_i hac
        subst hac
        split at hs
        · rename_i v hv
          cases hs
          have hne : Y a ≠ [] := by
            unfold a2_fv at hv
            split at hv <;> first | (rename_i hk; exact a2_ne hk) | cases hv
          refine ⟨h, ?_, hR⟩
          simp [am_st, a2_tv, hf, hR.1 a hne, a2_fv_f1 (rho := rho) hv]
        · cases hs
      · cases hs
    · cases hs
  · rename_i k v a S0
    split at hs
    · rename_i ci j ty hf
      split at hs
      · rename_i hac
        subst hac
        split at hs
        · rename_i q x hk
          cases hs
          refine ⟨_, ?_, hR.reg (Or.inl rfl) hk x⟩
          have hj : j < (Y a).length := (List.getElem?_eq_some_iff.mp hk).1
          have ety := (hY _ _ _ _ _ _ hf q).1 hk
          subst ety
          simp [am_st, a2_tv, hf, hR.1 a (a2_ne hk), narrow, fits, a2_fs, hj]
        · rename_i q x hk
          split at hs
          · rename_i hx01
            cases hs
            refine ⟨_, ?_, hR.reg (Or.inr rfl) hk x⟩
            have hj : j < (Y a).length := (List.getElem?_eq_some_iff.mp hk).1
            have ety := (hY _ _ _ _ _ _ hf q).2 hk
            subst ety
            rcases hx01 with rfl | rfl <;> simp [am_st, a2_tv, hf, hR.1 a (a2_ne hk), narrow, fits, a2_fs, hj]
          · cases hs
        · cases hs
      · cases hs
    · cases hs
  · rename_i a S0
    split at hs
    · rename_i q z hq
      obtain ⟨ci, j, x, rfl, rfl, hk, hz⟩ := a2_ar_eq hq
      cases hs
      refine ⟨h, ?_, hR⟩
      rcases hz with rfl | rfl
      · simp [am_st, a2_tv, hR.2.1 ci j x hk]
      · simp [am_st, a2_tv, hR.2.2.1 ci j x hk]
    · cases hs
  · rename_i i a S0
    split at hs
    · rename_i q hq
      obtain ⟨ci, j, x, rfl, rfl, hk, -⟩ := a2_ar_eq hq
      split at hs
      · rename_i hi
        cases hs
        refine ⟨h, ?_, hR⟩
        simp [am_st, a2_tv, hR.2.1 ci j x hk, hi]
      · cases hs
    · cases hs
  · rename_i x0 i a S0
    split at hs
    · rename_i q hq
      obtain ⟨ci, j, x, rfl, rfl, hk, -⟩ := a2_ar_eq hq
      split at hs
      · rename_i hi
        cases hs
        refine ⟨_, ?_, hR.arr (Or.inl rfl) hk _⟩
        simp [am_st, a2_tv, hR.2.1 ci j x hk, hi]
      · cases hs
    · cases hs
  · rename_i i a S0
    split at hs
    · rename_i q hq
      obtain ⟨ci, j, x, rfl, rfl, hk, -⟩ := a2_ar_eq hq
      split at hs
      · rename_i hi
        cases hs
        refine ⟨h, ?_, hR⟩
        simp [am_st, a2_tv, hR.2.2.1 ci j x hk, hi]
      · cases hs
    · cases hs
  · rename_i x0 i a S0
    split at hs
    · rename_i q hq
      obtain ⟨ci, j, x, rfl, rfl, hk, -⟩ := a2_ar_eq hq
      split at hs
      · rename_i hi
        cases hs
        refine ⟨_, ?_, hR.arr (Or.inr rfl) hk _⟩
        simp [am_st, a2_tv, hR.2.2.1 ci j x hk, hi]
      · cases hs
    · cases hs
  · split at hs
    · rename_i hst
      cases hs
      exact ⟨h, a2_simple rho h hst, hR⟩
    · cases hs
end
section
/-! What an instruction without 'new' keeps: how many cells, how many slots; the second machine's arrays keep their lengths. -/
theorem am_st_sz {F : am_F} {own : String} {ini : Bool} {i : Instr} {len pc pc' : Nat} {L L' : am_L} {S S' : List Value} {h h' : am_H} (hi : ∀ k, i ≠ .new k) (hj : ∀ t, i ≠ .newarray t) (hs : am_st F own ini i len pc L S h = some (pc', L', S', h')) : h'.length = h.length ∧ am_sz h' = am_sz h := by
  unfold am_st at hs
  repeat' (split at hs)
  all_goals first
    | (cases hs; exact ⟨rfl, rfl⟩)
    | (exact absurd rfl (hi _))
    | (exact absurd rfl (hj _))
    | (cases hs; done)
    | (cases hs; exact ⟨List.length_set, am_sz_set (by assumption) rfl⟩)
    | (cases hs; refine ⟨List.length_set, am_sz_set (by assumption) ?_⟩; simp [am_es])
theorem a2_st_ln {F : am_F} {Y : a2_Y} {own : String} {i : Instr} {len pc pc' : Nat} {L L' : am_L} {S S' : List Value} {g g' : a2_G} {r r' : a2_A} (hs : a2_st F Y own i len pc L S g r = some (pc', L', S', g', r')) (q : Nat) : (r' q).1 = (r q).1 := by
  unfold a2_st at hs
  repeat' (split at hs)
  all_goals first
    | (cases hs; rfl)
    | (cases hs; done)
    | (cases hs; unfold a2_ua; split <;> simp_all)
theorem a2_st_new {F : am_F} {Y : a2_Y} {own : String} {i : Instr} {len pc : Nat} {L : am_L} {S : List Value} {g : a2_G} {r : a2_A} {z : Nat × am_L × List Value × a2_G × a2_A} (hs : a2_st F Y own i len pc L S g r = some z) : (∀ k, i ≠ .new k) ∧ (∀ t, i ≠ .newarray t) := by
  refine ⟨fun k e => ?_, fun t e => ?_⟩
  · subst e
    simp only [a2_st] at hs
    split at hs
    · rename_i heq
      unfold am_st at heq
      repeat' (split at heq)
      all_goals first | contradiction | (cases heq; done) | simp_all
    · cases hs
  · subst e
    simp only [a2_st] at hs
    split at hs
    · rename_i heq
      unfold am_st at heq
      repeat' (split at heq)
      all_goals first | contradiction | (cases heq; done) | simp_all
    · cases hs
/-- a2_one, with what it keeps -/
theorem a2_oneK {F : am_F} {Y : a2_Y} (hY : a2_okY F Y) {own : String} {i : Instr} {len pc pc' : Nat} {L L' : am_L} {S S' : List Value} {g g' : a2_G} {r r' : a2_A} {rho : Nat → Nat} {h : am_H} (hs : a2_st F Y own i len pc L S g r = some (pc', L', S', g', r')) (hR : a2_Rel Y rho g r h) :
    ∃ h', am_st F own false i len pc (a2_tl rho L) (S.map (a2_tv rho)) h = some (pc', a2_tl rho L', S'.map (a2_tv rho), h') ∧ a2_Rel Y rho g' r' h' ∧ h'.length = h.length ∧ am_sz h' = am_sz h ∧ ∀ q, (r' q).1 = (r q).1 := by
  obtain ⟨h', e1, e2⟩ := a2_one hY hs hR
  obtain ⟨n1, n2⟩ := a2_st_new hs
  obtain ⟨s1, s2⟩ := am_st_sz n1 n2 e1
  exact ⟨h', e1, e2, s1, s2, a2_st_ln hs⟩
end
