/-! AN ABSTRACT MACHINE over the class files' own bytes: cells by numbers in a list, values with such numbers as references ('retAddr' stands for the law's script); a small-step relation with calls as a big step; below, that the machine itself does what it does. -/
abbrev am_E : Type := (Nat × List Value) ⊕ ((Bool × Nat × (Nat → Int32)) ⊕ (Nat × (Nat → Int64)))
abbrev am_H : Type := List am_E
abbrev am_L : Type := List (Option Value)
/-- returned (a value or none), or thrown (the class's number, the cell) -/
abbrev am_O : Type := Option Value ⊕ (Nat × Nat)
/-- a method: name, bytes, locals, what it returns, handlers (from, to, where, the class's number), how many arguments (the receiver counted), its instructions -/
abbrev am_M : Type := MethodName × ByteArray × Nat × Option FieldType × List (Nat × Nat × Nat × Nat) × Nat × List (Nat × Instr × Nat)
abbrev am_y (M : am_M) : MethodName := M.1
abbrev am_b (M : am_M) : ByteArray := M.2.1
abbrev am_n (M : am_M) : Nat := M.2.2.1
abbrev am_r (M : am_M) : Option FieldType := M.2.2.2.1
abbrev am_hs (M : am_M) : List (Nat × Nat × Nat × Nat) := M.2.2.2.2.1
abbrev am_k (M : am_M) : Nat := M.2.2.2.2.2.1
abbrev am_cd (M : am_M) : List (Nat × Instr × Nat) := M.2.2.2.2.2.2
/-- what the constant pools say, by class and entry: a field (class's number, place, type, final); a class that is made (number, its fields' first values); an int; a call (method's number, how: 0 by the receiver, 1 constructor, 2 static, 3 private of a nest mate, 4 constructor of a nest mate, 5 Object's, 6 arraycopy, 7 Math.max, 8 Math.min); a class that is thrown (number); then the script -/
abbrev am_F : Type := (String → Nat → Option (Nat × Nat × FieldType × Bool)) × (String → Nat → Option (Nat × List Value)) × (String → Nat → Option Int32) × (String → Nat → Option (Nat × Nat)) × (String → Nat → Option Nat) × Nat × (Nat → Int32)
abbrev am_fl (F : am_F) := F.1
abbrev am_nw (F : am_F) := F.2.1
abbrev am_ld (F : am_F) := F.2.2.1
abbrev am_cl (F : am_F) := F.2.2.2.1
abbrev am_th (F : am_F) := F.2.2.2.2.1
abbrev am_sn (F : am_F) := F.2.2.2.2.2.1
abbrev am_sx (F : am_F) := F.2.2.2.2.2.2
def am_isR (v : Value) : Bool := match v with
  | .ref _ => true
  | .retAddr _ => true
  | _ => false
def am_c2 (c : ClassFile.Cond) (x y : Int32) : Bool := match c with
  | .eq => decide (x = y)
  | .ne => decide (x ≠ y)
  | .lt => decide (x < y)
  | .ge => decide (y ≤ x)
  | .gt => decide (y < x)
  | .le => decide (x ≤ y)
def am_to (pc : Nat) (off : Int) : Option Nat := if 0 ≤ (pc : Int) + off then some ((pc : Int) + off).toNat else none
def am_inr (i : Int32) (n : Nat) : Bool := decide (¬ (i < 0 ∨ n ≤ i.toNatClampNeg))
/-- the first value of an array's place -/
def am_at0 (t : ArrayType) (n : Nat) : Option am_E := match t with
  | .int => some (.inr (.inl (false, n, fun _ => 0)))
  | .boolean => some (.inr (.inl (true, n, fun _ => 0)))
  | .long => some (.inr (.inr (n, fun _ => 0)))
  | _ => none
/-- one instruction without a call: place, locals, stack, cells -/
def am_st (F : am_F) (own : String) (ini : Bool) (i : Instr) (len pc : Nat) (L : am_L) (S : List Value) (h : am_H) : Option (Nat × am_L × List Value × am_H) :=
  match i, len, S with
  | .iconst n, 1, S => some (pc + 1, L, .int (Int32.ofInt n) :: S, h)
  | .bipush n, 2, S => some (pc + 2, L, .int (Int8.ofInt n).toInt32 :: S, h)
  | .sipush n, 3, S => some (pc + 3, L, .int (Int16.ofInt n).toInt32 :: S, h)
  | .ldc k, 2, S => match am_ld F own k with
    | some v => some (pc + 2, L, .int v :: S, h)
    | none => none
  | .iload_n k, 1, S => match L[(k : Nat)]? with
    | some (some (.int x)) => some (pc + 1, L, .int x :: S, h)
    | _ => none
  | .iload k, 2, S => match L[k]? with
    | some (some (.int x)) => some (pc + 2, L, .int x :: S, h)
    | _ => none
  | .aload_n k, 1, S => match L[(k : Nat)]? with
    | some (some v) => if am_isR v then some (pc + 1, L, v :: S, h) else none
    | _ => none
  | .aload k, 2, S => match L[k]? with
    | some (some v) => if am_isR v then some (pc + 2, L, v :: S, h) else none
    | _ => none
  | .istore_n k, 1, .int x :: S => if (k : Nat) < L.length then some (pc + 1, L.set k (some (.int x)), S, h) else none
  | .istore k, 2, .int x :: S => if k < L.length then some (pc + 2, L.set k (some (.int x)), S, h) else none
  | .astore_n k, 1, v :: S => if (k : Nat) < L.length ∧ am_isR v then some (pc + 1, L.set k (some v), S, h) else none
  | .astore k, 2, v :: S => if k < L.length ∧ am_isR v then some (pc + 2, L.set k (some v), S, h) else none
  | .iinc k n, 3, S => match L[k]? with
    | some (some (.int x)) => some (pc + 3, L.set k (some (.int (x + Int32.ofInt n))), S, h)
    | _ => none
  | .dup, 1, v :: S => if v.category = 1 then some (pc + 1, L, v :: v :: S, h) else none
  | .dup2, 1, v :: w :: S => if v.category = 1 ∧ w.category = 1 then some (pc + 1, L, v :: w :: v :: w :: S, h) else none
  | .pop, 1, v :: S => if v.category = 1 then some (pc + 1, L, S, h) else none
  | .iadd, 1, .int y :: .int x :: S => some (pc + 1, L, .int (x + y) :: S, h)
  | .isub, 1, .int y :: .int x :: S => some (pc + 1, L, .int (x - y) :: S, h)
  | .imul, 1, .int y :: .int x :: S => some (pc + 1, L, .int (x * y) :: S, h)
  | .iand, 1, .int y :: .int x :: S => some (pc + 1, L, .int (x &&& y) :: S, h)
  | .i2l, 1, .int x :: S => some (pc + 1, L, .long x.toInt64 :: S, h)
  | .lcmp, 1, .long y :: .long x :: S => some (pc + 1, L, .int (lg_cmp x y) :: S, h)
  | .goto off, 3, S => match am_to pc off with
    | some t => some (t, L, S, h)
    | none => none
  | .ifCond c off, 3, .int x :: S => match am_to pc off with
    | some t => some (if am_c2 c x 0 then t else pc + 3, L, S, h)
    | none => none
  | .if_icmp c off, 3, .int y :: .int x :: S => match am_to pc off with
    | some t => some (if am_c2 c x y then t else pc + 3, L, S, h)
    | none => none
  | .tableswitch d lo hi offs, _, .int x :: S =>
    if x.toInt < lo ∨ hi < x.toInt then match am_to pc d with
      | some t => some (t, L, S, h)
      | none => none
    else match offs[(x.toInt - lo).toNat]? with
      | some off => match am_to pc off with
        | some t => some (t, L, S, h)
        | none => none
      | none => none
  | .lookupswitch d ps, _, .int x :: S => if (ps.toList.zip (ps.toList.drop 1)).all (fun (a, next) => a.1 < next.1) = true then match am_to pc (Op.lookupswitch.offset ps.toList d x.toInt) with
      | some t => some (t, L, S, h)
      | none => none
    else none
  | .getfield k, 3, .ref a :: S => match am_fl F own k, h[a]? with
    | some (ci, j, _, _), some (.inl (c2, fs)) => if c2 = ci then match fs[j]? with
        | some v => some (pc + 3, L, v :: S, h)
        | none => none
      else none
    | _, _ => none
  | .putfield k, 3, v :: .ref a :: S => match am_fl F own k, h[a]? with
    | some (ci, j, ty, fin), some (.inl (c2, fs)) => if c2 = ci ∧ j < fs.length ∧ (fin = true → ini = true) ∧ narrow ty v = v ∧ fits ty v = true then some (pc + 3, L, S, h.set a (.inl (ci, fs.set j v))) else none
    | _, _ => none
  | .new k, 3, S => match am_nw F own k with
    | some (ci, fs) => some (pc + 3, L, .ref h.length :: S, h ++ [.inl (ci, fs)])
    | none => none
  | .newarray t, 2, .int n :: S => if n < 0 ∨ 60000000 < n.toNatClampNeg then none else match am_at0 t n.toNatClampNeg with
    | some e => some (pc + 2, L, .ref h.length :: S, h ++ [e])
    | none => none
  | .arraylength, 1, v :: S => match v with
    | .retAddr _ => some (pc + 1, L, .int (Int32.ofNat (am_sn F)) :: S, h)
    | .ref a => match h[a]? with
      | some (.inr (.inl (_, n, _))) => some (pc + 1, L, .int (Int32.ofNat n) :: S, h)
      | some (.inr (.inr (n, _))) => some (pc + 1, L, .int (Int32.ofNat n) :: S, h)
      | _ => none
    | _ => none
  | .iaload, 1, .int i :: v :: S => match v with
    | .retAddr _ => if am_inr i (am_sn F) then some (pc + 1, L, .int (am_sx F i.toNatClampNeg) :: S, h) else none
    | .ref a => match h[a]? with
      | some (.inr (.inl (false, n, f))) => if am_inr i n then some (pc + 1, L, .int (f i.toNatClampNeg) :: S, h) else none
      | _ => none
    | _ => none
  | .iastore, 1, .int x :: .int i :: .ref a :: S => match h[a]? with
    | some (.inr (.inl (false, n, f))) => if am_inr i n then some (pc + 1, L, S, h.set a (.inr (.inl (false, n, upd f i.toNatClampNeg x)))) else none
    | _ => none
  | .baload, 1, .int i :: .ref a :: S => match h[a]? with
    | some (.inr (.inl (true, n, f))) => if am_inr i n then some (pc + 1, L, .int (f i.toNatClampNeg) :: S, h) else none
    | _ => none
  | .bastore, 1, .int x :: .int i :: .ref a :: S => match h[a]? with
    | some (.inr (.inl (true, n, f))) => if am_inr i n then some (pc + 1, L, S, h.set a (.inr (.inl (true, n, upd f i.toNatClampNeg (vp_nar .boolean x))))) else none
    | _ => none
  | .laload, 1, .int i :: .ref a :: S => match h[a]? with
    | some (.inr (.inr (n, f))) => if am_inr i n then some (pc + 1, L, .long (f i.toNatClampNeg) :: S, h) else none
    | _ => none
  | .lastore, 1, .long x :: .int i :: .ref a :: S => match h[a]? with
    | some (.inr (.inr (n, f))) => if am_inr i n then some (pc + 1, L, S, h.set a (.inr (.inr (n, vp_updL f i.toNatClampNeg x)))) else none
    | _ => none
  | _, _, _ => none
/-- where a method stands: what is thrown over it, if anything; place, locals, stack, cells -/
abbrev am_S : Type := Option (Nat × Nat) × Nat × am_L × List Value × am_H
/-- an object that was thrown, as a cell: nothing is known of its six fields -/
abbrev am_X (x : Nat) : am_E := .inl (x, [.null, .null, .null, .null, .null, .null])
def am_ini (M : am_M) : Bool := decide ((am_y M).name = "<init>")
/-- which call an instruction is -/
def am_call (F : am_F) (own : String) (i : Instr) (len : Nat) : Option (Nat × Nat) := match i, len with
  | .invokevirtual k, 3 => match am_cl F own k with
    | some (j, w) => if w = 0 ∨ w = 3 then some (j, w) else none
    | none => none
  | .invokespecial k, 3 => match am_cl F own k with
    | some (j, w) => if w = 1 ∨ w = 4 ∨ w = 5 then some (j, w) else none
    | none => none
  | .invokestatic k, 3 => match am_cl F own k with
    | some (j, w) => if w = 2 ∨ w = 6 ∨ w = 7 ∨ w = 8 then some (j, w) else none
    | none => none
  | _, _ => none
def am_isNew (o : Option (Instr × Nat)) : Option Nat := match o with
  | some (.new k, 3) => some k
  | _ => none
def am_isLdc (o : Option (Instr × Nat)) : Option Nat := match o with
  | some (.ldc k, 2) => some k
  | _ => none
def am_isSpc (o : Option (Instr × Nat)) : Option Nat := match o with
  | some (.invokespecial k, 3) => some k
  | _ => none
theorem am_isNew_eq {o : Option (Instr × Nat)} {k : Nat} (h : am_isNew o = some k) : o = some (.new k, 3) := by
  unfold am_isNew at h
  split at h
  · cases h; rfl
  · cases h
theorem am_isLdc_eq {o : Option (Instr × Nat)} {k : Nat} (h : am_isLdc o = some k) : o = some (.ldc k, 2) := by
  unfold am_isLdc at h
  split at h
  · cases h; rfl
  · cases h
theorem am_isSpc_eq {o : Option (Instr × Nat)} {k : Nat} (h : am_isSpc o = some k) : o = some (.invokespecial k, 3) := by
  unfold am_isSpc at h
  split at h
  · cases h; rfl
  · cases h
/-- 'throw new E("text")' from here on, by its five instructions: the class's number -/
def am_tw (F : am_F) (own : String) (cd : List (Nat × Instr × Nat)) (pc : Nat) : Option Nat :=
  if cd.lookup (pc + 3) = some (.dup, 1) ∧ cd.lookup (pc + 9) = some (.athrow, 1) ∧ (am_isLdc (cd.lookup (pc + 4))).isSome = true ∧ (am_isSpc (cd.lookup (pc + 6))).isSome = true then (am_isNew (cd.lookup pc)).bind (am_th F own) else none
theorem am_tw_eq {F : am_F} {own : String} {cd : List (Nat × Instr × Nat)} {pc x : Nat} (h : am_tw F own cd pc = some x) : ∃ ik is ic, cd.lookup pc = some (.new ik, 3) ∧ cd.lookup (pc + 3) = some (.dup, 1) ∧ cd.lookup (pc + 4) = some (.ldc is, 2) ∧ cd.lookup (pc + 6) = some (.invokespecial ic, 3) ∧ cd.lookup (pc + 9) = some (.athrow, 1) ∧ am_th F own ik = some x := by
  unfold am_tw at h
  split at h
  · rename_i hc
    obtain ⟨h3, h9, h4, h6⟩ := hc
    obtain ⟨is, h4⟩ := Option.isSome_iff_exists.mp h4
    obtain ⟨ic, h6⟩ := Option.isSome_iff_exists.mp h6
    cases hn : am_isNew (cd.lookup pc) with
    | none => rw [hn] at h; cases h
    | some ik =>
      rw [hn] at h
      exact ⟨ik, is, ic, am_isNew_eq hn, h3, am_isLdc_eq h4, am_isSpc_eq h6, h9, h⟩
  · cases h
/-- System.arraycopy between two int arrays -/
def am_cp (h : am_H) (a : Nat) (sp : Int32) (b : Nat) (dp n : Int32) : Option am_H := match h[a]?, h[b]? with
  | some (.inr (.inl (false, n0, f))), some (.inr (.inl (false, n1, g))) => if ¬ sp < 0 ∧ ¬ dp < 0 ∧ ¬ n < 0 ∧ sp.toNatClampNeg + n.toNatClampNeg ≤ n0 ∧ dp.toNatClampNeg + n.toNatClampNeg ≤ n1 ∧ a ≠ b then some (h.set b (.inr (.inl (false, n1, va_cpy f g sp.toNatClampNeg dp.toNatClampNeg n.toNatClampNeg)))) else none
  | _, _ => none
abbrev am_EvT : Type := Nat → List Value → am_H → am_O → am_H → Prop
/-- behind a call -/
def am_bk (pc : Nat) (L : am_L) (S : List Value) (o : am_O) (h : am_H) : am_S := match o with
  | .inl v => (none, pc + 3, L, v.toList ++ S, h)
  | .inr x => (some x, pc, L, S, h)
/-- does the receiver fit: an object of the class that the method is of -/
def am_rc (cl : List vw_C) (M : am_M) (as : List Value) (h : am_H) : Prop := ∃ (a ci : Nat) (fs rest : List Value) (q : vw_C), as = .ref a :: rest ∧ h[a]? = some (.inl (ci, fs)) ∧ cl[ci]? = some q ∧ q.1 = (am_y M).cls
/-- a step of a method M: an instruction; a call as one step (E says what calls do); Object's constructor; arraycopy; a catch -/
def am_Stp (F : am_F) (cl : List vw_C) (ms : Nat → Option am_M) (E : am_EvT) (M : am_M) (a b : am_S) : Prop :=
  (∃ pc L S h i len r, a = (none, pc, L, S, h) ∧ (am_cd M).lookup pc = some (i, len) ∧ am_st F (am_y M).cls (am_ini M) i len pc L S h = some r ∧ b = (none, r)) ∨
  (∃ pc L S h i len j w N as rest o h', a = (none, pc, L, S, h) ∧ (am_cd M).lookup pc = some (i, len) ∧ am_call F (am_y M).cls i len = some (j, w) ∧ w < 5 ∧ ms j = some N ∧ as.length = am_k N ∧ S = as.reverse ++ rest ∧
    (w = 0 ∨ w = 3 → am_rc cl N as h) ∧ (w = 1 ∨ w = 4 → ∃ (k : Nat) (t : List Value), as = .ref k :: t) ∧ (rest.map fun v => v.category).sum ≤ 8 ∧ E j as h o h' ∧ b = am_bk pc L rest o h') ∨
  (∃ pc L h i len j k rest, a = (none, pc, L, .ref k :: rest, h) ∧ (am_cd M).lookup pc = some (i, len) ∧ am_call F (am_y M).cls i len = some (j, 5) ∧ (rest.map fun v => v.category).sum ≤ 8 ∧ b = (none, pc + 3, L, rest, h)) ∨
  (∃ pc L h i len j k1 sp k2 dp n rest h', a = (none, pc, L, .int n :: .int dp :: .ref k2 :: .int sp :: .ref k1 :: rest, h) ∧ (am_cd M).lookup pc = some (i, len) ∧ am_call F (am_y M).cls i len = some (j, 6) ∧ (rest.map fun v => v.category).sum ≤ 8 ∧ am_cp h k1 sp k2 dp n = some h' ∧ b = (none, pc + 3, L, rest, h')) ∨
  (∃ pc L h i len j w x y rest, a = (none, pc, L, .int y :: .int x :: rest, h) ∧ (am_cd M).lookup pc = some (i, len) ∧ am_call F (am_y M).cls i len = some (j, w) ∧ (w = 7 ∨ w = 8) ∧ (rest.map fun v => v.category).sum ≤ 8 ∧ b = (none, pc + 3, L, .int (if w = 7 then (if x < y then y else x) else (if y < x then y else x)) :: rest, h)) ∨
  (∃ pc L S h x k f t w, a = (some (x, k), pc, L, S, h) ∧ am_hs M = [(f, t, w, x)] ∧ f ≤ pc ∧ pc < t ∧ b = (none, w, L, [.ref k], h))
/-- a method's end: it returns, throws on, or throws itself -/
def am_fin (F : am_F) (M : am_M) (a : am_S) (r : am_O × am_H) : Prop :=
  (∃ pc L v h ty, a = (none, pc, L, [.int v], h) ∧ (am_cd M).lookup pc = some (.ireturn, 1) ∧ am_r M = some ty ∧ narrow ty (.int v) = .int v ∧ r = (.inl (some (.int v)), h)) ∨
  (∃ pc L h, a = (none, pc, L, [], h) ∧ (am_cd M).lookup pc = some (.return_, 1) ∧ am_r M = none ∧ r = (.inl none, h)) ∨
  (∃ pc L k h ty, a = (none, pc, L, [.ref k], h) ∧ (am_cd M).lookup pc = some (.areturn, 1) ∧ am_r M = some ty ∧ ((∃ n, ty = .object n) ∨ ∃ t, ty = .array t) ∧ r = (.inl (some (.ref k)), h)) ∨
  (∃ pc L S h x, a = (some x, pc, L, S, h) ∧ (∀ q ∈ am_hs M, ¬ (q.1 ≤ pc ∧ pc < q.2.1)) ∧ r = (.inr x, h)) ∨
  (∃ pc L S h x, a = (none, pc, L, S, h) ∧ am_tw F (am_y M).cls (am_cd M) pc = some x ∧ am_hs M = [] ∧ (S.map fun v => v.category).sum ≤ 8 ∧ r = (.inr (x, h.length), h ++ [am_X x]))
/-- from a on, M ends with r -/
def am_Go (F : am_F) (cl : List vw_C) (ms : Nat → Option am_M) (E : am_EvT) (M : am_M) (r : am_O × am_H) (a : am_S) : Prop :=
  ∀ P : am_S → Prop, (∀ a, am_fin F M a r → P a) → (∀ a b, am_Stp F cl ms E M a b → P b → P a) → P a
theorem am_Go.fin {F : am_F} {cl : List vw_C} {ms : Nat → Option am_M} {E : am_EvT} {M : am_M} {r : am_O × am_H} {a : am_S} (h : am_fin F M a r) : am_Go F cl ms E M r a := fun _ h1 _ => h1 a h
theorem am_Go.step {F : am_F} {cl : List vw_C} {ms : Nat → Option am_M} {E : am_EvT} {M : am_M} {r : am_O × am_H} {a b : am_S} (h : am_Stp F cl ms E M a b) (k : am_Go F cl ms E M r b) : am_Go F cl ms E M r a := fun P h1 h2 => h2 a b h (k P h1 h2)
/-- the locals at a method's entry -/
def am_ent (M : am_M) (as : List Value) : am_L := as.map some ++ List.replicate (am_n M - as.length) none
/-- what a call of the method j does, with at most d calls in one another -/
def am_Ev (F : am_F) (cl : List vw_C) (ms : Nat → Option am_M) : Nat → am_EvT
  | 0 => fun _ _ _ _ _ => False
  | d + 1 => fun j as h o h' => ∃ M, ms j = some M ∧ as.length = am_k M ∧ am_k M ≤ am_n M ∧ (∀ v ∈ as, v.category = 1) ∧ am_Go F cl ms (am_Ev F cl ms d) M (o, h') (none, 0, am_ent M as, [], h)
theorem am_Stp.mono {F : am_F} {cl : List vw_C} {ms : Nat → Option am_M} {E E' : am_EvT} (h : ∀ j as g o g', E j as g o g' → E' j as g o g') {M : am_M} {a b : am_S} (k : am_Stp F cl ms E M a b) : am_Stp F cl ms E' M a b := by
  rcases k with k | ⟨pc, L, S, g, i, len, j, w, N, as, rest, o, g', h1, h2, h3, h4, h5, h6, h7, h8, h9, h10, h11, h12⟩ | k | k | k | k
  · exact Or.inl k
  · exact Or.inr (Or.inl ⟨pc, L, S, g, i, len, j, w, N, as, rest, o, g', h1, h2, h3, h4, h5, h6, h7, h8, h9, h10, h _ _ _ _ _ h11, h12⟩)
  · exact Or.inr (Or.inr (Or.inl k))
  · exact Or.inr (Or.inr (Or.inr (Or.inl k)))
  · exact Or.inr (Or.inr (Or.inr (Or.inr (Or.inl k))))
  · exact Or.inr (Or.inr (Or.inr (Or.inr (Or.inr k))))
theorem am_Go.mono {F : am_F} {cl : List vw_C} {ms : Nat → Option am_M} {E E' : am_EvT} (h : ∀ j as g o g', E j as g o g' → E' j as g o g') {M : am_M} {r : am_O × am_H} {a : am_S} (k : am_Go F cl ms E M r a) : am_Go F cl ms E' M r a :=
  fun P h1 h2 => k P h1 (fun a b hs hb => h2 a b (hs.mono h) hb)
theorem am_Ev.up {F : am_F} {cl : List vw_C} {ms : Nat → Option am_M} : ∀ (d : Nat) j as g o g', am_Ev F cl ms d j as g o g' → am_Ev F cl ms (d + 1) j as g o g'
  | 0, _, _, _, _, _, h => h.elim
  | d + 1, j, as, g, o, g', ⟨M, h1, h2, h3, h4, h5⟩ => ⟨M, h1, h2, h3, h4, h5.mono (am_Ev.up d)⟩
theorem am_Ev.mono {F : am_F} {cl : List vw_C} {ms : Nat → Option am_M} {d d' : Nat} (h : d ≤ d') {j as g o g'} (k : am_Ev F cl ms d j as g o g') : am_Ev F cl ms d' j as g o g' := by
  induction h with
  | refl => exact k
  | step _ ih => exact am_Ev.up _ _ _ _ _ _ ih
