/-! The second machine AS A FUNCTION: what a method does is computed, step by step; jumps backwards go through K. Sound once for all. -/
abbrev fn_Z : Type := a2_O × a2_G × a2_A
abbrev fn_E : Type := Nat → List Value → a2_G → a2_A → Option fn_Z
/-- G says of the class c what F says -/
def fn_agr (F G : am_F) (c : String) : Prop := (∀ k, am_fl F c k = am_fl G "" k) ∧ (∀ k, am_nw F c k = am_nw G "" k) ∧ (∀ k, am_ld F c k = am_ld G "" k) ∧ am_sn F = am_sn G ∧ am_sx F = am_sx G ∧ (∀ k, am_cl F c k = am_cl G "" k)
def fn_jp (K : Nat → am_L → a2_G → a2_A → Option fn_Z) (pc t : Nat) (L : am_L) (S : List Value) (g : a2_G) (r : a2_A) (a : Option fn_Z) : Option fn_Z :=
  if pc < t then a else match S with
    | [] => K t L g r
    | _ :: _ => none
def fn_ts (x : Int32) (J : Int → Option fn_Z) (d : Int) : Int → List Int → Option fn_Z
  | _, [] => J d
  | v, off :: t => if x.toInt = v then J off else fn_ts x J d (v + 1) t
def fn_ls (x : Int32) (J : Int → Option fn_Z) (d : Int) : List (Int × Int) → Option fn_Z
  | [] => J d
  | (a, o) :: t => if x.toInt = a then J o else fn_ls x J d t
/-- does the receiver fit -/
def fn_rc (Y : a2_Y) (oc : Nat → Option Nat) (j w : Nat) (as : List Value) : Bool := match w, as with
  | 2, _ => true
  | 0, .ref ci :: _ => decide (oc j = some ci) && !(Y ci).isEmpty
  | 3, .ref ci :: _ => decide (oc j = some ci) && !(Y ci).isEmpty
  | _, _ => false
/-- behind a call that gives an int; that gives nothing -/
def fn_v (z : Option fn_Z) (k : Int32 → a2_G → a2_A → Option fn_Z) : Option fn_Z := match z with
  | some (.inl (some (.int v)), g, r) => k v g r
  | some (.inr x, g, r) => some (.inr x, g, r)
  | _ => none
def fn_n (z : Option fn_Z) (k : a2_G → a2_A → Option fn_Z) : Option fn_Z := match z with
  | some (.inl none, g, r) => k g r
  | some (.inr x, g, r) => some (.inr x, g, r)
  | _ => none
def fn_c (Y : a2_Y) (RG : List Nat) (ms : Nat → Option am_M) (oc : Nat → Option Nat) (E : fn_E) (j w : Nat) (L : am_L) (S : List Value) (g : a2_G) (r : a2_A) (k : List Value → a2_G → a2_A → Option fn_Z) : Option fn_Z := match ms j with
  | none => none
  | some N => if decide ((S.take (am_k N)).length = am_k N) && decide (((S.drop (am_k N)).map fun v => v.category).sum ≤ 8) && (S.drop (am_k N)).all (a2_nR RG) && L.all (a2_nL RG) && fn_rc Y oc j w (S.take (am_k N)).reverse then (match am_r N with
      | some _ => fn_v (E j (S.take (am_k N)).reverse g r) (fun v g r => k (.int v :: S.drop (am_k N)) g r)
      | none => fn_n (E j (S.take (am_k N)).reverse g r) (fun g r => k (S.drop (am_k N)) g r)) else none
/-- Arrays.copyOf and the putfield behind it -/
def fn_cp (G : am_F) (Y : a2_Y) (RG : List Nat) (o : Option (Instr × Nat)) (L : am_L) (S : List Value) (g : a2_G) (r : a2_A) (k : List Value → a2_G → a2_A → Option fn_Z) : Option fn_Z := match o, S with
  | some (.putfield k2, 3), .int n :: .ref a :: .ref ci :: rest => match am_fl G "" k2, a2_ar Y a with
    | some (ci', j, .array .int, false), some (q, 3) => if decide (ci' = ci) && decide ((Y ci)[j]? = some (3, 0)) && decide ((Y (q / 100))[q % 100]? = some (3, 0)) && decide ((100 * ci + j) ∈ RG) && decide ((rest.map fun v => v.category).sum ≤ 7) && rest.all (a2_nR RG) && L.all (a2_nL RG) && decide (q = 100 * ci + j) then
        (if ¬ n < 0 ∧ n.toNatClampNeg ≤ 60000000 ∧ n.toNatClampNeg ≠ (r q).1 ∧ (r q).1 ≤ 60000000 ∧ 0 < (r q).1 ∧ 2 * (r q).1 ≤ n.toNatClampNeg then k rest g (a2_ua r (100 * ci + j) (a2_cp n.toNatClampNeg (r q))) else none)
      else none
    | _, _ => none
  | _, _ => none
def fn_b (G : am_F) (Y : a2_Y) (RG : List Nat) (jc : Nat) (ms : Nat → Option am_M) (oc : Nat → Option Nat) (tw : List (Nat × Nat)) (E : fn_E) (M : am_M) (K : Nat → am_L → a2_G → a2_A → Option fn_Z) : Nat → Nat → am_L → List Value → a2_G → a2_A → Option fn_Z
  | 0, _, _, _, _, _ => none
  | n + 1, pc, L, S, g, r => match (am_cd M).lookup pc with
    | none => none
    | some q => match q.1, q.2, S with
      | .goto off, 3, S => match am_to pc off with
        | none => none
        | some t => fn_jp K pc t L S g r (fn_b G Y RG jc ms oc tw E M K n t L S g r)
      | .ifCond c off, 3, .int x :: S => match am_to pc off with
        | none => none
        | some t => if am_c2 c x 0 = true then fn_jp K pc t L S g r (fn_b G Y RG jc ms oc tw E M K n t L S g r) else fn_b G Y RG jc ms oc tw E M K n (pc + 3) L S g r
      | .if_icmp c off, 3, .int y :: .int x :: S => match am_to pc off with
        | none => none
        | some t => if am_c2 c x y = true then fn_jp K pc t L S g r (fn_b G Y RG jc ms oc tw E M K n t L S g r) else fn_b G Y RG jc ms oc tw E M K n (pc + 3) L S g r
      | .tableswitch d lo hi offs, _, .int x :: S => if (offs.toList.length : Int) = hi - lo + 1 then fn_ts x (fun off => match am_to pc off with
          | none => none
          | some t => fn_jp K pc t L S g r (fn_b G Y RG jc ms oc tw E M K n t L S g r)) d lo offs.toList else none
      | .lookupswitch d ps, _, .int x :: S => if (ps.toList.zip (ps.toList.drop 1)).all (fun (a, next) => a.1 < next.1) = true then fn_ls x (fun off => match am_to pc off with
          | none => none
          | some t => fn_jp K pc t L S g r (fn_b G Y RG jc ms oc tw E M K n t L S g r)) d ps.toList else none
      | .iaload, 1, .int i :: .ref a :: S => match a2_ar Y a with
        | some (k, 3) => if am_inr i (r k).1 = true then fn_b G Y RG jc ms oc tw E M K n (pc + 1) L (.int ((r k).2 i.toNatClampNeg) :: S) g r else none
        | _ => none
      | .baload, 1, .int i :: .ref a :: S => match a2_ar Y a with
        | some (k, 4) => if am_inr i (r k).1 = true then fn_b G Y RG jc ms oc tw E M K n (pc + 1) L (.int ((r k).2 i.toNatClampNeg) :: S) g r else none
        | _ => none
      | .iastore, 1, .int x :: .int i :: .ref a :: S => match a2_ar Y a with
        | some (k, 3) => if am_inr i (r k).1 = true then fn_b G Y RG jc ms oc tw E M K n (pc + 1) L S g (a2_ua r k ((r k).1, upd (r k).2 i.toNatClampNeg x)) else none
        | _ => none
      | .bastore, 1, .int x :: .int i :: .ref a :: S => match a2_ar Y a with
        | some (k, 4) => if am_inr i (r k).1 = true then fn_b G Y RG jc ms oc tw E M K n (pc + 1) L S g (a2_ua r k ((r k).1, upd (r k).2 i.toNatClampNeg (vp_nar .boolean x))) else none
        | _ => none
      | .putfield k, 3, .int x :: .ref a :: S => match am_fl G "" k with
        | some (ci, j, _, false) => if a = ci then match (Y ci)[j]? with
            | some (0, _) => fn_b G Y RG jc ms oc tw E M K n (pc + 3) L S (upd g (100 * ci + j) x) r
            | some (1, _) => if x = 0 ∨ x = 1 then fn_b G Y RG jc ms oc tw E M K n (pc + 3) L S (upd g (100 * ci + j) x) r else none
            | _ => none
          else none
        | _ => none
      | .ireturn, 1, [.int v] => match am_r M with
        | some .int => some (.inl (some (.int v)), g, r)
        | some .boolean => if v = 0 ∨ v = 1 then some (.inl (some (.int v)), g, r) else none
        | _ => none
      | .return_, 1, [] => match am_r M with
        | none => some (.inl none, g, r)
        | _ => none
      | .new _, 3, S => match tw.lookup pc with
        | some x => if (S.map fun v => v.category).sum ≤ 8 then some (.inr x, g, r) else none
        | none => none
      | .invokevirtual k, 3, S => match am_cl G "" k with
        | some (j, w) => if w = 0 ∨ w = 3 then fn_c Y RG ms oc E j w L S g r (fun S g r => fn_b G Y RG jc ms oc tw E M K n (pc + 3) L S g r) else none
        | none => none
      | .invokestatic k, 3, S => match am_cl G "" k with
        | some (j, w) => if w = 2 then (if j = jc then fn_cp G Y RG ((am_cd M).lookup (pc + 3)) L S g r (fun S g r => fn_b G Y RG jc ms oc tw E M K n (pc + 6) L S g r) else fn_c Y RG ms oc E j w L S g r (fun S g r => fn_b G Y RG jc ms oc tw E M K n (pc + 3) L S g r)) else if w = 7 ∨ w = 8 then match S with
            | .int y :: .int x :: rest => if (rest.map fun v => v.category).sum ≤ 8 then fn_b G Y RG jc ms oc tw E M K n (pc + 3) L (.int (if w = 7 then (if x < y then y else x) else (if y < x then y else x)) :: rest) g r else none
            | _ => none
          else none
        | none => none
      | i, len, S => match a2_st G Y "" i len pc L S g r with
        | some (pc', L', S', g', r') => fn_b G Y RG jc ms oc tw E M K n pc' L' S' g' r'
        | none => none
def fn_l (G : am_F) (Y : a2_Y) (RG : List Nat) (jc : Nat) (ms : Nat → Option am_M) (oc : Nat → Option Nat) (tw : List (Nat × Nat)) (E : fn_E) (M : am_M) (n : Nat) : Nat → Nat → am_L → a2_G → a2_A → Option fn_Z
  | 0 => fun _ _ _ _ => none
  | m + 1 => fun pc L g r => fn_b G Y RG jc ms oc tw E M (fn_l G Y RG jc ms oc tw E M n m) n pc L [] g r
/-- what a call of the method j does, at most d calls deep, no more than m jumps backwards in one method -/
def fn_ev (tb : Nat → am_F) (Y : a2_Y) (RG : List Nat) (jc : Nat) (ms : Nat → Option am_M) (oc : Nat → Option Nat) (ok : Nat → Bool) (tw : Nat → List (Nat × Nat)) (n m : Nat) : Nat → fn_E
  | 0 => fun _ _ _ _ => none
  | d + 1 => fun j as g r => match ms j with
    | none => none
    | some M => if ok j && decide (as.length = am_k M) && as.all (fun v => v.category == 1) && as.all (a2_nR RG) then fn_l (tb j) Y RG jc ms oc (tw j) (fn_ev tb Y RG jc ms oc ok tw n m d) M n m 0 (am_ent M as) g r else none
/-- a table by class and entry, at one class -/
theorem am_onc {α : Type} (c : String) (k : Nat) : ∀ l : List ((String × Nat) × α), l.lookup (c, k) = (l.filterMap (fun e => if e.1.1 == c then some (e.1.2, e.2) else none)).lookup k
  | [] => rfl
  | ((c2, k2), v) :: t => by
    rw [List.lookup_cons, List.filterMap_cons, am_onc c k t]
    by_cases hc : c2 = c
    · subst hc
      have e0 : (c2 == c2) = true := beq_self_eq_true c2
      simp only [e0, if_true]
      rw [List.lookup_cons]
      by_cases hk : k = k2
      · subst hk
        rw [beq_self_eq_true (c2, k), beq_self_eq_true k]
      · have e1 : ((c2, k) == (c2, k2)) = false := beq_eq_false_iff_ne.mpr (fun e => hk (Prod.mk.inj e).2)
        have e2 : (k == k2) = false := beq_eq_false_iff_ne.mpr hk
        rw [e1, e2]
    · have e1 : ((c, k) == (c2, k2)) = false := beq_eq_false_iff_ne.mpr (fun e => hc (Prod.mk.inj e).1.symm)
      have e2 : (c2 == c) = false := beq_eq_false_iff_ne.mpr hc
      rw [e1]
      simp only [e2]
      rfl
