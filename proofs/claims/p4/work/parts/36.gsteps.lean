/-! The function, instruction by instruction: equations. -/
/-- the instructions that a2_st alone does, without a branch -/
def fs_pl (i : Instr) : Bool := match i with
  | .iconst _ => true
  | .bipush _ => true
  | .sipush _ => true
  | .ldc _ => true
  | .iload_n _ => true
  | .iload _ => true
  | .aload_n _ => true
  | .aload _ => true
  | .istore_n _ => true
  | .istore _ => true
  | .astore_n _ => true
  | .astore _ => true
  | .iinc _ _ => true
  | .dup => true
  | .dup2 => true
  | .pop => true
  | .iadd => true
  | .isub => true
  | .imul => true
  | .iand => true
  | .getfield _ => true
  | .arraylength => true
  | _ => false
def fs_rn (G : am_F) (Y : a2_Y) (M : am_M) (g : a2_G) (r : a2_A) : Nat → Nat × am_L × List Value → Option (Nat × am_L × List Value)
  | 0, s => some s
  | k + 1, s => match (am_cd M).lookup s.1 with
    | some q => if fs_pl q.1 = true then match a2_st G Y "" q.1 q.2 s.1 s.2.1 s.2.2 g r with
        | some t => fs_rn G Y M g r k (t.1, t.2.1, t.2.2.1)
        | none => none
      else none
    | none => none
theorem fs_ite {c : Prop} {i : Decidable c} {a b a' b' : Option fn_Z} (h1 : a = a') (h2 : b = b') : (if c then a else b) = (if c then a' else b') := by rw [h1, h2]
theorem fs_fv {z : Option fn_Z} {k k' : Int32 → a2_G → a2_A → Option fn_Z} (h : ∀ v g r, k v g r = k' v g r) : fn_v z k = fn_v z k' := congrArg _ (funext fun v => funext fun g => funext fun r => h v g r)
theorem fs_fn {z : Option fn_Z} {k k' : a2_G → a2_A → Option fn_Z} (h : ∀ g r, k g r = k' g r) : fn_n z k = fn_n z k' := congrArg _ (funext fun g => funext fun r => h g r)
theorem fs_tn {x : Int32} {J : Int → Option fn_Z} {d v : Int} {a : Option fn_Z} (h : J d = a) : fn_ts x J d v [] = a := h
theorem fs_tc {x : Int32} {J : Int → Option fn_Z} {d v v' off : Int} {t : List Int} {a b : Option fn_Z} (hv : v + 1 = v') (h1 : J off = a) (h2 : fn_ts x J d v' t = b) : fn_ts x J d v (off :: t) = if x.toInt = v then a else b := by
  rw [fn_ts, hv, h1, h2]
theorem fs_ln {x : Int32} {J : Int → Option fn_Z} {d : Int} {a : Option fn_Z} (h : J d = a) : fn_ls x J d [] = a := h
theorem fs_lc {x : Int32} {J : Int → Option fn_Z} {d v off : Int} {t : List (Int × Int)} {a b : Option fn_Z} (h1 : J off = a) (h2 : fn_ls x J d t = b) : fn_ls x J d ((v, off) :: t) = if x.toInt = v then a else b := by
  rw [fn_ls, h1, h2]
section
variable {G : am_F} {Y : a2_Y} {RG : List Nat} {jc : Nat} {ms : Nat → Option am_M} {oc : Nat → Option Nat} {tw : List (Nat × Nat)} {E : fn_E} {M : am_M} {K : Nat → am_L → a2_G → a2_A → Option fn_Z} {n pc : Nat} {L : am_L} {S : List Value} {g : a2_G} {r : a2_A}
theorem fs_one {i : Instr} {len : Nat} (h1 : (am_cd M).lookup pc = some (i, len)) (hp : fs_pl i = true) : fn_b G Y RG jc ms oc tw E M K (n + 1) pc L S g r = (match a2_st G Y "" i len pc L S g r with
    | some (pc', L', S', g', r') => fn_b G Y RG jc ms oc tw E M K n pc' L' S' g' r'
    | none => none) := by
  rw [fn_b.eq_2, h1]
  cases i <;> first | exact absurd hp Bool.false_ne_true | rfl
theorem fs_keep {i : Instr} {len : Nat} (hp : fs_pl i = true) {t : Nat × am_L × List Value × a2_G × a2_A} (h : a2_st G Y "" i len pc L S g r = some t) : t.2.2.2 = (g, r) := by
  cases i <;> first | exact absurd hp Bool.false_ne_true | (simp only [a2_st] at h; (repeat' (split at h)) <;> first | contradiction | (cases h; rfl) | (cases h; done))
theorem fs_run (k : Nat) : ∀ {s s' : Nat × am_L × List Value}, fs_rn G Y M g r k s = some s' → fn_b G Y RG jc ms oc tw E M K (n + k) s.1 s.2.1 s.2.2 g r = fn_b G Y RG jc ms oc tw E M K n s'.1 s'.2.1 s'.2.2 g r := by
  induction k with
  | zero => intro s s' h; cases h; rfl
  | succ k ih =>
    intro s s' h
    unfold fs_rn at h
    split at h
    · rename_i q hq
      split at h
      · rename_i hp
        split at h
        · rename_i t ht
          have h2 := fs_keep hp ht
          obtain ⟨t1, t2, t3, t4⟩ := t
          rw [show n + (k + 1) = (n + k) + 1 from rfl, fs_one (i := q.1) (len := q.2) hq hp, ht]
          have h3 : t4 = (g, r) := h2
          subst h3
          exact ih h
        · cases h
      · cases h
    · cases h
theorem fs_go {off : Int} {t : Nat} (h1 : (am_cd M).lookup pc = some (.goto off, 3)) (h2 : am_to pc off = some t) (h3 : pc < t) : fn_b G Y RG jc ms oc tw E M K (n + 1) pc L S g r = fn_b G Y RG jc ms oc tw E M K n t L S g r := by
  rw [fn_b.eq_2, h1]
  simp only [h2, fn_jp, if_pos h3]
theorem fs_gb {off : Int} {t : Nat} (h1 : (am_cd M).lookup pc = some (.goto off, 3)) (h2 : am_to pc off = some t) (h3 : ¬ pc < t) : fn_b G Y RG jc ms oc tw E M K (n + 1) pc L [] g r = K t L g r := by
  rw [fn_b.eq_2, h1]
  simp only [h2, fn_jp, if_neg h3]
theorem fs_i {c : ClassFile.Cond} {off : Int} {t : Nat} {x : Int32} (h1 : (am_cd M).lookup pc = some (.ifCond c off, 3)) (h2 : am_to pc off = some t) (h3 : pc < t) : fn_b G Y RG jc ms oc tw E M K (n + 1) pc L (.int x :: S) g r = if am_c2 c x 0 = true then fn_b G Y RG jc ms oc tw E M K n t L S g r else fn_b G Y RG jc ms oc tw E M K n (pc + 3) L S g r := by
  rw [fn_b.eq_2, h1]
  simp only [h2, fn_jp, if_pos h3]
theorem fs_j {c : ClassFile.Cond} {off : Int} {t : Nat} {x y : Int32} (h1 : (am_cd M).lookup pc = some (.if_icmp c off, 3)) (h2 : am_to pc off = some t) (h3 : pc < t) : fn_b G Y RG jc ms oc tw E M K (n + 1) pc L (.int y :: .int x :: S) g r = if am_c2 c x y = true then fn_b G Y RG jc ms oc tw E M K n t L S g r else fn_b G Y RG jc ms oc tw E M K n (pc + 3) L S g r := by
  rw [fn_b.eq_2, h1]
  simp only [h2, fn_jp, if_pos h3]
theorem fs_jb {c : ClassFile.Cond} {off : Int} {t : Nat} {x y : Int32} (h1 : (am_cd M).lookup pc = some (.if_icmp c off, 3)) (h2 : am_to pc off = some t) (h3 : ¬ pc < t) : fn_b G Y RG jc ms oc tw E M K (n + 1) pc L [.int y, .int x] g r = if am_c2 c x y = true then K t L g r else fn_b G Y RG jc ms oc tw E M K n (pc + 3) L [] g r := by
  rw [fn_b.eq_2, h1]
  simp only [h2, fn_jp, if_neg h3]
theorem fs_ib {c : ClassFile.Cond} {off : Int} {t : Nat} {x : Int32} (h1 : (am_cd M).lookup pc = some (.ifCond c off, 3)) (h2 : am_to pc off = some t) (h3 : ¬ pc < t) : fn_b G Y RG jc ms oc tw E M K (n + 1) pc L [.int x] g r = if am_c2 c x 0 = true then K t L g r else fn_b G Y RG jc ms oc tw E M K n (pc + 3) L [] g r := by
  rw [fn_b.eq_2, h1]
  simp only [h2, fn_jp, if_neg h3]
/-- where a switch goes -/
def fs_J (G : am_F) (Y : a2_Y) (RG : List Nat) (jc : Nat) (ms : Nat → Option am_M) (oc : Nat → Option Nat) (tw : List (Nat × Nat)) (E : fn_E) (M : am_M) (K : Nat → am_L → a2_G → a2_A → Option fn_Z) (n pc : Nat) (L : am_L) (S : List Value) (g : a2_G) (r : a2_A) (off : Int) : Option fn_Z := match am_to pc off with
  | none => none
  | some t => fn_jp K pc t L S g r (fn_b G Y RG jc ms oc tw E M K n t L S g r)
theorem fs_J1 {off : Int} {t : Nat} (h2 : am_to pc off = some t) (h3 : pc < t) : fs_J G Y RG jc ms oc tw E M K n pc L S g r off = fn_b G Y RG jc ms oc tw E M K n t L S g r := by
  simp only [fs_J, h2, fn_jp, if_pos h3]
theorem fs_J0 {off : Int} {t : Nat} (h2 : am_to pc off = some t) (h3 : ¬ pc < t) : fs_J G Y RG jc ms oc tw E M K n pc L [] g r off = K t L g r := by
  simp only [fs_J, h2, fn_jp, if_neg h3]
theorem fs_ts {d lo hi : Int} {offs : Array Int} {l : List Int} {len : Nat} {x : Int32} (h1 : (am_cd M).lookup pc = some (.tableswitch d lo hi offs, len)) (h2 : (offs.toList.length : Int) = hi - lo + 1) (h3 : offs.toList = l) : fn_b G Y RG jc ms oc tw E M K (n + 1) pc L (.int x :: S) g r = fn_ts x (fs_J G Y RG jc ms oc tw E M K n pc L S g r) d lo l := by
  subst h3
  rw [fn_b.eq_2, h1]
  simp only [if_pos h2]
  rfl
theorem fs_ls {d : Int} {ps : Array (Int × Int)} {l : List (Int × Int)} {len : Nat} {x : Int32} (h1 : (am_cd M).lookup pc = some (.lookupswitch d ps, len)) (h2 : (ps.toList.zip (ps.toList.drop 1)).all (fun (a, next) => a.1 < next.1) = true) (h3 : ps.toList = l) : fn_b G Y RG jc ms oc tw E M K (n + 1) pc L (.int x :: S) g r = fn_ls x (fs_J G Y RG jc ms oc tw E M K n pc L S g r) d l := by
  subst h3
  rw [fn_b.eq_2, h1]
  simp only [if_pos h2]
  rfl
theorem fs_il {i : Int32} {a k : Nat} (h1 : (am_cd M).lookup pc = some (.iaload, 1)) (h2 : a2_ar Y a = some (k, 3)) : fn_b G Y RG jc ms oc tw E M K (n + 1) pc L (.int i :: .ref a :: S) g r = if am_inr i (r k).1 = true then fn_b G Y RG jc ms oc tw E M K n (pc + 1) L (.int ((r k).2 i.toNatClampNeg) :: S) g r else none := by
  rw [fn_b.eq_2, h1]
  simp only [h2]
theorem fs_bl {i : Int32} {a k : Nat} (h1 : (am_cd M).lookup pc = some (.baload, 1)) (h2 : a2_ar Y a = some (k, 4)) : fn_b G Y RG jc ms oc tw E M K (n + 1) pc L (.int i :: .ref a :: S) g r = if am_inr i (r k).1 = true then fn_b G Y RG jc ms oc tw E M K n (pc + 1) L (.int ((r k).2 i.toNatClampNeg) :: S) g r else none := by
  rw [fn_b.eq_2, h1]
  simp only [h2]
theorem fs_is {x i : Int32} {a k : Nat} (h1 : (am_cd M).lookup pc = some (.iastore, 1)) (h2 : a2_ar Y a = some (k, 3)) : fn_b G Y RG jc ms oc tw E M K (n + 1) pc L (.int x :: .int i :: .ref a :: S) g r = if am_inr i (r k).1 = true then fn_b G Y RG jc ms oc tw E M K n (pc + 1) L S g (a2_ua r k ((r k).1, upd (r k).2 i.toNatClampNeg x)) else none := by
  rw [fn_b.eq_2, h1]
  simp only [h2]
theorem fs_bs {x i : Int32} {a k : Nat} (h1 : (am_cd M).lookup pc = some (.bastore, 1)) (h2 : a2_ar Y a = some (k, 4)) : fn_b G Y RG jc ms oc tw E M K (n + 1) pc L (.int x :: .int i :: .ref a :: S) g r = if am_inr i (r k).1 = true then fn_b G Y RG jc ms oc tw E M K n (pc + 1) L S g (a2_ua r k ((r k).1, upd (r k).2 i.toNatClampNeg (vp_nar .boolean x))) else none := by
  rw [fn_b.eq_2, h1]
  simp only [h2]
theorem fs_pf {k a ci j q : Nat} {ty : FieldType} {x : Int32} (h1 : (am_cd M).lookup pc = some (.putfield k, 3)) (h2 : am_fl G "" k = some (ci, j, ty, false)) (h3 : a = ci) (h4 : (Y ci)[j]? = some (0, q)) : fn_b G Y RG jc ms oc tw E M K (n + 1) pc L (.int x :: .ref a :: S) g r = fn_b G Y RG jc ms oc tw E M K n (pc + 3) L S (upd g (100 * ci + j) x) r := by
  rw [fn_b.eq_2, h1]
  simp only [h2, if_pos h3, h4]
theorem fs_pb {k a ci j q : Nat} {ty : FieldType} {x : Int32} (h1 : (am_cd M).lookup pc = some (.putfield k, 3)) (h2 : am_fl G "" k = some (ci, j, ty, false)) (h3 : a = ci) (h4 : (Y ci)[j]? = some (1, q)) : fn_b G Y RG jc ms oc tw E M K (n + 1) pc L (.int x :: .ref a :: S) g r = if x = 0 ∨ x = 1 then fn_b G Y RG jc ms oc tw E M K n (pc + 3) L S (upd g (100 * ci + j) x) r else none := by
  rw [fn_b.eq_2, h1]
  simp only [h2, if_pos h3, h4]
theorem fs_ri {v : Int32} (h1 : (am_cd M).lookup pc = some (.ireturn, 1)) (h2 : am_r M = some .int) : fn_b G Y RG jc ms oc tw E M K (n + 1) pc L [.int v] g r = some (.inl (some (.int v)), g, r) := by
  rw [fn_b.eq_2, h1]
  simp only [h2]
theorem fs_rb {v : Int32} (h1 : (am_cd M).lookup pc = some (.ireturn, 1)) (h2 : am_r M = some .boolean) : fn_b G Y RG jc ms oc tw E M K (n + 1) pc L [.int v] g r = if v = 0 ∨ v = 1 then some (.inl (some (.int v)), g, r) else none := by
  rw [fn_b.eq_2, h1]
  simp only [h2]
theorem fs_rv (h1 : (am_cd M).lookup pc = some (.return_, 1)) (h2 : am_r M = none) : fn_b G Y RG jc ms oc tw E M K (n + 1) pc L [] g r = some (.inl none, g, r) := by
  rw [fn_b.eq_2, h1]
  simp only [h2]
theorem fs_th {k x : Nat} (h1 : (am_cd M).lookup pc = some (.new k, 3)) (h2 : tw.lookup pc = some x) (h3 : (S.map fun v => v.category).sum ≤ 8) : fn_b G Y RG jc ms oc tw E M K (n + 1) pc L S g r = some (.inr x, g, r) := by
  rw [fn_b.eq_2, h1]
  simp only [h2, if_pos h3]
theorem fs_c {j w : Nat} {N : am_M} {as rest : List Value} {k : List Value → a2_G → a2_A → Option fn_Z} (h5 : ms j = some N) (h6 : (decide ((S.take (am_k N)).length = am_k N) && decide (((S.drop (am_k N)).map fun v => v.category).sum ≤ 8) && (S.drop (am_k N)).all (a2_nR RG) && L.all (a2_nL RG) && fn_rc Y oc j w (S.take (am_k N)).reverse) = true) (h7 : (S.take (am_k N)).reverse = as) (h8 : S.drop (am_k N) = rest) : fn_c Y RG ms oc E j w L S g r k = match am_r N with
      | some _ => fn_v (E j as g r) (fun v g r => k (.int v :: rest) g r)
      | none => fn_n (E j as g r) (fun g r => k rest g r) := by
  subst h7 h8
  unfold fn_c
  rw [h5]
  dsimp only
  rw [if_pos h6]
  cases am_r N <;> rfl
theorem fs_cv {k j w : Nat} {N : am_M} {ty : FieldType} {as rest : List Value} (h1 : (am_cd M).lookup pc = some (.invokevirtual k, 3)) (h2 : am_cl G "" k = some (j, w)) (h3 : w = 0 ∨ w = 3) (h5 : ms j = some N) (h9 : am_r N = some ty) (h6 : (decide ((S.take (am_k N)).length = am_k N) && decide (((S.drop (am_k N)).map fun v => v.category).sum ≤ 8) && (S.drop (am_k N)).all (a2_nR RG) && L.all (a2_nL RG) && fn_rc Y oc j w (S.take (am_k N)).reverse) = true) (h7 : (S.take (am_k N)).reverse = as) (h8 : S.drop (am_k N) = rest) :
    fn_b G Y RG jc ms oc tw E M K (n + 1) pc L S g r = fn_v (E j as g r) (fun v g r => fn_b G Y RG jc ms oc tw E M K n (pc + 3) L (.int v :: rest) g r) := by
  rw [fn_b.eq_2, h1]
  simp only [h2, if_pos h3]
  rw [fs_c h5 h6 h7 h8]
  simp only [h9]
theorem fs_cn {k j w : Nat} {N : am_M} {as rest : List Value} (h1 : (am_cd M).lookup pc = some (.invokevirtual k, 3)) (h2 : am_cl G "" k = some (j, w)) (h3 : w = 0 ∨ w = 3) (h5 : ms j = some N) (h9 : am_r N = none) (h6 : (decide ((S.take (am_k N)).length = am_k N) && decide (((S.drop (am_k N)).map fun v => v.category).sum ≤ 8) && (S.drop (am_k N)).all (a2_nR RG) && L.all (a2_nL RG) && fn_rc Y oc j w (S.take (am_k N)).reverse) = true) (h7 : (S.take (am_k N)).reverse = as) (h8 : S.drop (am_k N) = rest) :
    fn_b G Y RG jc ms oc tw E M K (n + 1) pc L S g r = fn_n (E j as g r) (fun g r => fn_b G Y RG jc ms oc tw E M K n (pc + 3) L rest g r) := by
  rw [fn_b.eq_2, h1]
  simp only [h2, if_pos h3]
  rw [fs_c h5 h6 h7 h8]
  simp only [h9]
theorem fs_sv {k j : Nat} {N : am_M} {ty : FieldType} {as rest : List Value} (h1 : (am_cd M).lookup pc = some (.invokestatic k, 3)) (h2 : am_cl G "" k = some (j, 2)) (h3 : ¬ j = jc) (h5 : ms j = some N) (h9 : am_r N = some ty) (h6 : (decide ((S.take (am_k N)).length = am_k N) && decide (((S.drop (am_k N)).map fun v => v.category).sum ≤ 8) && (S.drop (am_k N)).all (a2_nR RG) && L.all (a2_nL RG) && fn_rc Y oc j 2 (S.take (am_k N)).reverse) = true) (h7 : (S.take (am_k N)).reverse = as) (h8 : S.drop (am_k N) = rest) :
    fn_b G Y RG jc ms oc tw E M K (n + 1) pc L S g r = fn_v (E j as g r) (fun v g r => fn_b G Y RG jc ms oc tw E M K n (pc + 3) L (.int v :: rest) g r) := by
  rw [fn_b.eq_2, h1]
  simp only [h2, if_true, if_neg h3]
  rw [fs_c h5 h6 h7 h8]
  simp only [h9]
theorem fs_mx {k j : Nat} {x y : Int32} (h1 : (am_cd M).lookup pc = some (.invokestatic k, 3)) (h2 : am_cl G "" k = some (j, 7)) (h3 : (S.map fun v => v.category).sum ≤ 8) : fn_b G Y RG jc ms oc tw E M K (n + 1) pc L (.int y :: .int x :: S) g r = fn_b G Y RG jc ms oc tw E M K n (pc + 3) L (.int (if x < y then y else x) :: S) g r := by
  rw [fn_b.eq_2, h1]
  simp [h2, h3]
theorem fs_cp {k k2 j q ci a : Nat} {n' : Int32} (h1 : (am_cd M).lookup pc = some (.invokestatic k, 3)) (h2 : am_cl G "" k = some (jc, 2)) (h3 : (am_cd M).lookup (pc + 3) = some (.putfield k2, 3)) (h4 : am_fl G "" k2 = some (ci, j, .array .int, false)) (h5 : a2_ar Y a = some (q, 3))
    (h6 : (decide ((Y ci)[j]? = some (3, 0)) && decide ((Y (q / 100))[q % 100]? = some (3, 0)) && decide ((100 * ci + j) ∈ RG) && decide ((S.map fun v => v.category).sum ≤ 7) && S.all (a2_nR RG) && L.all (a2_nL RG) && decide (q = 100 * ci + j)) = true) :
    fn_b G Y RG jc ms oc tw E M K (n + 1) pc L (.int n' :: .ref a :: .ref ci :: S) g r = if ¬ n' < 0 ∧ n'.toNatClampNeg ≤ 60000000 ∧ n'.toNatClampNeg ≠ (r q).1 ∧ (r q).1 ≤ 60000000 ∧ 0 < (r q).1 ∧ 2 * (r q).1 ≤ n'.toNatClampNeg then fn_b G Y RG jc ms oc tw E M K n (pc + 6) L S g (a2_ua r (100 * ci + j) (a2_cp n'.toNatClampNeg (r q))) else none := by
  rw [fn_b.eq_2, h1]
  simp only [h2, if_true, fn_cp, h3, h4, h5, decide_true, Bool.true_and]
  rw [if_pos h6]
theorem fs_r {pc' : Nat} {L' : am_L} {S' : List Value} (k : Nat) (h : fs_rn G Y M g r k (pc, L, S) = some (pc', L', S')) : fn_b G Y RG jc ms oc tw E M K (n + k) pc L S g r = fn_b G Y RG jc ms oc tw E M K n pc' L' S' g r := fs_run k h
theorem fs_lp {k : Nat} : fn_l G Y RG jc ms oc tw E M n (k + 1) pc L g r = fn_b G Y RG jc ms oc tw E M (fn_l G Y RG jc ms oc tw E M n k) n pc L [] g r := rfl
end
theorem fs_ev {tb : Nat → am_F} {Y : a2_Y} {RG : List Nat} {jc : Nat} {ms : Nat → Option am_M} {oc : Nat → Option Nat} {ok : Nat → Bool} {tw : Nat → List (Nat × Nat)} {n m d j : Nat} {as : List Value} {g : a2_G} {r : a2_A} {M : am_M} (hM : ms j = some M) (hc : (ok j && decide (as.length = am_k M) && as.all (fun v => v.category == 1) && as.all (a2_nR RG)) = true) :
    fn_ev tb Y RG jc ms oc ok tw n (m + 1) (d + 1) j as g r = fn_b (tb j) Y RG jc ms oc (tw j) (fn_ev tb Y RG jc ms oc ok tw n (m + 1) d) M (fn_l (tb j) Y RG jc ms oc (tw j) (fn_ev tb Y RG jc ms oc ok tw n (m + 1) d) M n m) n 0 (am_ent M as) [] g r := by
  rw [fn_ev.eq_2]
  dsimp only
  rw [hM]
  dsimp only
  rw [if_pos hc]
  rfl
