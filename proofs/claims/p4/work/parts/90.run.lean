/-! Straight runs of the abstract machine: many instructions by one computation, over tables that know one class alone. -/
/-- G says of the class c what F says -/
def am_agr (F G : am_F) (c : String) : Prop := (∀ k, am_fl F c k = am_fl G c k) ∧ (∀ k, am_nw F c k = am_nw G c k) ∧ (∀ k, am_ld F c k = am_ld G c k) ∧ am_sn F = am_sn G ∧ am_sx F = am_sx G
theorem am_st_agr {F G : am_F} {c : String} (H : am_agr F G c) (ini : Bool) (i : Instr) (len pc : Nat) (L : am_L) (S : List Value) (h : am_H) : am_st F c ini i len pc L S h = am_st G c ini i len pc L S h := by
  obtain ⟨h1, h2, h3, h4, h5⟩ := H
  unfold am_st
  simp only [h1, h2, h3, h4, h5]
def am_rn (G : am_F) (M : am_M) : Nat → Nat × am_L × List Value × am_H → Option (Nat × am_L × List Value × am_H)
  | 0, s => some s
  | n + 1, s => match (am_cd M).lookup s.1 with
    | some q => match am_st G (am_y M).cls (am_ini M) q.1 q.2 s.1 s.2.1 s.2.2.1 s.2.2.2 with
      | some r => am_rn G M n r
      | none => none
    | none => none
theorem am_rg {F G : am_F} {cl : List vw_C} {ms : Nat → Option am_M} {E : am_EvT} {M : am_M} {r : am_O × am_H} (H : am_agr F G (am_y M).cls) (n : Nat) : ∀ {a b : Nat × am_L × List Value × am_H}, am_rn G M n a = some b → am_Go F cl ms E M r (none, b) → am_Go F cl ms E M r (none, a) := by
  induction n with
  | zero => intro a b h k; cases h; exact k
  | succ n ih =>
    intro a b h k
    obtain ⟨pc, L, S, g⟩ := a
    unfold am_rn at h
    cases hq : (am_cd M).lookup pc with
    | none => simp only [hq] at h; cases h
    | some q =>
      simp only [hq] at h
      cases hs : am_st G (am_y M).cls (am_ini M) q.1 q.2 pc L S g with
      | none => simp only [hs] at h; cases h
      | some t =>
        simp only [hs] at h
        refine am_Go.step (Or.inl ⟨pc, L, S, g, q.1, q.2, t, rfl, hq, ?_, rfl⟩) (ih h k)
        rw [am_st_agr H]
        exact hs
def am_ci (c : ClassFile.Cond) (x y : Int) : Prop := match c with
  | .eq => x = y
  | .ne => x ≠ y
  | .lt => x < y
  | .ge => y ≤ x
  | .gt => y < x
  | .le => x ≤ y
theorem am_cT {c : ClassFile.Cond} {x y : Int32} {b : Int} (hb : y.toInt = b) (h : am_ci c x.toInt b) : am_c2 c x y = true := by
  subst hb
  cases c
  · exact decide_eq_true (Int32.toInt_inj.mp h)
  · exact decide_eq_true (fun e => h (congrArg _ e))
  · exact decide_eq_true (Int32.lt_iff_toInt_lt.mpr h)
  · exact decide_eq_true (Int32.le_iff_toInt_le.mpr h)
  · exact decide_eq_true (Int32.lt_iff_toInt_lt.mpr h)
  · exact decide_eq_true (Int32.le_iff_toInt_le.mpr h)
theorem am_cF {c : ClassFile.Cond} {x y : Int32} {b : Int} (hb : y.toInt = b) (h : ¬ am_ci c x.toInt b) : am_c2 c x y = false := by
  subst hb
  cases c
  · exact decide_eq_false (fun e => h (congrArg _ e))
  · exact decide_eq_false (fun e => h (fun e2 => e (Int32.toInt_inj.mp e2)))
  · exact decide_eq_false (fun e => h (Int32.lt_iff_toInt_lt.mp e))
  · exact decide_eq_false (fun e => h (Int32.le_iff_toInt_le.mp e))
  · exact decide_eq_false (fun e => h (Int32.lt_iff_toInt_lt.mp e))
  · exact decide_eq_false (fun e => h (Int32.le_iff_toInt_le.mp e))
theorem am_inj {x y : Int32} {n : Int} (h : x.toInt = n) (e : y.toInt = n) : x = y := Int32.toInt_inj.mp (h.trans e.symm)
section
variable {F : am_F} {cl : List vw_C} {ms : Nat → Option am_M} {E : am_EvT} {M : am_M} {r : am_O × am_H} {pc : Nat} {L : am_L} {S : List Value} {h : am_H}
theorem am_i1 {c : ClassFile.Cond} {off : Int} {t : Nat} {x : Int32} (h1 : (am_cd M).lookup pc = some (.ifCond c off, 3)) (h2 : am_to pc off = some t) (hb : am_c2 c x 0 = true) (k : am_Go F cl ms E M r (none, t, L, S, h)) : am_Go F cl ms E M r (none, pc, L, .int x :: S, h) :=
  am_Go.step (Or.inl ⟨pc, L, .int x :: S, h, _, _, (t, L, S, h), rfl, h1, by simp only [am_st, h2, hb, if_true], rfl⟩) k
theorem am_i0 {c : ClassFile.Cond} {off : Int} {t : Nat} {x : Int32} (h1 : (am_cd M).lookup pc = some (.ifCond c off, 3)) (h2 : am_to pc off = some t) (hb : am_c2 c x 0 = false) (k : am_Go F cl ms E M r (none, pc + 3, L, S, h)) : am_Go F cl ms E M r (none, pc, L, .int x :: S, h) :=
  am_Go.step (Or.inl ⟨pc, L, .int x :: S, h, _, _, (pc + 3, L, S, h), rfl, h1, by simp only [am_st, h2, hb]; rfl, rfl⟩) k
theorem am_j1 {c : ClassFile.Cond} {off : Int} {t : Nat} {x y : Int32} (h1 : (am_cd M).lookup pc = some (.if_icmp c off, 3)) (h2 : am_to pc off = some t) (hb : am_c2 c x y = true) (k : am_Go F cl ms E M r (none, t, L, S, h)) : am_Go F cl ms E M r (none, pc, L, .int y :: .int x :: S, h) :=
  am_Go.step (Or.inl ⟨pc, L, .int y :: .int x :: S, h, _, _, (t, L, S, h), rfl, h1, by simp only [am_st, h2, hb, if_true], rfl⟩) k
theorem am_j0 {c : ClassFile.Cond} {off : Int} {t : Nat} {x y : Int32} (h1 : (am_cd M).lookup pc = some (.if_icmp c off, 3)) (h2 : am_to pc off = some t) (hb : am_c2 c x y = false) (k : am_Go F cl ms E M r (none, pc + 3, L, S, h)) : am_Go F cl ms E M r (none, pc, L, .int y :: .int x :: S, h) :=
  am_Go.step (Or.inl ⟨pc, L, .int y :: .int x :: S, h, _, _, (pc + 3, L, S, h), rfl, h1, by simp only [am_st, h2, hb]; rfl, rfl⟩) k
theorem am_td {d lo hi : Int} {offs : Array Int} {len t : Nat} {x : Int32} (h1 : (am_cd M).lookup pc = some (.tableswitch d lo hi offs, len)) (h2 : am_to pc d = some t) (hx : x.toInt < lo ∨ hi < x.toInt) (k : am_Go F cl ms E M r (none, t, L, S, h)) : am_Go F cl ms E M r (none, pc, L, .int x :: S, h) :=
  am_Go.step (Or.inl ⟨pc, L, .int x :: S, h, _, _, (t, L, S, h), rfl, h1, by simp only [am_st, if_pos hx, h2], rfl⟩) k
theorem am_sl {i v : Int32} {z : Nat} (h1 : (am_cd M).lookup pc = some (.iaload, 1)) (hi : am_inr i (am_sn F) = true) (hv : am_sx F i.toNatClampNeg = v) (k : am_Go F cl ms E M r (none, pc + 1, L, .int v :: S, h)) : am_Go F cl ms E M r (none, pc, L, .int i :: .retAddr z :: S, h) :=
  am_Go.step (Or.inl ⟨pc, L, .int i :: .retAddr z :: S, h, _, _, (pc + 1, L, .int v :: S, h), rfl, h1, by simp only [am_st, hi, if_true, hv], rfl⟩) k
theorem am_an {x y v : Int32} (h1 : (am_cd M).lookup pc = some (.iand, 1)) (hv : x &&& y = v) (k : am_Go F cl ms E M r (none, pc + 1, L, .int v :: S, h)) : am_Go F cl ms E M r (none, pc, L, .int y :: .int x :: S, h) :=
  am_Go.step (Or.inl ⟨pc, L, .int y :: .int x :: S, h, _, _, (pc + 1, L, .int v :: S, h), rfl, h1, by simp only [am_st, hv], rfl⟩) k
theorem am_ob {i : Instr} {len j k0 : Nat} (h1 : (am_cd M).lookup pc = some (i, len)) (h2 : am_call F (am_y M).cls i len = some (j, 5)) (h3 : (S.map fun v => v.category).sum ≤ 8) (k : am_Go F cl ms E M r (none, pc + 3, L, S, h)) : am_Go F cl ms E M r (none, pc, L, .ref k0 :: S, h) :=
  am_Go.step (Or.inr (Or.inr (Or.inl ⟨pc, L, h, i, len, j, k0, S, rfl, h1, h2, h3, rfl⟩))) k
theorem am_cv {i : Instr} {len j w : Nat} {N : am_M} {as rest : List Value} {v : Value} {h' : am_H} (h1 : (am_cd M).lookup pc = some (i, len)) (h2 : am_call F (am_y M).cls i len = some (j, w)) (h4 : w < 5) (h5 : ms j = some N) (h6 : as.length = am_k N) (h7 : S = as.reverse ++ rest) (h8 : w = 0 ∨ w = 3 → am_rc cl N as h) (h9 : w = 1 ∨ w = 4 → ∃ (k : Nat) (t : List Value), as = .ref k :: t) (h10 : (rest.map fun v => v.category).sum ≤ 8) (h11 : E j as h (.inl (some v)) h') (k : am_Go F cl ms E M r (none, pc + 3, L, v :: rest, h')) : am_Go F cl ms E M r (none, pc, L, S, h) :=
  am_Go.step (Or.inr (Or.inl ⟨pc, L, S, h, i, len, j, w, N, as, rest, .inl (some v), h', rfl, h1, h2, h4, h5, h6, h7, h8, h9, h10, h11, rfl⟩)) k
theorem am_cn {i : Instr} {len j w : Nat} {N : am_M} {as rest : List Value} {h' : am_H} (h1 : (am_cd M).lookup pc = some (i, len)) (h2 : am_call F (am_y M).cls i len = some (j, w)) (h4 : w < 5) (h5 : ms j = some N) (h6 : as.length = am_k N) (h7 : S = as.reverse ++ rest) (h8 : w = 0 ∨ w = 3 → am_rc cl N as h) (h9 : w = 1 ∨ w = 4 → ∃ (k : Nat) (t : List Value), as = .ref k :: t) (h10 : (rest.map fun v => v.category).sum ≤ 8) (h11 : E j as h (.inl none) h') (k : am_Go F cl ms E M r (none, pc + 3, L, rest, h')) : am_Go F cl ms E M r (none, pc, L, S, h) :=
  am_Go.step (Or.inr (Or.inl ⟨pc, L, S, h, i, len, j, w, N, as, rest, .inl none, h', rfl, h1, h2, h4, h5, h6, h7, h8, h9, h10, h11, rfl⟩)) k
theorem am_ri {v : Int32} {ty : FieldType} (h1 : (am_cd M).lookup pc = some (.ireturn, 1)) (h2 : am_r M = some ty) (h3 : narrow ty (.int v) = .int v) : am_Go F cl ms E M (.inl (some (.int v)), h) (none, pc, L, [.int v], h) := am_Go.fin (Or.inl ⟨pc, L, v, h, ty, rfl, h1, h2, h3, rfl⟩)
theorem am_rv (h1 : (am_cd M).lookup pc = some (.return_, 1)) (h2 : am_r M = none) : am_Go F cl ms E M (.inl none, h) (none, pc, L, [], h) := am_Go.fin (Or.inr (Or.inl ⟨pc, L, h, rfl, h1, h2, rfl⟩))
end
theorem am_em {F : am_F} {cl : List vw_C} {ms : Nat → Option am_M} {d j : Nat} {as : List Value} {h h' : am_H} {o : am_O} (M : am_M) (h1 : ms j = some M) (h2 : as.length = am_k M) (h3 : am_k M ≤ am_n M) (h4 : as.all (fun v => v.category == 1) = true) (k : am_Go F cl ms (am_Ev F cl ms d) M (o, h') (none, 0, am_ent M as, [], h)) : am_Ev F cl ms (d + 1) j as h o h' :=
  ⟨M, h1, h2, h3, fun v hv => by simpa using List.all_eq_true.mp h4 v hv, k⟩
theorem am_kv {F : am_F} {c : String} {k j w : Nat} (h : am_cl F c k = some (j, w)) (hw : w = 0 ∨ w = 3) : am_call F c (.invokevirtual k) 3 = some (j, w) := by simp only [am_call, h, if_pos hw]
theorem am_ks {F : am_F} {c : String} {k j w : Nat} (h : am_cl F c k = some (j, w)) (hw : w = 1 ∨ w = 4 ∨ w = 5) : am_call F c (.invokespecial k) 3 = some (j, w) := by simp only [am_call, h, if_pos hw]
theorem am_kt {F : am_F} {c : String} {k j w : Nat} (h : am_cl F c k = some (j, w)) (hw : w = 2 ∨ w = 6 ∨ w = 7 ∨ w = 8) : am_call F c (.invokestatic k) 3 = some (j, w) := by simp only [am_call, h, if_pos hw]
theorem am_lf (d : Int) (x : Int) : ∀ l : List (Int × Int), (∀ e ∈ l, e.1 ≠ x) → Op.lookupswitch.offset l d x = d
  | [], _ => rfl
  | (a, o) :: t, h => by rw [Op.lookupswitch.offset_cons, if_neg (h _ List.mem_cons_self), am_lf d x t (fun e he => h e (List.mem_cons_of_mem _ he))]
theorem am_lw {F : am_F} {cl : List vw_C} {ms : Nat → Option am_M} {E : am_EvT} {M : am_M} {r : am_O × am_H} {pc : Nat} {L : am_L} {S : List Value} {h : am_H} {d : Int} {ps : Array (Int × Int)} {len t : Nat} {x : Int32} (h1 : (am_cd M).lookup pc = some (.lookupswitch d ps, len)) (h0 : (ps.toList.zip (ps.toList.drop 1)).all (fun (a, next) => a.1 < next.1) = true) (h2 : am_to pc d = some t) (hx : ∀ e ∈ ps.toList, e.1 ≠ x.toInt) (k : am_Go F cl ms E M r (none, t, L, S, h)) : am_Go F cl ms E M r (none, pc, L, .int x :: S, h) :=
  am_Go.step (Or.inl ⟨pc, L, .int x :: S, h, _, _, (t, L, S, h), rfl, h1, by simp only [am_st, h0, if_true, am_lf d x.toInt _ hx, h2], rfl⟩) k
