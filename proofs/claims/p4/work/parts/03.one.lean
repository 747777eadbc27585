/-! One instruction without a call: what the abstract machine does, the machine does. -/
/-- the tables say of the pools what the words say -/
def am_okT (F : am_F) (cl : List vw_C) (Ts : List Jvm.Cond) : Prop :=
  (∀ (ci : Nat) (C : String) (T : u_T) (N : Nat), cl[ci]? = some (C, T, N) → (∀ w ∈ u_ws C T N, w ∈ Ts) ∧ (∃ ty : Nat → FieldType, ∀ k, k < N → parseFieldDescriptor (T k).2.2.1 = some (ty k)) ∧ (∀ a, a < N → ∀ b, b < N → a ≠ b → (T a).2.1 ≠ (T b).2.1)) ∧
  (∀ own k ci j ty fin, am_fl F own k = some (ci, j, ty, fin) → ∃ (C : String) (T : u_T) (N : Nat), cl[ci]? = some (C, T, N) ∧ j < N ∧ (T j).2.2.2 = fin ∧ (fin = true → (T j).1 = own) ∧ parseFieldDescriptor (T j).2.2.1 = some ty ∧ Cond.fieldLink own k (T j).1 (T j).2.1 (T j).2.2.1 ∈ Ts) ∧
  (∀ own k ci fs, am_nw F own k = some (ci, fs) → ∃ (C : String) (T : u_T) (N : Nat) (ty : Nat → FieldType), cl[ci]? = some (C, T, N) ∧ Cond.classLink own k C ∈ Ts ∧ Cond.instantiable C N ∈ Ts ∧ Cond.initialized C ∈ Ts ∧ fs.length = N ∧ (∀ v ∈ fs, am_isR v = false) ∧ (∀ k, k < N → parseFieldDescriptor (T k).2.2.1 = some (ty k)) ∧ ∀ j, j < N → defaultValue (ty j) = vp_V fs j) ∧
  (∀ own k v, am_ld F own k = some v → Cond.constant own k v ∈ Ts) ∧
  Cond.arrayClass .int ∈ Ts ∧ Cond.arrayClass .boolean ∈ Ts ∧ Cond.arrayClass .long ∈ Ts
section AmOne
variable {p : Program} {l : Launch} {e : Env} {R : Room} {s : State} {m : MethodId} {args : Array Value} {below : List Frame} {meth : Method} {c : Code} {Q : State → Prop}
/-- what stands fast while a method runs -/
def am_Cx (F : am_F) (cl : List vw_C) (Ts : List Jvm.Cond) (D : va_G) (c3 : am_A3) (A : Nat → Prop) (b : Nat) (p : Program) (s : State) (m : MethodId) (args : Array Value) (meth : Method) (c : Code) (cc : ByteArray) (nL : Nat) (own : String) (ini : Bool) : Prop :=
  p.tables.exec = Jvm.exec ∧ c.code = cc ∧ c.maxLocals = nL ∧ s.vm.findClass own = some m.cls ∧ (∀ w ∈ Ts, w.before args s = true) ∧ (ini = true → meth.name = "<init>") ∧ (∀ q : Nat, s.heap.size ≤ q → A q) ∧ va_K D cl (am_ty c3) s ∧ va_X b (am_sn F) (am_sx F) s s.heap ∧ b < s.heap.size ∧ ¬ A b ∧ am_okT F cl Ts
/-- the machine at a state of the abstract one -/
def am_Rl (cl : List vw_C) (D : va_G) (c3 : am_A3) (A : Nat → Prop) (b : Nat) (nL n0 : Nat) (ad0 ad : Nat → Nat) (L : am_L) (S : List Value) (h : am_H) (ls : Array Slot) (H0 H : Heap) (locs : List Loc) : Prop :=
  am_LR b ad nL L ls ∧ (∀ v ∈ S, am_okv h.length v) ∧ (∀ v, some v ∈ L → am_okv h.length v) ∧ am_okh h ∧ va_P D cl (am_ws c3 b ad h) H ∧ va_D A (am_ws c3 b ad h) ∧ va_S A H0 H locs ∧ n0 ≤ h.length ∧ ∀ k, k < n0 → ad k = ad0 k
theorem am_Rl.S {cl : List vw_C} {D : va_G} {c3 : am_A3} {A : Nat → Prop} {b nL n0 : Nat} {ad0 ad : Nat → Nat} {L : am_L} {S S' : List Value} {h : am_H} {ls : Array Slot} {H0 H : Heap} {locs : List Loc} (hR : am_Rl cl D c3 A b nL n0 ad0 ad L S h ls H0 H locs) (hS : ∀ v ∈ S', am_okv h.length v) : am_Rl cl D c3 A b nL n0 ad0 ad L S' h ls H0 H locs := ⟨hR.1, hS, hR.2.2⟩
theorem am_Rl.L {cl : List vw_C} {D : va_G} {c3 : am_A3} {A : Nat → Prop} {b nL n0 : Nat} {ad0 ad : Nat → Nat} {L : am_L} {S S' : List Value} {h : am_H} {ls ls' : Array Slot} {H0 H : Heap} {locs : List Loc} (hR : am_Rl cl D c3 A b nL n0 ad0 ad L S h ls H0 H locs) {k : Nat} {v : Value} (hv : am_okv h.length v) (hL : am_LR b ad nL (L.set k (some v)) ls') (hS : ∀ v ∈ S', am_okv h.length v) : am_Rl cl D c3 A b nL n0 ad0 ad (L.set k (some v)) S' h ls' H0 H locs := by
  refine ⟨hL, hS, fun w hw => ?_, hR.2.2.2⟩
  rcases List.mem_or_eq_of_mem_set hw with h1 | h1
  · exact hR.2.2.1 w h1
  · rw [Option.some.inj h1]; exact hv
theorem am_to_eq {pc : Nat} {off : Int} {t : Nat} (h : am_to pc off = some t) : (pc : Int) + off = (t : Int) := by
  unfold am_to at h
  split at h
  · cases h; omega
  · cases h
theorem am_cons {n : Nat} {v : Value} {S : List Value} (h : am_okv n v) (hS : ∀ v ∈ S, am_okv n v) : ∀ w ∈ v :: S, am_okv n w := List.forall_mem_cons.mpr ⟨h, hS⟩
theorem am_tl {n : Nat} {v : Value} {S : List Value} (hS : ∀ w ∈ v :: S, am_okv n w) : ∀ w ∈ S, am_okv n w := fun w h => hS w (List.mem_cons_of_mem _ h)
theorem am_hd {n : Nat} {v : Value} {S : List Value} (hS : ∀ w ∈ v :: S, am_okv n w) : am_okv n v := hS v List.mem_cons_self
theorem am_if {P : Prop} {t f : Nat} {K : Nat → Prop} {c : Bool} (k : K (if c = true then t else f)) (hc : c = true ↔ P) : (P → K t) ∧ (¬ P → K f) := by
  constructor
  · intro h
    rw [if_pos (hc.mpr h)] at k
    exact k
  · intro h
    rw [if_neg (fun q => h (hc.mp q))] at k
    exact k
theorem am_inr_in {i : Int32} {n : Nat} (h : am_inr i n = true) : vp_in i n := by
  unfold am_inr at h
  unfold vp_in
  exact of_decide_eq_true h
theorem am_up_lt {ad : Nat → Nat} {n q k : Nat} (hk : k < n) : va_up ad n q k = ad k := by simp [va_up, Nat.ne_of_lt hk]
theorem am_LR.ext {b : Nat} {ad ad' : Nat → Nat} {nL n : Nat} {L : am_L} {ls : Array Slot} (hL : am_LR b ad nL L ls) (hoL : ∀ v, some v ∈ L → am_okv n v) (h : ∀ k, k < n → ad' k = ad k) : am_LR b ad' nL L ls := by
  refine ⟨hL.1, hL.2.1, am_has_sub hL.2.2 fun z hz => ?_⟩
  obtain ⟨k, v, g1, g2⟩ := am_lv_mem.mp hz
  exact am_lv_mem.mpr ⟨k, v, g1, by rw [g2, (hoL v (List.mem_of_getElem? g1)).tr h]⟩
theorem am_map_ext {b n : Nat} {ad ad' : Nat → Nat} {S : List Value} (hoS : ∀ v ∈ S, am_okv n v) (h : ∀ k, k < n → ad' k = ad k) : S.map (am_tr b ad') = S.map (am_tr b ad) := List.map_congr_left fun v hv => (hoS v hv).tr h
theorem am_Rl.push {cl : List vw_C} {D : va_G} {c3 : am_A3} {A : Nat → Prop} {b nL n0 : Nat} {ad0 ad : Nat → Nat} {L : am_L} {S : List Value} {h : am_H} {ls : Array Slot} {H0 H H1 : Heap} {locs : List Loc} (hR : am_Rl cl D c3 A b nL n0 ad0 ad L S h ls H0 H locs) {e : am_E} (he : am_oke (h.length + 1) e) {q : Nat}
    (q1 : va_P D cl (am_ws c3 b ad h ++ [(q, am_te c3 b (va_up ad h.length q) e)]) H1) (q2 : va_D A (am_ws c3 b ad h ++ [(q, am_te c3 b (va_up ad h.length q) e)])) (q3 : va_S A H0 H1 locs) :
    am_Rl cl D c3 A b nL n0 ad0 (va_up ad h.length q) L (.ref h.length :: S) (h ++ [e]) ls H0 H1 locs ∧ (Value.ref h.length :: S).map (am_tr b (va_up ad h.length q)) = .ref q :: S.map (am_tr b ad) := by
  obtain ⟨hL, hoS, hoL, hoh, hP, hD, hS, hn0, had⟩ := hR
  have hup : ∀ k, k < h.length → va_up ad h.length q k = ad k := fun k hk => am_up_lt hk
  refine ⟨⟨hL.ext hoL hup, am_cons (by rw [List.length_append]; exact Nat.lt_succ_self _) (fun v hv => (hoS v hv).mono (by simp)), fun v hv => (hoL v hv).mono (by simp), hoh.push he, by rw [am_ws_push hoh]; exact q1, by rw [am_ws_push hoh]; exact q2, q3, by simp; omega, fun k hk => by rw [hup k (by omega)]; exact had k hk⟩, ?_⟩
  rw [List.map_cons, am_map_ext hoS hup]
  simp [am_tr, va_up]
theorem am_Rl.set {cl : List vw_C} {D : va_G} {c3 : am_A3} {A : Nat → Prop} {b nL n0 : Nat} {ad0 ad : Nat → Nat} {L : am_L} {S : List Value} {h : am_H} {ls : Array Slot} {H0 H H1 : Heap} {locs locs1 : List Loc} (hR : am_Rl cl D c3 A b nL n0 ad0 ad L S h ls H0 H locs) {S' : List Value} (hS' : ∀ v ∈ S', am_okv h.length v) {e : am_E} (he : am_oke h.length e) {a : Nat}
    (q1 : va_P D cl ((am_ws c3 b ad h).set a (ad a, am_te c3 b ad e)) H1) (q2 : va_D A ((am_ws c3 b ad h).set a (ad a, am_te c3 b ad e))) (q3 : va_S A H0 H1 locs1) :
    am_Rl cl D c3 A b nL n0 ad0 ad L S' (h.set a e) ls H0 H1 locs1 := by
  obtain ⟨hL, hoS, hoL, hoh, hP, hD, hS, hn0, had⟩ := hR
  rw [← am_ws_set] at q1 q2
  exact ⟨hL, by rw [List.length_set]; exact hS', by rw [List.length_set]; exact hoL, hoh.set he, q1, q2, q3, by rw [List.length_set]; exact hn0, had⟩
theorem am_int_cls {D : va_G} {cl : List vw_C} {s : State} {tys : List (ClassId × FieldType)} {cA cB : ClassId} {ty : FieldType} (hK : va_K D cl (tys ++ [(cA, ty)]) s) (hi : (cB, ty) ∈ tys) (hty : va_RA s cA ty → va_RA s cB ty → cA = cB) : cA = cB := by
  obtain ⟨i, h1⟩ := List.getElem?_of_mem hi
  have h2 : (tys ++ [(cA, ty)])[i]? = some (cB, ty) := by rw [List.getElem?_append_left (List.getElem?_eq_some_iff.mp h1).1]; exact h1
  have h3 : (tys ++ [(cA, ty)])[tys.length]? = some (cA, ty) := by simp
  exact hty (hK.2 _ _ h3).2 (hK.2 _ _ h2).2
theorem am_one {F : am_F} {cl : List vw_C} {Ts : List Jvm.Cond} {D : va_G} {c3 : am_A3} {A : Nat → Prop} {b : Nat} {cc : ByteArray} {nL : Nat} {own : String} {ini : Bool} {n0 c0 z0 : Nat} {ad0 : Nat → Nat}
    (hC : am_Cx F cl Ts D c3 A b p s m args meth c cc nL own ini) {i : Instr} {len pc pc' : Nat} {L L' : am_L} {S S' : List Value} {h h' : am_H}
    (hs : am_st F own ini i len pc L S h = some (pc', L', S', h')) (hd : decode cc pc = .ok (i, len)) {ad : Nat → Nat} {ls : Array Slot} {H : Heap} {locs : List Loc}
    (hR : am_Rl cl D c3 A b nL n0 ad0 ad L S h ls s.heap H locs) (hc : h'.length - c0 ≤ R.cells) (hz : am_sz h' - z0 ≤ R.slots) (hc0 : c0 ≤ h.length) (hz0 : z0 ≤ am_sz h)
    (kk : ∀ (ad' : Nat → Nat) (ls' : Array Slot) (H' : Heap) (locs' : List Loc), am_Rl cl D c3 A b nL n0 ad0 ad' L' S' h' ls' s.heap H' locs' → W p l e R s m args below meth c H' locs' (h'.length - c0) (am_sz h' - z0) Q (F0 m pc' ls' (S'.map (am_tr b ad')))) :
    W p l e R s m args below meth c H locs (h.length - c0) (am_sz h - z0) Q (F0 m pc ls (S.map (am_tr b ad))) := by
  obtain ⟨hx, hb, hml, hown, hts, hin, hA, hK, hX, hbl, hbA, hT⟩ := hC
  obtain ⟨hL, hoS, hoL, hoh, hP, hD, hS, hn0, had⟩ := id hR
  unfold am_st at hs
  split at hs
  -- iconst, bipush, sipush
  · cases hs
    exact lv_iconst hx hb hd rfl (kk ad ls H locs (hR.S (am_cons trivial hoS)))
  · cases hs
    exact lv_bipush hx hb hd rfl (kk ad ls H locs (hR.S (am_cons trivial hoS)))
  · cases hs
    exact lv_sipush hx hb hd rfl (kk ad ls H locs (hR.S (am_cons trivial hoS)))
  -- ldc
  · split at hs
    · rename_i v hv
      cases hs
      exact lv_ldc hx hb hown (hts _ (hT.2.2.2.1 _ _ _ hv)) hd (kk ad ls H locs (hR.S (am_cons trivial hoS)))
    · cases hs
  -- iload_n, iload
  · split at hs
    · rename_i hv
      cases hs
      exact lv_iload_n hx hb hd rfl (hL.get hv) (kk ad ls H locs (hR.S (am_cons trivial hoS)))
    · cases hs
  · split at hs
    · rename_i hv
      cases hs
      exact lv_iload hx hb hd (hL.get hv) (kk ad ls H locs (hR.S (am_cons trivial hoS)))
    · cases hs
  -- aload_n, aload
  · split at hs
    · rename_i v hv
      split at hs
      · rename_i hr
        cases hs
        obtain ⟨x, ex⟩ := am_tr_R (b := b) (ad := ad) hr
        have k1 := kk ad ls H locs (hR.S (am_cons (hoL _ (List.mem_of_getElem? hv)) hoS))
        rw [List.map_cons, ex] at k1
        exact lv_aload_n hx hb hd rfl (by rw [← ex]; exact hL.get hv) k1
      · cases hs
    · cases hs
  · split at hs
    · rename_i v hv
      split at hs
      · rename_i hr
        cases hs
        obtain ⟨x, ex⟩ := am_tr_R (b := b) (ad := ad) hr
        have k1 := kk ad ls H locs (hR.S (am_cons (hoL _ (List.mem_of_getElem? hv)) hoS))
        rw [List.map_cons, ex] at k1
        exact lv_aload hx hb hd (by rw [← ex]; exact hL.get hv) k1
      · cases hs
    · cases hs
  -- istore_n, istore
  · split at hs
    · rename_i hk
      cases hs
      exact lv_istore_n hx hb hd rfl hL.2.2 (by rw [← hL.1]; exact hk) rfl (fun ls' h1 => kk ad ls' H locs (hR.L (v := .int _) trivial (hL.set rfl h1) (am_tl hoS)))
    · cases hs
  · split at hs
    · rename_i hk
      cases hs
      exact lv_istore hx hb hd hL.2.2 (by rw [← hL.1]; exact hk) rfl (fun ls' h1 => kk ad ls' H locs (hR.L (v := .int _) trivial (hL.set rfl h1) (am_tl hoS)))
    · cases hs
  -- astore_n, astore
  · split at hs
    · rename_i hk
      cases hs
      obtain ⟨x, ex⟩ := am_tr_R (b := b) (ad := ad) hk.2
      rw [List.map_cons, ex]
      exact lv_astore_n hx hb hd rfl hL.2.2 (by rw [← hL.1]; exact hk.1) rfl (fun ls' h1 => kk ad ls' H locs (hR.L (am_hd hoS) (hL.set (am_R_cat hk.2) (by rw [ex]; exact h1)) (am_tl hoS)))
    · cases hs
  · split at hs
    · rename_i hk
      cases hs
      obtain ⟨x, ex⟩ := am_tr_R (b := b) (ad := ad) hk.2
      rw [List.map_cons, ex]
      exact lv_astore hx hb hd hL.2.2 (by rw [← hL.1]; exact hk.1) rfl (fun ls' h1 => kk ad ls' H locs (hR.L (am_hd hoS) (hL.set (am_R_cat hk.2) (by rw [ex]; exact h1)) (am_tl hoS)))
    · cases hs
  -- iinc
  · split at hs
    · rename_i hv
      cases hs
      obtain ⟨hlt, j, hj⟩ := hL.in hv
      exact lv_iinc hx hb hd hL.2.2 hj rfl hlt rfl (fun ls' h1 => kk ad ls' H locs (hR.L (v := .int _) trivial (hL.set rfl h1) hoS))
    · cases hs
  -- dup, dup2, pop
  · split at hs
    · rename_i hk
      cases hs
      exact lv_dup hx hb hd (by rw [am_tr_cat]; exact hk) (kk ad ls H locs (hR.S (am_cons (am_hd hoS) hoS)))
    · cases hs
  · split at hs
    · rename_i hk
      cases hs
      exact lv_dup2_11 hx hb hd (by rw [am_tr_cat]; exact hk.1) (by rw [am_tr_cat]; exact hk.2) (kk ad ls H locs (hR.S (am_cons (am_hd hoS) (am_cons (am_hd (am_tl hoS)) hoS))))
    · cases hs
  · split at hs
    · rename_i hk
      cases hs
      exact lv_pop hx hb hd (by rw [am_tr_cat]; exact hk) (kk ad ls H locs (hR.S (am_tl hoS)))
    · cases hs
  -- iadd, isub, imul, iand, i2l, lcmp
  · cases hs
    exact lv_iadd hx hb hd (kk ad ls H locs (hR.S (am_cons trivial (am_tl (am_tl hoS)))))
  · cases hs
    exact lv_isub hx hb hd (kk ad ls H locs (hR.S (am_cons trivial (am_tl (am_tl hoS)))))
  · cases hs
    exact lv_imul hx hb hd (kk ad ls H locs (hR.S (am_cons trivial (am_tl (am_tl hoS)))))
  · cases hs
    exact lv_iand hx hb hd (kk ad ls H locs (hR.S (am_cons trivial (am_tl (am_tl hoS)))))
  · cases hs
    exact lv_i2l hx hb hd rfl (kk ad ls H locs (hR.S (am_cons trivial (am_tl hoS))))
  · cases hs
    exact W.lcmp hx hb hd (kk ad ls H locs (hR.S (am_cons trivial (am_tl (am_tl hoS)))))
  -- goto
  · split at hs
    · rename_i t ht
      cases hs
      exact lv_goto hx hb hd (am_to_eq ht) (kk ad ls H locs (hR.S hoS))
    · cases hs
  -- ifCond
  · rename_i cnd off x S0
    split at hs
    · rename_i t ht
      cases hs
      have k1 := kk ad ls H locs (hR.S (am_tl hoS))
      have ht := am_to_eq ht
      cases cnd
      · obtain ⟨a1, a2⟩ := am_if (P := x = 0) (K := fun n => W p l e R s m args below meth c H locs (h.length - c0) (am_sz h - z0) Q (F0 m n ls (S'.map (am_tr b ad)))) k1 (by simp [am_c2])
        exact lv_if_eq hx hb hd ht a1 a2
      · obtain ⟨a1, a2⟩ := am_if (P := ¬ x = 0) (K := fun n => W p l e R s m args below meth c H locs (h.length - c0) (am_sz h - z0) Q (F0 m n ls (S'.map (am_tr b ad)))) k1 (by simp [am_c2])
        exact lv_if_ne hx hb hd ht a1 (fun q => a2 (fun z => z q))
      · obtain ⟨a1, a2⟩ := am_if (P := x < 0) (K := fun n => W p l e R s m args below meth c H locs (h.length - c0) (am_sz h - z0) Q (F0 m n ls (S'.map (am_tr b ad)))) k1 (by simp [am_c2])
        exact lv_if_lt hx hb hd ht a1 a2
      · obtain ⟨a1, a2⟩ := am_if (P := 0 ≤ x) (K := fun n => W p l e R s m args below meth c H locs (h.length - c0) (am_sz h - z0) Q (F0 m n ls (S'.map (am_tr b ad)))) k1 (by simp [am_c2])
        exact lv_if_ge hx hb hd ht a1 a2
      · obtain ⟨a1, a2⟩ := am_if (P := 0 < x) (K := fun n => W p l e R s m args below meth c H locs (h.length - c0) (am_sz h - z0) Q (F0 m n ls (S'.map (am_tr b ad)))) k1 (by simp [am_c2])
        exact lv_if_gt hx hb hd ht a1 a2
      · obtain ⟨a1, a2⟩ := am_if (P := x ≤ 0) (K := fun n => W p l e R s m args below meth c H locs (h.length - c0) (am_sz h - z0) Q (F0 m n ls (S'.map (am_tr b ad)))) k1 (by simp [am_c2])
        exact lv_if_le hx hb hd ht a1 a2
    · cases hs
  -- if_icmp
  · rename_i cnd off y x S0
    split at hs
    · rename_i t ht
      cases hs
      have k1 := kk ad ls H locs (hR.S (am_tl (am_tl hoS)))
      have ht := am_to_eq ht
      cases cnd
      · obtain ⟨a1, a2⟩ := am_if (P := x = y) (K := fun n => W p l e R s m args below meth c H locs (h.length - c0) (am_sz h - z0) Q (F0 m n ls (S'.map (am_tr b ad)))) k1 (by simp [am_c2])
        exact lv_icmp_eq hx hb hd ht a1 a2
      · obtain ⟨a1, a2⟩ := am_if (P := ¬ x = y) (K := fun n => W p l e R s m args below meth c H locs (h.length - c0) (am_sz h - z0) Q (F0 m n ls (S'.map (am_tr b ad)))) k1 (by simp [am_c2])
        exact lv_icmp_ne hx hb hd ht a1 (fun q => a2 (fun z => z q))
      · obtain ⟨a1, a2⟩ := am_if (P := x < y) (K := fun n => W p l e R s m args below meth c H locs (h.length - c0) (am_sz h - z0) Q (F0 m n ls (S'.map (am_tr b ad)))) k1 (by simp [am_c2])
        exact lv_icmp_lt hx hb hd ht a1 a2
      · obtain ⟨a1, a2⟩ := am_if (P := y ≤ x) (K := fun n => W p l e R s m args below meth c H locs (h.length - c0) (am_sz h - z0) Q (F0 m n ls (S'.map (am_tr b ad)))) k1 (by simp [am_c2])
        exact lv_icmp_ge hx hb hd ht a1 a2
      · obtain ⟨a1, a2⟩ := am_if (P := y < x) (K := fun n => W p l e R s m args below meth c H locs (h.length - c0) (am_sz h - z0) Q (F0 m n ls (S'.map (am_tr b ad)))) k1 (by simp [am_c2])
        exact lv_icmp_gt hx hb hd ht a1 a2
      · obtain ⟨a1, a2⟩ := am_if (P := x ≤ y) (K := fun n => W p l e R s m args below meth c H locs (h.length - c0) (am_sz h - z0) Q (F0 m n ls (S'.map (am_tr b ad)))) k1 (by simp [am_c2])
        exact lv_icmp_le hx hb hd ht a1 a2
    · cases hs
  -- tableswitch
  · split at hs
    · rename_i hcnd
      split at hs
      · rename_i t ht
        cases hs
        exact lv_tableOut hx hb hd hcnd (am_to_eq ht) (kk ad ls H locs (hR.S (am_tl hoS)))
      · cases hs
    · rename_i hcnd
      split at hs
      · rename_i off hoff
        split at hs
        · rename_i t ht
          cases hs
          exact lv_tableIn hx hb hd (fun q => hcnd (Or.inl q)) (fun q => hcnd (Or.inr q)) hoff (am_to_eq ht) (kk ad ls H locs (hR.S (am_tl hoS)))
        · cases hs
      · cases hs
  -- lookupswitch
  · split at hs
    · rename_i hcnd
      split at hs
      · rename_i t ht
        cases hs
        exact lv_lookup hx hb hd hcnd rfl (am_to_eq ht) (kk ad ls H locs (hR.S (am_tl hoS)))
      · cases hs
    · cases hs
  -- getfield
  · split at hs
    · rename_i ci j ty fin c2 fs hf hh
      split at hs
      · rename_i hcc
        subst hcc
        split at hs
        · rename_i v hv
          cases hs
          obtain ⟨C, T, N, hc1, hj, hfin, hdl, hty, hlk⟩ := hT.2.1 _ _ _ _ _ _ hf
          obtain ⟨hin1, -, -⟩ := hT.1 _ _ _ _ hc1
          exact va_get (D := D) (cl := cl) (v := am_tr b ad v) hx hb hts hin1 hown hK hP _ (am_ws_at hh) hc1 j hj (hts _ hlk) (fun _ h9 => h9) (by simp [hv]) hd (kk ad ls H locs (hR.S (am_cons (hoh _ (List.mem_of_getElem? hh) v (List.mem_of_getElem? hv)) (am_tl hoS))))
        · cases hs
      · cases hs
    · cases hs
  -- putfield
  · rename_i kf v a S0
    split at hs
    · rename_i ci j ty fin c2 fs hf hh
      split at hs
      · rename_i hcc
        obtain ⟨rfl, hjl, hfi, hnr, hft⟩ := hcc
        cases hs
        obtain ⟨C, T, N, hc1, hj, hfin, hdl, hty, hlk⟩ := hT.2.1 _ _ _ _ _ _ hf
        obtain ⟨hin1, ⟨ty0, hty0⟩, hnm⟩ := hT.1 _ _ _ _ hc1
        obtain ⟨n1, n2⟩ := am_tr_nar (b := b) (ad := ad) hnr hft
        have hz2 : am_sz (h.set a (.inl (c2, fs.set j v))) = am_sz h := am_sz_set (e' := .inl (c2, fs.set j v)) hh (by simp [am_es])
        have hok2 : am_okh (h.set a (.inl (c2, fs.set j v))) := hoh.set (e := .inl (c2, fs.set j v)) (fun w hw => by
          rcases List.mem_or_eq_of_mem_set hw with h1 | h1
          · exact hoh _ (List.mem_of_getElem? hh) w h1
          · rw [h1]; exact am_hd hoS)
        have hte : am_te c3 b ad (.inl (c2, fs.set j v)) = .inr (c2, (fs.map (am_tr b ad)).set j (am_tr b ad v)) := by simp [am_te, List.map_set]
        have k2 : ∀ (H1 : Heap) (locs1 : List Loc), va_P D cl ((am_ws c3 b ad h).set a (ad a, .inr (c2, (fs.map (am_tr b ad)).set j (am_tr b ad v)))) H1 → va_D A ((am_ws c3 b ad h).set a (ad a, .inr (c2, (fs.map (am_tr b ad)).set j (am_tr b ad v)))) → va_S A s.heap H1 locs1 → W p l e R s m args below meth c H1 locs1 (h.length - c0) (am_sz h - z0) Q (F0 m (pc + 3) ls (S'.map (am_tr b ad))) := by
          intro H1 locs1 q1 q2 q3
          rw [← hte, ← am_ws_set] at q1 q2
          have k3 := kk ad ls H1 locs1 ⟨hL, by rw [List.length_set]; exact am_tl (am_tl hoS), by rw [List.length_set]; exact hoL, hok2, q1, q2, q3, by rw [List.length_set]; exact hn0, had⟩
          rw [hz2, List.length_set] at k3
          exact k3
        cases fin with
        | true => exact va_putF (D := D) (cl := cl) (v := am_tr b ad v) hx hb hts hin1 ty0 hty0 hnm hown hK hP hD hS a (am_ws_at hh) hc1 j hj (hts _ hlk) (fun _ h9 => h9) hfin (hin (hfi rfl)) (hdl rfl) hty n1 n2 (by simpa using hjl) hd k2
        | false => exact va_put (D := D) (cl := cl) (v := am_tr b ad v) hx hb hts hin1 ty0 hty0 hnm hown hK hP hD hS a (am_ws_at hh) hc1 j hj (hts _ hlk) (fun _ h9 => h9) hfin hty n1 n2 (by simpa using hjl) hd k2
      · cases hs
    · cases hs
  -- new
  · split at hs
    · rename_i ci fs hf
      cases hs
      obtain ⟨C, T, N, ty, hc1, w1, w2, w3, hlen, hnr, hty, hdv⟩ := hT.2.2.1 _ _ _ _ hf
      obtain ⟨hin1, -, -⟩ := hT.1 _ _ _ _ hc1
      have hfs : ∀ ad' : Nat → Nat, fs.map (am_tr b ad') = fs := fun ad' => by
        have h2 := List.map_congr_left (f := am_tr b ad') (g := id) (l := fs) fun v hv => by
          have h3 := hnr v hv
          cases v <;> first | rfl | cases h3
        rw [h2, List.map_id]
      rw [List.length_append, List.length_singleton] at hc kk
      rw [am_sz_push] at hz kk
      have hes : am_es (.inl (ci, fs)) = N := hlen
      rw [hes] at hz kk
      refine va_new (D := D) (cl := cl) (fs := fs) hx hb hts hin1 ty hty hown (hts _ w1) (hts _ w2) (hts _ w3) hK hP hD hS hA hc1 hdv (by omega) (by omega) hd (fun q H1 q1 q2 q3 => ?_)
      have e1 : am_te c3 b (va_up ad h.length q) (.inl (ci, fs)) = .inr (ci, fs) := by
        show Sum.inr (ci, fs.map (am_tr b (va_up ad h.length q))) = _
        rw [hfs]
      obtain ⟨g1, g2⟩ := hR.push (e := .inl (ci, fs)) (q := q) (H1 := H1) (fun v hv => by have h3 := hnr v hv; cases v <;> first | trivial | cases h3) (by rw [e1]; exact q1) (by rw [e1]; exact q2) q3
      have k3 := kk (va_up ad h.length q) ls H1 locs g1
      rw [g2] at k3
      rw [show h.length - c0 + 1 = h.length + 1 - c0 by omega, show am_sz h - z0 + N = am_sz h + N - z0 by omega]
      exact k3
    · cases hs
  -- newarray
  · rename_i at0 n S0
    split at hs
    · cases hs
    · rename_i hn
      have hn1 : ¬ n < 0 := fun q => hn (Or.inl q)
      have hn2 : n.toNatClampNeg ≤ 60000000 := Nat.not_lt.mp fun q => hn (Or.inr q)
      split at hs
      · rename_i e9 he9
        cases hs
        rw [List.length_append, List.length_singleton] at hc kk
        rw [am_sz_push] at hz kk
        have hR' := hR.S (am_tl hoS)
        have fin : ∀ (ty : FieldType) (cB : ClassId) (a0 : vp_A), am_es e9 = n.toNatClampNeg → newarray.typeOf at0 = ty → Cond.arrayClass ty ∈ Ts → (cB, ty) ∈ am_ty c3 → (∀ ad', am_te c3 b ad' e9 = .inl (cB, a0)) → (∀ n, am_oke n e9) → (∀ cA : ClassId, vp_cell cA a0 = arrV cA n.toNatClampNeg (fun _ => defaultValue ty)) → componentBytes ty ≤ 8 → (∀ cA cB, va_RA s cA ty → va_RA s cB ty → cA = cB) →
            W p l e R s m args below meth c H locs (h.length - c0) (am_sz h - z0) Q (F0 m pc ls (.int n :: S0.map (am_tr b ad))) := by
          intro ty cB a0 x1 x2 x3 x4 x5 x6 x7 x8 x9
          rw [x1] at hz kk
          refine va_newa (D := D) (cl := cl) (N' := n.toNatClampNeg) hx hb (by rw [x2]; exact hts _ x3) x2 hK hP hD hS hA x7 hn1 rfl (Nat.le_trans (Nat.mul_le_mul hn2 x8) (by decide)) (by omega) (by omega) hd (fun q cA H1 qK q1 q2 q3 => ?_)
          have ec : cA = cB := am_int_cls qK x4 (x9 cA cB)
          subst ec
          obtain ⟨g1, g2⟩ := hR'.push (e := e9) (q := q) (H1 := H1) (x6 _) (by rw [x5]; exact q1) (by rw [x5]; exact q2) q3
          have k3 := kk (va_up ad h.length q) ls H1 locs g1
          rw [g2] at k3
          rw [show h.length - c0 + 1 = h.length + 1 - c0 by omega, show am_sz h - z0 + n.toNatClampNeg = am_sz h + n.toNatClampNeg - z0 by omega]
          exact k3
        cases at0 <;> simp only [am_at0] at he9 <;> cases he9
        · exact fin .boolean c3.2.1 (n.toNatClampNeg, .inl fun _ => 0) rfl rfl hT.2.2.2.2.2.1 (by simp) (fun _ => rfl) (fun _ => trivial) (fun _ => rfl) (by decide) (fun _ _ h1 h2 => Option.some.inj (h1.symm.trans h2))
        · exact fin .int c3.1 (n.toNatClampNeg, .inl fun _ => 0) rfl rfl hT.2.2.2.2.1 (by simp) (fun _ => rfl) (fun _ => trivial) (fun _ => rfl) (by decide) (fun _ _ h1 h2 => Option.some.inj (h1.symm.trans h2))
        · exact fin .long c3.2.2 (n.toNatClampNeg, .inr (.inl fun _ => 0)) rfl rfl hT.2.2.2.2.2.2 (by simp) (fun _ => rfl) (fun _ => trivial) (fun _ => rfl) (by decide) (fun _ _ h1 h2 => Option.some.inj (h1.symm.trans h2))
      · cases hs
  -- arraylength
  · split at hs
    · cases hs
      exact va_slen hx hb hX hbl hbA hS hd (kk ad ls H locs (hR.S (am_cons trivial (am_tl hoS))))
    · rename_i a
      split at hs
      · rename_i z n f hh
        cases hs
        cases z with
        | false => exact va_alen (D := D) (cl := cl) hx hb hK hP a 0 (am_ws_at hh) rfl rfl hd (kk ad ls H locs (hR.S (am_cons trivial (am_tl hoS))))
        | true => exact va_alen (D := D) (cl := cl) hx hb hK hP a 1 (am_ws_at hh) rfl rfl hd (kk ad ls H locs (hR.S (am_cons trivial (am_tl hoS))))
      · rename_i n f hh
        cases hs
        exact va_alen (D := D) (cl := cl) hx hb hK hP a 2 (am_ws_at hh) rfl rfl hd (kk ad ls H locs (hR.S (am_cons trivial (am_tl hoS))))
      · cases hs
    · cases hs
  -- iaload
  · split at hs
    · split at hs
      · rename_i hi
        cases hs
        exact va_sld hx hb hX hbl hbA hS (am_inr_in hi) hd (kk ad ls H locs (hR.S (am_cons trivial (am_tl (am_tl hoS)))))
      · cases hs
    · rename_i a
      split at hs
      · rename_i n f hh
        split at hs
        · rename_i hi
          cases hs
          exact va_iald (D := D) (cl := cl) hx hb hK hP a 0 (am_ws_at hh) rfl (am_inr_in hi) hd (kk ad ls H locs (hR.S (am_cons trivial (am_tl (am_tl hoS)))))
        · cases hs
      · cases hs
    · cases hs
  -- iastore
  · rename_i x i a S0
    split at hs
    · rename_i n f hh
      split at hs
      · rename_i hi
        cases hs
        refine va_iast (D := D) (cl := cl) hx hb hK hP hD hS a 0 (am_ws_at hh) rfl (am_inr_in hi) hd (fun H1 locs1 q1 q2 q3 => ?_)
        have k3 := kk ad ls H1 locs1 (hR.set (am_tl (am_tl (am_tl hoS))) (e := .inr (.inl (false, n, upd f i.toNatClampNeg x))) trivial q1 q2 q3)
        rw [am_sz_set (e' := .inr (.inl (false, n, upd f i.toNatClampNeg x))) hh rfl, List.length_set] at k3
        exact k3
      · cases hs
    · cases hs
  -- baload
  · rename_i i a S0
    split at hs
    · rename_i n f hh
      split at hs
      · rename_i hi
        cases hs
        exact va_zald (D := D) (cl := cl) hx hb hK hP a 1 (am_ws_at hh) rfl (am_inr_in hi) hd (kk ad ls H locs (hR.S (am_cons trivial (am_tl (am_tl hoS)))))
      · cases hs
    · cases hs
  -- bastore
  · rename_i x i a S0
    split at hs
    · rename_i n f hh
      split at hs
      · rename_i hi
        cases hs
        refine va_zast (D := D) (cl := cl) hx hb hK hP hD hS a 1 (am_ws_at hh) rfl (am_inr_in hi) hd (fun H1 locs1 q1 q2 q3 => ?_)
        have k3 := kk ad ls H1 locs1 (hR.set (am_tl (am_tl (am_tl hoS))) (e := .inr (.inl (true, n, upd f i.toNatClampNeg (vp_nar .boolean x)))) trivial q1 q2 q3)
        rw [am_sz_set (e' := .inr (.inl (true, n, upd f i.toNatClampNeg (vp_nar .boolean x)))) hh rfl, List.length_set] at k3
        exact k3
      · cases hs
    · cases hs
  -- laload
  · rename_i i a S0
    split at hs
    · rename_i n f hh
      split at hs
      · rename_i hi
        cases hs
        exact va_lald (D := D) (cl := cl) hx hb hK hP a 2 (am_ws_at hh) rfl (am_inr_in hi) hd (kk ad ls H locs (hR.S (am_cons trivial (am_tl (am_tl hoS)))))
      · cases hs
    · cases hs
  -- lastore
  · rename_i x i a S0
    split at hs
    · rename_i n f hh
      split at hs
      · rename_i hi
        cases hs
        refine va_last (D := D) (cl := cl) hx hb hK hP hD hS a 2 (am_ws_at hh) rfl (am_inr_in hi) hd (fun H1 locs1 q1 q2 q3 => ?_)
        have k3 := kk ad ls H1 locs1 (hR.set (am_tl (am_tl (am_tl hoS))) (e := .inr (.inr (n, vp_updL f i.toNatClampNeg x))) trivial q1 q2 q3)
        rw [am_sz_set (e' := .inr (.inr (n, vp_updL f i.toNatClampNeg x))) hh rfl, List.length_set] at k3
        exact k3
      · cases hs
    · cases hs
  · cases hs
end AmOne
