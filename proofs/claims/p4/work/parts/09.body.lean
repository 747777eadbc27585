section AmBody
variable {p : Program} {l : Launch} {e : Env} {s : State} {m : MethodId} {args : Array Value} {below : List Frame} {meth : Method} {c : Code}
/-- what is to be shown of a state of the abstract machine: the machine, standing there, comes to the end -/
def am_Pm (cl : List vw_C) (D : va_G) (c3 : am_A3) (A : Nat → Prop) (b nL : Nat) (ad0 : Nat → Nat) (h0 : am_H) (o : am_O) (hf : am_H) (R : Room) (p : Program) (l : Launch) (e : Env) (s : State) (m : MethodId) (args : Array Value) (below : List Frame) (meth : Method) (c : Code) (a : am_S) : Prop :=
  am_Gr a.2.2.2.2 hf ∧ ∀ (ad : Nat → Nat) (ls : Array Slot) (H : Heap) (locs : List Loc), am_Rl cl D c3 A b nL h0.length ad0 ad a.2.2.1 a.2.2.2.1 a.2.2.2.2 ls s.heap H locs → am_Gr h0 a.2.2.2.2 → (∀ x k, a.1 = some (x, k) → a.2.2.2.2[k]? = some (am_X x)) →
    match a.1 with
    | none => W p l e R s m args below meth c H locs (a.2.2.2.2.length - h0.length) (am_sz a.2.2.2.2 - am_sz h0) (am_MQ below (am_P cl D c3 A b ad0 h0 o hf) args s (hf.length - h0.length) (am_sz hf - am_sz h0) A) (F0 m a.2.1 ls (a.2.2.2.1.map (am_tr b ad)))
    | some (_, k) => am_WX p l e R s m args below meth c H locs (a.2.2.2.2.length - h0.length) (am_sz a.2.2.2.2 - am_sz h0) (am_MQ below (am_P cl D c3 A b ad0 h0 o hf) args s (hf.length - h0.length) (am_sz hf - am_sz h0) A) (F0 m a.2.1 ls (a.2.2.2.1.map (am_tr b ad))) (ad k)
/-- at the end of a method: an int -/
theorem am_fin1 {F : am_F} {cl : List vw_C} {ms : Nat → Option am_M} {hm : Nat → List (Nat × Nat × Nat × Nat)} {Tg Ns : List Jvm.Cond} {St : List (String × Nat × String × Nat)} {D : va_G} {c3 : am_A3} {A : Nat → Prop} {b : Nat} {ad0 : Nat → Nat} {h0 h : am_H} {d j : Nat} {M : am_M} {ad : Nat → Nat} {ls : Array Slot} {H : Heap} {locs : List Loc} {L : am_L} {pc : Nat} {R : Room}
    (hC : am_Cx F cl Tg D c3 A b p s m args meth c (am_b M) (am_n M) (am_y M).cls (am_ini M)) {v : Int32} {ty : FieldType} (hd : decode (am_b M) pc = .ok (.ireturn, 1)) (hr : meth.sig.returnType = some ty) (hn : narrow ty (.int v) = .int v) (hlocks : meth.locks = false) (hR : am_Rl cl D c3 A b (am_n M) h0.length ad0 ad L [.int v] h ls s.heap H locs) :
    W p l e R s m args below meth c H locs (h.length - h0.length) (am_sz h - am_sz h0) (am_MQ below (am_P cl D c3 A b ad0 h0 (.inl (some (.int v))) h) args s (h.length - h0.length) (am_sz h - am_sz h0) A) (F0 m pc ls [.int v]) := by
  obtain ⟨hx, hb, -⟩ := hC
  obtain ⟨hL, hoS, hoL, hoh, hP, hD, hS, hn0, had⟩ := hR
  exact am_end (o := .returned (some (.int v))) (W.zret hx hb hr hn (fun t ht _ => ⟨rfl, ht⟩) hS.2.2 hd hlocks) (fun t ht hW => ⟨ad, had, rfl, by rw [ht]; exact hP, hD, hS.F ht⟩) (Nat.le_refl _) (Nat.le_refl _)
theorem am_fin2 {F : am_F} {cl : List vw_C} {ms : Nat → Option am_M} {hm : Nat → List (Nat × Nat × Nat × Nat)} {Tg Ns : List Jvm.Cond} {St : List (String × Nat × String × Nat)} {D : va_G} {c3 : am_A3} {A : Nat → Prop} {b : Nat} {ad0 : Nat → Nat} {h0 h : am_H} {d j : Nat} {M : am_M} {ad : Nat → Nat} {ls : Array Slot} {H : Heap} {locs : List Loc} {L : am_L} {pc : Nat} {R : Room}
    (hC : am_Cx F cl Tg D c3 A b p s m args meth c (am_b M) (am_n M) (am_y M).cls (am_ini M)) (hd : decode (am_b M) pc = .ok (.return_, 1)) (hr : meth.sig.returnType = none) (hlocks : meth.locks = false) (hR : am_Rl cl D c3 A b (am_n M) h0.length ad0 ad L [] h ls s.heap H locs) :
    W p l e R s m args below meth c H locs (h.length - h0.length) (am_sz h - am_sz h0) (am_MQ below (am_P cl D c3 A b ad0 h0 (.inl none) h) args s (h.length - h0.length) (am_sz h - am_sz h0) A) (F0 m pc ls []) := by
  obtain ⟨hx, hb, -⟩ := hC
  obtain ⟨hL, hoS, hoL, hoh, hP, hD, hS, hn0, had⟩ := hR
  exact am_end (o := .returned none) (W.vret hx hb hr (fun t ht _ => ⟨rfl, ht⟩) hS.2.2 hd hlocks) (fun t ht hW => ⟨ad, had, rfl, by rw [ht]; exact hP, hD, hS.F ht⟩) (Nat.le_refl _) (Nat.le_refl _)
theorem am_fin3 {F : am_F} {cl : List vw_C} {ms : Nat → Option am_M} {hm : Nat → List (Nat × Nat × Nat × Nat)} {Tg Ns : List Jvm.Cond} {St : List (String × Nat × String × Nat)} {D : va_G} {c3 : am_A3} {A : Nat → Prop} {b : Nat} {ad0 : Nat → Nat} {h0 h : am_H} {d j : Nat} {M : am_M} {ad : Nat → Nat} {ls : Array Slot} {H : Heap} {locs : List Loc} {L : am_L} {pc : Nat} {R : Room}
    (hC : am_Cx F cl Tg D c3 A b p s m args meth c (am_b M) (am_n M) (am_y M).cls (am_ini M)) {k : Nat} {ty : FieldType} (hd : decode (am_b M) pc = .ok (.areturn, 1)) (hr : meth.sig.returnType = some ty) (hty : (∃ n, ty = .object n) ∨ ∃ t, ty = .array t) (hlocks : meth.locks = false) (hR : am_Rl cl D c3 A b (am_n M) h0.length ad0 ad L [.ref k] h ls s.heap H locs) :
    W p l e R s m args below meth c H locs (h.length - h0.length) (am_sz h - am_sz h0) (am_MQ below (am_P cl D c3 A b ad0 h0 (.inl (some (.ref k))) h) args s (h.length - h0.length) (am_sz h - am_sz h0) A) (F0 m pc ls [.ref (ad k)]) := by
  obtain ⟨hx, hb, -⟩ := hC
  obtain ⟨hL, hoS, hoL, hoh, hP, hD, hS, hn0, had⟩ := hR
  exact am_end (o := .returned (some (.ref (ad k)))) (W.aret hx hb hr hty (Or.inr ⟨_, rfl⟩) (fun t ht _ => ⟨rfl, ht⟩) hS.2.2 hd hlocks) (fun t ht hW => ⟨ad, had, rfl, by rw [ht]; exact hP, hD, hS.F ht⟩) (Nat.le_refl _) (Nat.le_refl _)
theorem am_fin4 {F : am_F} {cl : List vw_C} {ms : Nat → Option am_M} {hm : Nat → List (Nat × Nat × Nat × Nat)} {Tg Ns : List Jvm.Cond} {St : List (String × Nat × String × Nat)} {D : va_G} {c3 : am_A3} {A : Nat → Prop} {b : Nat} {ad0 : Nat → Nat} {h0 h : am_H} {d j : Nat} {M : am_M} {ad : Nat → Nat} {ls : Array Slot} {H : Heap} {locs : List Loc} {L : am_L} {pc : Nat} {R : Room}
    (hC : am_Cx F cl Tg D c3 A b p s m args meth c (am_b M) (am_n M) (am_y M).cls (am_ini M)) {x k : Nat} {S : List Value} (hhs : (am_hs M = [] ∧ hm j = []) ∨ ∃ (f t w x ck : Nat) (E : String) (T : u_T), am_hs M = [(f, t, w, x)] ∧ hm j = [(f, t, w, ck)] ∧ ck ≠ 0 ∧ Cond.classLink (am_y M).cls ck E ∈ Tg ∧ cl[x]? = some (E, T, 0) ∧ Cond.castable E E ∈ Ns)
    (htab : c.exceptionTable.toList.map (fun h => (h.startPc, h.endPc, h.handlerPc, h.catchType)) = hm j) (h2 : ∀ q ∈ am_hs M, ¬ (q.1 ≤ pc ∧ pc < q.2.1)) (hlocks : meth.locks = false) (hR : am_Rl cl D c3 A b (am_n M) h0.length ad0 ad L S h ls s.heap H locs) :
    am_WX p l e R s m args below meth c H locs (h.length - h0.length) (am_sz h - am_sz h0) (am_MQ below (am_P cl D c3 A b ad0 h0 (.inr (x, k)) h) args s (h.length - h0.length) (am_sz h - am_sz h0) A) (F0 m pc ls (S.map (am_tr b ad))) (ad k) := by
  obtain ⟨hL, hoS, hoL, hoh, hP, hD, hS, hn0, had⟩ := hR
  refine am_out (fun z hz => ?_) hlocks (fun t ht hW => ⟨ad, had, rfl, by rw [ht]; exact hP, hD, hS.F ht⟩) hS.2.2 (Nat.le_refl _) (Nat.le_refl _)
  have hz' : (z.startPc, z.endPc, z.handlerPc, z.catchType) ∈ hm j := by rw [← htab]; exact List.mem_map.mpr ⟨z, hz, rfl⟩
  rcases hhs with ⟨q1, q2⟩ | ⟨f, t, w, x', ck, E, T, q1, q2, -⟩
  · rw [q2] at hz'
    cases hz'
  · rw [q2] at hz'
    have e1 : (z.startPc, z.endPc, z.handlerPc, z.catchType) = (f, t, w, ck) := List.mem_singleton.mp hz'
    have h9 := h2 (f, t, w, x') (by rw [q1]; exact List.mem_cons_self)
    have e2 : z.startPc = f := congrArg (fun q => q.1) e1
    have e3 : z.endPc = t := congrArg (fun q => q.2.1) e1
    show (decide (z.startPc ≤ pc) && decide (pc < z.endPc)) = false
    rw [e2, e3]
    by_cases h10 : f ≤ pc
    · rw [decide_eq_false (fun h11 : pc < t => h9 ⟨h10, h11⟩), Bool.and_false]
    · rw [decide_eq_false h10, Bool.false_and]
theorem am_fin5 {F : am_F} {cl : List vw_C} {ms : Nat → Option am_M} {hm : Nat → List (Nat × Nat × Nat × Nat)} {Tg Ns : List Jvm.Cond} {St : List (String × Nat × String × Nat)} {D : va_G} {c3 : am_A3} {A : Nat → Prop} {b : Nat} {ad0 : Nat → Nat} {h0 h : am_H} {d j : Nat} {M : am_M} {ad : Nat → Nat} {ls : Array Slot} {H : Heap} {locs : List Loc} {L : am_L} {pc : Nat} {R : Room}
    (hC : am_Cx F cl Tg D c3 A b p s m args meth c (am_b M) (am_n M) (am_y M).cls (am_ini M)) {x : Nat} {S : List Value} (hKx : am_Kx F cl D c3 A b Ns St s) (hl : l.stackTraces = false) {ik is ic : Nat} {E : String} {T : u_T} {text : String} {sa : Nat} {names : List String} (hcx : cl[x]? = some (E, T, 0)) (g2 : Bundle.fit E = true) (g3 : ∀ n ∈ names, Bundle.fit n = true) (g4 : names.length ≤ 4) (g5 : Cond.classLink (am_y M).cls ik E ∈ Tg) (g6 : Cond.initialized E ∈ Tg) (g7 : ((am_y M).cls, is, text, sa) ∈ St) (g8 : ∀ w ∈ (Bundle.ownAtoms (am_y M).cls ic E names).filter am_nh, (w ∈ Tg ∨ w ∈ Ns) ∧ w.onTables = true)
    (d0 : decode (am_b M) pc = .ok (.new ik, 3)) (d3 : decode (am_b M) (pc + 3) = .ok (.dup, 1)) (d4 : decode (am_b M) (pc + 4) = .ok (.ldc is, 2)) (d6 : decode (am_b M) (pc + 6) = .ok (.invokespecial ic, 3)) (d9 : decode (am_b M) (pc + 9) = .ok (.athrow, 1)) (hempty : c.exceptionTable.toList = []) (h4 : (S.map fun v => v.category).sum ≤ 8) (hlocks : meth.locks = false)
    (hRf : 8 ≤ R.frames) (hRl : 200 ≤ R.locals) (hRc : h.length + 1 - h0.length ≤ R.cells) (hRs : am_sz h + 6 - am_sz h0 ≤ R.slots) (hg0 : am_Gr h0 h) (hR : am_Rl cl D c3 A b (am_n M) h0.length ad0 ad L S h ls s.heap H locs) :
    W p l e R s m args below meth c H locs (h.length - h0.length) (am_sz h - am_sz h0) (am_MQ below (am_P cl D c3 A b ad0 h0 (.inr (x, h.length)) (h ++ [am_X x])) args s (h.length + 1 - h0.length) (am_sz h + 6 - am_sz h0) A) (F0 m pc ls (S.map (am_tr b ad))) := by
  obtain ⟨hx, hb, hml, hown, hts, hin, hA, hK, hX, hbl, hbA, hT⟩ := hC
  obtain ⟨hL, hoS, hoL, hoh, hP, hD, hS, hn0, had⟩ := hR
  obtain ⟨hg1, hg2⟩ := hg0
  have hsum : ((S.map (am_tr b ad)).map fun v => v.category).sum ≤ 8 := by rw [am_cat_sum]; exact h4
  have hcls : s.vm.findClass E = some (D.1 x) := (hK.1 x _ hcx).2.1
  have hat : ∀ w ∈ (Bundle.ownAtoms (am_y M).cls ic E names).filter am_nh, w.before args s = true ∧ w.onTables = true := by
    intro w hw
    obtain ⟨k1, k2⟩ := g8 w hw
    refine ⟨?_, k2⟩
    rcases k1 with k1 | k1
    · exact hts _ k1
    · exact va_Nw.use k2 (hKx.2.2.2.2.1 w k1)
  have hq9 : ∀ (t : State) (ce : Cell), s.WarmedH t.vm → H.size ≤ t.heap.size → (∀ q : Nat, q < H.size → t.heap[q]? = H[q]?) → t.heap[H.size]? = some ce → ce.vm = .none → s.vm.findClass E = some ce.cls → am_P cl D c3 A b ad0 h0 (.inr (x, h.length)) (h ++ [am_X x]) (.threw H.size) s t := by
    intro t ce hW hz hq hce hcv hcl
    have e1 : am_te c3 b (va_up ad h.length H.size) (am_X x) = .inr (x, [.null, .null, .null, .null, .null, .null]) := rfl
    refine ⟨va_up ad h.length H.size, fun k hk => ?_, ?_, ?_, ?_, Nat.le_trans hS.1 hz, fun q h1 h2 => ?_⟩
    · rw [am_up_lt (Nat.lt_of_lt_of_le hk hn0)]
      exact had k hk
    · show Outcome.threw H.size = .threw (va_up ad h.length H.size h.length)
      simp [va_up]
    · rw [am_ws_push hoh, e1]
      refine va_P.app (fun k q hk => (hP k q hk).kept (hq q.1 (hP k q hk).lt)) (fun k q hk => ?_)
      cases k with
      | zero =>
        cases hk
        exact ⟨_, hcx, ce, hce, Option.some.inj (hcl.symm.trans hcls), hcv, fun k hk => absurd hk (Nat.not_lt_zero _)⟩
      | succ k => simp at hk
    · rw [am_ws_push hoh, e1]
      exact va_D.push hD hP rfl (hA _ hS.1)
    · rw [hq q (Nat.lt_of_lt_of_le h1 hS.1)]
      exact hS.2.1 q h1 h2
  have hstr : vk_R (am_y M).cls is text sa s := hKx.2.2.2.2.2.1 ((am_y M).cls, is, text, sa) g7
  have hZ : am_Zs A s H := hKx.2.2.2.2.2.2.kept hS.1 hS.2.1
  have hout : ∀ x ∈ c.exceptionTable.toList, covers x (pc + 9) = false := fun z hz => by rw [hempty] at hz; cases hz
  exact am_throw (own := (am_y M).cls) (cls := E) (ik := ik) (is := is) (ic := ic) (A := A) (sa := sa) (text := text) (names := names) hx hb hl hown g2 g3 (hts _ g5) (hts _ g6) hstr hat hZ (hL.2.2.1.trans hml.symm) d0 d3 d4 d6 d9
    hout (by omega) (by omega) (by omega) (by omega) hlocks hq9 hS.2.2 (by omega) (by omega)
end AmBody
