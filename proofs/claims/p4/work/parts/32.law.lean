/-! The law's entry, out of a run of the abstract machine. -/
def R_law : String := "CobolParserLaw"
def lw_P (b : Addr) (xs : List Int32) (args : Array Value) (s : State) : Prop := args = #[.ref b] ∧ s.IntsAt b xs ∧ xs.length ≤ 1536 ∧ (Jvm.Cond.and given_1 narrow_1).before args s = true
def lw_Q (_ : Array Value) (s : State) (o : Outcome) (t : State) : Prop := o = .returned (some (.int 1)) ∧ Framed s o t [] 601024 7293034
def lw_Z (below : List Frame) (a : Array Value) (s : State) : State → Prop := fun t => ∃ o, t.status = .running ∧ Ended t below o ∧ lw_Q a s o t
/-- what holds at the law's entry -/
def lw_At (p : Program) (s : State) (m : MethodId) (meth : Method) (c : Code) (b L : Nat) (xs : Nat → Int32) : Prop :=
  p.tables.exec = Jvm.exec ∧ c.code = code ∧ meth.sig.returnType = ret ∧ c.maxLocals = 7 ∧ s.vm.findClass R_law = some m.cls ∧ (∀ w ∈ lw_tbl, w.before #[Value.ref b] s = true) ∧ va_X b L xs s s.heap ∧ b < s.heap.size ∧ meth.locks = false ∧ (Jvm.Cond.and given_1 narrow_1).before #[Value.ref b] s = true ∧ c.exceptionTable.toList = []
theorem nm_arr {s : State} {args : Array Value} {ty : FieldType} (h : (Cond.arrayClass ty).before args s = true) : ∃ cA, ArrOfT s cA ty ∧ s.vm.findClass ("[" ++ ty.toString) = some cA := by
  obtain ⟨c, k, comp, h1, h2, h3⟩ := Cond.arrayClass_spec h
  exact ⟨c, fun n z => ⟨fun k h => (by cases h), k, h2, comp, h3⟩, h1⟩
theorem nm_lst {C n d : String} {args a : Array Value} {s V : State} (h : (Cond.laysStatic C n d).before args s = true) (hvm : s.vm.Alike V.vm) (hk : ∀ q : Nat, q < s.heap.size → V.heap[q]? = s.heap[q]?) : (Cond.laysStatic C n d).before a V = true := by
  obtain ⟨c, k, i, f, q, cell, h1, h2, h3, h4, h5, h6, h7, h8, h9⟩ := Cond.laysStatic_spec h
  obtain ⟨k', hi', he⟩ := State.fieldFound?_setVm hvm h2
  show (Cond.laysStatic C n d).holds a V none V [] = true
  exact Cond.laysStatic_of (by rw [hvm.findClass]; exact h1) hi' h3 (by rw [he]; exact h4) (by rw [hk q (Array.getElem?_eq_some_iff.mp h5).1]; exact h5) h6 h7 h8 (by rw [he]; exact h9)
theorem nm_irf {C n d : String} {v : Value} {A : Nat → Prop} {V : State} {a : Array Value} (h : va_Z C n d v A V V.heap) (hv : v.isRef = true) : (Cond.isRef (.static C n d)).before a V = true := by
  obtain ⟨cf, kf, fi, f, q, cell, h1, h2, h3, h4, h5, h6, h7, -⟩ := h
  have he : (Term.static C n d).eval a V none [] V = some v := by
    simp [Term.eval, State.fieldNamed?, h1, h2, h4, h5, h6, h7]
  simp only [Cond.before, Cond.holds, Cond.value, he]
  cases v <;> simp_all [Value.isRef]
theorem nm_irq {C n d : String} {args a : Array Value} {s V : State} (hl : (Cond.laysStatic C n d).before args s = true) (hini : (Cond.initialized C).before args s = true) (h : (Cond.isRef (.static C n d)).before args s = true) (hvm : s.vm.Alike V.vm) (hk : ∀ q : Nat, q < s.heap.size → V.heap[q]? = s.heap[q]?) : (Cond.isRef (.static C n d)).before a V = true := by
  have h1 := va_Zqof (A := fun q : Nat => s.heap.size ≤ q) hl hini h (fun q hq => Nat.not_le.mpr hq)
  have h2 := va_Zq.kept (va_Zq.moved hvm h1) (H1 := V.heap) (fun q hq _ => hk q hq)
  rcases h2 with h2 | ⟨t, h2⟩
  · exact nm_irf h2 rfl
  · exact nm_irf h2 rfl
theorem nm_same {s u : State} {L : List Loc} {k n : Nat} (h : s.sameButNew u L k n) (hL : ∀ q ∈ L, s.heap.size ≤ q.base) : s.sameButNew u [] k n := by
  obtain ⟨h1, h2, h3, h4, h5, h6⟩ := h
  refine ⟨h1, h2, h3, h4, h5, fun a c hc => ?_⟩
  obtain ⟨c', g1, g2, g3, g4⟩ := h6 a c hc
  refine ⟨c', g1, g2, g3, fun i _ => g4 i fun hm => ?_⟩
  have h7 : s.heap.size ≤ a := hL _ hm
  have h8 := (Array.getElem?_eq_some_iff.mp hc).1
  omega
theorem nm_start {p : Program} {e : Env} {s : State} {m : MethodId} {below : List Frame} {meth : Method} {c : Code} {l : Launch} (hl : l.stackTraces = false) {b L : Nat} {xs : Nat → Int32} (C0 : lw_At p s m meth c b L xs) {d : Nat} (hd : d ≤ 1300) {hf : am_H}
    (hgo : am_Go (nm_F L xs) nm_cls nm_ms (am_Ev (nm_F L xs) nm_cls nm_ms d) nm_law (.inl (some (.int 1)), hf) (none, 0, am_ent nm_law [.retAddr 0], [], [])) (hfc : hf.length ≤ 601024) (hfz : am_sz hf ≤ 7293034) :
    W p l e room_1 s m #[Value.ref b] below meth c s.heap [] 0 0 (lw_Z below #[Value.ref b] s) (entryFrame m ([Value.ref b] : List Value).toArray 7) := by
  obtain ⟨hx, hb, hr, hml, hown, hts, hX, hbl, hlocks, hgv, htb⟩ := C0
  have hbA : ¬ (fun q : Nat => s.heap.size ≤ q) b := Nat.not_le.mpr hbl
  have htT : ∀ w ∈ nm_Tg, w.before #[Value.ref b] s = true := fun w hw => hts w (List.mem_filter.mp hw).1
  have hch : ∀ k : Nat, ∃ z : ClassId × (Nat → Nat), ∀ q, nm_cls[k]? = some q → u_Kn s q.1 q.2.1 q.2.2 z.1 z.2 := by
    intro k
    cases hk : nm_cls[k]? with
    | none => exact ⟨(0, fun _ => 0), fun q h => by cases h⟩
    | some q =>
      have hm := List.mem_of_getElem? hk
      obtain ⟨n, hn⟩ := nm_it q hm
      obtain ⟨cC, iS, hKn⟩ := u_known (C := q.1) (T := q.2.1) (N := q.2.2) (n := n) htT (nm_cl_ok q hm).1 (htT _ hn)
      exact ⟨(cC, iS), fun q' h => by cases h; exact hKn⟩
  obtain ⟨dz, hdz⟩ := Classical.axiomOfChoice hch
  obtain ⟨c1, a1, n1⟩ := nm_arr (htT _ nm_ar0)
  obtain ⟨c2, a2, n2⟩ := nm_arr (htT _ nm_ar1)
  obtain ⟨c3, a3, n3⟩ := nm_arr (htT _ nm_ar2)
  have hK : va_K ((fun k => (dz k).1), fun k => (dz k).2) nm_cls (am_ty (c1, c2, c3)) s := by
    refine ⟨fun k q h => hdz k q h, fun k q h => ?_⟩
    match k, h with
    | 0, h => cases h; exact ⟨a1, n1⟩
    | 1, h => cases h; exact ⟨a2, n2⟩
    | 2, h => cases h; exact ⟨a3, n3⟩
    | k + 3, h => simp at h
  obtain ⟨sa, hsa⟩ := nm_strs hts hK
  have hflat := flat_of_before _ hgv
  have hZ : am_Zs (fun q : Nat => s.heap.size ≤ q) s s.heap := by
    intro V a hvm hk
    have hk' : ∀ q : Nat, q < s.heap.size → V.heap[q]? = s.heap[q]? := fun q hq => hk q hq (Nat.not_le.mpr hq)
    exact ⟨nm_irq (hts _ nm_ls0) (hts _ nm_it0) (hflat _ (by decide +kernel)) hvm hk', nm_irq (hts _ nm_ls1) (hts _ nm_it0) (hflat _ (by decide +kernel)) hvm hk', nm_lst (hts _ nm_ls0) hvm hk', nm_lst (hts _ nm_ls1) hvm hk'⟩
  have hKx : am_Kx (nm_F L xs) nm_cls ((fun k => (dz k).1), fun k => (dz k).2) (c1, c2, c3) (fun q : Nat => s.heap.size ≤ q) b nm_Ns (nm_St sa) s :=
    ⟨hK, hX, hbl, fun _ h => h, fun w hw => va_Nw.of (am_nk_tab (nm_Nk w hw)) (hts w (nm_NsL w hw)), hsa, hZ⟩
  have hC : am_Cx (nm_F L xs) nm_cls nm_Tg ((fun k => (dz k).1), fun k => (dz k).2) (c1, c2, c3) (fun q : Nat => s.heap.size ≤ q) b p s m #[Value.ref b] meth c (am_b nm_law) (am_n nm_law) (am_y nm_law).cls (am_ini nm_law) :=
    ⟨hx, hb, hml, hown, htT, fun h => absurd h (by decide +kernel), fun _ h => h, hK, hX, hbl, hbA, nm_okT L xs⟩
  have htab : c.exceptionTable.toList.map (fun h => (h.startPc, h.endPc, h.handlerPc, h.catchType)) = nm_hm 100000 := by rw [htb]; rfl
  have hth : ∀ pc ik is ic x, (am_cd nm_law).lookup pc = some (.new ik, 3) → (am_cd nm_law).lookup (pc + 4) = some (.ldc is, 2) → (am_cd nm_law).lookup (pc + 6) = some (.invokespecial ic, 3) → am_th (nm_F L xs) (am_y nm_law).cls ik = some x → ∃ (E : String) (T : u_T) (text : String) (sa' : Nat) (names : List String), nm_cls[x]? = some (E, T, 0) ∧ Bundle.fit E = true ∧ (∀ n ∈ names, Bundle.fit n = true) ∧ names.length ≤ 4 ∧ Cond.classLink (am_y nm_law).cls ik E ∈ nm_Tg ∧ Cond.initialized E ∈ nm_Tg ∧ ((am_y nm_law).cls, is, text, sa') ∈ nm_St sa ∧ (∀ w ∈ (Bundle.ownAtoms (am_y nm_law).cls ic E names).filter am_nh, (w ∈ nm_Tg ∨ w ∈ nm_Ns) ∧ w.onTables = true) := by
    intro pc ik is ic x _ _ _ hx9
    have hx8 : (nm_th.lookup (R_law, ik)).map (fun r => r.1) = some x := hx9
    cases hr9 : nm_th.lookup (R_law, ik) with
    | none => rw [hr9] at hx8; cases hx8
    | some r =>
      have h7 := nm_lk hr9
      simp [nm_th, R_law] at h7
  have hst := hgo (am_Pm nm_cls ((fun k => (dz k).1), fun k => (dz k).2) (c1, c2, c3) (fun q : Nat => s.heap.size ≤ q) b (am_n nm_law) (fun _ => 0) [] (.inl (some (.int 1))) hf room_1 p l e s m #[Value.ref b] below meth c)
    (fun a hfin => am_body_fin (d := d) (R := room_1) (h0 := []) (hf := hf) (hm := nm_hm) (j := 100000) (Ns := nm_Ns) (St := nm_St sa) (by show d + 11 ≤ 2048; omega) (by show 60 * (d + 1) + 200 ≤ 84000; omega) (Nat.le_trans (Nat.sub_le _ _) hfc) (Nat.le_trans (Nat.sub_le _ _) hfz) hl nm_dlaw (Or.inl ⟨rfl, rfl⟩) hth hC hKx hr hlocks htab hfin)
    (fun a a' hs hb' => am_body_step (d := d) (R := room_1) (h0 := []) (hf := hf) (hm := nm_hm) (j := 100000) (by show d + 11 ≤ 2048; omega) (by show 60 * (d + 1) + 200 ≤ 84000; omega) (Nat.le_trans (Nat.sub_le _ _) hfc) (Nat.le_trans (Nat.sub_le _ _) hfz) nm_G nm_Nk nm_okMs (nm_okCl L xs) nm_dlaw (Or.inl ⟨rfl, rfl⟩) hC hKx htab
      (am_sound hl hbA nm_G nm_Nk (nm_okT L xs) nm_okMs (nm_okCl L xs) (nm_okTh L xs sa) d) hs hb')
  obtain ⟨-, kk⟩ := hst
  dsimp only at kk
  rw [lg_entry_eq]
  have hR : am_Rl nm_cls ((fun k => (dz k).1), fun k => (dz k).2) (c1, c2, c3) (fun q : Nat => s.heap.size ≤ q) b (am_n nm_law) ([] : am_H).length (fun _ => 0) (fun _ => 0) (am_ent nm_law [.retAddr 0]) [] [] ((lg_sl ([Value.ref b]) ++ List.replicate (7 - (lg_sl ([Value.ref b])).length) Slot.unset).toArray) s.heap s.heap [] :=
    ⟨am_entry (M := nm_law) (as := [.retAddr 0]) (b := b) (ad := fun _ => 0) (fun v hv => by rw [List.mem_singleton.mp hv]; rfl) (by decide), (fun v hv => by cases hv), am_ent_ok (fun v hv => by rw [List.mem_singleton.mp hv]; trivial), (fun e he => by cases he), (fun k q h => by simp [am_ws] at h), ⟨fun i j p q h => by simp [am_ws] at h, fun k q h => by simp [am_ws] at h⟩, va_S.rf, Nat.le_refl _, fun _ _ => rfl⟩
  have k3 := kk (fun _ => 0) _ s.heap [] hR (am_Gr.rf []) (fun x k hx => by cases hx)
  intro T hT X
  obtain ⟨t, z1, o, z2, z3, ⟨ad', -, z4, -⟩, z5, L9, z6, z7⟩ := k3 T hT X
  exact ⟨t, z1, o, z2, z3, z4, ⟨_, z4⟩, z5, (nm_same z6 z7).mono hfc hfz⟩
