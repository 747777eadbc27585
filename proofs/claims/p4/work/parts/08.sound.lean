/-! THE ABSTRACT MACHINE IS SOUND: a call that it says ends so, ends so in the machine. -/
def am_Kx (F : am_F) (cl : List vw_C) (D : va_G) (c3 : am_A3) (A : Nat → Prop) (b : Nat) (Ns : List Jvm.Cond) (St : List (String × Nat × String × Nat)) (U : State) : Prop :=
  va_K D cl (am_ty c3) U ∧ va_X b (am_sn F) (am_sx F) U U.heap ∧ b < U.heap.size ∧ (∀ q : Nat, U.heap.size ≤ q → A q) ∧ (∀ w ∈ Ns, va_Nw w U) ∧ (∀ q ∈ St, vk_R q.1 q.2.1 q.2.2.1 q.2.2.2 U) ∧ am_Zs A U U.heap
def am_nk (w : Jvm.Cond) : Bool := match w with
  | .methodLinkNest _ _ _ _ => true
  | .castable _ _ => true
  | .declares _ => true
  | _ => false
theorem am_nk_warm {w : Jvm.Cond} (hw : am_nk w = true) {s U : State} (hW : s.WarmedH U.vm) (h : va_Nw w s) : va_Nw w U := by
  cases w <;> first | exact va_Nw.warmM hW h | exact va_Nw.warmC hW h | exact va_Nw.warmD hW h | cases hw
theorem am_nk_tab {w : Jvm.Cond} (hw : am_nk w = true) : w.onTables = true := by
  cases w <;> first | rfl | cases hw
theorem am_Kx.at {F : am_F} {cl : List vw_C} {D : va_G} {c3 : am_A3} {A : Nat → Prop} {b : Nat} {Ns : List Jvm.Cond} {St : List (String × Nat × String × Nat)} {s U : State} {H : Heap} {locs : List Loc} (hNs : ∀ w ∈ Ns, am_nk w = true) (hbA : ¬ A b) (h : am_Kx F cl D c3 A b Ns St s) (hU : U.heap = H) (hW : s.WarmedH U.vm) (hS : va_S A s.heap H locs) : am_Kx F cl D c3 A b Ns St U := by
  obtain ⟨h1, h2, h3, h4, h5, h6, h7⟩ := h
  subst hU
  exact ⟨va_K.moved hW.alike h1, va_X.moved hW.alike (h2.kept (hS.2.1 b h3 hbA)), Nat.lt_of_lt_of_le h3 hS.1, fun q hq => h4 q (Nat.le_trans hS.1 hq), fun w hw => am_nk_warm (hNs w hw) hW (h5 w hw), fun q hq => vk_R.warm hW (h6 q hq), (h7.moved hW.alike).kept hS.1 hS.2.1⟩
def am_Pc (F : am_F) (cl : List vw_C) (D : va_G) (c3 : am_A3) (A : Nat → Prop) (b : Nat) (Ns : List Jvm.Cond) (St : List (String × Nat × String × Nat)) (ad : Nat → Nat) (h : am_H) (as : List Value) : Array Value → State → Prop := fun v U =>
  v = (as.map (am_tr b ad)).toArray ∧ va_P D cl (am_ws c3 b ad h) U.heap ∧ va_D A (am_ws c3 b ad h) ∧ am_Kx F cl D c3 A b Ns St U
def am_oc (b : Nat) (ad : Nat → Nat) (o : am_O) : Outcome := match o with
  | .inl v => .returned (v.map (am_tr b ad))
  | .inr (_, k) => .threw (ad k)
def am_P (cl : List vw_C) (D : va_G) (c3 : am_A3) (A : Nat → Prop) (b : Nat) (ad : Nat → Nat) (h : am_H) (o : am_O) (h' : am_H) : Outcome → State → State → Prop := fun oc st t =>
  ∃ ad' : Nat → Nat, (∀ k, k < h.length → ad' k = ad k) ∧ oc = am_oc b ad' o ∧ va_P D cl (am_ws c3 b ad' h') t.heap ∧ va_D A (am_ws c3 b ad' h') ∧ va_F A st t
theorem am_P_two {cl : List vw_C} {D : va_G} {c3 : am_A3} {A : Nat → Prop} {b : Nat} {ad : Nat → Nat} {h : am_H} {o : am_O} {h' : am_H} {oc : Outcome} {st t : State} (k : am_P cl D c3 A b ad h o h' oc st t) : (∃ v, oc = .returned v) ∨ ∃ q, oc = .threw q := by
  obtain ⟨ad', -, e, -⟩ := k
  rcases o with v | ⟨x, k⟩
  · exact Or.inl ⟨_, e⟩
  · exact Or.inr ⟨_, e⟩
theorem am_Pc_blind {F : am_F} {cl : List vw_C} {D : va_G} {c3 : am_A3} {A : Nat → Prop} {b : Nat} {Ns : List Jvm.Cond} {St : List (String × Nat × String × Nat)} {ad : Nat → Nat} {h : am_H} {as : List Value} (hNs : ∀ w ∈ Ns, am_nk w = true) (hbA : ¬ A b) : FrameBlind (am_Pc F cl D c3 A b Ns St ad h as) := by
  intro a U g mk ⟨h1, h2, h3, h4⟩
  exact ⟨h1, h2, h3, h4.at hNs hbA (U := U.calling g mk a) rfl (State.WarmedH.refl U) (locs := []) va_S.rf⟩
def am_rm (d mc ms : Nat) : Room := { frames := d + 10, cells := mc, slots := ms, locals := 60 * d + 200 }
/-- the methods are what the tables say -/
def am_okMs (cl : List vw_C) (ms : Nat → Option am_M) (hm : Nat → List (Nat × Nat × Nat × Nat)) (Tg Ns : List Jvm.Cond) : Prop :=
  ∀ j M, ms j = some M → (∀ e ∈ am_cd M, decode (am_b M) e.1 = .ok (e.2.1, e.2.2)) ∧ plainName (am_y M).cls = true ∧ am_cw (am_y M) (am_b M) (am_n M) (am_r M) (hm j) ∈ Tg ∧ Cond.initialized (am_y M).cls ∈ Tg ∧
    ((am_y M).cls ≠ "java/lang/invoke/MethodHandle" ∧ (am_y M).cls ≠ "java/lang/invoke/VarHandle") ∧ am_n M ≤ 40 ∧
    ((am_hs M = [] ∧ hm j = []) ∨ ∃ (f t w x ck : Nat) (E : String) (T : u_T), am_hs M = [(f, t, w, x)] ∧ hm j = [(f, t, w, ck)] ∧ ck ≠ 0 ∧ Cond.classLink (am_y M).cls ck E ∈ Tg ∧ cl[x]? = some (E, T, 0) ∧ Cond.castable E E ∈ Ns)
/-- the calls are what the tables say -/
def am_okCl (F : am_F) (ms : Nat → Option am_M) (hm : Nat → List (Nat × Nat × Nat × Nat)) (Tg Ns : List Jvm.Cond) : Prop :=
  ∀ own k j w, am_cl F own k = some (j, w) →
    (w = 5 → Cond.methodLink own k Lib.objectInit ∈ Tg ∧ Cond.instanceMethod Lib.objectInit ∈ Tg ∧ Cond.code Lib.objectInit ⟨#[0xb1]⟩ 1 none ∈ Tg) ∧
    (w = 6 → Cond.methodLink own k arraycopyName ∈ Tg ∧ Cond.native arraycopyName ∈ Tg ∧ Cond.static arraycopyName ∈ Tg ∧ Cond.initialized "java/lang/System" ∈ Tg) ∧
    (w = 7 → Cond.methodLink own k Lib.Math.max.name ∈ Tg ∧ Cond.static Lib.Math.max.name ∈ Tg ∧ Cond.initialized "java/lang/Math" ∈ Tg ∧ Cond.code Lib.Math.max.name Lib.Math.max.code 2 (some .int) ∈ Tg) ∧
    (w = 8 → Cond.methodLink own k Lib.Math.min.name ∈ Tg ∧ Cond.static Lib.Math.min.name ∈ Tg ∧ Cond.initialized "java/lang/Math" ∈ Tg ∧ Cond.code Lib.Math.min.name Lib.Math.min.code 2 (some .int) ∈ Tg) ∧
    (w < 5 → ∀ M, ms j = some M → ∃ n, (parseMethodDescriptor (am_y M).desc).map (fun d => d.parameters.length) = some n ∧
      (w = 0 → Cond.methodLink own k (am_y M) ∈ Tg ∧ Cond.instanceMethod (am_y M) ∈ Tg ∧ Cond.selects (am_y M).cls (am_y M) (am_y M) ∈ Tg ∧ am_k M = n + 1) ∧
      (w = 1 → Cond.methodLink own k (am_y M) ∈ Tg ∧ Cond.instanceMethod (am_y M) ∈ Tg ∧ (am_y M).name = "<init>" ∧ am_r M = none ∧ hm j = [] ∧ am_k M = n + 1) ∧
      (w = 2 → Cond.methodLink own k (am_y M) ∈ Tg ∧ Cond.static (am_y M) ∈ Tg ∧ am_k M = n) ∧
      (w = 3 → ∃ host, Cond.methodLinkNest own k (am_y M) host ∈ Ns ∧ Cond.instanceMethod (am_y M) ∈ Tg ∧ Cond.selects (am_y M).cls (am_y M) (am_y M) ∈ Tg ∧ am_k M = n + 1) ∧
      (w = 4 → ∃ host, Cond.methodLinkNest own k (am_y M) host ∈ Ns ∧ Cond.instanceMethod (am_y M) ∈ Tg ∧ (am_y M).name = "<init>" ∧ am_r M = none ∧ hm j = [] ∧ am_k M = n + 1))
/-- what is thrown is what the tables say -/
def am_okTh (F : am_F) (cl : List vw_C) (ms : Nat → Option am_M) (Tg Ns : List Jvm.Cond) (St : List (String × Nat × String × Nat)) : Prop :=
  ∀ j M pc ik is ic x, ms j = some M → (am_cd M).lookup pc = some (.new ik, 3) → (am_cd M).lookup (pc + 4) = some (.ldc is, 2) → (am_cd M).lookup (pc + 6) = some (.invokespecial ic, 3) → am_th F (am_y M).cls ik = some x →
    ∃ (E : String) (T : u_T) (text : String) (sa : Nat) (names : List String), cl[x]? = some (E, T, 0) ∧ Bundle.fit E = true ∧ (∀ n ∈ names, Bundle.fit n = true) ∧ names.length ≤ 4 ∧ Cond.classLink (am_y M).cls ik E ∈ Tg ∧ Cond.initialized E ∈ Tg ∧ ((am_y M).cls, is, text, sa) ∈ St ∧
      (∀ w ∈ (Bundle.ownAtoms (am_y M).cls ic E names).filter am_nh, (w ∈ Tg ∨ w ∈ Ns) ∧ w.onTables = true)
theorem am_look {cd : List (Nat × Instr × Nat)} {pc : Nat} {x : Instr × Nat} (h : cd.lookup pc = some x) : (pc, x) ∈ cd := by
  induction cd with
  | nil => cases h
  | cons a t ih =>
    obtain ⟨k, v⟩ := a
    rw [List.lookup_cons] at h
    split at h
    · rename_i hk
      cases h
      have : pc = k := by simpa using hk
      rw [this]
      exact List.mem_cons_self
    · exact List.mem_cons_of_mem _ (ih h)
section AmBody
variable {p : Program} {l : Launch} {e : Env} {s : State} {m : MethodId} {args : Array Value} {below : List Frame} {meth : Method} {c : Code}
/-- behind a call: the relation again -/
theorem am_Rl.call {cl : List vw_C} {D : va_G} {c3 : am_A3} {A : Nat → Prop} {b nL n0 : Nat} {ad0 ad ad' : Nat → Nat} {L : am_L} {S S' : List Value} {h h' : am_H} {ls : Array Slot} {H0 : Heap} {locs L9 : List Loc} {st t : State} (hR : am_Rl cl D c3 A b nL n0 ad0 ad L S h ls H0 st.heap locs) (hle : h.length ≤ h'.length) (had : ∀ k, k < h.length → ad' k = ad k) (hok : am_okh h') (hS' : ∀ v ∈ S', am_okv h'.length v)
    (hP : va_P D cl (am_ws c3 b ad' h') t.heap) (hD : va_D A (am_ws c3 b ad' h')) (hF : va_F A st t) (hL9 : ∀ q ∈ L9, A q.base) : am_Rl cl D c3 A b nL n0 ad0 ad' L S' h' ls H0 t.heap (locs ++ L9) := by
  obtain ⟨hL, hoS, hoL, hoh, hP0, hD0, hS, hn0, had0⟩ := hR
  refine ⟨hL.ext hoL had, hS', fun v hv => (hoL v hv).mono hle, hok, hP, hD, ⟨Nat.le_trans hS.1 hF.1, fun q h1 h2 => ?_, fun q hq => ?_⟩, Nat.le_trans hn0 hle, fun k hk => ?_⟩
  · rw [hF.2 q (Nat.lt_of_lt_of_le h1 hS.1) h2]
    exact hS.2.1 q h1 h2
  · rcases List.mem_append.mp hq with h1 | h1
    · exact hS.2.2 q h1
    · exact hL9 q h1
  · rw [had k (Nat.lt_of_lt_of_le hk hn0)]
    exact had0 k hk
end AmBody
