section AmStep
variable {p : Program} {l : Launch} {e : Env} {s : State} {m : MethodId} {args : Array Value} {below : List Frame} {meth : Method} {c : Code}
theorem am_body_fin {F : am_F} {cl : List vw_C} {hm : Nat → List (Nat × Nat × Nat × Nat)} {Tg Ns : List Jvm.Cond} {St : List (String × Nat × String × Nat)} {D : va_G} {c3 : am_A3} {A : Nat → Prop} {b : Nat} {ad0 : Nat → Nat} {h0 : am_H} {o : am_O} {hf : am_H} {d j : Nat} {M : am_M} {R : Room} (hRf : d + 11 ≤ R.frames) (hRl : 60 * (d + 1) + 200 ≤ R.locals) (hRc : hf.length - h0.length ≤ R.cells) (hRs : am_sz hf - am_sz h0 ≤ R.slots)
    (hl : l.stackTraces = false) (hcd : ∀ e ∈ am_cd M, decode (am_b M) e.1 = .ok (e.2.1, e.2.2)) (hhs : (am_hs M = [] ∧ hm j = []) ∨ ∃ (f t w x ck : Nat) (E : String) (T : u_T), am_hs M = [(f, t, w, x)] ∧ hm j = [(f, t, w, ck)] ∧ ck ≠ 0 ∧ Cond.classLink (am_y M).cls ck E ∈ Tg ∧ cl[x]? = some (E, T, 0) ∧ Cond.castable E E ∈ Ns) (hThM : ∀ pc ik is ic x, (am_cd M).lookup pc = some (.new ik, 3) → (am_cd M).lookup (pc + 4) = some (.ldc is, 2) → (am_cd M).lookup (pc + 6) = some (.invokespecial ic, 3) → am_th F (am_y M).cls ik = some x → ∃ (E : String) (T : u_T) (text : String) (sa : Nat) (names : List String), cl[x]? = some (E, T, 0) ∧ Bundle.fit E = true ∧ (∀ n ∈ names, Bundle.fit n = true) ∧ names.length ≤ 4 ∧ Cond.classLink (am_y M).cls ik E ∈ Tg ∧ Cond.initialized E ∈ Tg ∧ ((am_y M).cls, is, text, sa) ∈ St ∧ (∀ w ∈ (Bundle.ownAtoms (am_y M).cls ic E names).filter am_nh, (w ∈ Tg ∨ w ∈ Ns) ∧ w.onTables = true))
    (hC : am_Cx F cl Tg D c3 A b p s m args meth c (am_b M) (am_n M) (am_y M).cls (am_ini M)) (hKx : am_Kx F cl D c3 A b Ns St s) (hr : meth.sig.returnType = am_r M) (hlocks : meth.locks = false) (htab : c.exceptionTable.toList.map (fun h => (h.startPc, h.endPc, h.handlerPc, h.catchType)) = hm j)
    {a : am_S} (hfin : am_fin F M a (o, hf)) : am_Pm cl D c3 A b (am_n M) ad0 h0 o hf R p l e s m args below meth c a := by
  have dec : ∀ {pc : Nat} {i : Instr} {len : Nat}, (am_cd M).lookup pc = some (i, len) → decode (am_b M) pc = .ok (i, len) := fun {pc i len} h => hcd (pc, i, len) (am_look h)
  refine ⟨(am_fin_ok hfin).1, ?_⟩
  rcases hfin with ⟨pc, L, v, h, ty, rfl, h2, h3, h4, h5⟩ | ⟨pc, L, h, rfl, h2, h3, h5⟩ | ⟨pc, L, k, h, ty, rfl, h2, h3, h4, h5⟩ | ⟨pc, L, S, h, ⟨x, k⟩, rfl, h2, h5⟩ | ⟨pc, L, S, h, x, rfl, h2, h3, h4, h5⟩
  · obtain ⟨rfl, rfl⟩ := Prod.mk.inj h5
    intro ad ls H locs hR hg0 hthr
    dsimp only at hR hg0 hthr ⊢
    exact am_fin1 (ms := fun _ => none) (hm := hm) (Ns := Ns) (St := St) (d := d) (j := j) hC (dec h2) (hr.trans h3) h4 hlocks hR
  · obtain ⟨rfl, rfl⟩ := Prod.mk.inj h5
    intro ad ls H locs hR hg0 hthr
    dsimp only at hR hg0 hthr ⊢
    exact am_fin2 (ms := fun _ => none) (hm := hm) (Ns := Ns) (St := St) (d := d) (j := j) hC (dec h2) (hr.trans h3) hlocks hR
  · obtain ⟨rfl, rfl⟩ := Prod.mk.inj h5
    intro ad ls H locs hR hg0 hthr
    dsimp only at hR hg0 hthr ⊢
    exact am_fin3 (ms := fun _ => none) (hm := hm) (Ns := Ns) (St := St) (d := d) (j := j) hC (dec h2) (hr.trans h3) h4 hlocks hR
  · obtain ⟨rfl, rfl⟩ := Prod.mk.inj h5
    intro ad ls H locs hR hg0 hthr
    dsimp only at hR hg0 hthr ⊢
    exact am_fin4 (ms := fun _ => none) (hm := hm) (Ns := Ns) (St := St) (d := d) (j := j) hC hhs htab h2 hlocks hR
  · obtain ⟨rfl, rfl⟩ := Prod.mk.inj h5
    have hlen : (h ++ [am_X x]).length = h.length + 1 := by simp
    have hsz : am_sz (h ++ [am_X x]) = am_sz h + 6 := by rw [am_sz_push]; rfl
    obtain ⟨ik, is, ic, l0, l3, l4, l6, l9, l10⟩ := am_tw_eq h2
    obtain ⟨E, T, text, sa, names, g1, g2, g3, g4, g5, g6, g7, g8⟩ := hThM pc ik is ic x l0 l4 l6 l10
    have hempty : c.exceptionTable.toList = [] := by
      rcases hhs with ⟨q1, q2⟩ | ⟨f, t, w, x', ck, E, T, q1, q2, -⟩
      · rw [q2] at htab
        exact List.map_eq_nil_iff.mp htab
      · rw [h3] at q1
        cases q1
    intro ad ls H locs hR hg0 hthr
    dsimp only at hR hg0 hthr ⊢
    rw [hlen, hsz]
    exact am_fin5 (ms := fun _ => none) (hm := hm) (Ns := Ns) (St := St) (d := d) (j := j) hC hKx hl g1 g2 g3 g4 g5 g6 g7 g8 (dec l0) (dec l3) (dec l4) (dec l6) (dec l9) hempty h4 hlocks (by omega) (by omega) (by rw [hlen] at hRc; exact hRc) (by rw [hsz] at hRs; exact hRs) hg0 hR
end AmStep
