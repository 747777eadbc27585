section AmSound
variable {p : Program} {l : Launch} {e : Env} {s : State} {m : MethodId} {args : Array Value} {below : List Frame} {meth : Method} {c : Code}
theorem am_body_step {F : am_F} {cl : List vw_C} {ms : Nat → Option am_M} {hm : Nat → List (Nat × Nat × Nat × Nat)} {Tg Ns : List Jvm.Cond} {St : List (String × Nat × String × Nat)} {D : va_G} {c3 : am_A3} {A : Nat → Prop} {b : Nat} {ad0 : Nat → Nat} {h0 : am_H} {o : am_O} {hf : am_H} {d j : Nat} {M : am_M} {R : Room} (hRf : d + 11 ≤ R.frames) (hRl : 60 * (d + 1) + 200 ≤ R.locals) (hRc : hf.length - h0.length ≤ R.cells) (hRs : am_sz hf - am_sz h0 ≤ R.slots)
    (hG : ∀ w ∈ Tg, goodWord w = true) (hNs : ∀ w ∈ Ns, am_nk w = true) (hMs : am_okMs cl ms hm Tg Ns) (hCl : am_okCl F ms hm Tg Ns) (hcd : ∀ e ∈ am_cd M, decode (am_b M) e.1 = .ok (e.2.1, e.2.2)) (hhs : (am_hs M = [] ∧ hm j = []) ∨ ∃ (f t w x ck : Nat) (E : String) (T : u_T), am_hs M = [(f, t, w, x)] ∧ hm j = [(f, t, w, ck)] ∧ ck ≠ 0 ∧ Cond.classLink (am_y M).cls ck E ∈ Tg ∧ cl[x]? = some (E, T, 0) ∧ Cond.castable E E ∈ Ns)
    (hC : am_Cx F cl Tg D c3 A b p s m args meth c (am_b M) (am_n M) (am_y M).cls (am_ini M)) (hKx : am_Kx F cl D c3 A b Ns St s) (htab : c.exceptionTable.toList.map (fun h => (h.startPc, h.endPc, h.handlerPc, h.catchType)) = hm j)
    (IH : ∀ j as h o h' N ad, am_Ev F cl ms d j as h o h' → ms j = some N → am_okh h → (∀ v ∈ as, am_okv h.length v) → am_Met l (am_y N) Tg (am_rm d (h'.length - h.length) (am_sz h' - am_sz h)) (am_Pc F cl D c3 A b Ns St ad h as) (am_P cl D c3 A b ad h o h') (h'.length - h.length) (am_sz h' - am_sz h) A)
    {a a' : am_S} (hs : am_Stp F cl ms (am_Ev F cl ms d) M a a') (hb : am_Pm cl D c3 A b (am_n M) ad0 h0 o hf R p l e s m args below meth c a') :
    am_Pm cl D c3 A b (am_n M) ad0 h0 o hf R p l e s m args below meth c a := by
  have dec : ∀ {pc : Nat} {i : Instr} {len : Nat}, (am_cd M).lookup pc = some (i, len) → decode (am_b M) pc = .ok (i, len) := fun {pc i len} h => hcd (pc, i, len) (am_look h)
  obtain ⟨hx, hbb, hml, hown, hts, hin, hA, hK, hX, hbl, hbA, hT⟩ := id hC
  have hnw : ∀ own k ci fs, am_nw F own k = some (ci, fs) → ∀ v ∈ fs, am_isR v = false := fun own k ci fs h => by
    obtain ⟨C, T, N, ty, -, -, -, -, -, h1, -⟩ := hT.2.2.1 own k ci fs h
    exact h1
  rcases hs with ⟨pc, L, S, h, i, len, ⟨pc', L', S', h'⟩, rfl, h2, h3, rfl⟩ | ⟨pc, L, S, h, i, len, j', w, N, as, rest, oc, h', rfl, h2, h3, h4, h5, h6, rfl, h8, h9, h10, h11, rfl⟩ | ⟨pc, L, h, i, len, j', k, rest, rfl, h2, h3, h4, rfl⟩ | ⟨pc, L, h, i, len, j', k1, sp, k2, dp, n, rest, h', rfl, h2, h3, h4, h5, rfl⟩ | ⟨pc, L, h, i, len, j', w, x, y, rest, rfl, h2, h3, h4, h5, rfl⟩ | ⟨pc, L, S, h, x, k, f, t, w, rfl, h2, h3, h4, rfl⟩
  · obtain ⟨g1, kk⟩ := hb
    obtain ⟨g2, -⟩ := am_st_ok hnw h3
    dsimp only at g1 kk
    refine ⟨g2.trans g1, ?_⟩
    intro ad ls H locs hR hg0 hthr
    dsimp only at hR hg0 hthr ⊢
    exact am_one hC h3 (dec h2) hR (Nat.le_trans (Nat.sub_le_sub_right g1.1 _) hRc) (Nat.le_trans (Nat.sub_le_sub_right g1.2 _) hRs) hg0.1 hg0.2 (fun ad' ls' H' locs' hR' => kk ad' ls' H' locs' hR' (hg0.trans g2) (fun x k hx => by cases hx))
  · obtain ⟨rfl, k, hk, hi⟩ := am_call_eq h3
    obtain ⟨g1, g2⟩ := am_Ev_ok hnw (cl := cl) (ms := ms) d _ _ _ _ _ h11
    exact am_body_call hRf hRl hRc hRs hG hNs hMs hCl hC hKx (dec h2) hk h4 hi h5 h6 h8 h9 h10 g1 g2 (fun o1 o2 ad => IH _ _ _ _ _ _ ad h11 h5 o1 o2) hb
  · obtain ⟨rfl, k', hk, hi⟩ := am_call_eq h3
    have hi' : i = .invokespecial k' := by
      rcases hi with ⟨h1, -⟩ | ⟨-, h1⟩ | ⟨h1, -⟩
      · omega
      · exact h1
      · omega
    subst hi'
    obtain ⟨x1, x2, x3⟩ := (hCl _ _ _ _ hk).1 rfl
    obtain ⟨g1, kk⟩ := hb
    dsimp only at g1 kk
    refine ⟨g1, ?_⟩
    intro ad ls H locs hR hg0 hthr
    dsimp only at hR hg0 hthr ⊢
    exact W.objInit hx hbb hown (hts _ x1) (hts _ x2) (hts _ x3) rfl (hR.1.2.2.1.trans hml.symm) rfl (dec h2) (by omega) (by
      show 2 * 0 + ((rest.map (am_tr b ad)).map fun v => v.category).sum + 12 ≤ _
      rw [am_cat_sum]
      omega) (kk ad ls H locs (hR.S (am_tl hR.2.1)) hg0 (fun x k hx => by cases hx))
  · obtain ⟨rfl, k', hk, hi⟩ := am_call_eq h3
    have hi' : i = .invokestatic k' := by
      rcases hi with ⟨h1, -⟩ | ⟨h1, -⟩ | ⟨-, h1⟩
      · omega
      · omega
      · exact h1
    subst hi'
    obtain ⟨x1, x2, x3, x4⟩ := (hCl _ _ _ _ hk).2.1 rfl
    obtain ⟨g1, kk⟩ := hb
    obtain ⟨g2, -, g3⟩ := am_cp_ok h5
    dsimp only at g1 kk
    refine ⟨g2.trans g1, ?_⟩
    intro ad ls H locs hR hg0 hthr
    dsimp only at hR hg0 hthr ⊢
    obtain ⟨hL, hoS, hoL, hoh, hP, hD, hS, hn0, had⟩ := id hR
    unfold am_cp at h5
    split at h5
    · rename_i n0 f n1 g hh1 hh2
      split at h5
      · rename_i hc5
        obtain ⟨y1, y2, y3, y4, y5, y6⟩ := hc5
        cases h5
        have hz : am_sz (h.set k2 (.inr (.inl (false, n1, va_cpy f g sp.toNatClampNeg dp.toNatClampNeg n.toNatClampNeg)))) = am_sz h := am_sz_set hh2 rfl
        refine va_copyi (D := D) (cl := cl) (ty := .int) hx hbb (hml.trans hL.2.2.1.symm) hown (hts _ x1) (hts _ x2) (hts _ x3) (hts _ x4) hK hP hD hS k1 k2 0 0 (am_ws_at hh1) (am_ws_at hh2) rfl rfl rfl y1 y2 y3 y4 y5 (fun _ _ => rfl) (by omega) (by
          rw [am_cat_sum]
          show _ + (7 + 11) ≤ _
          omega) (dec h2) (fun H1 locs1 z1 z2 z3 => ?_)
        have k3 := kk ad ls H1 locs1 (hR.set (am_tl (am_tl (am_tl (am_tl (am_tl hoS))))) (e := .inr (.inl (false, n1, va_cpy f g sp.toNatClampNeg dp.toNatClampNeg n.toNatClampNeg))) trivial z1 z2 z3) (hg0.trans g2) (fun x k hx => by cases hx)
        rw [hz, List.length_set] at k3
        exact k3
      · cases h5
    · cases h5
  · obtain ⟨rfl, k', hk, hi⟩ := am_call_eq h3
    have hi' : i = .invokestatic k' := by
      rcases hi with ⟨h1, -⟩ | ⟨h1, -⟩ | ⟨-, h1⟩
      · omega
      · omega
      · exact h1
    subst hi'
    obtain ⟨g1, kk⟩ := hb
    dsimp only at g1 kk
    refine ⟨g1, ?_⟩
    intro ad ls H locs hR hg0 hthr
    dsimp only at hR hg0 hthr ⊢
    have k3 := kk ad ls H locs (hR.S (am_cons trivial (am_tl (am_tl hR.2.1)))) hg0 (fun x k hx => by cases hx)
    have hcl : h.length - h0.length ≤ R.cells := Nat.le_trans (Nat.sub_le_sub_right g1.1 _) hRc
    have hsl : am_sz h - am_sz h0 ≤ R.slots := Nat.le_trans (Nat.sub_le_sub_right g1.2 _) hRs
    have hlo : ((rest.map (am_tr b ad)).map fun v => v.category).sum + 13 ≤ R.locals := by rw [am_cat_sum]; omega
    rcases h4 with rfl | rfl
    · obtain ⟨x1, x2, x3, x4⟩ := (hCl _ _ _ _ hk).2.2.1 rfl
      exact va_mmax hx hbb (hml.trans hR.1.2.2.1.symm) hown (hts _ x1) (hts _ x2) (hts _ x3) (hts _ x4) (by omega) hlo hcl hsl (dec h2) k3
    · obtain ⟨x1, x2, x3, x4⟩ := (hCl _ _ _ _ hk).2.2.2.1 rfl
      exact va_mmin hx hbb (hml.trans hR.1.2.2.1.symm) hown (hts _ x1) (hts _ x2) (hts _ x3) (hts _ x4) (by omega) hlo hcl hsl (dec h2) k3
  · obtain ⟨g1, kk⟩ := hb
    dsimp only at g1 kk
    refine ⟨g1, ?_⟩
    intro ad ls H locs hR hg0 hthr
    have hxk : h[k]? = some (am_X x) := hthr x k rfl
    dsimp only at hR hg0 hthr ⊢
    rcases hhs with ⟨q1, q2⟩ | ⟨f', t', w', x', ck, E, T, q1, q2, q3, q4, q5, q6⟩
    · rw [h2] at q1
      cases q1
    · rw [h2] at q1
      cases q1
      rw [q2] at htab
      obtain ⟨xx, hxx, hxe⟩ : ∃ xx, c.exceptionTable.toList = [xx] ∧ (xx.startPc, xx.endPc, xx.handlerPc, xx.catchType) = (f, t, w, ck) := by
        cases hq : c.exceptionTable.toList with
        | nil => rw [hq] at htab; cases htab
        | cons xx tl =>
          rw [hq] at htab
          cases tl with
          | nil => exact ⟨xx, rfl, (List.cons.inj htab).1⟩
          | cons y z => exact absurd (congrArg List.length htab) (by simp)
      have e1 : xx.startPc = f := congrArg (fun q => q.1) hxe
      have e2 : xx.endPc = t := congrArg (fun q => q.2.1) hxe
      have e3 : xx.handlerPc = w := congrArg (fun q => q.2.2.1) hxe
      have e4 : xx.catchType = ck := congrArg (fun q => q.2.2.2) hxe
      obtain ⟨hL, hoS, hoL, hoh, hP, hD, hS, hn0, had⟩ := id hR
      obtain ⟨r9, w1, ce, w2, w3, w4, -⟩ := hP k _ (am_ws_at hxk)
      cases Option.some.inj (w1.symm.trans q5)
      have hcls : s.vm.findClass E = some (D.1 x) := (hK.1 x _ q5).2.1
      have k3 := kk ad ls H locs (hR.S (am_cons ((List.getElem?_eq_some_iff.mp hxk).1) (fun v hv => by cases hv))) hg0 (fun x k hx => by cases hx)
      refine am_caught hown hxx ?_ (by rw [e4]; exact q3) (by rw [e4]; exact hts _ q4) (hKx.2.2.2.2.1 _ q6) w2 w4 (by rw [w3]; exact hcls) (by rw [e3]; exact k3)
      show (decide (xx.startPc ≤ pc) && decide (pc < xx.endPc)) = true
      rw [e1, e2, decide_eq_true h3, decide_eq_true h4]
      rfl
end AmSound
theorem am_args_mem : ∀ {vs : List Value} {i k : Nat} {v : Value}, (∀ v ∈ vs, v.category = 1) → vs[k]? = some v → (i + k, v) ∈ lv_args i vs
  | [], _, _, _, _, h => by cases h
  | w :: t, i, 0, v, hc, h => by
    have e : w = v := by simpa using h
    rw [lv_args, e]
    exact List.mem_cons_self
  | w :: t, i, k + 1, v, hc, h => by
    have h1 : ¬ w.category = 2 := by rw [hc w List.mem_cons_self]; decide
    rw [lv_args, if_neg h1, show i + (k + 1) = i + 1 + k by omega]
    exact List.mem_cons_of_mem _ (am_args_mem (fun v hv => hc v (List.mem_cons_of_mem _ hv)) h)
theorem am_sl_len : ∀ {vs : List Value}, (∀ v ∈ vs, v.category = 1) → (lg_sl vs).length = vs.length
  | [], _ => rfl
  | w :: t, hc => by
    have h1 : ¬ w.category = 2 := by rw [hc w List.mem_cons_self]; decide
    show ((if w.category = 2 then [Slot.val w, .second] else [Slot.val w]) ++ lg_sl t).length = _
    rw [if_neg h1, List.length_append, am_sl_len (fun v hv => hc v (List.mem_cons_of_mem _ hv))]
    simp only [List.length_cons, List.length_nil]
    omega
theorem am_entry {M : am_M} {as : List Value} {b : Nat} {ad : Nat → Nat} (hc : ∀ v ∈ as, v.category = 1) (hn : as.length ≤ am_n M) : am_LR b ad (am_n M) (am_ent M as) ((lg_sl (as.map (am_tr b ad)) ++ List.replicate (am_n M - (lg_sl (as.map (am_tr b ad))).length) Slot.unset).toArray) := by
  have hc' : ∀ v ∈ as.map (am_tr b ad), v.category = 1 := fun v hv => by
    obtain ⟨w, hw, rfl⟩ := List.mem_map.mp hv
    rw [am_tr_cat]
    exact hc w hw
  have hl : (lg_sl (as.map (am_tr b ad))).length ≤ am_n M := by rw [am_sl_len hc', List.length_map]; exact hn
  refine ⟨?_, ?_, am_has_sub (lv_entry (as.map (am_tr b ad)) hl) fun q hq => ?_⟩
  · rw [am_ent, List.length_append, List.length_map, List.length_replicate]
    omega
  · intro v hv
    rcases List.mem_append.mp hv with h1 | h1
    · obtain ⟨w, hw, e⟩ := List.mem_map.mp h1
      rw [← Option.some.inj e]
      exact hc w hw
    · cases List.eq_of_mem_replicate h1
  · obtain ⟨k, v, h1, rfl⟩ := am_lv_mem.mp hq
    apply am_args_mem hc'
    rw [List.getElem?_map]
    have h2 : as[k]? = some v := by
      by_cases hk : k < (as.map some).length
      · rw [am_ent, List.getElem?_append_left hk, List.getElem?_map] at h1
        cases h3 : as[k]? with
        | none => rw [h3] at h1; cases h1
        | some w =>
          rw [h3] at h1
          exact congrArg some (Option.some.inj (Option.some.inj h1))
      · rw [am_ent, List.getElem?_append_right (Nat.not_lt.mp hk)] at h1
        have h4 := List.eq_of_mem_replicate (List.mem_of_getElem? h1)
        cases h4
    rw [h2]
    rfl
/-- THE ABSTRACT MACHINE IS SOUND -/
theorem am_sound {l : Launch} {F : am_F} {cl : List vw_C} {ms : Nat → Option am_M} {hm : Nat → List (Nat × Nat × Nat × Nat)} {Tg Ns : List Jvm.Cond} {St : List (String × Nat × String × Nat)} {D : va_G} {c3 : am_A3} {A : Nat → Prop} {b : Nat}
    (hl : l.stackTraces = false) (hbA : ¬ A b) (hG : ∀ w ∈ Tg, goodWord w = true) (hNs : ∀ w ∈ Ns, am_nk w = true) (hT : am_okT F cl Tg) (hMs : am_okMs cl ms hm Tg Ns) (hCl : am_okCl F ms hm Tg Ns) (hTh : am_okTh F cl ms Tg Ns St) :
    ∀ d j as h o h' M ad, am_Ev F cl ms d j as h o h' → ms j = some M → am_okh h → (∀ v ∈ as, am_okv h.length v) → am_Met l (am_y M) Tg (am_rm d (h'.length - h.length) (am_sz h' - am_sz h)) (am_Pc F cl D c3 A b Ns St ad h as) (am_P cl D c3 A b ad h o h') (h'.length - h.length) (am_sz h' - am_sz h) A := by
  intro d
  induction d with
  | zero => intro j as h o h' M ad hev; exact hev.elim
  | succ d IH =>
    intro j as h o h' M ad hev hj hoh hoA
    obtain ⟨M', hj', hk, hkn, hcat, hgo⟩ := hev
    cases Option.some.inj (hj'.symm.trans hj)
    obtain ⟨hcd, hpl, hcw, -, -, -, hhs⟩ := hMs j M hj
    refine am_ofW hpl hcw ?_
    intro p e s m args below meth c s₁ B hml htab hPc
    obtain ⟨rfl, hP, hD, hKx⟩ := hPc
    have hC : am_Cx F cl Tg D c3 A b p s m (as.map (am_tr b ad)).toArray meth c (am_b M) (am_n M) (am_y M).cls (am_ini M) :=
      ⟨B.exec, B.bytes, hml, findClass_of_methodNamed B.named, atoms_spec (ws := Tg) B.pre, fun hi => ((name_of_methodNamed B.named B.method).1).trans (of_decide_eq_true hi), hKx.2.2.2.1, hKx.1, hKx.2.1, hKx.2.2.1, hbA, hT⟩
    have hst := hgo (am_Pm cl D c3 A b (am_n M) ad h o h' (am_rm (d + 1) (h'.length - h.length) (am_sz h' - am_sz h)) p l e s m (as.map (am_tr b ad)).toArray below meth c)
      (fun a hfin => am_body_fin (d := d) (Nat.le_of_eq (by show d + 11 = d + 1 + 10; omega)) (Nat.le_refl _) (Nat.le_refl _) (Nat.le_refl _) hl hcd hhs (fun pc ik is ic x => hTh j M pc ik is ic x hj) hC hKx B.returns B.notSynchronized htab hfin)
      (fun a a' hs hb => am_body_step (d := d) (Nat.le_of_eq (by show d + 11 = d + 1 + 10; omega)) (Nat.le_refl _) (Nat.le_refl _) (Nat.le_refl _) hG hNs hMs hCl hcd hhs hC hKx htab IH hs hb)
    obtain ⟨-, kk⟩ := hst
    dsimp only at kk
    rw [lg_entry_eq]
    have k3 := kk ad _ s.heap [] ⟨am_entry hcat (by rw [hk]; exact hkn), (fun v hv => by cases hv), am_ent_ok hoA, hoh, hP, hD, va_S.rf, Nat.le_refl _, fun _ _ => rfl⟩ (am_Gr.rf h) (fun x k hx => by cases hx)
    rw [Nat.sub_self, Nat.sub_self] at k3
    exact k3
