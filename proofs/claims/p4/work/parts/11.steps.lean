theorem am_call_eq {F : am_F} {own : String} {i : Instr} {len j w : Nat} (h : am_call F own i len = some (j, w)) : len = 3 ∧ ∃ k, am_cl F own k = some (j, w) ∧ ((w = 0 ∨ w = 3) ∧ i = .invokevirtual k ∨ (w = 1 ∨ w = 4 ∨ w = 5) ∧ i = .invokespecial k ∨ (w = 2 ∨ w = 6 ∨ w = 7 ∨ w = 8) ∧ i = .invokestatic k) := by
  unfold am_call at h
  split at h
  · split at h
    · rename_i hk
      split at h
      · rename_i hw
        cases h
        exact ⟨rfl, _, hk, Or.inl ⟨hw, rfl⟩⟩
      · cases h
    · cases h
  · split at h
    · rename_i hk
      split at h
      · rename_i hw
        cases h
        exact ⟨rfl, _, hk, Or.inr (Or.inl ⟨hw, rfl⟩)⟩
      · cases h
    · cases h
  · split at h
    · rename_i hk
      split at h
      · rename_i hw
        cases h
        exact ⟨rfl, _, hk, Or.inr (Or.inr ⟨hw, rfl⟩)⟩
      · cases h
    · cases h
  · cases h
theorem am_par {d : String} {n : Nat} (h : (parseMethodDescriptor d).map (fun d => d.parameters.length) = some n) {k : Nat} (hk : k = n) : ∀ sig, parseMethodDescriptor d = some sig → k = sig.parameters.length := by
  intro sig hs
  rw [hs] at h
  rw [hk]
  exact (Option.some.inj h).symm
section AmStep
variable {p : Program} {l : Launch} {e : Env} {s : State} {m : MethodId} {args : Array Value} {below : List Frame} {meth : Method} {c : Code}
/-- the way to a method, by the kind of the call -/
theorem am_way {F : am_F} {cl : List vw_C} {ms : Nat → Option am_M} {hm : Nat → List (Nat × Nat × Nat × Nat)} {Tg Ns : List Jvm.Cond} {St : List (String × Nat × String × Nat)} {D : va_G} {c3 : am_A3} {A : Nat → Prop} {b : Nat} {M N : am_M} {j w k : Nat} {i : Instr} {R : Room}
    (hC : am_Cx F cl Tg D c3 A b p s m args meth c (am_b M) (am_n M) (am_y M).cls (am_ini M)) (hKx : am_Kx F cl D c3 A b Ns St s) (hNs : ∀ w ∈ Ns, am_nk w = true) (hMs : am_okMs cl ms hm Tg Ns) (hCl : am_okCl F ms hm Tg Ns) (hj : ms j = some N)
    (hk : am_cl F (am_y M).cls k = some (j, w)) (hw : w < 5) (hi : (w = 0 ∨ w = 3) ∧ i = .invokevirtual k ∨ (w = 1 ∨ w = 4 ∨ w = 5) ∧ i = .invokespecial k ∨ (w = 2 ∨ w = 6 ∨ w = 7 ∨ w = 8) ∧ i = .invokestatic k)
    {as rest : List Value} {ad : Nat → Nat} {h : am_H} {H : Heap} {locs : List Loc} {cells slots pc : Nat} {ls : Array Slot} (hlen : as.length = am_k N) (hrc : w = 0 ∨ w = 3 → am_rc cl N as h) (hri : w = 1 ∨ w = 4 → ∃ (k : Nat) (t : List Value), as = .ref k :: t) (hP : va_P D cl (am_ws c3 b ad h) H) (hd : decode (am_b M) pc = .ok (i, 3)) :
    am_Inv p l e R s m args below meth c H locs cells slots (am_y N) (F0 m pc ls (((as.reverse ++ rest).map (am_tr b ad)))) (rest.map (am_tr b ad)) (as.map (am_tr b ad)).toArray := by
  obtain ⟨hx, hb, hml, hown, hts, hin, hA, hK, hX, hbl, hbA, hT⟩ := hC
  obtain ⟨-, -, hcw, hini, hy, -, -⟩ := hMs j N hj
  obtain ⟨n, hpar, w0, w1, w2, w3, w4⟩ := (hCl _ _ _ _ hk).2.2.2.2 hw N hj
  have hd' : ∀ i', i = i' → decode c.code pc = .ok (i', 3) := fun i' e1 => by rw [hb, ← e1]; exact hd
  have hcode := hts _ hcw
  rcases hi with ⟨hw1, rfl⟩ | ⟨hw1, rfl⟩ | ⟨hw1, rfl⟩
  · obtain ⟨a0, ci, fs, r0, q, rfl, hh, hq, hqc⟩ := hrc hw1
    obtain ⟨cell, z1, z2, z3⟩ := va_recv hK hP hq (am_ws_at hh)
    rw [hqc] at z3
    have hl2 : r0.length + 1 = am_k N := by simpa using hlen
    rcases hw1 with rfl | rfl
    · obtain ⟨x1, x2, x3, x4⟩ := w0 rfl
      exact am_invV (argsL := r0.map (am_tr b ad)) hx hown (hts _ x1) (hts _ x2) (hts _ x3) hcode hy z1 z2 z3 rfl (am_par hpar (by rw [List.length_map]; omega)) (by simp [am_tr]) (hd' _ rfl)
    · obtain ⟨host, x1, x2, x3, x4⟩ := w3 rfl
      exact am_invVN (argsL := r0.map (am_tr b ad)) hx hown (va_Nw.use (am_nk_tab (hNs _ x1)) (hKx.2.2.2.2.1 _ x1)) (hts _ x2) (hts _ x3) hcode hy z1 z2 z3 rfl (am_par hpar (by rw [List.length_map]; omega)) (by simp [am_tr]) (hd' _ rfl)
  · have hw2 : w = 1 ∨ w = 4 := by omega
    obtain ⟨k0, r0, rfl⟩ := hri hw2
    have hl2 : r0.length + 1 = am_k N := by simpa using hlen
    rcases hw2 with rfl | rfl
    · obtain ⟨x1, x2, x3, x4, x5, x6⟩ := w1 rfl
      rw [x4, x5] at hcode
      exact am_invI (argsL := r0.map (am_tr b ad)) hx hown x3 (hts _ x1) (hts _ x2) hcode hy rfl (am_par hpar (by rw [List.length_map]; omega)) (by simp [am_tr]) (hd' _ rfl)
    · obtain ⟨host, x1, x2, x3, x4, x5, x6⟩ := w4 rfl
      rw [x4, x5] at hcode
      exact am_invIN (argsL := r0.map (am_tr b ad)) hx hown x3 (va_Nw.use (am_nk_tab (hNs _ x1)) (hKx.2.2.2.2.1 _ x1)) (hts _ x2) hcode hy rfl (am_par hpar (by rw [List.length_map]; omega)) (by simp [am_tr]) (hd' _ rfl)
  · have hw2 : w = 2 := by omega
    subst hw2
    obtain ⟨x1, x2, x3⟩ := w2 rfl
    exact am_invS (argsL := as.map (am_tr b ad)) hx hown (hts _ x1) (hts _ x2) (hts _ hini) hcode hy rfl (am_par hpar (by rw [List.length_map]; omega)) (by simp) (hd' _ rfl)
theorem am_body_call {F : am_F} {cl : List vw_C} {ms : Nat → Option am_M} {hm : Nat → List (Nat × Nat × Nat × Nat)} {Tg Ns : List Jvm.Cond} {St : List (String × Nat × String × Nat)} {D : va_G} {c3 : am_A3} {A : Nat → Prop} {b : Nat} {ad0 : Nat → Nat} {h0 : am_H} {o : am_O} {hf : am_H} {d : Nat} {M N : am_M} {R : Room} (hRf : d + 11 ≤ R.frames) (hRl : 60 * (d + 1) + 200 ≤ R.locals) (hRc : hf.length - h0.length ≤ R.cells) (hRs : am_sz hf - am_sz h0 ≤ R.slots)
    (hG : ∀ w ∈ Tg, goodWord w = true) (hNs : ∀ w ∈ Ns, am_nk w = true) (hMs : am_okMs cl ms hm Tg Ns) (hCl : am_okCl F ms hm Tg Ns)
    (hC : am_Cx F cl Tg D c3 A b p s m args meth c (am_b M) (am_n M) (am_y M).cls (am_ini M)) (hKx : am_Kx F cl D c3 A b Ns St s)
    {pc : Nat} {L : am_L} {h : am_H} {i : Instr} {j w : Nat} {as rest : List Value} {oc : am_O} {h' : am_H} (hd : decode (am_b M) pc = .ok (i, 3)) {k : Nat} (hk : am_cl F (am_y M).cls k = some (j, w)) (hw : w < 5) (hi : (w = 0 ∨ w = 3) ∧ i = .invokevirtual k ∨ (w = 1 ∨ w = 4 ∨ w = 5) ∧ i = .invokespecial k ∨ (w = 2 ∨ w = 6 ∨ w = 7 ∨ w = 8) ∧ i = .invokestatic k) (hj : ms j = some N) (hlen : as.length = am_k N) (hrc : w = 0 ∨ w = 3 → am_rc cl N as h) (hri : w = 1 ∨ w = 4 → ∃ (k : Nat) (t : List Value), as = .ref k :: t) (hsum : (rest.map fun v => v.category).sum ≤ 8)
    (hgr : am_Gr h h') (hok : am_okh h → (∀ v ∈ as, am_okv h.length v) → am_okh h' ∧ am_okO h' oc)
    (IH : am_okh h → (∀ v ∈ as, am_okv h.length v) → ∀ ad, am_Met l (am_y N) Tg (am_rm d (h'.length - h.length) (am_sz h' - am_sz h)) (am_Pc F cl D c3 A b Ns St ad h as) (am_P cl D c3 A b ad h oc h') (h'.length - h.length) (am_sz h' - am_sz h) A)
    (hb : am_Pm cl D c3 A b (am_n M) ad0 h0 o hf R p l e s m args below meth c (am_bk pc L rest oc h')) :
    am_Pm cl D c3 A b (am_n M) ad0 h0 o hf R p l e s m args below meth c (none, pc, L, as.reverse ++ rest, h) := by
  have hbh : (am_bk pc L rest oc h').2.2.2.2 = h' := by rcases oc with v | x <;> rfl
  obtain ⟨g1, kk⟩ := hb
  rw [hbh] at g1
  refine ⟨hgr.trans g1, ?_⟩
  intro ad ls H locs hR hg0 hthr
  dsimp only at hR hg0 hthr ⊢
  obtain ⟨hL, hoS, hoL, hoh, hP, hD, hS, hn0, had⟩ := id hR
  have hoA : ∀ v ∈ as, am_okv h.length v := fun v hv => hoS v (List.mem_append_left _ (List.mem_reverse.mpr hv))
  have hoR : ∀ v ∈ rest, am_okv h.length v := fun v hv => hoS v (List.mem_append_right _ hv)
  obtain ⟨hok1, hok2⟩ := hok hoh hoA
  obtain ⟨hx, hbb, hml, hown, hts, hin, hA, hK, hX, hbl, hbA, hT⟩ := id hC
  obtain ⟨-, -, hcw, hini, hy, hn40, -⟩ := hMs j N hj
  have q1 : h0.length ≤ h.length := hg0.1
  have q2 : am_sz h0 ≤ am_sz h := hg0.2
  have q3 : h.length ≤ h'.length := hgr.1
  have q4 : am_sz h ≤ am_sz h' := hgr.2
  have q5 : h'.length ≤ hf.length := g1.1
  have q6 : am_sz h' ≤ am_sz hf := g1.2
  have e1 : h.length - h0.length + (h'.length - h.length) = h'.length - h0.length := by omega
  have e2 : am_sz h - am_sz h0 + (am_sz h' - am_sz h) = am_sz h' - am_sz h0 := by omega
  refine am_row (bytes := am_b N) (maxL := am_n N) (ret := am_r N) (hh := hm j) (ws := Tg) (av := (as.map (am_tr b ad)).toArray) (am_way hC hKx hNs hMs hCl hj hk hw hi hlen hrc hri hP hd) (IH hoh hoA ad) (am_Pc_blind hNs hbA) rfl rfl (by show d + 10 + 1 ≤ _; omega) (by show 8 + (am_n N + 11) + (60 * d + 200) ≤ _; omega)
    (hL.2.2.1.trans hml.symm) (by rw [hbb]; exact hd) (by rw [am_cat_sum]; exact hsum) (fun w hw a' U hW => word_at hW (good_of_word (hG w hw)) (hts w hw)) hcw (hts _ hini) (by omega) (by omega)
    (fun U hU hW => ⟨rfl, by rw [hU]; exact hP, hD, hKx.at hNs hbA hU hW hS⟩) ?_ ?_ (fun _ _ _ => am_P_two)
  · intro v st₀ t L9 hst hW hPo hL9
    obtain ⟨ad', had', e3, z1, z2, z3⟩ := hPo
    rcases oc with v0 | ⟨x, kx⟩
    · have e4 : v = v0.map (am_tr b ad') := Outcome.returned.inj e3
      subst e4
      have hRn : am_Rl cl D c3 A b (am_n M) h0.length ad0 ad' L (v0.toList ++ rest) h' ls s.heap t.heap (locs ++ L9) := am_Rl.call (st := st₀) (by rw [hst]; exact hR) q3 had' hok1 (fun u hu => by
        rcases List.mem_append.mp hu with h1 | h1
        · cases v0 with
          | none => cases h1
          | some v1 =>
            rw [show u = v1 by simpa using h1]
            exact hok2
        · exact (hoR u h1).mono q3) z1 z2 z3 hL9
      have k3 := kk ad' ls t.heap (locs ++ L9) hRn (hg0.trans hgr) (fun x k hx => by cases hx)
      have e5 : (v0.toList ++ rest).map (am_tr b ad') = (v0.map (am_tr b ad')).toList ++ rest.map (am_tr b ad) := by
        rw [List.map_append, am_map_ext hoR had']
        cases v0 <;> rfl
      rw [e1, e2, ← e5]
      exact k3
    · cases e3
  · intro q st₀ t L9 hst hW hPo hL9
    obtain ⟨ad', had', e3, z1, z2, z3⟩ := hPo
    rcases oc with v0 | ⟨x, kx⟩
    · cases e3
    · have e4 : q = ad' kx := Outcome.threw.inj e3
      subst e4
      have hRn : am_Rl cl D c3 A b (am_n M) h0.length ad0 ad' L rest h' ls s.heap t.heap (locs ++ L9) := am_Rl.call (st := st₀) (by rw [hst]; exact hR) q3 had' hok1 (fun u hu => (hoR u hu).mono q3) z1 z2 z3 hL9
      have k3 := kk ad' ls t.heap (locs ++ L9) hRn (hg0.trans hgr) (fun x' k' hx => by cases hx; exact hok2)
      rw [e1, e2, ← am_map_ext hoR had']
      exact k3
end AmStep
