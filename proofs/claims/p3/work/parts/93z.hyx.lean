/-! Calls that keep long arrays as they are. -/
def am_Lx (h h' : am_H) : Prop := ∀ (k n : Nat) (f : Nat → Int64), h[k]? = some (.inr (.inr (n, f))) → h'[k]? = some (.inr (.inr (n, f)))
theorem am_Lx.rf (h : am_H) : am_Lx h h := fun _ _ _ e => e
theorem am_Lx.trans {a b c : am_H} (h1 : am_Lx a b) (h2 : am_Lx b c) : am_Lx a c := fun k n f e => h2 k n f (h1 k n f e)
theorem am_Lx.push (h : am_H) (e : am_E) : am_Lx h (h ++ [e]) := fun k n f he => by
  rw [List.getElem?_append_left (List.getElem?_eq_some_iff.mp he).1]
  exact he
theorem am_Lx.setO {h : am_H} {a : Nat} {x : Nat × List Value} {e : am_E} (ha : h[a]? = some (.inl x)) : am_Lx h (h.set a e) := fun k n f he => by
  have hk : a ≠ k := fun q => by rw [q, he] at ha; cases ha
  rw [List.getElem?_set_ne hk]
  exact he
theorem am_Lx.setA {h : am_H} {a : Nat} {x : Bool × Nat × (Nat → Int32)} {e : am_E} (ha : h[a]? = some (.inr (.inl x))) : am_Lx h (h.set a e) := fun k n f he => by
  have hk : a ≠ k := fun q => by rw [q, he] at ha; cases ha
  rw [List.getElem?_set_ne hk]
  exact he
def isLs (i : Instr) : Bool := match i with
  | .lastore => true
  | _ => false
theorem am_st_lx {F : am_F} {own : String} {ini : Bool} {i : Instr} {len pc pc' : Nat} {L L' : am_L} {S S' : List Value} {h h' : am_H} (hi : isLs i = false) (hs : am_st F own ini i len pc L S h = some (pc', L', S', h')) : am_Lx h h' := by
  unfold am_st at hs
  split at hs
  all_goals (repeat' (split at hs))
  all_goals first
    | (cases hs; done)
    | (cases hs; exact am_Lx.rf _)
    | (cases hs; exact am_Lx.push _ _)
    | (cases hs; exact am_Lx.setO (by assumption))
    | (cases hs; exact am_Lx.setA (by assumption))
    | (cases hi; done)
theorem am_cp_lx {h h' : am_H} {a b : Nat} {sp dp n : Int32} (hs : am_cp h a sp b dp n = some h') : am_Lx h h' := by
  unfold am_cp at hs
  split at hs
  · rename_i h1 h2
    split at hs
    · cases hs
      exact am_Lx.setA h2
    · cases hs
  · cases hs
/-- methods that aren't the law's -/
def nlw (M : am_M) : Bool := (am_y M).cls != "CobolParserLaw" && (am_cd M).all (fun e => !isLs e.2.1)
def nlj (j : Nat) : Bool := match nm_ms j with
  | none => true
  | some M => nlw M
theorem nl_ck : nm_ct.all (fun e => e.1.1 == "CobolParserLaw" || nlj e.2.1) = true := by decide +kernel
theorem am_call_ct {L : Nat} {xs : Nat → Int32} {own : String} {i : Instr} {len j w : Nat} (h : am_call (nm_F L xs) own i len = some (j, w)) : ∃ k, nm_ct.lookup (own, k) = some (j, w) := by
  unfold am_call at h
  split at h
  all_goals (repeat' (split at h))
  all_goals first
    | (cases h; done)
    | (have h1 := Option.some.inj h; cases h1; exact ⟨_, by assumption⟩)
    | exact ⟨_, h⟩
theorem am_lk_mem {α : Type} {β : Type} [BEq α] [LawfulBEq α] {k : α} {v : β} : ∀ {l : List (α × β)}, l.lookup k = some v → (k, v) ∈ l
  | [], h => by cases h
  | (a, b) :: l, h => by
    rw [List.lookup_cons] at h
    split at h
    · rename_i e
      rw [eq_of_beq e]
      exact (Option.some.inj h) ▸ List.mem_cons_self
    · exact List.mem_cons_of_mem _ (am_lk_mem h)
theorem nl_call {L : Nat} {xs : Nat → Int32} {M : am_M} (hM : nlw M = true) {i : Instr} {len j w : Nat} (h : am_call (nm_F L xs) (am_y M).cls i len = some (j, w)) : nlj j = true := by
  obtain ⟨k, hk⟩ := am_call_ct h
  have := List.all_eq_true.mp nl_ck _ (am_lk_mem hk)
  unfold nlw at hM
  rw [Bool.and_eq_true] at hM
  rcases (Bool.or_eq_true _ _).mp this with e | e
  · have h1 := hM.1
    have e' : ((am_y M).cls == "CobolParserLaw") = true := e
    rw [bne, e'] at h1
    cases h1
  · exact e
theorem am_Go_lx {L : Nat} {xs : Nat → Int32} {E : am_EvT} (hE : ∀ j as h o h', nlj j = true → E j as h o h' → am_Lx h h') {M : am_M} (hM : nlw M = true) {a : am_S} {r : am_O × am_H} (hg : am_Go (nm_F L xs) nm_cls nm_ms E M r a) : am_Lx a.2.2.2.2 r.2 := by
  refine hg (fun a => am_Lx a.2.2.2.2 r.2) (fun a hs => ?_) (fun a b hs hb => ?_)
  · rcases hs with ⟨pc, L, v, h, ty, rfl, h2, h3, h4, rfl⟩ | ⟨pc, L, h, rfl, h2, h3, rfl⟩ | ⟨pc, L, k, h, ty, rfl, h2, h3, h4, rfl⟩ | ⟨pc, L, S, h, ⟨x, k⟩, rfl, h2, rfl⟩ | ⟨pc, L, S, h, x, rfl, h2, h3, h4, rfl⟩
    · exact .rf _
    · exact .rf _
    · exact .rf _
    · exact .rf _
    · exact .push _ _
  · rcases hs with ⟨pc, L, S, h, i, len, ⟨pc', L', S', h'⟩, rfl, h2, h3, rfl⟩ | ⟨pc, L, S, h, i, len, j, w, N, as, rest, o, h', rfl, h2, h3, h4, h5, h6, rfl, h8, h9, h10, h11, rfl⟩ | ⟨pc, L, h, i, len, j, k, rest, rfl, h2, h3, h4, rfl⟩ | ⟨pc, L, h, i, len, j, k1, sp, k2, dp, n, rest, h', rfl, h2, h3, h4, h5, rfl⟩ | ⟨pc, L, h, i, len, j, w, x, y, rest, rfl, h2, h3, h4, h5, rfl⟩ | ⟨pc, L, S, h, x, k, f, t, w, rfl, h2, h3, h4, rfl⟩
    · have hi : isLs i = false := by
        have hM2 := (Bool.and_eq_true _ _ ▸ hM : _ ∧ _).2
        have := List.all_eq_true.mp hM2 _ (am_lk_mem h2)
        simpa using this
      exact (am_st_lx hi h3).trans hb
    · have h12 := hE _ _ _ _ _ (nl_call hM h3) h11
      rcases o with v | x
      · exact h12.trans hb
      · exact h12.trans hb
    · exact hb
    · exact (am_cp_lx h5).trans hb
    · exact hb
    · exact hb
theorem am_Ev_lx {L : Nat} {xs : Nat → Int32} : ∀ (d : Nat) (j : Nat) (as : List Value) (h : am_H) (o : am_O) (h' : am_H), nlj j = true → am_Ev (nm_F L xs) nm_cls nm_ms d j as h o h' → am_Lx h h'
  | 0, _, _, _, _, _, _, h => h.elim
  | d + 1, j, as, h, o, h', hj, ⟨M, hM, _, _, _, hg⟩ => by
    unfold nlj at hj
    rw [hM] at hj
    exact am_Go_lx (fun j as h o h' hj he => am_Ev_lx d j as h o h' hj he) hj hg
theorem hy_cx {L : Nat} {xs : Nat → Int32} {D : Nat} {M : am_M} {Q : am_O → am_H → Prop} {pc k j ci m d : Nat} {N : am_M} {as rest S : List Value} {LA : am_L} {rho : Nat → Nat} {g : a2_G} {r : a2_A} {h : am_H} {C : Nat → Prop} {Q1 : Option Value → a2_G → a2_A → Prop} {X1 : Nat → a2_G → a2_A → Prop} {q : vw_C}
    (h1 : (am_cd M).lookup pc = some (.invokevirtual k, 3)) (h2 : nm_ct.lookup ((am_y M).cls, k) = some (j, 0)) (h5 : nm_ms j = some N) (h6 : as.length + 1 = am_k N) (hq : nm_cls[ci]? = some q) (hq2 : q.1 = (am_y N).cls) (hy : nm_Y ci ≠ []) (hS : S = ((Value.ref ci :: as).map (a2_tv rho)).reverse ++ rest) (h10 : (rest.map fun v => v.category).sum ≤ 8) (hD : d + 1 ≤ D) (hR : a2_Rel nm_Y rho g r h) (hC : cpC nm_Y C) (hs : cpS C (.ref ci :: as)) (hlx : nlj j = true) (hw : wp (ev L xs m d j (.ref ci :: as) g r) Q1 X1)
    (k0 : ∀ g' r' rho' h', Q1 none g' r' → hN C rho g r h 0 rho' g' r' h' → am_Lx h h' → hG L xs D M Q (none, pc + 3, LA, rest, h'))
    (k1 : ∀ v g' r' rho' h', Q1 (some (.int v)) g' r' → hN C rho g r h 0 rho' g' r' h' → am_Lx h h' → hG L xs D M Q (none, pc + 3, LA, .int v :: rest, h'))
    (kx : ∀ x k g' r' rho' h', X1 x g' r' → hN C rho g r h 1 rho' g' r' h' → am_Lx h h' → hG L xs D M Q (some (x, k), pc, LA, rest, h')) : hG L xs D M Q (none, pc, LA, S, h) := by
  have hrc : am_rc nm_cls N ((Value.ref ci :: as).map (a2_tv rho)) h := ⟨rho ci, ci, a2_fs nm_Y rho ci g, as.map (a2_tv rho), q, rfl, hR.1 ci hy, hq, hq2⟩
  have hcl : am_call (nm_F L xs) (am_y M).cls (.invokevirtual k) 3 = some (j, 0) := am_kv h2 (Or.inl rfl)
  have hl : ((Value.ref ci :: as).map (a2_tv rho)).length = am_k N := by rw [List.length_map]; exact h6
  have hstep : ∀ (o : am_O) (h' : am_H), am_Ev (nm_F L xs) nm_cls nm_ms (d + 1) j ((Value.ref ci :: as).map (a2_tv rho)) h o h' → hG L xs D M Q (am_bk pc LA rest o h') → hG L xs D M Q (none, pc, LA, S, h) := fun o h' he kk => hy_b (fun k0 => am_Go.step (Or.inr (Or.inl ⟨pc, LA, S, h, .invokevirtual k, 3, j, 0, N, (Value.ref ci :: as).map (a2_tv rho), rest, o, h', rfl, h1, hcl, by decide, h5, hl, hS, fun _ => hrc, fun e => absurd e (by decide), h10, am_Ev.mono hD he, rfl⟩)) k0) kk
  rcases wp_ev (cp_w hC hs hw) with ⟨o, g', r', hz, hq1, hf⟩ | ⟨x, g', r', hz, hx1, hf⟩
  · obtain ⟨rho', h', o1, e1, e2, e3, e4, e5⟩ := nm_sim L xs d _ _ _ _ _ _ _ rho h (ev_sound L xs m d j _ g r _ hz) hR
    have hlk := am_Ev_lk _ _ _ _ _ _ e1
    cases o with
    | none =>
      have : o1 = .inl none := by
        cases o1 with
        | inl w => cases w with
          | none => rfl
          | some w => exact e4.elim
        | inr w => exact e4.elim
      subst this
      exact hstep _ _ e1 (k0 g' r' rho' h' hq1 ⟨e2, e3, e5, hlk, hf⟩ (am_Ev_lx _ _ _ _ _ _ hlx e1))
    | some v =>
      cases v with
      | int v =>
        have : o1 = .inl (some (.int v)) := by
          cases o1 with
          | inl w => cases w with
            | none => exact e4.elim
            | some w => exact congrArg (fun w => Sum.inl (some w)) e4
          | inr w => exact e4.elim
        subst this
        exact hstep _ _ e1 (k1 v g' r' rho' h' hq1 ⟨e2, e3, e5, hlk, hf⟩ (am_Ev_lx _ _ _ _ _ _ hlx e1))
      | _ => cases o1 <;> exact e4.elim
  · obtain ⟨rho', h', o1, e1, e2, e3, e4, e5⟩ := nm_sim L xs d _ _ _ _ _ _ _ rho h (ev_sound L xs m d j _ g r _ hz) hR
    have hlk := am_Ev_lk _ _ _ _ _ _ e1
    obtain ⟨kk, this⟩ : ∃ kk, o1 = .inr (x, kk) := by
      cases o1 with
      | inl w => exact e4.elim
      | inr w =>
        obtain ⟨x', kk⟩ := w
        have e6 : x' = x := e4
        exact ⟨kk, by rw [e6]⟩
    subst this
    exact hstep _ _ e1 (kx x kk g' r' rho' h' hx1 ⟨e2, e3, e5, hlk, hf⟩ (am_Ev_lx _ _ _ _ _ _ hlx e1))
