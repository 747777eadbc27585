/-! Runs of the first machine whose calls are known from the function. -/
/-- long arrays stay long arrays -/
def am_Lk (h h' : am_H) : Prop := ∀ (k n : Nat) (f : Nat → Int64), h[k]? = some (.inr (.inr (n, f))) → ∃ f' : Nat → Int64, h'[k]? = some (.inr (.inr (n, f')))
theorem am_Lk.rf (h : am_H) : am_Lk h h := fun _ _ f e => ⟨f, e⟩
theorem am_Lk.trans {a b c : am_H} (h1 : am_Lk a b) (h2 : am_Lk b c) : am_Lk a c := fun k n f e => by
  obtain ⟨f', e'⟩ := h1 k n f e
  exact h2 k n f' e'
theorem am_Lk.push (h : am_H) (e : am_E) : am_Lk h (h ++ [e]) := fun k n f he => ⟨f, by rw [List.getElem?_append_left (List.getElem?_eq_some_iff.mp he).1]; exact he⟩
theorem am_Lk.setO {h : am_H} {a : Nat} {x : Nat × List Value} {e : am_E} (ha : h[a]? = some (.inl x)) : am_Lk h (h.set a e) := fun k n f he => ⟨f, by
  have hk : a ≠ k := fun q => by rw [q, he] at ha; cases ha
  rw [List.getElem?_set_ne hk]
  exact he⟩
theorem am_Lk.setA {h : am_H} {a : Nat} {x : Bool × Nat × (Nat → Int32)} {e : am_E} (ha : h[a]? = some (.inr (.inl x))) : am_Lk h (h.set a e) := fun k n f he => ⟨f, by
  have hk : a ≠ k := fun q => by rw [q, he] at ha; cases ha
  rw [List.getElem?_set_ne hk]
  exact he⟩
theorem am_Lk.setL {h : am_H} {a n : Nat} {f f' : Nat → Int64} (ha : h[a]? = some (.inr (.inr (n, f)))) : am_Lk h (h.set a (.inr (.inr (n, f')))) := fun k m f2 he => by
  by_cases hk : a = k
  · subst hk
    rw [ha] at he
    cases he
    exact ⟨f', by rw [List.getElem?_set_self (List.getElem?_eq_some_iff.mp ha).1]⟩
  · exact ⟨f2, by rw [List.getElem?_set_ne hk]; exact he⟩
theorem am_st_lk {F : am_F} {own : String} {ini : Bool} {i : Instr} {len pc pc' : Nat} {L L' : am_L} {S S' : List Value} {h h' : am_H} (hs : am_st F own ini i len pc L S h = some (pc', L', S', h')) : am_Lk h h' := by
  unfold am_st at hs
  split at hs
  all_goals (repeat' (split at hs))
  all_goals first
    | (cases hs; done)
    | (cases hs; exact am_Lk.rf _)
    | (cases hs; exact am_Lk.push _ _)
    | (cases hs; exact am_Lk.setO (by assumption))
    | (cases hs; exact am_Lk.setA (by assumption))
    | (cases hs; exact am_Lk.setL (by assumption))
def am_lkE (E : am_EvT) : Prop := ∀ j as h o h', E j as h o h' → am_Lk h h'
theorem am_cp_lk {h h' : am_H} {a b : Nat} {sp dp n : Int32} (hs : am_cp h a sp b dp n = some h') : am_Lk h h' := by
  unfold am_cp at hs
  split at hs
  · rename_i h1 h2
    split at hs
    · cases hs
      exact am_Lk.setA h2
    · cases hs
  · cases hs
theorem am_Go_lk {F : am_F} {cl : List vw_C} {ms : Nat → Option am_M} {E : am_EvT} (hE : am_lkE E) {M : am_M} {a : am_S} {r : am_O × am_H} (hg : am_Go F cl ms E M r a) : am_Lk a.2.2.2.2 r.2 := by
  refine hg (fun a => am_Lk a.2.2.2.2 r.2) (fun a hs => ?_) (fun a b hs hb => ?_)
  · rcases hs with ⟨pc, L, v, h, ty, rfl, h2, h3, h4, rfl⟩ | ⟨pc, L, h, rfl, h2, h3, rfl⟩ | ⟨pc, L, k, h, ty, rfl, h2, h3, h4, rfl⟩ | ⟨pc, L, S, h, ⟨x, k⟩, rfl, h2, rfl⟩ | ⟨pc, L, S, h, x, rfl, h2, h3, h4, rfl⟩
    · exact .rf _
    · exact .rf _
    · exact .rf _
    · exact .rf _
    · exact .push _ _
  · rcases hs with ⟨pc, L, S, h, i, len, ⟨pc', L', S', h'⟩, rfl, h2, h3, rfl⟩ | ⟨pc, L, S, h, i, len, j, w, N, as, rest, o, h', rfl, h2, h3, h4, h5, h6, rfl, h8, h9, h10, h11, rfl⟩ | ⟨pc, L, h, i, len, j, k, rest, rfl, h2, h3, h4, rfl⟩ | ⟨pc, L, h, i, len, j, k1, sp, k2, dp, n, rest, h', rfl, h2, h3, h4, h5, rfl⟩ | ⟨pc, L, h, i, len, j, w, x, y, rest, rfl, h2, h3, h4, h5, rfl⟩ | ⟨pc, L, S, h, x, k, f, t, w, rfl, h2, h3, h4, rfl⟩
    · exact (am_st_lk h3).trans hb
    · have h12 := hE _ _ _ _ _ h11
      rcases o with v | x
      · exact h12.trans hb
      · exact h12.trans hb
    · exact hb
    · exact (am_cp_lk h5).trans hb
    · exact hb
    · exact hb
theorem am_Ev_lk {F : am_F} {cl : List vw_C} {ms : Nat → Option am_M} : ∀ d, am_lkE (am_Ev F cl ms d)
  | 0 => fun _ _ _ _ _ h => h.elim
  | d + 1 => fun j as h o h' ⟨M, _, _, _, _, hg⟩ => am_Go_lk (am_Ev_lk d) hg
/-- from a on, M ends, and so -/
def hG (L : Nat) (xs : Nat → Int32) (D : Nat) (M : am_M) (Q : am_O → am_H → Prop) (a : am_S) : Prop := ∃ o h', am_Go (nm_F L xs) nm_cls nm_ms (am_Ev (nm_F L xs) nm_cls nm_ms D) M (o, h') a ∧ Q o h'
theorem hy_b {L : Nat} {xs : Nat → Int32} {D : Nat} {M : am_M} {Q : am_O → am_H → Prop} {a b : am_S} (H : ∀ {r : am_O × am_H}, am_Go (nm_F L xs) nm_cls nm_ms (am_Ev (nm_F L xs) nm_cls nm_ms D) M r b → am_Go (nm_F L xs) nm_cls nm_ms (am_Ev (nm_F L xs) nm_cls nm_ms D) M r a) (k : hG L xs D M Q b) : hG L xs D M Q a := by
  obtain ⟨o, h', k1, k2⟩ := k
  exact ⟨o, h', H k1, k2⟩
theorem hy_r {L : Nat} {xs : Nat → Int32} {D : Nat} {M : am_M} {Q : am_O → am_H → Prop} {G : am_F} (H : am_agr (nm_F L xs) G (am_y M).cls) (n : Nat) {a b : Nat × am_L × List Value × am_H} (h : am_rn G M n a = some b) (k : hG L xs D M Q (none, b)) : hG L xs D M Q (none, a) := hy_b (fun k => am_rg H n h k) k
/-- what a call leaves -/
def hN (C : Nat → Prop) (rho : Nat → Nat) (g : a2_G) (r : a2_A) (h : am_H) (t : Nat) (rho' : Nat → Nat) (g' : a2_G) (r' : a2_A) (h' : am_H) : Prop := a2_Rel nm_Y rho' g' r' h' ∧ a2_ex nm_RG rho rho' ∧ a2_bd nm_RG t r h r' h' ∧ am_Lk h h' ∧ cpF C g r g' r'
theorem hN.trans {C : Nat → Prop} {rho : Nat → Nat} {g : a2_G} {r : a2_A} {h : am_H} {t : Nat} {rho' : Nat → Nat} {g' : a2_G} {r' : a2_A} {h' : am_H} {t' : Nat} {rho2 : Nat → Nat} {g2 : a2_G} {r2 : a2_A} {h2 : am_H} (a : hN C rho g r h t rho' g' r' h') (b : hN C rho' g' r' h' t' rho2 g2 r2 h2) : hN C rho g r h (t + t') rho2 g2 r2 h2 :=
  ⟨b.1, a.2.1.trans b.2.1, a.2.2.1.trans b.2.2.1, a.2.2.2.1.trans b.2.2.2.1, fun k hk => (b.2.2.2.2.1 k hk).trans (a.2.2.2.2.1 k hk), fun k hk => (b.2.2.2.2.2 k hk).trans (a.2.2.2.2.2 k hk)⟩
theorem hN.le {C : Nat → Prop} {rho : Nat → Nat} {g : a2_G} {r : a2_A} {h : am_H} {t t' : Nat} {rho' : Nat → Nat} {g' : a2_G} {r' : a2_A} {h' : am_H} (a : hN C rho g r h t rho' g' r' h') (ht : t ≤ t') : hN C rho g r h t' rho' g' r' h' := by
  obtain ⟨a1, a2, ⟨a3, a4⟩, a5⟩ := a
  exact ⟨a1, a2, ⟨by omega, by omega⟩, a5⟩
theorem hN.rf {C : Nat → Prop} {rho : Nat → Nat} {g : a2_G} {r : a2_A} {h : am_H} (hR : a2_Rel nm_Y rho g r h) : hN C rho g r h 0 rho g r h := ⟨hR, .rf _ _, .rf, .rf _, fun _ _ => rfl, fun _ _ => rfl⟩
theorem hN.rho {C : Nat → Prop} {rho : Nat → Nat} {g : a2_G} {r : a2_A} {h : am_H} {t : Nat} {rho' : Nat → Nat} {g' : a2_G} {r' : a2_A} {h' : am_H} (a : hN C rho g r h t rho' g' r' h') (c : Nat) (hc : c < 10000) : rho' c = rho c := a.2.1 c (fun q _ e => by omega)
theorem hy_gf {L : Nat} {xs : Nat → Int32} {D : Nat} {M : am_M} {Q : am_O → am_H → Prop} {pc k ci j cj a : Nat} {ty : FieldType} {fin : Bool} {LA : am_L} {S : List Value} {rho : Nat → Nat} {g : a2_G} {r : a2_A} {h : am_H} (h1 : (am_cd M).lookup pc = some (.getfield k, 3)) (h2 : nm_fl.lookup ((am_y M).cls, k) = some (ci, j, ty, fin)) (hy : (nm_Y ci)[j]? = some (2, cj)) (hR : a2_Rel nm_Y rho g r h) (ha : rho ci = a) (q : hG L xs D M Q (none, pc + 3, LA, .ref (rho cj) :: S, h)) : hG L xs D M Q (none, pc, LA, .ref a :: S, h) := by
  subst ha
  refine hy_b (fun {r0} k0 => am_Go.step (Or.inl ⟨pc, LA, .ref (rho ci) :: S, h, _, _, (pc + 3, LA, .ref (rho cj) :: S, h), rfl, h1, ?_, rfl⟩) k0) q
  have hne : nm_Y ci ≠ [] := fun e => by rw [e] at hy; cases hy
  have h3 := hR.1 ci hne
  have h2' : am_fl (nm_F L xs) (am_y M).cls k = some (ci, j, ty, fin) := h2
  have h4 : (a2_fs nm_Y rho ci g)[j]? = some (.ref (rho cj)) := by
    unfold a2_fs
    rw [List.getElem?_mapIdx, hy]
    rfl
  simp only [am_st, h2', h3, h4, if_true]
theorem hy_c {L : Nat} {xs : Nat → Int32} {D : Nat} {M : am_M} {Q : am_O → am_H → Prop} {pc k j ci m d : Nat} {N : am_M} {as rest S : List Value} {LA : am_L} {rho : Nat → Nat} {g : a2_G} {r : a2_A} {h : am_H} {C : Nat → Prop} {Q1 : Option Value → a2_G → a2_A → Prop} {X1 : Nat → a2_G → a2_A → Prop} {q : vw_C}
    (h1 : (am_cd M).lookup pc = some (.invokevirtual k, 3)) (h2 : nm_ct.lookup ((am_y M).cls, k) = some (j, 0)) (h5 : nm_ms j = some N) (h6 : as.length + 1 = am_k N) (hq : nm_cls[ci]? = some q) (hq2 : q.1 = (am_y N).cls) (hy : nm_Y ci ≠ []) (hS : S = ((Value.ref ci :: as).map (a2_tv rho)).reverse ++ rest) (h10 : (rest.map fun v => v.category).sum ≤ 8) (hD : d + 1 ≤ D) (hR : a2_Rel nm_Y rho g r h) (hC : cpC nm_Y C) (hs : cpS C (.ref ci :: as)) (hw : wp (ev L xs m d j (.ref ci :: as) g r) Q1 X1)
    (k0 : ∀ g' r' rho' h', Q1 none g' r' → hN C rho g r h 0 rho' g' r' h' → hG L xs D M Q (none, pc + 3, LA, rest, h'))
    (k1 : ∀ v g' r' rho' h', Q1 (some (.int v)) g' r' → hN C rho g r h 0 rho' g' r' h' → hG L xs D M Q (none, pc + 3, LA, .int v :: rest, h'))
    (kx : ∀ x k g' r' rho' h', X1 x g' r' → hN C rho g r h 1 rho' g' r' h' → hG L xs D M Q (some (x, k), pc, LA, rest, h')) : hG L xs D M Q (none, pc, LA, S, h) := by
  have hrc : am_rc nm_cls N ((Value.ref ci :: as).map (a2_tv rho)) h := ⟨rho ci, ci, a2_fs nm_Y rho ci g, as.map (a2_tv rho), q, rfl, hR.1 ci hy, hq, hq2⟩
  have hcl : am_call (nm_F L xs) (am_y M).cls (.invokevirtual k) 3 = some (j, 0) := am_kv h2 (Or.inl rfl)
  have hl : ((Value.ref ci :: as).map (a2_tv rho)).length = am_k N := by rw [List.length_map]; exact h6
  have hstep : ∀ (o : am_O) (h' : am_H), am_Ev (nm_F L xs) nm_cls nm_ms (d + 1) j ((Value.ref ci :: as).map (a2_tv rho)) h o h' → hG L xs D M Q (am_bk pc LA rest o h') → hG L xs D M Q (none, pc, LA, S, h) := fun o h' he kk => hy_b (fun k0 => am_Go.step (Or.inr (Or.inl ⟨pc, LA, S, h, .invokevirtual k, 3, j, 0, N, (Value.ref ci :: as).map (a2_tv rho), rest, o, h', rfl, h1, hcl, by decide, h5, hl, hS, fun _ => hrc, fun e => absurd e (by decide), h10, am_Ev.mono hD he, rfl⟩)) k0) kk
  rcases wp_ev (cp_w hC hs hw) with ⟨o, g', r', hz, hq1, hf⟩ | ⟨x, g', r', hz, hx1, hf⟩
  · obtain ⟨rho', h', o1, e1, e2, e3, e4, e5⟩ := nm_sim L xs d _ _ _ _ _ _ _ rho h (ev_sound L xs m d j _ g r _ hz) hR
    have hlk := am_Ev_lk _ _ _ _ _ _ e1
    cases o with
    | none =>
      have : o1 = .inl none := by
        cases o1 with
        | inl w => cases w with
          | none => rfl
          | some w => exact e4.elim
        | inr w => exact e4.elim
      subst this
      exact hstep _ _ e1 (k0 g' r' rho' h' hq1 ⟨e2, e3, e5, hlk, hf⟩)
    | some v =>
      cases v with
      | int v =>
        have : o1 = .inl (some (.int v)) := by
          cases o1 with
          | inl w => cases w with
            | none => exact e4.elim
            | some w => exact congrArg (fun w => Sum.inl (some w)) e4
          | inr w => exact e4.elim
        subst this
        exact hstep _ _ e1 (k1 v g' r' rho' h' hq1 ⟨e2, e3, e5, hlk, hf⟩)
      | _ => cases o1 <;> exact e4.elim
  · obtain ⟨rho', h', o1, e1, e2, e3, e4, e5⟩ := nm_sim L xs d _ _ _ _ _ _ _ rho h (ev_sound L xs m d j _ g r _ hz) hR
    have hlk := am_Ev_lk _ _ _ _ _ _ e1
    obtain ⟨kk, this⟩ : ∃ kk, o1 = .inr (x, kk) := by
      cases o1 with
      | inl w => exact e4.elim
      | inr w =>
        obtain ⟨x', kk⟩ := w
        have e6 : x' = x := e4
        exact ⟨kk, by rw [e6]⟩
    subst this
    exact hstep _ _ e1 (kx x kk g' r' rho' h' hx1 ⟨e2, e3, e5, hlk, hf⟩)
