/-! The second machine's calls are the first one's. -/
def a2_up (rho : Nat → Nat) (k v : Nat) : Nat → Nat := fun i => if i = k then v else rho i
def a2_okZ (Y : a2_Y) : Prop := ∀ ci, (Y ci ≠ [] → ci < 9000) ∧ ∀ j q : Nat, (Y ci)[j]? = some (2, q) → q < 9000
theorem a2_f1_up {Y : a2_Y} (hZ : a2_okZ Y) {rho : Nat → Nat} {c i a v : Nat} {k : Nat × Nat} {g : a2_G} (hk : (Y c)[i]? = some k) (hne : 100 * c + i ≠ a) : a2_f1 (a2_up rho (10000 + a) v) c i k g = a2_f1 rho c i k g := by
  have e1 : 10000 + (100 * c + i) ≠ 10000 + a := by omega
  unfold a2_f1
  split
  · rfl
  · rfl
  · rename_i cj
    have hc := (hZ c).2 i cj hk
    have e2 : cj ≠ 10000 + a := by omega
    simp only [a2_up, if_neg e2]
  · simp only [a2_up, if_neg e1]
  · simp only [a2_up, if_neg e1]
  · rfl
theorem a2_fs_len {Y : a2_Y} {rho : Nat → Nat} {c : Nat} {g : a2_G} : (a2_fs Y rho c g).length = (Y c).length := by
  simp [a2_fs]
theorem a2_fs_none {Y : a2_Y} {rho : Nat → Nat} {c i : Nat} {g : a2_G} (h : (Y c)[i]? = none) : (a2_fs Y rho c g)[i]? = none := by
  rw [List.getElem?_eq_none_iff] at h ⊢
  rw [a2_fs_len]
  exact h
theorem a2_fs_new {Y : a2_Y} (hZ : a2_okZ Y) {rho : Nat → Nat} {ci j v x : Nat} {g : a2_G} (hk : (Y ci)[j]? = some (3, x)) : a2_fs Y (a2_up rho (10000 + (100 * ci + j)) v) ci g = (a2_fs Y rho ci g).set j (.ref v) := by
  apply List.ext_getElem?
  intro i
  by_cases hi : i = j
  · subst hi
    have hlt : i < (a2_fs Y rho ci g).length := by rw [a2_fs_len]; exact (List.getElem?_eq_some_iff.mp hk).1
    rw [List.getElem?_set_self hlt, a2_fs_get hk]
    simp [a2_f1, a2_up]
  · rw [List.getElem?_set_ne (Ne.symm hi)]
    cases hq : (Y ci)[i]? with
    | none => rw [a2_fs_none hq, a2_fs_none hq]
    | some k =>
      rw [a2_fs_get hq, a2_fs_get hq, a2_f1_up hZ hq (by omega)]
theorem a2_fs_old {Y : a2_Y} (hZ : a2_okZ Y) {rho : Nat → Nat} {c ci j v : Nat} {g : a2_G} (hl : (Y c).length ≤ 100) (hj : j < 100) (hne : c ≠ ci) : a2_fs Y (a2_up rho (10000 + (100 * ci + j)) v) c g = a2_fs Y rho c g := by
  apply List.ext_getElem?
  intro i
  cases hq : (Y c)[i]? with
  | none => rw [a2_fs_none hq, a2_fs_none hq]
  | some k =>
    have hi : i < 100 := Nat.lt_of_lt_of_le (List.getElem?_eq_some_iff.mp hq).1 hl
    rw [a2_fs_get hq, a2_fs_get hq, a2_f1_up hZ hq (by omega)]
/-- cells behind the last change nothing -/
theorem a2_Rel.app {Y : a2_Y} {rho : Nat → Nat} {g : a2_G} {r : a2_A} {h : am_H} (hR : a2_Rel Y rho g r h) (e : am_E) : a2_Rel Y rho g r (h ++ [e]) := by
  obtain ⟨h1, h2, h3, h4, h5⟩ := hR
  have ap : ∀ {k : Nat} {x : am_E}, h[k]? = some x → (h ++ [e])[k]? = some x := fun {k x} hk => by
    rw [List.getElem?_append_left (List.getElem?_eq_some_iff.mp hk).1]
    exact hk
  exact ⟨fun c hc => ap (h1 c hc), fun c i y hc => ap (h2 c i y hc), fun c i y hc => ap (h3 c i y hc), h4, h5⟩
/-- an array field gets the array made last -/
theorem a2_Rel.fresh {Y : a2_Y} (hZ : a2_okZ Y) {rho : Nat → Nat} {g : a2_G} {r : a2_A} {h : am_H} (hR : a2_Rel Y rho g r h) {ci j x : Nat} (hk : (Y ci)[j]? = some (3, x)) (e : Nat × (Nat → Int32)) :
    a2_Rel Y (a2_up rho (10000 + (100 * ci + j)) h.length) g (a2_ua r (100 * ci + j) e) ((h ++ [(Sum.inr (Sum.inl (false, e)) : am_E)]).set (rho ci) (.inl (ci, (a2_fs Y rho ci g).set j (.ref h.length)))) := by
  obtain ⟨h1, h2, h3, h4, h5⟩ := hR
  have hcell := h1 ci (a2_ne hk)
  have hlt := (List.getElem?_eq_some_iff.mp hcell).1
  have hj : j < 100 := Nat.lt_of_lt_of_le (List.getElem?_eq_some_iff.mp hk).1 (h5 ci)
  have bound : ∀ {c i y z' : Nat}, (Y c)[i]? = some (z', y) → i < 100 := fun {c i y z'} hh => Nat.lt_of_lt_of_le (List.getElem?_eq_some_iff.mp hh).1 (h5 c)
  have hlt2 : rho ci < (h ++ [(Sum.inr (Sum.inl (false, e)) : am_E)]).length := by rw [List.length_append]; omega
  have up1 : ∀ c, Y c ≠ [] → a2_up rho (10000 + (100 * ci + j)) h.length c = rho c := fun c hc => by
    have h9 := (hZ c).1 hc
    have e2 : c ≠ 10000 + (100 * ci + j) := by omega
    simp only [a2_up, if_neg e2]
  have up2 : ∀ {c i y : Nat}, (Y c)[i]? = some (3, y) ∨ (Y c)[i]? = some (4, y) → ¬ (c = ci ∧ i = j) → a2_up rho (10000 + (100 * ci + j)) h.length (10000 + (100 * c + i)) = rho (10000 + (100 * c + i)) ∧ 100 * c + i ≠ 100 * ci + j := by
    intro c i y hc hne
    have hi : i < 100 := by rcases hc with hc | hc <;> exact bound hc
    have e2 : 10000 + (100 * c + i) ≠ 10000 + (100 * ci + j) := fun e9 => hne (by omega)
    refine ⟨by simp only [a2_up, if_neg e2], fun e9 => hne (by omega)⟩
  have cells : ∀ {c i y : Nat}, (Y c)[i]? = some (3, y) ∨ (Y c)[i]? = some (4, y) → ∃ b' e', h[rho (10000 + (100 * c + i))]? = some (.inr (.inl (b', e'))) := by
    intro c i y hc
    rcases hc with hc | hc
    · exact ⟨_, _, h2 c i y hc⟩
    · exact ⟨_, _, h3 c i y hc⟩
  have nobj : ∀ {k : Nat} {b' : Bool} {e' : Nat × (Nat → Int32)}, h[k]? = some (.inr (.inl (b', e'))) → rho ci ≠ k := fun {k b' e'} hh e9 => by
    rw [← e9, hcell] at hh
    cases hh
  have keep : ∀ {k : Nat} {b' : Bool} {e' : Nat × (Nat → Int32)}, h[k]? = some (.inr (.inl (b', e'))) → ((h ++ [(Sum.inr (Sum.inl (false, e)) : am_E)]).set (rho ci) (.inl (ci, (a2_fs Y rho ci g).set j (.ref h.length))))[k]? = some (.inr (.inl (b', e'))) := fun {k b' e'} hh => by
    rw [List.getElem?_set_ne (nobj hh), List.getElem?_append_left (List.getElem?_eq_some_iff.mp hh).1]
    exact hh
  refine ⟨fun c hc => ?_, fun c i y hc => ?_, fun c i y hc => ?_, fun c i y c' i' y' hc hc' he => ?_, h5⟩
  · rw [up1 c hc]
    by_cases hs : c = ci
    · subst hs
      rw [List.getElem?_set_self hlt2, a2_fs_new hZ hk]
    · have h6 := h1 c hc
      have hne : rho ci ≠ rho c := fun e9 => by
        rw [← e9, hcell] at h6
        have h8 : ci = c := congrArg (fun q : Nat × List Value => q.1) (Sum.inl.inj (Option.some.inj h6))
        exact hs h8.symm
      rw [List.getElem?_set_ne hne, List.getElem?_append_left (List.getElem?_eq_some_iff.mp h6).1, a2_fs_old hZ (h5 c) hj hs]
      exact h6
  · by_cases hs : c = ci ∧ i = j
    · obtain ⟨rfl, rfl⟩ := hs
      have e1 : a2_up rho (10000 + (100 * c + i)) h.length (10000 + (100 * c + i)) = h.length := by simp [a2_up]
      have hne : rho c ≠ h.length := by omega
      rw [e1, List.getElem?_set_ne hne]
      simp [a2_ua]
    · obtain ⟨q1, q2⟩ := up2 (Or.inl hc) hs
      rw [q1]
      simp only [a2_ua, if_neg q2]
      exact keep (h2 c i y hc)
  · by_cases hs : c = ci ∧ i = j
    · obtain ⟨rfl, rfl⟩ := hs
      rw [hk] at hc
      cases hc
    · obtain ⟨q1, q2⟩ := up2 (Or.inr hc) hs
      rw [q1]
      simp only [a2_ua, if_neg q2]
      exact keep (h3 c i y hc)
  · have e1 : a2_up rho (10000 + (100 * ci + j)) h.length (10000 + (100 * ci + j)) = h.length := by simp [a2_up]
    by_cases hs : c = ci ∧ i = j
    · by_cases hs' : c' = ci ∧ i' = j
      · exact ⟨hs.1.trans hs'.1.symm, hs.2.trans hs'.2.symm⟩
      · obtain ⟨q1, _⟩ := up2 hc' hs'
        obtain ⟨b', e', q3⟩ := cells hc'
        have q4 := (List.getElem?_eq_some_iff.mp q3).1
        rw [hs.1, hs.2, e1, q1] at he
        omega
    · obtain ⟨q1, _⟩ := up2 hc hs
      by_cases hs' : c' = ci ∧ i' = j
      · obtain ⟨b', e', q3⟩ := cells hc
        have q4 := (List.getElem?_eq_some_iff.mp q3).1
        rw [hs'.1, hs'.2, e1, q1] at he
        omega
      · obtain ⟨q2, _⟩ := up2 hc' hs'
        rw [q1, q2] at he
        exact h4 c i y c' i' y' hc hc' he
theorem a2_cat (rho : Nat → Nat) (S : List Value) : ((S.map (a2_tv rho)).map fun v => v.category) = S.map fun v => v.category := by
  rw [List.map_map]
  exact List.map_congr_left fun v _ => a2_tv_cat rho v
/-- Arrays.copyOf to another length, on the first machine -/
def a2_cpy (F : am_F) (cl : List vw_C) (ms : Nat → Option am_M) (jc : Nat) : Prop := (∃ N, ms jc = some N ∧ am_k N = 2) ∧ ∀ (a : Nat) (n : Int32) (h : am_H) (e : Nat × (Nat → Int32)), h[a]? = some (Sum.inr (Sum.inl (false, e))) → ¬ n < 0 → n.toNatClampNeg ≤ 60000000 → n.toNatClampNeg ≠ e.1 → e.1 ≤ 60000000 → am_Ev F cl ms 1 jc [.ref a, .int n] h (.inl (some (.ref h.length))) (h ++ [(Sum.inr (Sum.inl (false, a2_cp n.toNatClampNeg e)) : am_E)])
/-- what is to be shown of calls -/
def a2_Cm (F : am_F) (cl : List vw_C) (ms : Nat → Option am_M) (Y : a2_Y) (RG : List Nat) (jc d : Nat) : Prop := ∀ j as g r o g' r' rho h, a2_Ev F cl ms Y RG jc d j as g r o g' r' → a2_Rel Y rho g r h →
  ∃ (rho' : Nat → Nat) (h' : am_H) (o1 : am_O), am_Ev F cl ms (d + 1) j (as.map (a2_tv rho)) h o1 h' ∧ a2_Rel Y rho' g' r' h' ∧ a2_ex RG rho rho' ∧ a2_oc o o1 ∧ a2_bd RG (a2_tn none o) r h r' h'
theorem a2_keepF {F : am_F} {cl : List vw_C} {ms : Nat → Option am_M} {Y : a2_Y} {RG : List Nat} {d : Nat} {M : am_M} {z : a2_O × a2_G × a2_A} {a : a2_S} (hf : a2_fin F M a z) : a2_Pm F cl ms Y RG d M z a := by
  intro rho h x1 hR hx
  rcases hf with ⟨pc, L, v, g, r, ty, rfl, h1, h2, h3, rfl⟩ | ⟨pc, L, g, r, rfl, h1, h2, rfl⟩ | ⟨pc, L, S, g, r, x, rfl, h1, rfl⟩ | ⟨pc, L, S, g, r, x, rfl, h1, h2, h3, rfl⟩
  · cases x1 with
    | some q => cases hx
    | none => exact ⟨rho, h, .inl (some (.int v)), am_Go.fin (Or.inl ⟨pc, a2_tl rho L, v, h, ty, rfl, h1, h2, h3, rfl⟩), hR, a2_ex.rf RG rho, rfl, a2_bd.rf, fun hn => absurd rfl hn⟩
  · cases x1 with
    | some q => cases hx
    | none => exact ⟨rho, h, .inl none, am_Go.fin (Or.inr (Or.inl ⟨pc, a2_tl rho L, h, rfl, h1, h2, rfl⟩)), hR, a2_ex.rf RG rho, trivial, a2_bd.rf, fun hn => absurd rfl hn⟩
  · cases x1 with
    | none => cases hx
    | some q =>
      obtain ⟨x', k⟩ := q
      have hx' : x' = x := Option.some.inj hx
      subst hx'
      refine ⟨rho, h, .inr (x', k), am_Go.fin (Or.inr (Or.inr (Or.inr (Or.inl ⟨pc, a2_tl rho L, S.map (a2_tv rho), h, (x', k), rfl, ?_, rfl⟩)))), hR, a2_ex.rf RG rho, rfl, a2_bd.rf, fun _ => ⟨_, rfl⟩⟩
      intro q hq
      rw [h1] at hq
      cases hq
  · cases x1 with
    | some q => cases hx
    | none => exact ⟨rho, h ++ [am_X x], .inr (x, h.length), am_Go.fin (Or.inr (Or.inr (Or.inr (Or.inr ⟨pc, a2_tl rho L, S.map (a2_tv rho), h, x, rfl, h1, h2, (by rw [a2_cat]; exact h3), rfl⟩)))), hR.app _, a2_ex.rf RG rho, rfl, ⟨by rw [List.length_append]; exact Nat.le_of_eq (by show h.length + 1 + a2_ln RG r = h.length + a2_ln RG r + 1; omega), by rw [am_sz_push]; exact Nat.le_of_eq (by show am_sz h + 6 + 2 * a2_ln RG r = am_sz h + 2 * a2_ln RG r + 6; omega)⟩, fun hn => absurd rfl hn⟩
theorem a2_keepS {F : am_F} {cl : List vw_C} {ms : Nat → Option am_M} {Y : a2_Y} (hY : a2_okY F Y) (hZ : a2_okZ Y) {RG : List Nat} (hG : RG.Nodup) {jc d : Nat} (hC : a2_cpy F cl ms jc) (hE : a2_Cm F cl ms Y RG jc d) {M : am_M} (hM : (am_y M).name ≠ "<init>") {z : a2_O × a2_G × a2_A} {a b : a2_S} (hs : a2_Stp F cl ms Y RG jc (a2_Ev F cl ms Y RG jc d) M a b) (hb : a2_Pm F cl ms Y RG (d + 1) M z b) : a2_Pm F cl ms Y RG (d + 1) M z a := by
  have hini : am_ini M = false := decide_eq_false hM
  intro rho h x1 hR hx
  rcases hs with ⟨pc, L, S, g, r, i, len, y, rfl, h1, h2, rfl⟩ | ⟨pc, L, S, g, r, i, len, j, w, N, as, rest, o, g', r', rfl, h1, h2, h3, h4, h5, rfl, h7, h8, h9, h10, h11, rfl⟩ | ⟨pc, L, g, r, i, len, j, w, x, y, rest, rfl, h1, h2, h3, h4, rfl⟩ | ⟨pc, L, g, r, i, len, k2, ci, j, ty, q, c2, j2, q2, n, rest, rfl, h1, h2, h3, h4, h5, h6, h7, h8, h9, h10, h11, h12, h13, h14, h15, h16, h17, h18, rfl⟩
  · cases x1 with
    | some q => cases hx
    | none =>
      obtain ⟨pc', L', S', g', r'⟩ := y
      obtain ⟨h', e1, hR', c1, c2, c3⟩ := a2_oneK hY h2 hR
      obtain ⟨rho', h'', o1, k1, k2, k3, k4, k5, k6⟩ := hb rho h' none hR' rfl
      refine ⟨rho', h'', o1, am_Go.step (Or.inl ⟨pc, a2_tl rho L, S.map (a2_tv rho), h, i, len, _, rfl, h1, ?_, rfl⟩) k1, k2, k3, k4, ⟨by have := k5.1; have e9 : a2_ln RG r' = a2_ln RG r := a2_ln_eq c3; show h''.length + a2_ln RG r ≤ h.length + a2_ln RG z.2.2 + a2_tn none z.1; rw [← e9, ← c1]; exact k5.1, by have e9 : a2_ln RG r' = a2_ln RG r := a2_ln_eq c3; show am_sz h'' + 2 * a2_ln RG r ≤ am_sz h + 2 * a2_ln RG z.2.2 + 6 * a2_tn none z.1; rw [← e9, ← c2]; exact k5.2⟩, fun hn => absurd rfl hn⟩
      rw [hini]
      exact e1
  · cases x1 with
    | some q => cases hx
    | none =>
      obtain ⟨rho1, h', o1, e1, hR', e2, e3, e8⟩ := hE j as g r o g' r' rho h h11 hR
      have eL : a2_tl rho1 L = a2_tl rho L := e2.tl h10
      have eS : rest.map (a2_tv rho1) = rest.map (a2_tv rho) := e2.map h9
      have stp : ∀ b', b' = am_bk pc (a2_tl rho L) (rest.map (a2_tv rho)) o1 h' → am_Stp F cl ms (am_Ev F cl ms (d + 1)) M (none, pc, a2_tl rho L, (as.reverse ++ rest).map (a2_tv rho), h) b' := by
        intro b' eb
        refine Or.inr (Or.inl ⟨pc, a2_tl rho L, (as.reverse ++ rest).map (a2_tv rho), h, i, len, j, w, N, as.map (a2_tv rho), rest.map (a2_tv rho), o1, h', rfl, h1, h2, by omega, h4, by rw [List.length_map]; exact h5, by rw [List.map_append, List.map_reverse], fun hw => ?_, fun hw => by omega, by rw [a2_cat]; exact h8, e1, eb⟩)
        obtain ⟨ci, t, q, f1, f2, f3, f4⟩ := h7 hw
        subst f1
        exact ⟨rho ci, ci, a2_fs Y rho ci g, t.map (a2_tv rho), q, rfl, hR.1 ci f2, f3, f4⟩
      cases o with
      | inl v =>
        cases v with
        | none =>
          cases o1 with
          | inr q => cases e3
          | inl v1 =>
            cases v1 with
            | some _ => cases e3
            | none =>
              obtain ⟨rho', h'', o2, k1, k2, k3, k4, k5, k6⟩ := hb rho1 h' none hR' rfl
              refine ⟨rho', h'', o2, am_Go.step (stp _ ?_) k1, k2, e2.trans k3, k4, (by have e9 := e8.trans k5; rw [show a2_tn none (Sum.inl _ : a2_O) = 0 from rfl, Nat.zero_add] at e9; exact e9), fun hn => absurd rfl hn⟩
              show (none, pc + 3, a2_tl rho1 L, rest.map (a2_tv rho1), h') = _
              rw [eL, eS]
              rfl
        | some v =>
          cases o1 with
          | inr q => cases v <;> cases e3
          | inl v1 =>
            cases v1 with
            | none => cases v <;> cases e3
            | some v1 =>
              obtain ⟨rho', h'', o2, k1, k2, k3, k4, k5, k6⟩ := hb rho1 h' none hR' rfl
              refine ⟨rho', h'', o2, am_Go.step (stp _ ?_) k1, k2, e2.trans k3, k4, (by have e9 := e8.trans k5; rw [show a2_tn none (Sum.inl _ : a2_O) = 0 from rfl, Nat.zero_add] at e9; exact e9), fun hn => absurd rfl hn⟩
              have e4 : a2_tv rho1 v = v1 := by
                cases v with
                | int x => exact Eq.symm e3
                | _ => cases e3
              show (none, pc + 3, a2_tl rho1 L, a2_tv rho1 v :: rest.map (a2_tv rho1), h') = _
              rw [eL, eS, e4]
              rfl
      | inr x =>
        cases o1 with
        | inl v1 => cases e3
        | inr q =>
          obtain ⟨x', k⟩ := q
          have hx' : x' = x := e3
          subst hx'
          obtain ⟨rho', h'', o2, k1, k2, k3, k4, k5, k6⟩ := hb rho1 h' (some (x', k)) hR' rfl
          obtain ⟨x9, k7⟩ := k6 (fun hn => nomatch hn)
          refine ⟨rho', h'', o2, am_Go.step (stp _ ?_) k1, k2, e2.trans k3, k4, ?_, fun hn => absurd rfl hn⟩
          rotate_left
          · have e9 := e8.trans k5
            show a2_bd RG (a2_tn none z.1) r h z.2.2 h''
            rw [k7] at e9 ⊢
            exact e9
          show (some (x', k), pc, a2_tl rho1 L, rest.map (a2_tv rho1), h') = _
          rw [eL, eS]
          rfl
  · cases x1 with
    | some q => cases hx
    | none =>
      obtain ⟨rho', h'', o1, k1, k2, k3, k4, k5, k6⟩ := hb rho h none hR rfl
      exact ⟨rho', h'', o1, am_Go.step (Or.inr (Or.inr (Or.inr (Or.inr (Or.inl ⟨pc, a2_tl rho L, h, i, len, j, w, x, y, rest.map (a2_tv rho), rfl, h1, h2, h3, (by rw [a2_cat]; exact h4), rfl⟩))))) k1, k2, k3, k4, k5, fun hn => absurd rfl hn⟩
  · cases x1 with
    | some q => cases hx
    | none =>
      subst h5
      obtain ⟨⟨N, n1, n2⟩, n3⟩ := hC
      have hc2 := hR.2.1 c2 j2 q2 h7
      have ev := n3 (rho (10000 + (100 * c2 + j2))) n h (r (100 * c2 + j2)) hc2 h9 h10 h11 h12
      have hR2 := a2_Rel.fresh hZ hR h6 (a2_cp n.toNatClampNeg (r (100 * c2 + j2)))
      have ex : a2_ex RG rho (a2_up rho (10000 + (100 * ci + j)) h.length) := fun k hk => by
        have e9 := hk _ h8
        simp only [a2_up, if_neg e9]
      obtain ⟨rho', h'', o1, u1, u2, u3, u4, u5, u6⟩ := hb _ _ none hR2 rfl
      have eL : a2_tl (a2_up rho (10000 + (100 * ci + j)) h.length) L = a2_tl rho L := ex.tl h15
      have eS : rest.map (a2_tv (a2_up rho (10000 + (100 * ci + j)) h.length)) = rest.map (a2_tv rho) := ex.map h14
      have hcell := hR.1 ci (a2_ne h6)
      have hcell2 : (h ++ [(Sum.inr (Sum.inl (false, a2_cp n.toNatClampNeg (r (100 * c2 + j2)))) : am_E)])[rho ci]? = some (.inl (ci, a2_fs Y rho ci g)) := by
        rw [List.getElem?_append_left (List.getElem?_eq_some_iff.mp hcell).1]
        exact hcell
      have hjl : j < (a2_fs Y rho ci g).length := by rw [a2_fs_len]; exact (List.getElem?_eq_some_iff.mp h6).1
      have s1 : am_Stp F cl ms (am_Ev F cl ms (d + 1)) M (none, pc, a2_tl rho L, .int n :: .ref (rho (10000 + (100 * c2 + j2))) :: .ref (rho ci) :: rest.map (a2_tv rho), h) (none, pc + 3, a2_tl rho L, .ref h.length :: .ref (rho ci) :: rest.map (a2_tv rho), h ++ [(Sum.inr (Sum.inl (false, a2_cp n.toNatClampNeg (r (100 * c2 + j2)))) : am_E)]) := by
        refine Or.inr (Or.inl ⟨pc, a2_tl rho L, _, h, i, len, jc, 2, N, [.ref (rho (10000 + (100 * c2 + j2))), .int n], .ref (rho ci) :: rest.map (a2_tv rho), _, _, rfl, h1, h2, by omega, n1, n2.symm, rfl, fun hw => ?_, fun hw => ?_, ?_, am_Ev.mono (by omega) ev, rfl⟩)
        · omega
        · omega
        · show 1 + (((rest.map (a2_tv rho)).map fun v => v.category)).sum ≤ 8
          rw [a2_cat]
          omega
      have s2 : am_Stp F cl ms (am_Ev F cl ms (d + 1)) M (none, pc + 3, a2_tl rho L, .ref h.length :: .ref (rho ci) :: rest.map (a2_tv rho), h ++ [(Sum.inr (Sum.inl (false, a2_cp n.toNatClampNeg (r (100 * c2 + j2)))) : am_E)]) (none, pc + 6, a2_tl rho L, rest.map (a2_tv rho), (h ++ [(Sum.inr (Sum.inl (false, a2_cp n.toNatClampNeg (r (100 * c2 + j2)))) : am_E)]).set (rho ci) (.inl (ci, (a2_fs Y rho ci g).set j (.ref h.length)))) := by
        refine Or.inl ⟨pc + 3, _, _, _, .putfield k2, 3, _, rfl, h3, ?_, rfl⟩
        have nf : narrow (.array .int) (.ref h.length) = .ref h.length := rfl
        have ff : fits (.array .int) (.ref h.length) = true := rfl
        simp [am_st, h4, hcell2, hjl, nf, ff]
      have c9 : a2_bd RG 0 r h (a2_ua r (100 * ci + j) (a2_cp n.toNatClampNeg (r (100 * c2 + j2)))) ((h ++ [(Sum.inr (Sum.inl (false, a2_cp n.toNatClampNeg (r (100 * c2 + j2)))) : am_E)]).set (rho ci) (.inl (ci, (a2_fs Y rho ci g).set j (.ref h.length)))) := by
        have q1 := a2_ln_ua (r := r) (e := a2_cp n.toNatClampNeg (r (100 * c2 + j2))) hG h8
        have q2 : (a2_cp n.toNatClampNeg (r (100 * c2 + j2))).1 = n.toNatClampNeg := rfl
        have q3 : am_sz ((h ++ [(Sum.inr (Sum.inl (false, a2_cp n.toNatClampNeg (r (100 * c2 + j2)))) : am_E)]).set (rho ci) (.inl (ci, (a2_fs Y rho ci g).set j (.ref h.length)))) = am_sz h + n.toNatClampNeg := by
          rw [am_sz_set hcell2 (by simp [am_es]), am_sz_push]
          rfl
        rw [h16] at h17 h18
        refine ⟨?_, ?_⟩
        · rw [List.length_set, List.length_append, show [(Sum.inr (Sum.inl (false, a2_cp n.toNatClampNeg (r (100 * c2 + j2)))) : am_E)].length = 1 from rfl]
          omega
        · rw [q3]
          omega
      refine ⟨rho', h'', o1, am_Go.step s1 (am_Go.step s2 ?_), u2, ex.trans u3, u4, (by have e9 := c9.trans u5; rw [Nat.zero_add] at e9; exact e9), fun hn => absurd rfl hn⟩
      rw [← eL, ← eS]
      exact u1
theorem a2_ent {rho : Nat → Nat} {M : am_M} {as : List Value} : a2_tl rho (am_ent M as) = am_ent M (as.map (a2_tv rho)) := by
  simp [am_ent, a2_tl, List.map_append, List.map_map, List.map_replicate, Function.comp_def]
theorem a2_sim {F : am_F} {cl : List vw_C} {ms : Nat → Option am_M} {Y : a2_Y} (hY : a2_okY F Y) (hZ : a2_okZ Y) {RG : List Nat} (hG : RG.Nodup) {jc : Nat} (hC : a2_cpy F cl ms jc) : ∀ d, a2_Cm F cl ms Y RG jc d
  | 0 => fun _ _ _ _ _ _ _ _ _ h _ => h.elim
  | d + 1 => by
    intro j as g r o g' r' rho h ⟨M, m1, m2, m3, m4, m5, m6, m7⟩ hR
    obtain ⟨rho', h', o1, k1, k2, k3, k4, k5, -⟩ := m7 (a2_Pm F cl ms Y RG (d + 1) M (o, g', r')) (fun a hf => a2_keepF hf) (fun a b hs hb => a2_keepS hY hZ hG hC (a2_sim hY hZ hG hC d) m6 hs hb) rho h none hR rfl
    refine ⟨rho', h', o1, ⟨M, m1, by rw [List.length_map]; exact m2, m3, fun v hv => ?_, ?_⟩, k2, k3, k4, k5⟩
    · obtain ⟨w, hw, rfl⟩ := List.mem_map.mp hv
      rw [a2_tv_cat]
      exact m4 w hw
    · rw [← a2_ent]
      exact k1
