/-! What a call can reach: nothing else is written. -/
def cpR (C : Nat → Prop) (k : Nat) : Prop := (k < 9000 ∧ C k) ∨ (10000 ≤ k ∧ C ((k - 10000) / 100))
def cpV (C : Nat → Prop) (v : Value) : Prop := ∀ k, v = .ref k → cpR C k
def cpS (C : Nat → Prop) (S : List Value) : Prop := ∀ v, v ∈ S → cpV C v
def cpL (C : Nat → Prop) (L : am_L) : Prop := ∀ v, some v ∈ L → cpV C v
def cpF (C : Nat → Prop) (g : a2_G) (r : a2_A) (g' : a2_G) (r' : a2_A) : Prop := (∀ k, ¬ C (k / 100) → g' k = g k) ∧ ∀ q, ¬ C (q / 100) → r' q = r q
theorem cpF.rf {C : Nat → Prop} {g : a2_G} {r : a2_A} : cpF C g r g r := ⟨fun _ _ => rfl, fun _ _ => rfl⟩
theorem cpF.trans {C : Nat → Prop} {g1 g2 g3 : a2_G} {r1 r2 r3 : a2_A} (a : cpF C g1 r1 g2 r2) (b : cpF C g2 r2 g3 r3) : cpF C g1 r1 g3 r3 := ⟨fun k hk => (b.1 k hk).trans (a.1 k hk), fun q hq => (b.2 q hq).trans (a.2 q hq)⟩
theorem cpF.up {C : Nat → Prop} {g : a2_G} {r : a2_A} {k : Nat} {x : Int32} (h : C (k / 100)) : cpF C g r (upd g k x) r := ⟨fun j hj => if_neg (fun e => hj (by rw [e]; exact h)), fun _ _ => rfl⟩
theorem cpF.ua {C : Nat → Prop} {g : a2_G} {r : a2_A} {q : Nat} {x : Nat × (Nat → Int32)} (h : C (q / 100)) : cpF C g r g (a2_ua r q x) := ⟨fun _ _ => rfl, fun j hj => if_neg (fun e => hj (by rw [e]; exact h))⟩
/-- the classes that may be reached point at such -/
def cpC (Y : a2_Y) (C : Nat → Prop) : Prop := a2_okZ Y ∧ (∀ ci : Nat, (Y ci).length ≤ 100) ∧ ∀ ci j cj : Nat, C ci → (Y ci)[j]? = some (2, cj) → C cj
theorem cpC.cl {Y : a2_Y} {C : Nat → Prop} (h : cpC Y C) {ci j : Nat} {k : Nat × Nat} (hk : (Y ci)[j]? = some k) (hr : cpR C ci) : C ci ∧ (100 * ci + j) / 100 = ci := by
  have hj : j < (Y ci).length := (List.getElem?_eq_some_iff.mp hk).1
  have h1 := h.2.1 ci
  have hne : Y ci ≠ [] := fun e => by rw [e] at hj; exact absurd hj (Nat.not_lt_zero _)
  have h2 := (h.1 ci).1 hne
  refine ⟨hr.elim (fun e => e.2) (fun e => by omega), by omega⟩
theorem cpA {Y : a2_Y} {C : Nat → Prop} {a q t : Nat} (h : a2_ar Y a = some (q, t)) (hr : cpR C a) : C (q / 100) := by
  unfold a2_ar at h
  split at h
  · rename_i h10
    have e : a - 10000 = q := by
      split at h
      · exact (Prod.mk.inj (Option.some.inj h)).1
      · exact (Prod.mk.inj (Option.some.inj h)).1
      · cases h
    rw [← e]
    exact hr.elim (fun e => by omega) (fun e => e.2)
  · cases h
theorem cpS.tl {C : Nat → Prop} {v : Value} {S : List Value} (h : cpS C (v :: S)) : cpS C S := fun x hx => h x (List.mem_cons_of_mem _ hx)
theorem cpS.cn {C : Nat → Prop} {v : Value} {S : List Value} (h : cpS C S) (hv : cpV C v) : cpS C (v :: S) := fun x hx => (List.mem_cons.mp hx).elim (fun e => e ▸ hv) (fun e => h x e)
theorem cpV.i {C : Nat → Prop} {x : Int32} : cpV C (.int x) := fun _ e => nomatch e
/-- an instruction that touches no cell hands on what it was given -/
theorem cp_simple {C : Nat → Prop} {F : am_F} {own : String} {ini : Bool} {i : Instr} {len pc pc' : Nat} {L L' : am_L} {S S' : List Value} (hs : am_st F own ini i len pc L S [] = some (pc', L', S', [])) (hL : cpL C L) (hS : cpS C S) : cpL C L' ∧ cpS C S' := by
  classical
  have key : ∀ d : Nat, (∀ v, some v ∈ L' → a2_tv (fun k => if cpR C k then k else d) v = v) ∧ ∀ v, v ∈ S' → a2_tv (fun k => if cpR C k then k else d) v = v := by
    intro d
    have fx : ∀ v, cpV C v → a2_tv (fun k => if cpR C k then k else d) v = v := by
      intro v hv
      cases v with
      | ref k =>
        show Value.ref (if cpR C k then k else d) = _
        rw [if_pos (hv k rfl)]
      | _ => rfl
    have e1 : a2_tl (fun k => if cpR C k then k else d) L = L := by
      refine (List.map_congr_left (fun o ho => ?_)).trans (List.map_id L)
      cases o with
      | none => rfl
      | some v => exact congrArg some (fx v (hL v ho))
    have e2 : S.map (a2_tv (fun k => if cpR C k then k else d)) = S := (List.map_congr_left (fun v hv => fx v (hS v hv))).trans (List.map_id S)
    have h := a2_simple (fun k => if cpR C k then k else d) [] hs
    rw [e1, e2, hs] at h
    have h2 := Prod.mk.inj (Prod.mk.inj (Option.some.inj h)).2
    have h3 := (Prod.mk.inj h2.2).1
    refine ⟨fun v hv => ?_, fun v hv => ?_⟩
    · have h4 : L' = L'.map (fun o => o.map (a2_tv (fun k => if cpR C k then k else d))) := h2.1
      obtain ⟨n, hn, e⟩ := List.mem_iff_getElem.mp hv
      have h5 : L'[n]? = some (some v) := by rw [List.getElem?_eq_getElem hn, e]
      have h6 := congrArg (fun l => l[n]?) h4
      simp only [List.getElem?_map, h5, Option.map_some] at h6
      exact (Option.some.inj (Option.some.inj h6)).symm
    · obtain ⟨n, hn, e⟩ := List.mem_iff_getElem.mp hv
      have h5 : S'[n]? = some v := by rw [List.getElem?_eq_getElem hn, e]
      have h6 := congrArg (fun l => l[n]?) h3
      simp only [List.getElem?_map, h5, Option.map_some] at h6
      exact (Option.some.inj h6).symm
  have fin : ∀ v, (∀ d, a2_tv (fun k => if cpR C k then k else d) v = v) → cpV C v := by
    intro v hv k e
    subst e
    by_cases hk : cpR C k
    · exact hk
    · have h0 := hv 0
      have h1 := hv 1
      simp only [a2_tv, if_neg hk] at h0 h1
      have a0 : 0 = k := Value.ref.inj h0
      have a1 : 1 = k := Value.ref.inj h1
      have e : (0 : Nat) = 1 := a0.trans a1.symm
      exact absurd e (by decide)
  exact ⟨fun v hv => fin v (fun d => (key d).1 v hv), fun v hv => fin v (fun d => (key d).2 v hv)⟩
theorem cp_st {C : Nat → Prop} {F : am_F} {Y : a2_Y} (hC : cpC Y C) {own : String} {i : Instr} {len pc pc' : Nat} {L L' : am_L} {S S' : List Value} {g g' : a2_G} {r r' : a2_A} (hs : a2_st F Y own i len pc L S g r = some (pc', L', S', g', r')) (hL : cpL C L) (hS : cpS C S) : cpL C L' ∧ cpS C S' ∧ cpF C g r g' r' := by
  unfold a2_st at hs
  split at hs
  · rename_i k a S
    split at hs
    · rename_i ci j _ _ hf
      split at hs
      · rename_i hac
        split at hs
        · rename_i v hv
          cases hs
          subst hac
          have hr := hS (.ref a) List.mem_cons_self a rfl
          refine ⟨hL, hS.tl.cn ?_, cpF.rf⟩
          intro k2 e
          subst e
          unfold a2_fv at hv
          split at hv
          · cases hv
          · cases hv
          · rename_i cj hy
            have e := Value.ref.inj (Option.some.inj hv)
            subst e
            exact Or.inl ⟨(hC.1 a).2 _ _ hy, hC.2.2 _ _ _ (hC.cl hy hr).1 hy⟩
          · rename_i hy
            have e := Value.ref.inj (Option.some.inj hv)
            subst e
            have hc := hC.cl hy hr
            exact Or.inr ⟨by omega, by rw [Nat.add_sub_cancel_left, hc.2]; exact hc.1⟩
          · rename_i hy
            have e := Value.ref.inj (Option.some.inj hv)
            subst e
            have hc := hC.cl hy hr
            exact Or.inr ⟨by omega, by rw [Nat.add_sub_cancel_left, hc.2]; exact hc.1⟩
          · cases hv
        · cases hs
      · cases hs
    · cases hs
  · rename_i k v a S
    split at hs
    · rename_i ci j _ hf
      split at hs
      · rename_i hac
        subst hac
        have hr := hS (.ref a) (List.mem_cons_of_mem _ List.mem_cons_self) a rfl
        split at hs
        · rename_i hy
          cases hs
          have hc := hC.cl hy hr
          exact ⟨hL, hS.tl.tl, cpF.up (by rw [hc.2]; exact hc.1)⟩
        · rename_i hy
          split at hs
          · cases hs
            have hc := hC.cl hy hr
            exact ⟨hL, hS.tl.tl, cpF.up (by rw [hc.2]; exact hc.1)⟩
          · cases hs
        · cases hs
      · cases hs
    · cases hs
  · split at hs
    · cases hs
      exact ⟨hL, hS.tl.cn cpV.i, cpF.rf⟩
    · cases hs
  · split at hs
    · split at hs
      · cases hs
        exact ⟨hL, hS.tl.tl.cn cpV.i, cpF.rf⟩
      · cases hs
    · cases hs
  · rename_i x i a S
    split at hs
    · rename_i q ha
      split at hs
      · cases hs
        exact ⟨hL, hS.tl.tl.tl, cpF.ua (cpA ha (hS (.ref a) (List.mem_cons_of_mem _ (List.mem_cons_of_mem _ List.mem_cons_self)) a rfl))⟩
      · cases hs
    · cases hs
  · split at hs
    · split at hs
      · cases hs
        exact ⟨hL, hS.tl.tl.cn cpV.i, cpF.rf⟩
      · cases hs
    · cases hs
  · rename_i x i a S
    split at hs
    · rename_i q ha
      split at hs
      · cases hs
        exact ⟨hL, hS.tl.tl.tl, cpF.ua (cpA ha (hS (.ref a) (List.mem_cons_of_mem _ (List.mem_cons_of_mem _ List.mem_cons_self)) a rfl))⟩
      · cases hs
    · cases hs
  · split at hs
    · rename_i hs'
      cases hs
      have h2 := cp_simple hs' hL hS
      exact ⟨h2.1, h2.2, cpF.rf⟩
    · cases hs
section
variable {C : Nat → Prop} {G : am_F} {ms : Nat → Option am_M} {Y : a2_Y} {RG : List Nat} {jc : Nat} {oc : Nat → Option Nat} {tw : List (Nat × Nat)} {E : fn_E} {M : am_M} {K : Nat → am_L → a2_G → a2_A → Option fn_Z}
theorem cp_jp {pc t : Nat} {L : am_L} {S : List Value} {g : a2_G} {r : a2_A} {a : Option fn_Z} {z : fn_Z} (HK : ∀ t L g r z, cpL C L → K t L g r = some z → cpF C g r z.2.1 z.2.2) (hL : cpL C L) (h : fn_jp K pc t L S g r a = some z) (h1 : a = some z → cpF C g r z.2.1 z.2.2) : cpF C g r z.2.1 z.2.2 := by
  unfold fn_jp at h
  split at h
  · exact h1 h
  · split at h
    · exact HK _ _ _ _ _ hL h
    · cases h
theorem cp_c {j w : Nat} {L : am_L} {S : List Value} {g : a2_G} {r : a2_A} {k : List Value → a2_G → a2_A → Option fn_Z} {z : fn_Z} (HE : ∀ j as g r z, cpS C as → E j as g r = some z → cpF C g r z.2.1 z.2.2) (hS : cpS C S) (h : fn_c Y RG ms oc E j w L S g r k = some z) (hk : ∀ S g r, cpS C S → k S g r = some z → cpF C g r z.2.1 z.2.2) : cpF C g r z.2.1 z.2.2 := by
  unfold fn_c at h
  cases hN : ms j with
  | none => rw [hN] at h; cases h
  | some N =>
    rw [hN] at h
    dsimp only at h
    split at h
    · have ha : cpS C (S.take (am_k N)).reverse := fun v hv => hS v (List.mem_of_mem_take (List.mem_reverse.mp hv))
      have hd : cpS C (S.drop (am_k N)) := fun v hv => hS v (List.mem_of_mem_drop hv)
      split at h
      · unfold fn_v at h
        split at h
        · rename_i v g' r' hE
          exact (HE _ _ _ _ _ ha hE).trans (hk _ _ _ (hd.cn cpV.i) h)
        · rename_i x g' r' hE
          have e := Option.some.inj h
          subst e
          exact HE _ _ _ _ _ ha hE
        · cases h
      · unfold fn_n at h
        split at h
        · rename_i g' r' hE
          exact (HE _ _ _ _ _ ha hE).trans (hk _ _ _ hd h)
        · rename_i x g' r' hE
          have e := Option.some.inj h
          subst e
          exact HE _ _ _ _ _ ha hE
        · cases h
    · cases h
set_option maxHeartbeats 2000000 in
theorem cp_b (hC : cpC Y C) (HE : ∀ j as g r z, cpS C as → E j as g r = some z → cpF C g r z.2.1 z.2.2) (HK : ∀ t L g r z, cpL C L → K t L g r = some z → cpF C g r z.2.1 z.2.2) :
    ∀ (n pc : Nat) (L : am_L) (S : List Value) (g : a2_G) (r : a2_A) (z : fn_Z), cpL C L → cpS C S → fn_b G Y RG jc ms oc tw E M K n pc L S g r = some z → cpF C g r z.2.1 z.2.2 := by
  intro n
  induction n with
  | zero => intro pc L S g r z _ _ h; cases h
  | succ n ih =>
    intro pc L S g r z hL hS h
    unfold fn_b at h
    cases hq : (am_cd M).lookup pc with
    | none => rw [hq] at h; cases h
    | some q =>
      obtain ⟨i, len⟩ := q
      rw [hq] at h
      dsimp only at h
      split at h
      -- goto
      · split at h
        · cases h
        · exact cp_jp HK hL h (ih _ _ _ _ _ _ hL hS)
      -- ifCond
      · split at h
        · cases h
        · split at h
          · exact cp_jp HK hL h (ih _ _ _ _ _ _ hL hS.tl)
          · exact ih _ _ _ _ _ _ hL hS.tl h
      -- if_icmp
      · split at h
        · cases h
        · split at h
          · exact cp_jp HK hL h (ih _ _ _ _ _ _ hL hS.tl.tl)
          · exact ih _ _ _ _ _ _ hL hS.tl.tl h
      -- tableswitch
      · split at h
        · obtain ⟨off, h1, h2⟩ := fn_ts_ok _ _ h
          split at h1
          · cases h1
          · exact cp_jp HK hL h1 (ih _ _ _ _ _ _ hL hS.tl)
        · cases h
      -- lookupswitch
      · split at h
        · rw [fn_ls_ok] at h
          split at h
          · cases h
          · exact cp_jp HK hL h (ih _ _ _ _ _ _ hL hS.tl)
        · cases h
      -- iaload
      · split at h
        · split at h
          · exact ih _ _ _ _ _ _ hL (hS.tl.tl.cn cpV.i) h
          · cases h
        · cases h
      -- baload
      · split at h
        · split at h
          · exact ih _ _ _ _ _ _ hL (hS.tl.tl.cn cpV.i) h
          · cases h
        · cases h
      -- iastore
      · rename_i x i a S
        split at h
        · rename_i k ha
          split at h
          · exact (cpF.ua (cpA ha (hS (.ref a) (List.mem_cons_of_mem _ (List.mem_cons_of_mem _ List.mem_cons_self)) a rfl))).trans (ih _ _ _ _ _ _ hL hS.tl.tl.tl h)
          · cases h
        · cases h
      -- bastore
      · rename_i x i a S
        split at h
        · rename_i k ha
          split at h
          · exact (cpF.ua (cpA ha (hS (.ref a) (List.mem_cons_of_mem _ (List.mem_cons_of_mem _ List.mem_cons_self)) a rfl))).trans (ih _ _ _ _ _ _ hL hS.tl.tl.tl h)
          · cases h
        · cases h
      -- putfield
      · rename_i k x a S
        split at h
        · rename_i ci j ty hf
          split at h
          · rename_i hac
            subst hac
            have hr := hS (.ref a) (List.mem_cons_of_mem _ List.mem_cons_self) a rfl
            split at h
            · rename_i hy
              have hc := hC.cl hy hr
              exact (cpF.up (by rw [hc.2]; exact hc.1)).trans (ih _ _ _ _ _ _ hL hS.tl.tl h)
            · rename_i hy
              split at h
              · have hc := hC.cl hy hr
                exact (cpF.up (by rw [hc.2]; exact hc.1)).trans (ih _ _ _ _ _ _ hL hS.tl.tl h)
              · cases h
            · cases h
          · cases h
        · cases h
      -- ireturn
      · split at h
        · have e := Option.some.inj h
          subst e
          exact cpF.rf
        · split at h
          · have e := Option.some.inj h
            subst e
            exact cpF.rf
          · cases h
        · cases h
      -- return
      · split at h
        · have e := Option.some.inj h
          subst e
          exact cpF.rf
        · cases h
      -- new
      · split at h
        · split at h
          · have e := Option.some.inj h
            subst e
            exact cpF.rf
          · cases h
        · cases h
      -- invokevirtual
      · split at h
        · split at h
          · exact cp_c HE hS h (fun S g r hS h => ih _ _ _ _ _ _ hL hS h)
          · cases h
        · cases h
      -- invokestatic
      · split at h
        · split at h
          · split at h
            · obtain ⟨k2, ci, j', c2, j2, n', rest, e1, e2, e3, e4, e5, e6, e7, e8, e9, e10, e11, e12, e13, f1, f2, f3, e14⟩ := fn_cp_ok h
              subst e2
              have hr := hS (.ref ci) (List.mem_cons_of_mem _ (List.mem_cons_of_mem _ List.mem_cons_self)) ci rfl
              have hc := hC.cl e4 hr
              exact (cpF.ua (by rw [hc.2]; exact hc.1)).trans (ih _ _ _ _ _ _ hL hS.tl.tl.tl e14)
            · exact cp_c HE hS h (fun S g r hS h => ih _ _ _ _ _ _ hL hS h)
          · split at h
            · split at h
              · split at h
                · exact ih _ _ _ _ _ _ hL (hS.tl.tl.cn cpV.i) h
                · cases h
              · cases h
            · cases h
        · cases h
      -- all else
      · split at h
        · rename_i pc' L' S' g' r' hs
          obtain ⟨s1, s2, s3⟩ := cp_st hC hs hL hS
          exact s3.trans (ih _ _ _ _ _ _ s1 s2 h)
        · cases h
theorem cp_lp (hC : cpC Y C) (HE : ∀ j as g r z, cpS C as → E j as g r = some z → cpF C g r z.2.1 z.2.2) (n : Nat) :
    ∀ (m t : Nat) (L : am_L) (g : a2_G) (r : a2_A) (z : fn_Z), cpL C L → fn_l G Y RG jc ms oc tw E M n m t L g r = some z → cpF C g r z.2.1 z.2.2
  | 0, _, _, _, _, _, _, h => by cases h
  | m + 1, t, L, g, r, z, hL, h => cp_b hC HE (cp_lp hC HE n m) n t L [] g r z hL (fun _ hv => nomatch hv) h
end
theorem cp_ev {C : Nat → Prop} {Y : a2_Y} (hC : cpC Y C) {ms : Nat → Option am_M} {tb : Nat → am_F} {RG : List Nat} {jc : Nat} {oc : Nat → Option Nat} {ok : Nat → Bool} {tw : Nat → List (Nat × Nat)} {n m : Nat} : ∀ (d j : Nat) (as : List Value) (g : a2_G) (r : a2_A) (z : fn_Z), cpS C as → fn_ev tb Y RG jc ms oc ok tw n m d j as g r = some z → cpF C g r z.2.1 z.2.2
  | 0, _, _, _, _, _, _, h => by cases h
  | d + 1, j, as, g, r, z, ha, h => by
    unfold fn_ev at h
    cases hM : ms j with
    | none => rw [hM] at h; cases h
    | some M =>
      rw [hM] at h
      dsimp only at h
      split at h
      · refine cp_lp hC (fun j as g r z => cp_ev hC d j as g r z) n m 0 _ g r z ?_ h
        intro v hv
        unfold am_ent at hv
        rcases List.mem_append.mp hv with hv | hv
        · obtain ⟨x, hx, e⟩ := List.mem_map.mp hv
          exact (Option.some.inj e) ▸ ha x hx
        · have := (List.mem_replicate.mp hv).2
          cases this
      · cases h
/-- the classes of the component; of the model -/
def cpCC (c : Nat) : Prop := c < 9
def cpMM (c : Nat) : Prop := c = 9
theorem nm_Y_len (ci : Nat) : (nm_Y ci).length ≤ 100 := by
  have h : nm_YL.all (fun r => decide (r.length ≤ 100)) = true := by decide +kernel
  show (nm_YL.getD ci []).length ≤ 100
  rw [List.getD_eq_getElem?_getD]
  cases hr : nm_YL[ci]? with
  | none => exact Nat.zero_le _
  | some r => exact of_decide_eq_true (List.all_eq_true.mp h r (List.mem_of_getElem? hr))
theorem cp_C : cpC nm_Y cpCC := by
  refine ⟨nm_okZ, nm_Y_len, fun ci j cj hc hy => ?_⟩
  have h : (List.range 9).all (fun c => (nm_YL.getD c []).all (fun k => k.1 != 2 || decide (k.2 < 9))) = true := by decide +kernel
  have h1 := List.all_eq_true.mp h ci (List.mem_range.mpr hc)
  have h2 := List.all_eq_true.mp h1 (2, cj) (List.mem_of_getElem? hy)
  simpa [cpCC] using h2
theorem cp_M : cpC nm_Y cpMM := by
  refine ⟨nm_okZ, nm_Y_len, fun ci j cj hc hy => ?_⟩
  have hc' : ci = 9 := hc
  subst hc'
  have h : (nm_YL.getD 9 []).all (fun k => k.1 != 2) = true := by decide +kernel
  have h2 := List.all_eq_true.mp h (2, cj) (List.mem_of_getElem? hy)
  simp at h2
theorem cp_w {C : Nat → Prop} (hC : cpC nm_Y C) {L : Nat} {xs : Nat → Int32} {m d j : Nat} {as : List Value} {g : a2_G} {r : a2_A} {Q : Option Value → a2_G → a2_A → Prop} {X : Nat → a2_G → a2_A → Prop} (ha : cpS C as) (h : wp (ev L xs m d j as g r) Q X) : wp (ev L xs m d j as g r) (fun o g' r' => Q o g' r' ∧ cpF C g r g' r') (fun x g' r' => X x g' r' ∧ cpF C g r g' r') := by
  cases hz : ev L xs m d j as g r with
  | none => rw [hz] at h; exact h.elim
  | some z =>
    have hf := cp_ev hC d j as g r z ha hz
    rw [hz] at h
    obtain ⟨o, g', r'⟩ := z
    cases o with
    | inl o => exact ⟨h, hf⟩
    | inr x => exact ⟨h, hf⟩
