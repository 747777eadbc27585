/-! Registers that no method of a set of methods writes. -/
def kpF (W : Nat → Bool) (g g' : a2_G) : Prop := ∀ k, W k = true → g' k = g k
theorem kpF.rf {W : Nat → Bool} {g : a2_G} : kpF W g g := fun _ _ => rfl
theorem kpF.tr {W : Nat → Bool} {g1 g2 g3 : a2_G} (a : kpF W g1 g2) (b : kpF W g2 g3) : kpF W g1 g3 := fun k hk => (b k hk).trans (a k hk)
theorem kpF.up {W : Nat → Bool} {g : a2_G} {q : Nat} {x : Int32} (h : (!W q) = true) : kpF W g (upd g q x) := fun k hk => upd_ne (fun e => by rw [e] at hk; rw [hk] at h; cases h)
def kpI (G : am_F) (W J : Nat → Bool) (i : Instr) : Bool := match i with
  | .putfield k => match am_fl G "" k with
    | some q => !W (100 * q.1 + q.2.1)
    | none => true
  | .invokevirtual k => match am_cl G "" k with
    | some q => J q.1
    | none => true
  | .invokestatic k => match am_cl G "" k with
    | some q => J q.1
    | none => true
  | _ => true
def kpM (G : am_F) (W J : Nat → Bool) (M : am_M) : Bool := (am_cd M).all (fun e => kpI G W J e.2.1)
theorem lk_mem {α : Type} {k : Nat} {v : α} : ∀ {l : List (Nat × α)}, l.lookup k = some v → ∃ e, e ∈ l ∧ e.2 = v
  | [], h => by cases h
  | (a, b) :: l, h => by
    rw [List.lookup_cons] at h
    split at h
    · exact ⟨(a, b), List.mem_cons_self, Option.some.inj h⟩
    · obtain ⟨e, h1, h2⟩ := lk_mem h
      exact ⟨e, List.mem_cons_of_mem _ h1, h2⟩
theorem kp_st {F : am_F} {Y : a2_Y} {W J : Nat → Bool} {i : Instr} {len pc pc' : Nat} {L L' : am_L} {S S' : List Value} {g g' : a2_G} {r r' : a2_A} (hs : a2_st F Y "" i len pc L S g r = some (pc', L', S', g', r')) (hi : kpI F W J i = true) : kpF W g g' := by
  unfold a2_st at hs
  split at hs
  · split at hs
    · split at hs
      · split at hs
        · cases hs
          exact kpF.rf
        · cases hs
      · cases hs
    · cases hs
  · rename_i k v a S
    split at hs
    · rename_i ci j _ hf
      unfold kpI at hi
      dsimp only at hi
      rw [hf] at hi
      split at hs
      · split at hs
        · cases hs
          exact kpF.up hi
        · split at hs
          · cases hs
            exact kpF.up hi
          · cases hs
        · cases hs
      · cases hs
    · cases hs
  · split at hs
    · cases hs
      exact kpF.rf
    · cases hs
  · split at hs
    · split at hs
      · cases hs
        exact kpF.rf
      · cases hs
    · cases hs
  · split at hs
    · split at hs
      · cases hs
        exact kpF.rf
      · cases hs
    · cases hs
  · split at hs
    · split at hs
      · cases hs
        exact kpF.rf
      · cases hs
    · cases hs
  · split at hs
    · split at hs
      · cases hs
        exact kpF.rf
      · cases hs
    · cases hs
  · split at hs
    · cases hs
      exact kpF.rf
    · cases hs
section
variable {W J : Nat → Bool} {G : am_F} {ms : Nat → Option am_M} {Y : a2_Y} {RG : List Nat} {jc : Nat} {oc : Nat → Option Nat} {tw : List (Nat × Nat)} {E : fn_E} {M : am_M} {K : Nat → am_L → a2_G → a2_A → Option fn_Z}
theorem kp_jp {pc t : Nat} {L : am_L} {S : List Value} {g : a2_G} {r : a2_A} {a : Option fn_Z} {z : fn_Z} (HK : ∀ t L g r z, K t L g r = some z → kpF W g z.2.1) (h : fn_jp K pc t L S g r a = some z) (h1 : a = some z → kpF W g z.2.1) : kpF W g z.2.1 := by
  unfold fn_jp at h
  split at h
  · exact h1 h
  · split at h
    · exact HK _ _ _ _ _ h
    · cases h
theorem kp_c {j w : Nat} {L : am_L} {S : List Value} {g : a2_G} {r : a2_A} {k : List Value → a2_G → a2_A → Option fn_Z} {z : fn_Z} (HE : ∀ j as g r z, J j = true → E j as g r = some z → kpF W g z.2.1) (hj : J j = true) (h : fn_c Y RG ms oc E j w L S g r k = some z) (hk : ∀ S g r, k S g r = some z → kpF W g z.2.1) : kpF W g z.2.1 := by
  unfold fn_c at h
  cases hN : ms j with
  | none => rw [hN] at h; cases h
  | some N =>
    rw [hN] at h
    dsimp only at h
    split at h
    · split at h
      · unfold fn_v at h
        split at h
        · rename_i v g' r' hE
          exact (HE _ _ _ _ _ hj hE).tr (hk _ _ _ h)
        · rename_i x g' r' hE
          have e := Option.some.inj h
          subst e
          exact HE _ _ _ _ _ hj hE
        · cases h
      · unfold fn_n at h
        split at h
        · rename_i g' r' hE
          exact (HE _ _ _ _ _ hj hE).tr (hk _ _ _ h)
        · rename_i x g' r' hE
          have e := Option.some.inj h
          subst e
          exact HE _ _ _ _ _ hj hE
        · cases h
    · cases h
set_option maxHeartbeats 2000000 in
theorem kp_b (hM : kpM G W J M = true) (HE : ∀ j as g r z, J j = true → E j as g r = some z → kpF W g z.2.1) (HK : ∀ t L g r z, K t L g r = some z → kpF W g z.2.1) :
    ∀ (n pc : Nat) (L : am_L) (S : List Value) (g : a2_G) (r : a2_A) (z : fn_Z), fn_b G Y RG jc ms oc tw E M K n pc L S g r = some z → kpF W g z.2.1 := by
  intro n
  induction n with
  | zero => intro pc L S g r z h; cases h
  | succ n ih =>
    intro pc L S g r z h
    unfold fn_b at h
    cases hq : (am_cd M).lookup pc with
    | none => rw [hq] at h; cases h
    | some q =>
      obtain ⟨i, len⟩ := q
      have hi : kpI G W J i = true := by
        obtain ⟨e, h1, h2⟩ := lk_mem hq
        have := List.all_eq_true.mp hM e h1
        rw [h2] at this
        exact this
      rw [hq] at h
      dsimp only at h
      split at h
      -- goto
      · split at h
        · cases h
        · exact kp_jp HK h (ih _ _ _ _ _ _)
      -- ifCond
      · split at h
        · cases h
        · split at h
          · exact kp_jp HK h (ih _ _ _ _ _ _)
          · exact ih _ _ _ _ _ _ h
      -- if_icmp
      · split at h
        · cases h
        · split at h
          · exact kp_jp HK h (ih _ _ _ _ _ _)
          · exact ih _ _ _ _ _ _ h
      -- tableswitch
      · split at h
        · obtain ⟨off, h1, h2⟩ := fn_ts_ok _ _ h
          split at h1
          · cases h1
          · exact kp_jp HK h1 (ih _ _ _ _ _ _)
        · cases h
      -- lookupswitch
      · split at h
        · rw [fn_ls_ok] at h
          split at h
          · cases h
          · exact kp_jp HK h (ih _ _ _ _ _ _)
        · cases h
      -- iaload
      · split at h
        · split at h
          · exact ih _ _ _ _ _ _ h
          · cases h
        · cases h
      -- baload
      · split at h
        · split at h
          · exact ih _ _ _ _ _ _ h
          · cases h
        · cases h
      -- iastore
      · split at h
        · split at h
          · exact ih _ _ _ _ _ _ h
          · cases h
        · cases h
      -- bastore
      · split at h
        · split at h
          · exact ih _ _ _ _ _ _ h
          · cases h
        · cases h
      -- putfield
      · rename_i k x a S
        split at h
        · rename_i ci j ty hf
          unfold kpI at hi
          dsimp only at hi
          rw [hf] at hi
          split at h
          · split at h
            · exact (kpF.up hi).tr (ih _ _ _ _ _ _ h)
            · split at h
              · exact (kpF.up hi).tr (ih _ _ _ _ _ _ h)
              · cases h
            · cases h
          · cases h
        · cases h
      -- ireturn
      · split at h
        · have e := Option.some.inj h
          subst e
          exact kpF.rf
        · split at h
          · have e := Option.some.inj h
            subst e
            exact kpF.rf
          · cases h
        · cases h
      -- return
      · split at h
        · have e := Option.some.inj h
          subst e
          exact kpF.rf
        · cases h
      -- new
      · split at h
        · split at h
          · have e := Option.some.inj h
            subst e
            exact kpF.rf
          · cases h
        · cases h
      -- invokevirtual
      · rename_i k S
        split at h
        · rename_i j w hf
          unfold kpI at hi
          dsimp only at hi
          rw [hf] at hi
          split at h
          · exact kp_c HE hi h (fun S g r h => ih _ _ _ _ _ _ h)
          · cases h
        · cases h
      -- invokestatic
      · rename_i k S
        split at h
        · rename_i j w hf
          unfold kpI at hi
          dsimp only at hi
          rw [hf] at hi
          split at h
          · split at h
            · obtain ⟨k2, ci, j', c2, j2, n', rest, e1, e2, e3, e4, e5, e6, e7, e8, e9, e10, e11, e12, e13, f1, f2, f3, e14⟩ := fn_cp_ok h
              exact ih _ _ _ _ _ _ e14
            · exact kp_c HE hi h (fun S g r h => ih _ _ _ _ _ _ h)
          · split at h
            · split at h
              · split at h
                · exact ih _ _ _ _ _ _ h
                · cases h
              · cases h
            · cases h
        · cases h
      -- all else
      · split at h
        · rename_i pc' L' S' g' r' hs
          exact (kp_st hs hi).tr (ih _ _ _ _ _ _ h)
        · cases h
theorem kp_lp (hM : kpM G W J M = true) (HE : ∀ j as g r z, J j = true → E j as g r = some z → kpF W g z.2.1) (n : Nat) :
    ∀ (m t : Nat) (L : am_L) (g : a2_G) (r : a2_A) (z : fn_Z), fn_l G Y RG jc ms oc tw E M n m t L g r = some z → kpF W g z.2.1
  | 0, _, _, _, _, _, h => by cases h
  | m + 1, t, L, g, r, z, h => kp_b hM HE (kp_lp hM HE n m) n t L [] g r z h
end
theorem kp_ev {W J : Nat → Bool} {Y : a2_Y} {ms : Nat → Option am_M} {tb : Nat → am_F} {RG : List Nat} {jc : Nat} {oc : Nat → Option Nat} {ok : Nat → Bool} {tw : Nat → List (Nat × Nat)} {n m : Nat} (hJ : ∀ j M, J j = true → ms j = some M → kpM (tb j) W J M = true) : ∀ (d j : Nat) (as : List Value) (g : a2_G) (r : a2_A) (z : fn_Z), J j = true → fn_ev tb Y RG jc ms oc ok tw n m d j as g r = some z → kpF W g z.2.1
  | 0, _, _, _, _, _, _, h => by cases h
  | d + 1, j, as, g, r, z, hj, h => by
    unfold fn_ev at h
    cases hM : ms j with
    | none => rw [hM] at h; cases h
    | some M =>
      rw [hM] at h
      dsimp only at h
      split at h
      · exact kp_lp (hJ j M hj hM) (fun j as g r z hj h => kp_ev hJ d j as g r z hj h) n m 0 _ g r z h
      · cases h
/-- the numbering's registers -/
def kpW (k : Nat) : Bool := decide (k = fT_numbered) || decide (k = fT_units) || decide (k = fT_greatestLevel)
/-- methods of the class that read words -/
def kpJ (j : Nat) : Bool := decide (j = 0) || decide (9 ≤ j ∧ j ≤ 155) && !decide (j = 41 ∨ j = 42 ∨ j = 44 ∨ j = 152 ∨ j = 154)
theorem kp_ck : (List.range 156).all (fun j => !kpJ j || match nm_ms j with
    | some M => kpM (sh_tb 0 (fun _ => 0) j) kpW kpJ M
    | none => true) = true := by decide +kernel
theorem sh_tx_fl (L : Nat) (xs : Nat → Int32) (i : Nat) : am_fl (sh_tx L xs i) = am_fl (sh_tx 0 (fun _ => 0) i) ∧ am_cl (sh_tx L xs i) = am_cl (sh_tx 0 (fun _ => 0) i) := by
  unfold sh_tx
  split <;> exact ⟨rfl, rfl⟩
theorem kp_I {G G' : am_F} {W J : Nat → Bool} (h1 : am_fl G = am_fl G') (h2 : am_cl G = am_cl G') (i : Instr) : kpI G W J i = kpI G' W J i := by
  unfold kpI
  rw [h1, h2]
theorem kp_J (L : Nat) (xs : Nat → Int32) (j : Nat) (M : am_M) (hj : kpJ j = true) (hM : nm_ms j = some M) : kpM (sh_tb L xs j) kpW kpJ M = true := by
  have hr : j < 156 := by
    unfold kpJ at hj
    rw [Bool.or_eq_true, Bool.and_eq_true, decide_eq_true_eq, decide_eq_true_eq] at hj
    omega
  have h := List.all_eq_true.mp kp_ck j (List.mem_range.mpr hr)
  rw [hj, hM] at h
  have h' : kpM (sh_tb 0 (fun _ => 0) j) kpW kpJ M = true := h
  refine List.all_eq_true.mpr (fun e he => ?_)
  obtain ⟨q1, q2⟩ := sh_tx_fl L xs (sh_tcl.getD j 0)
  have := List.all_eq_true.mp h' e he
  exact (kp_I q1 q2 e.2.1).trans this
/-- what no such method writes -/
def kpS (g g' : a2_G) : Prop := g' fT_numbered = g fT_numbered ∧ g' fT_units = g fT_units ∧ g' fT_greatestLevel = g fT_greatestLevel
theorem kpS.rf {g : a2_G} : kpS g g := ⟨rfl, rfl, rfl⟩
theorem kpS.tr {g1 g2 g3 : a2_G} (a : kpS g1 g2) (b : kpS g2 g3) : kpS g1 g3 := ⟨b.1.trans a.1, b.2.1.trans a.2.1, b.2.2.trans a.2.2⟩
theorem pl_kp {L : Nat} {xs : Nat → Int32} {m d j : Nat} {as : List Value} {g : a2_G} {r : a2_A} (hj : kpJ j = true) : pl (ev L xs m d j as g r) (fun _ g' _ => kpS g g') (fun _ g' _ => kpS g g') := by
  cases hz : ev L xs m d j as g r with
  | none => trivial
  | some z =>
    have hf := kp_ev (kp_J L xs) d j as g r z hj hz
    have h1 : kpS g z.2.1 := ⟨hf _ (by decide), hf _ (by decide), hf _ (by decide)⟩
    obtain ⟨o, g', r'⟩ := z
    cases o with
    | inl o => exact h1
    | inr x => exact h1
