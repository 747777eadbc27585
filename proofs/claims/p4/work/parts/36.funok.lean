/-! The function is sound: what it computes, the second machine does. -/
theorem fn_st {F G : am_F} {c : String} (H : fn_agr F G c) (Y : a2_Y) (i : Instr) (len pc : Nat) (L : am_L) (S : List Value) (g : a2_G) (r : a2_A) : a2_st F Y c i len pc L S g r = a2_st G Y "" i len pc L S g r := by
  obtain ⟨h1, h2, h3, h4, h5, -⟩ := H
  unfold a2_st am_st
  simp only [h1, h2, h3, h4, h5]
theorem fn_ts_ok {x : Int32} {J : Int → Option fn_Z} {d : Int} {z : fn_Z} : ∀ (l : List Int) (v : Int), fn_ts x J d v l = some z → ∃ off, J off = some z ∧ ((off = d ∧ (x.toInt < v ∨ v + l.length ≤ x.toInt)) ∨ (v ≤ x.toInt ∧ x.toInt < v + l.length ∧ l[(x.toInt - v).toNat]? = some off))
  | [], v, h => ⟨d, h, Or.inl ⟨rfl, by simp; omega⟩⟩
  | off :: t, v, h => by
    unfold fn_ts at h
    split at h
    · rename_i e
      refine ⟨off, h, Or.inr ⟨by omega, by simp; omega, ?_⟩⟩
      rw [show (x.toInt - v).toNat = 0 by omega]
      rfl
    · rename_i e
      obtain ⟨o, h1, h2 | h2⟩ := fn_ts_ok t (v + 1) h
      · refine ⟨o, h1, Or.inl ⟨h2.1, ?_⟩⟩
        have h3 := h2.2
        simp only [List.length_cons]
        omega
      · obtain ⟨h3, h4, h5⟩ := h2
        refine ⟨o, h1, Or.inr ⟨by omega, by simp only [List.length_cons]; omega, ?_⟩⟩
        rw [show (x.toInt - v).toNat = (x.toInt - (v + 1)).toNat + 1 by omega, List.getElem?_cons_succ]
        exact h5
theorem fn_ls_ok {x : Int32} {J : Int → Option fn_Z} {d : Int} : ∀ (l : List (Int × Int)), fn_ls x J d l = J (Op.lookupswitch.offset l d x.toInt)
  | [] => rfl
  | (a, o) :: t => by
    rw [Op.lookupswitch.offset_cons]
    unfold fn_ls
    by_cases h : x.toInt = a
    · rw [if_pos h, if_pos h.symm]
    · rw [if_neg h, if_neg (fun e => h e.symm), fn_ls_ok t]
theorem fn_c_ok {cl : List vw_C} {Y : a2_Y} {RG : List Nat} {ms : Nat → Option am_M} {oc : Nat → Option Nat} {E : fn_E} (Hoc : ∀ j ci N, oc j = some ci → ms j = some N → ∃ q, cl[ci]? = some q ∧ q.1 = (am_y N).cls) {j w : Nat} {L : am_L} {S : List Value} {g : a2_G} {r : a2_A} {k : List Value → a2_G → a2_A → Option fn_Z} {z : fn_Z} (h : fn_c Y RG ms oc E j w L S g r k = some z) :
    ∃ (N : am_M) (as rest : List Value), ms j = some N ∧ as.length = am_k N ∧ S = as.reverse ++ rest ∧ (w = 0 ∨ w = 3 → a2_rc cl Y N as) ∧ (rest.map fun v => v.category).sum ≤ 8 ∧ rest.all (a2_nR RG) = true ∧ L.all (a2_nL RG) = true ∧
      ((∃ v g' r', E j as g r = some (.inl v, g', r') ∧ k (v.toList ++ rest) g' r' = some z) ∨ (∃ x g' r', E j as g r = some (.inr x, g', r') ∧ z = (.inr x, g', r'))) := by
  unfold fn_c at h
  cases hN : ms j with
  | none => rw [hN] at h; cases h
  | some N =>
    rw [hN] at h
    dsimp only at h
    split at h
    · rename_i hc
      simp only [Bool.and_eq_true, decide_eq_true_eq] at hc
      obtain ⟨⟨⟨⟨c1, c2⟩, c3⟩, c4⟩, c5⟩ := hc
      refine ⟨N, (S.take (am_k N)).reverse, S.drop (am_k N), rfl, by rw [List.length_reverse]; exact c1, by rw [List.reverse_reverse, List.take_append_drop], ?_, c2, c3, c4, ?_⟩
      · intro hw
        unfold fn_rc at c5
        split at c5
        · rename_i h2; omega
        · rename_i ci t ht
          simp only [Bool.and_eq_true, decide_eq_true_eq, Bool.not_eq_true'] at c5
          obtain ⟨q, q1, q2⟩ := Hoc j ci N c5.1 hN
          exact ⟨ci, t, q, ht, fun e => by rw [e] at c5; simp at c5, q1, q2⟩
        · rename_i ci t ht
          simp only [Bool.and_eq_true, decide_eq_true_eq, Bool.not_eq_true'] at c5
          obtain ⟨q, q1, q2⟩ := Hoc j ci N c5.1 hN
          exact ⟨ci, t, q, ht, fun e => by rw [e] at c5; simp at c5, q1, q2⟩
        · cases c5
      · split at h
        · unfold fn_v at h
          split at h
          · rename_i v g' r' hE
            exact Or.inl ⟨some (.int v), g', r', hE, h⟩
          · rename_i x g' r' hE
            exact Or.inr ⟨x, g', r', hE, (Option.some.inj h).symm⟩
          · cases h
        · unfold fn_n at h
          split at h
          · rename_i g' r' hE
            exact Or.inl ⟨none, g', r', hE, h⟩
          · rename_i x g' r' hE
            exact Or.inr ⟨x, g', r', hE, (Option.some.inj h).symm⟩
          · cases h
    · cases h
theorem fn_cp_ok {G : am_F} {Y : a2_Y} {RG : List Nat} {o : Option (Instr × Nat)} {L : am_L} {S : List Value} {g : a2_G} {r : a2_A} {k : List Value → a2_G → a2_A → Option fn_Z} {z : fn_Z} (h : fn_cp G Y RG o L S g r k = some z) :
    ∃ (k2 ci j c2 j2 : Nat) (n : Int32) (rest : List Value), o = some (.putfield k2, 3) ∧ S = .int n :: .ref (10000 + (100 * c2 + j2)) :: .ref ci :: rest ∧ am_fl G "" k2 = some (ci, j, .array .int, false) ∧ (Y ci)[j]? = some (3, 0) ∧ (Y c2)[j2]? = some (3, 0) ∧ (100 * ci + j) ∈ RG ∧
      ¬ n < 0 ∧ n.toNatClampNeg ≤ 60000000 ∧ n.toNatClampNeg ≠ (r (100 * c2 + j2)).1 ∧ (r (100 * c2 + j2)).1 ≤ 60000000 ∧ (rest.map fun v => v.category).sum ≤ 7 ∧ rest.all (a2_nR RG) = true ∧ L.all (a2_nL RG) = true ∧ 100 * c2 + j2 = 100 * ci + j ∧ 0 < (r (100 * c2 + j2)).1 ∧ 2 * (r (100 * c2 + j2)).1 ≤ n.toNatClampNeg ∧ k rest g (a2_ua r (100 * ci + j) (a2_cp n.toNatClampNeg (r (100 * c2 + j2)))) = some z := by
  unfold fn_cp at h
  split at h
  · rename_i k2 n a ci rest
    split at h
    · rename_i ci' j q h1 h2
      split at h
      · rename_i hc
        split at h
        · rename_i hd
          simp only [Bool.and_eq_true, decide_eq_true_eq] at hc
          obtain ⟨⟨⟨⟨⟨⟨⟨c1, c2⟩, c3⟩, c4⟩, c5⟩, c6⟩, c7⟩, c8⟩ := hc
          obtain ⟨d1, d2, d3, d4, d5, d6⟩ := hd
          have ha : a = 10000 + q := by
            unfold a2_ar at h2
            split at h2
            · rename_i h10
              split at h2
              · have e : a - 10000 = q := (Prod.mk.inj (Option.some.inj h2)).1
                exact (Nat.add_sub_cancel' h10).symm.trans (congrArg (fun t => 10000 + t) e)
              · have e : (4 : Nat) = 3 := (Prod.mk.inj (Option.some.inj h2)).2
                exact absurd e (by decide)
              · exact absurd h2 (fun e => nomatch e)
            · exact absurd h2 (fun e => nomatch e)
          have hq : 100 * (q / 100) + q % 100 = q := Nat.div_add_mod q 100
          subst c1
          refine ⟨k2, ci', j, q / 100, q % 100, n, rest, rfl, by rw [hq, ha], h1, c2, c3, c4, d1, d2, ?_, ?_, c5, c6, c7, ?_, ?_, ?_, ?_⟩
          · rw [hq]; exact d3
          · rw [hq]; exact d4
          · rw [hq]; exact c8
          · rw [hq]; exact d5
          · rw [hq]; exact d6
          · rw [hq]; exact h
        · cases h
      · cases h
    · cases h
  · cases h
section
variable {F G : am_F} {cl : List vw_C} {ms : Nat → Option am_M} {Y : a2_Y} {RG : List Nat} {jc : Nat} {oc : Nat → Option Nat} {tw : List (Nat × Nat)} {E : fn_E} {ET : a2_T} {M : am_M} {K : Nat → am_L → a2_G → a2_A → Option fn_Z}
theorem fn_jp_ok {pc t : Nat} {L : am_L} {S : List Value} {g : a2_G} {r : a2_A} {a : Option fn_Z} {z : fn_Z} (HK : ∀ t L g r z, K t L g r = some z → a2_Go F cl ms Y RG jc ET M z (none, t, L, [], g, r)) (h : fn_jp K pc t L S g r a = some z) (h1 : a = some z → a2_Go F cl ms Y RG jc ET M z (none, t, L, S, g, r)) : a2_Go F cl ms Y RG jc ET M z (none, t, L, S, g, r) := by
  unfold fn_jp at h
  split at h
  · exact h1 h
  · split at h
    · exact HK _ _ _ _ _ h
    · cases h
theorem fn_i {pc : Nat} {L : am_L} {S : List Value} {g : a2_G} {r : a2_A} {i : Instr} {len : Nat} {z : fn_Z} {b : Nat × am_L × List Value × a2_G × a2_A} (h1 : (am_cd M).lookup pc = some (i, len)) (h2 : a2_st F Y (am_y M).cls i len pc L S g r = some b) (k : a2_Go F cl ms Y RG jc ET M z (none, b)) : a2_Go F cl ms Y RG jc ET M z (none, pc, L, S, g, r) :=
  a2_Go.step (Or.inl ⟨pc, L, S, g, r, i, len, b, rfl, h1, h2, rfl⟩) k
theorem fn_call {pc : Nat} {L : am_L} {S : List Value} {g : a2_G} {r : a2_A} {i : Instr} {len j w : Nat} {z : fn_Z} {k : List Value → a2_G → a2_A → Option fn_Z} (Hoc : ∀ j ci N, oc j = some ci → ms j = some N → ∃ q, cl[ci]? = some q ∧ q.1 = (am_y N).cls) (hh : am_hs M = []) (HE : ∀ j as g r z, E j as g r = some z → ET j as g r z.1 z.2.1 z.2.2) (h1 : (am_cd M).lookup pc = some (i, len)) (h2 : am_call F (am_y M).cls i len = some (j, w)) (hw : w = 0 ∨ w = 2 ∨ w = 3) (h : fn_c Y RG ms oc E j w L S g r k = some z)
    (hk : ∀ S g r, k S g r = some z → a2_Go F cl ms Y RG jc ET M z (none, pc + 3, L, S, g, r)) : a2_Go F cl ms Y RG jc ET M z (none, pc, L, S, g, r) := by
  obtain ⟨N, as, rest, c1, c2, c3, c4, c5, c6, c7, c8⟩ := fn_c_ok (cl := cl) Hoc h
  rcases c8 with ⟨v, g', r', e1, e2⟩ | ⟨x, g', r', e1, e2⟩
  · exact a2_Go.step (Or.inr (Or.inl ⟨pc, L, S, g, r, i, len, j, w, N, as, rest, .inl v, g', r', rfl, h1, h2, hw, c1, c2, c3, c4, c5, c6, c7, HE _ _ _ _ _ e1, rfl⟩)) (hk _ _ _ e2)
  · refine a2_Go.step (Or.inr (Or.inl ⟨pc, L, S, g, r, i, len, j, w, N, as, rest, .inr x, g', r', rfl, h1, h2, hw, c1, c2, c3, c4, c5, c6, c7, HE _ _ _ _ _ e1, rfl⟩)) (a2_Go.fin (Or.inr (Or.inr (Or.inl ⟨pc, L, rest, g', r', x, rfl, hh, ?_⟩))))
    exact e2
set_option maxHeartbeats 2000000 in
theorem fn_b_ok (HG : fn_agr F G (am_y M).cls) (Hoc : ∀ j ci N, oc j = some ci → ms j = some N → ∃ q, cl[ci]? = some q ∧ q.1 = (am_y N).cls) (Htw : ∀ pc x, tw.lookup pc = some x → am_tw F (am_y M).cls (am_cd M) pc = some x) (hh : am_hs M = []) (HE : ∀ j as g r z, E j as g r = some z → ET j as g r z.1 z.2.1 z.2.2) (HK : ∀ t L g r z, K t L g r = some z → a2_Go F cl ms Y RG jc ET M z (none, t, L, [], g, r)) :
    ∀ (n pc : Nat) (L : am_L) (S : List Value) (g : a2_G) (r : a2_A) (z : fn_Z), fn_b G Y RG jc ms oc tw E M K n pc L S g r = some z → a2_Go F cl ms Y RG jc ET M z (none, pc, L, S, g, r) := by
  have Hst := fun i len pc L S g r => fn_st HG Y i len pc L S g r
  have Hfl := HG.1
  have Hcl := HG.2.2.2.2.2
  intro n
  induction n with
  | zero => intro pc L S g r z h; cases h
  | succ n ih =>
    intro pc L S g r z h
    unfold fn_b at h
    cases hq : (am_cd M).lookup pc with
    | none => rw [hq] at h; cases h
    | some q =>
      obtain ⟨i, len⟩ := q
      rw [hq] at h
      dsimp only at h
      split at h
      -- goto
      · rename_i off _
        split at h
        · cases h
        · rename_i t ht
          refine fn_i hq (b := (t, L, S, g, r)) (by simp [a2_st, am_st, ht]) ?_
          exact fn_jp_ok HK h (ih _ _ _ _ _ _)
      -- ifCond
      · rename_i c off x S
        split at h
        · cases h
        · rename_i t ht
          split at h
          · rename_i hc
            refine fn_i hq (b := (t, L, S, g, r)) (by simp [a2_st, am_st, ht, hc]) ?_
            exact fn_jp_ok HK h (ih _ _ _ _ _ _)
          · rename_i hc
            refine fn_i hq (b := (pc + 3, L, S, g, r)) (by simp [a2_st, am_st, ht, hc]) ?_
            exact ih _ _ _ _ _ _ h
      -- if_icmp
      · rename_i c off y x S
        split at h
        · cases h
        · rename_i t ht
          split at h
          · rename_i hc
            refine fn_i hq (b := (t, L, S, g, r)) (by simp [a2_st, am_st, ht, hc]) ?_
            exact fn_jp_ok HK h (ih _ _ _ _ _ _)
          · rename_i hc
            refine fn_i hq (b := (pc + 3, L, S, g, r)) (by simp [a2_st, am_st, ht, hc]) ?_
            exact ih _ _ _ _ _ _ h
      -- tableswitch
      · rename_i d lo hi offs x S
        split at h
        · rename_i hl
          obtain ⟨off, h1, h2⟩ := fn_ts_ok _ _ h
          split at h1
          · cases h1
          · rename_i t ht
            refine fn_i hq (b := (t, L, S, g, r)) ?_ (fn_jp_ok HK h1 (ih _ _ _ _ _ _))
            rcases h2 with ⟨rfl, h3⟩ | ⟨h3, h4, h5⟩
            · have h6 : x.toInt < lo ∨ hi < x.toInt := by omega
              simp [a2_st, am_st, if_pos h6, ht]
            · have h6 : ¬ (x.toInt < lo ∨ hi < x.toInt) := by omega
              have h7 : offs[(x.toInt - lo).toNat]? = some off := by rw [← Array.getElem?_toList]; exact h5
              simp [a2_st, am_st, if_neg h6, h7, ht]
        · cases h
      -- lookupswitch
      · rename_i d ps _ x S
        split at h
        · rename_i hl
          rw [fn_ls_ok] at h
          split at h
          · cases h
          · rename_i t ht
            refine fn_i hq (b := (t, L, S, g, r)) ?_ (fn_jp_ok HK h (ih _ _ _ _ _ _))
            simp only [a2_st, am_st, if_pos hl, ht]
        · cases h
      -- iaload
      · rename_i i a S
        split at h
        · rename_i k ha
          split at h
          · rename_i hr
            exact fn_i hq (b := (pc + 1, L, .int ((r k).2 i.toNatClampNeg) :: S, g, r)) (by simp [a2_st, ha, hr]) (ih _ _ _ _ _ _ h)
          · cases h
        · cases h
      -- baload
      · rename_i i a S
        split at h
        · rename_i k ha
          split at h
          · rename_i hr
            exact fn_i hq (b := (pc + 1, L, .int ((r k).2 i.toNatClampNeg) :: S, g, r)) (by simp [a2_st, ha, hr]) (ih _ _ _ _ _ _ h)
          · cases h
        · cases h
      -- iastore
      · rename_i x i a S
        split at h
        · rename_i k ha
          split at h
          · rename_i hr
            exact fn_i hq (b := (pc + 1, L, S, g, _)) (by simp only [a2_st, ha, hr, if_true]) (ih _ _ _ _ _ _ h)
          · cases h
        · cases h
      -- bastore
      · rename_i x i a S
        split at h
        · rename_i k ha
          split at h
          · rename_i hr
            exact fn_i hq (b := (pc + 1, L, S, g, _)) (by simp only [a2_st, ha, hr, if_true]) (ih _ _ _ _ _ _ h)
          · cases h
        · cases h
      -- putfield
      · rename_i k x a S
        split at h
        · rename_i ci j ty hf
          split at h
          · rename_i hac
            split at h
            · rename_i hy
              exact fn_i hq (b := (pc + 3, L, S, upd g (100 * ci + j) x, r)) (by simp [a2_st, Hfl, hf, hac, hy]) (ih _ _ _ _ _ _ h)
            · rename_i hy
              split at h
              · rename_i hx
                exact fn_i hq (b := (pc + 3, L, S, upd g (100 * ci + j) x, r)) (by simp [a2_st, Hfl, hf, hac, hy, hx]) (ih _ _ _ _ _ _ h)
              · cases h
            · cases h
          · cases h
        · cases h
      -- ireturn
      · rename_i v
        split at h
        · rename_i hr
          exact a2_Go.fin (Or.inl ⟨pc, L, v, g, r, .int, rfl, hq, hr, rfl, (Option.some.inj h).symm⟩)
        · rename_i hr
          split at h
          · rename_i hv
            refine a2_Go.fin (Or.inl ⟨pc, L, v, g, r, .boolean, rfl, hq, hr, ?_, (Option.some.inj h).symm⟩)
            rcases hv with rfl | rfl <;> rfl
          · cases h
        · cases h
      -- return
      · split at h
        · rename_i hr
          exact a2_Go.fin (Or.inr (Or.inl ⟨pc, L, g, r, rfl, hq, hr, (Option.some.inj h).symm⟩))
        · cases h
      -- new
      · split at h
        · rename_i x hx
          split at h
          · rename_i hs
            exact a2_Go.fin (Or.inr (Or.inr (Or.inr ⟨pc, L, S, g, r, x, rfl, Htw _ _ hx, hh, hs, (Option.some.inj h).symm⟩)))
          · cases h
        · cases h
      -- invokevirtual
      · rename_i k _
        split at h
        · rename_i j w hc
          split at h
          · rename_i hw
            exact fn_call Hoc hh HE hq (by simp only [am_call, Hcl, hc, if_pos hw]) (by omega) h (fun S g r h => ih _ _ _ _ _ _ h)
          · cases h
        · cases h
      -- invokestatic
      · rename_i k _
        split at h
        · rename_i j w hc
          split at h
          · rename_i hw
            split at h
            · rename_i hj
              obtain ⟨k2, ci, j', c2, j2, n', rest, e1, e2, e3, e4, e5, e6, e7, e8, e9, e10, e11, e12, e13, f1, f2, f3, e14⟩ := fn_cp_ok h
              subst e2
              refine a2_Go.step (Or.inr (Or.inr (Or.inr ⟨pc, L, g, r, _, 3, k2, ci, j', .array .int, 0, c2, j2, 0, n', rest, rfl, hq, ?_, e1, ?_, rfl, e4, e5, e6, e7, e8, e9, e10, e11, e12, e13, f1, f2, f3, rfl⟩))) (ih _ _ _ _ _ _ e14)
              · simp only [am_call, Hcl, hc, hj, hw]
                simp
              · rw [Hfl]; exact e3
            · exact fn_call Hoc hh HE hq (by simp only [am_call, Hcl, hc]; simp [hw]) (Or.inr (Or.inl hw)) h (fun S g r h => ih _ _ _ _ _ _ h)
          · split at h
            · rename_i hw
              split at h
              · rename_i y x rest
                split at h
                · rename_i hs
                  refine a2_Go.step (Or.inr (Or.inr (Or.inl ⟨pc, L, g, r, _, 3, j, w, x, y, rest, rfl, hq, ?_, hw, hs, rfl⟩))) (ih _ _ _ _ _ _ h)
                  simp only [am_call, Hcl, hc]
                  rcases hw with rfl | rfl <;> simp
                · cases h
              · cases h
            · cases h
        · cases h
      -- all else
      · split at h
        · rename_i pc' L' S' g' r' hs
          exact fn_i hq (b := (pc', L', S', g', r')) (by rw [Hst]; exact hs) (ih _ _ _ _ _ _ h)
        · cases h
theorem fn_l_ok (HG : fn_agr F G (am_y M).cls) (Hoc : ∀ j ci N, oc j = some ci → ms j = some N → ∃ q, cl[ci]? = some q ∧ q.1 = (am_y N).cls) (Htw : ∀ pc x, tw.lookup pc = some x → am_tw F (am_y M).cls (am_cd M) pc = some x) (hh : am_hs M = []) (HE : ∀ j as g r z, E j as g r = some z → ET j as g r z.1 z.2.1 z.2.2) (n : Nat) :
    ∀ (m t : Nat) (L : am_L) (g : a2_G) (r : a2_A) (z : fn_Z), fn_l G Y RG jc ms oc tw E M n m t L g r = some z → a2_Go F cl ms Y RG jc ET M z (none, t, L, [], g, r)
  | 0, _, _, _, _, _, h => by cases h
  | m + 1, t, L, g, r, z, h => fn_b_ok HG Hoc Htw hh HE (fn_l_ok HG Hoc Htw hh HE n m) n t L [] g r z h
end
/-- the tables that the function is over are right -/
def fn_ok (F : am_F) (cl : List vw_C) (ms : Nat → Option am_M) (tb : Nat → am_F) (oc : Nat → Option Nat) (ok : Nat → Bool) (tw : Nat → List (Nat × Nat)) : Prop :=
  (∀ j ci N, oc j = some ci → ms j = some N → ∃ q, cl[ci]? = some q ∧ q.1 = (am_y N).cls) ∧ ∀ j M, ok j = true → ms j = some M → fn_agr F (tb j) (am_y M).cls ∧ (∀ pc x, (tw j).lookup pc = some x → am_tw F (am_y M).cls (am_cd M) pc = some x) ∧ am_hs M = [] ∧ am_k M ≤ am_n M ∧ (am_y M).name ≠ "<init>"
/-- WHAT THE FUNCTION COMPUTES, THE SECOND MACHINE DOES -/
theorem fn_sound {F : am_F} {cl : List vw_C} {ms : Nat → Option am_M} {tb : Nat → am_F} {Y : a2_Y} {RG : List Nat} {jc : Nat} {oc : Nat → Option Nat} {ok : Nat → Bool} {tw : Nat → List (Nat × Nat)} {n m : Nat} (H : fn_ok F cl ms tb oc ok tw) : ∀ (d j : Nat) (as : List Value) (g : a2_G) (r : a2_A) (z : fn_Z), fn_ev tb Y RG jc ms oc ok tw n m d j as g r = some z → a2_Ev F cl ms Y RG jc d j as g r z.1 z.2.1 z.2.2
  | 0, _, _, _, _, _, h => by cases h
  | d + 1, j, as, g, r, z, h => by
    unfold fn_ev at h
    cases hM : ms j with
    | none => rw [hM] at h; cases h
    | some M =>
      rw [hM] at h
      dsimp only at h
      split at h
      · rename_i hc
        simp only [Bool.and_eq_true, decide_eq_true_eq] at hc
        obtain ⟨⟨⟨c1, c2⟩, c3⟩, c4⟩ := hc
        obtain ⟨h1, h2, h3, h4, h5⟩ := H.2 j M c1 hM
        exact ⟨M, hM, c2, h4, fun v hv => by simpa using List.all_eq_true.mp c3 v hv, c4, h5, fn_l_ok h1 H.1 h2 h3 (fn_sound H d) n m 0 _ g r z h⟩
      · cases h
