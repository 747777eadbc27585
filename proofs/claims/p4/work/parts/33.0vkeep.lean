/-! What an instruction without 'new' keeps: how many cells, how many slots; the second machine's arrays keep their lengths. -/
theorem am_st_sz {F : am_F} {own : String} {ini : Bool} {i : Instr} {len pc pc' : Nat} {L L' : am_L} {S S' : List Value} {h h' : am_H} (hi : ∀ k, i ≠ .new k) (hj : ∀ t, i ≠ .newarray t) (hs : am_st F own ini i len pc L S h = some (pc', L', S', h')) : h'.length = h.length ∧ am_sz h' = am_sz h := by
  unfold am_st at hs
  repeat' (split at hs)
  all_goals first
    | (cases hs; exact ⟨rfl, rfl⟩)
    | (exact absurd rfl (hi _))
    | (exact absurd rfl (hj _))
    | (cases hs; done)
    | (cases hs; exact ⟨List.length_set, am_sz_set (by assumption) rfl⟩)
    | (cases hs; refine ⟨List.length_set, am_sz_set (by assumption) ?_⟩; simp [am_es])
theorem a2_st_ln {F : am_F} {Y : a2_Y} {own : String} {i : Instr} {len pc pc' : Nat} {L L' : am_L} {S S' : List Value} {g g' : a2_G} {r r' : a2_A} (hs : a2_st F Y own i len pc L S g r = some (pc', L', S', g', r')) (q : Nat) : (r' q).1 = (r q).1 := by
  unfold a2_st at hs
  repeat' (split at hs)
  all_goals first
    | (cases hs; rfl)
    | (cases hs; done)
    | (cases hs; unfold a2_ua; split <;> simp_all)
theorem a2_st_new {F : am_F} {Y : a2_Y} {own : String} {i : Instr} {len pc : Nat} {L : am_L} {S : List Value} {g : a2_G} {r : a2_A} {z : Nat × am_L × List Value × a2_G × a2_A} (hs : a2_st F Y own i len pc L S g r = some z) : (∀ k, i ≠ .new k) ∧ (∀ t, i ≠ .newarray t) := by
  refine ⟨fun k e => ?_, fun t e => ?_⟩
  · subst e
    simp only [a2_st] at hs
    split at hs
    · rename_i heq
      unfold am_st at heq
      repeat' (split at heq)
      all_goals first | contradiction | (cases heq; done) | simp_all
    · cases hs
  · subst e
    simp only [a2_st] at hs
    split at hs
    · rename_i heq
      unfold am_st at heq
      repeat' (split at heq)
      all_goals first | contradiction | (cases heq; done) | simp_all
    · cases hs
/-- a2_one, with what it keeps -/
theorem a2_oneK {F : am_F} {Y : a2_Y} (hY : a2_okY F Y) {own : String} {i : Instr} {len pc pc' : Nat} {L L' : am_L} {S S' : List Value} {g g' : a2_G} {r r' : a2_A} {rho : Nat → Nat} {h : am_H} (hs : a2_st F Y own i len pc L S g r = some (pc', L', S', g', r')) (hR : a2_Rel Y rho g r h) :
    ∃ h', am_st F own false i len pc (a2_tl rho L) (S.map (a2_tv rho)) h = some (pc', a2_tl rho L', S'.map (a2_tv rho), h') ∧ a2_Rel Y rho g' r' h' ∧ h'.length = h.length ∧ am_sz h' = am_sz h ∧ ∀ q, (r' q).1 = (r q).1 := by
  obtain ⟨h', e1, e2⟩ := a2_one hY hs hR
  obtain ⟨n1, n2⟩ := a2_st_new hs
  obtain ⟨s1, s2⟩ := am_st_sz n1 n2 e1
  exact ⟨h', e1, e2, s1, s2, a2_st_ln hs⟩
