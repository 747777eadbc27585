/-! Class and model hold the same tree. -/
theorem clp_rz {ch : List Ce} {T T' : Tf} {a b : Nat × TD} (h : a :: T = clp ch) (h' : b :: T' = clp (rz ch)) : T = T' ∧ b.2.1 = 0 := by
  cases ch with
  | nil => cases h
  | cons e l =>
    obtain ⟨h1, h2⟩ := List.cons.inj h
    obtain ⟨h3, h4⟩ := List.cons.inj h'
    refine ⟨h2.trans h4.symm, ?_⟩
    rw [h3]
def mT : Tf → Nat
  | [] => 0
  | x :: T => max x.1 (mT T)
theorem mT_tr (D : Nat → TD) : ∀ F : Fo, mT (tr D F) = mx F
  | [] => rfl
  | x :: F => by
    show max x.1 (mT (tr D F)) = max x.1 (mx F)
    rw [mT_tr D F]
/-- the same tree, below the root -/
theorem TCF.same {y : CU × Xs × Nat} {g g' : a2_G} {r r' : a2_A} (hc : TCF y g r) (hm : TMF y g' r') (hu : cQ (clp (rz y.2.1.1)) = y.2.2) : ∃ n D K F n' D' K' F', Rc n D K g r ∧ NZ n F ∧ Dn K 0 ((0, 0) :: F) ∧ NC D F g r ∧ NX n' D' K' r' F' ∧ Dn K' 0 ((0, 0) :: F') ∧ NM F' g' r' ∧ tr D F = tr D' F' ∧ (g' fM_units).toInt = cQ (tr D F) ∧ UU D' K' F' (cQ (tr D F)) r' ∧ (D' 0).1 = 0 ∧ (0, D 0) :: tr D F = clp y.2.1.1 := by
  obtain ⟨n, D, K, F, h1, h2, h3, h4, h5⟩ := hc
  obtain ⟨k1, n', D', K', F', k2, k3, k4, k5, k6⟩ := hm
  have e4 : (0, D 0) :: tr D F = clp y.2.1.1 := h4
  have e5 : (0, D' 0) :: tr D' F' = clp (rz y.2.1.1) := k4
  obtain ⟨e6, e7⟩ := clp_rz e4 e5
  refine ⟨n, D, K, F, n', D', K', F', h1, h2, h3, h5, k2, k3, k5, e6, ?_⟩
  have ec : y.2.2 = cQ (tr D F) := by
    rw [← hu, ← e5, e6]
    show kd (D' 0).1 + cQ (tr D' F') = _
    rw [show (D' 0).1 = 0 from e7]
    exact Nat.zero_add _
  rw [ec] at k1 k6
  exact ⟨k1, k6, e7, e4⟩
/-- what is counted is the same -/
theorem TCF.eq {y : CU × Xs × Nat} {g g' : a2_G} {r r' : a2_A} (hc : TCF y g r) (hm : TMF y g' r') (hu : cQ (clp (rz y.2.1.1)) = y.2.2) : g fT_numbered = g' fM_told ∧ g fT_units = g' fM_units ∧ g fT_greatestLevel = g' fM_deepest := by
  obtain ⟨n, D, K, F, n', D', K', F', h1, h2, h3, h4, h5, h6, h7, h8, h9, -⟩ := TCF.same hc hm hu
  have hl : F.length = F'.length := by
    have := congrArg List.length h8
    unfold tr at this
    rw [List.length_map, List.length_map] at this
    exact this
  have hx : mx F = mx F' := by
    rw [← mT_tr D F, h8, mT_tr D' F']
  refine ⟨Int32.toInt_inj.mp ?_, Int32.toInt_inj.mp ?_, Int32.toInt_inj.mp ?_⟩
  · rw [h4.1, h7.1, hl]
  · rw [h4.2.1, h9]
  · rw [h4.2.2.1, h7.2.1, hx]
theorem x0_un {c : CU} (hc : oN c = 0) : cQ (clp (rz (uz c x0.1))) = 0 := by
  rw [uz_n (by rw [oT_0 hc]; decide)]
  rfl
