/-! Both sides answer alike. -/
theorem SMF.child {L : Nat} {xs : Nat → Int32} {g : a2_G} {r : a2_A} (h : SMF g r) (a1 a2 : Int32) : ∃ v : Int32, (∀ m d, pl (ev L xs (m + 1) d nP_child [.ref cP, .int a1, .int a2] g r) (kE g r v) kN) ∧ ∀ m d, pl (ev L xs (m + 1) d nM_child2 [.ref cM, .int a1, .int a2] g r) (kE (upd g fM_thrown 0) r v) kN := by
  rcases h with ⟨⟨a1, -, -⟩, a4, -, -⟩ | ⟨n, D, K, F, n', D', K', F', b1, b2, b3, b4, -⟩
  · exact ⟨-1, fun _ _ => xP_child0 a1 _ _, fun _ _ => xM_child20 a4 _ _⟩
  · refine ⟨chV (F.map Prod.fst) a1 a2, fun _ _ => xP_child b1 _ _, fun _ _ => ?_⟩
    rw [← tr_ds D F, b3, tr_ds]
    exact xM_child2 b2 _ _
theorem SMF.of {y : CU × Xs × Nat} {g1 g2 : a2_G} {r1 r2 : a2_A} (hc : TCF y g1 r1) (hm : TMF y g2 r2) (hu : cQ (clp (rz y.2.1.1)) = y.2.2) (hp : Pu (clp y.2.1.1) ∧ x1n y.2.1.1) (hg : ∀ k, k / 100 = 2 → g2 k = g1 k) (hr : r2 fT_cells = r1 fT_cells) : SMF g2 r2 := by
  obtain ⟨n, D, K, F, n', D', K', F', h1, h2, h3, h4, h5, h6, h7, h8, h9, h10, h11, h12⟩ := TCF.same hc hm hu
  have hT : TC n D K F g1 r1 := ⟨h1, h2, h3, h4⟩
  refine Or.inr ⟨n, D, K, F, n', D', K', F', hT.fr hg hr, ⟨h5, h6, h7⟩, h8, h9, h10, h11, ?_, ?_⟩
  · have hp1 := hp.1
    rw [← h12] at hp1
    exact hp1.tl
  · cases hy : y.2.1.1 with
    | nil =>
      rw [hy] at h12
      cases h12
    | cons e l =>
      rw [hy] at h12
      have e1 : D 0 = e.1 := congrArg Prod.snd (List.cons.inj h12).1
      rw [e1]
      exact (hp.2 e (by rw [hy]; exact List.mem_cons_self)).2
