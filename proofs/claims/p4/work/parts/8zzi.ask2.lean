/-! Both sides answer alike to division. -/
theorem xP_division0 {L : Nat} {xs : Nat → Int32} {m d : Nat} {g : a2_G} {r : a2_A} (h0 : g fT_numbered = 0) (a1 a2 : Int32) : pl (ev L xs (m + 1) d nP_division [.ref cP, .int a1, .int a2] g r) (kE g r (-1)) kN := by
  have hck : ∀ (d : Nat) (kk : Int32), pl (ev L xs (m + 1) d nT_childOfKind [.ref cT, .int (-1), .int kk] g r) (kE g r (-1)) kN := by
    intro d kk
    cases d with
    | zero => trivial
    | succ d =>
      rw [qT_childOfKind]
      refine pl_e (yT_handleOfN (F := []) (by rw [h0]; rfl) (by decide)) (pl_e yT_getN ?_)
      unfold BT_childOfKind_17
      exact pl_e yT_getN (pl_pos (by decide) ⟨rfl, rfl, rfl⟩)
  cases d with
  | zero => trivial
  | succ d =>
    rw [qP_division]
    refine pl_v (Q1 := kE g r (-1)) (X1 := kN) ?_ (fun _ _ _ e => e) (fun v g' r' e => ?_)
    · cases d with
      | zero => trivial
      | succ d =>
        rw [qT_unitAt]
        unfold BT_unitAt_4
        exact pl_pos (by rw [c2_ge, h0]; decide) ⟨rfl, rfl, rfl⟩
    · obtain ⟨e1, rfl, rfl⟩ := e
      cases e1
      refine pl_if (fun _ => ⟨rfl, rfl, rfl⟩) (fun _ => pl_if (fun _ => ?_) (fun _ => pl_if (fun _ => ?_) (fun _ => pl_if (fun _ => ?_) (fun _ => ⟨rfl, rfl, rfl⟩))))
      · exact pl_e (hck _ _) ⟨rfl, rfl, rfl⟩
      · exact pl_e (hck _ _) ⟨rfl, rfl, rfl⟩
      · exact pl_e (hck _ _) ⟨rfl, rfl, rfl⟩
theorem xM_division0 {L : Nat} {xs : Nat → Int32} {m d : Nat} {g : a2_G} {r : a2_A} (h0 : g fM_units = 0) (a1 a2 : Int32) : pl (ev L xs (m + 1) d nM_division [.ref cM, .int a1, .int a2] g r) (kE (upd g fM_thrown 0) r (-1)) kN := by
  cases d with
  | zero => trivial
  | succ d =>
    rw [qM_division]
    unfold BM_division_26
    refine pl_if (fun c1 => ⟨rfl, rfl, rfl⟩) (fun c1 => pl_pos ?_ ⟨rfl, rfl, rfl⟩)
    rw [c2_lt, i32_0] at c1
    rw [c2_ge, h0, i32_0]
    omega
theorem SMF.division {L : Nat} {xs : Nat → Int32} {g : a2_G} {r : a2_A} (h : SMF g r) (a1 a2 : Int32) : ∃ v : Int32, (∀ m d, pl (ev L xs (m + 1) d nP_division [.ref cP, .int a1, .int a2] g r) (kE g r v) kN) ∧ ∀ m d, pl (ev L xs (m + 1) d nM_division [.ref cM, .int a1, .int a2] g r) (kE (upd g fM_thrown 0) r v) kN := by
  rcases h with ⟨⟨b1, -, -⟩, -, -, b4⟩ | ⟨n, D, K, F, n', D', K', F', b1, b2, b3, b4, b5, b6, -⟩
  · exact ⟨-1, fun _ _ => xP_division0 b1 _ _, fun _ _ => xM_division0 b4 _ _⟩
  · refine ⟨dvV (tr D F) a1 a2, fun _ _ => xP_division b1 _ _, fun _ _ => ?_⟩
    rw [b3] at b4 b5 ⊢
    exact xM_division b2 b5 b4 (by rw [b6]; rfl) _ _
