/-! Trees stay where words come in. -/
def cpRR (c : Nat) : Prop := c = 1
theorem cp_R : cpC nm_Y cpRR := by
  refine ⟨nm_okZ, nm_Y_len, fun ci j cj hc hy => ?_⟩
  have hc' : ci = 1 := hc
  subst hc'
  have h : (nm_YL.getD 1 []).all (fun k => k.1 != 2) = true := by decide +kernel
  have h2 := List.all_eq_true.mp h (2, cj) (List.mem_of_getElem? hy)
  simp at h2
section
variable {L : Nat} {xs : Nat → Int32} {m d k : Nat} {n : Nat} {D : Nat → TD} {K : Nat → List Nat} {g g' : a2_G} {r r' : a2_A} {F : Fo}
theorem cp_none {C : Nat → Prop} {as : List Value} (h : ∀ v, v ∈ as → ∃ n : Int32, v = .int n) : cpS C as := fun v hv k hk => by
  obtain ⟨n, e⟩ := h v hv
  rw [e] at hk
  cases hk
theorem xP_wordF (a1 a2 : Int32) : pl (ev L xs (m + 1) d nP_word [.ref cP, .int a1, .int a2] g r) (fun _ g' r' => cpF cpRR g r g' r') (fun _ g' r' => cpF cpRR g r g' r') := by
  cases d with
  | zero => trivial
  | succ d =>
    rw [qP_word]
    unfold BP_word_34
    refine pl_v (pl_cp (C := cpRR) cp_R (cp_none ai2) (pl_true (z := ev L xs (m + 1) d nP_isWord [.int a1, .int a2] g r))) (fun _ _ _ e => e.2) (fun v g1 r1 e => ?_)
    refine pl_if (fun _ => ?_) (fun _ => e.2)
    refine pl_v (pl_cp (C := cpRR) cp_R (cpS.int (by decide) rfl ai0) (pl_true (z := ev L xs (m + 1) d nR_isFull [.ref cR] g1 r1))) (fun _ _ _ e2 => e.2.trans e2.2) (fun v g2 r2 e2 => ?_)
    refine pl_if (fun _ => ?_) (fun _ => e.2.trans e2.2)
    exact pl_v (pl_cp (C := cpRR) cp_R (cpS.int (by decide) rfl ai2) (pl_true (z := ev L xs (m + 1) d nR_add [.ref cR, .int a1, .int a2] g2 r2))) (fun _ _ _ e3 => (e.2.trans e2.2).trans e3.2) (fun v g3 r3 e3 => (e.2.trans e2.2).trans e3.2)
theorem xM_wordF (a1 a2 : Int32) : pl (ev L xs (m + 1) d nM_word [.ref cM, .int a1, .int a2] g r) (fun _ g' r' => Fm [fM_size, fM_thrown] [fM_kinds, fM_values] g r g' r') kN := by
  have hF : Fm [fM_size, fM_thrown] [fM_kinds, fM_values] g r (upd g fM_thrown 0) r := Fm.rf.up (by decide)
  have h66 : ∀ x3, pl (BM_word_66 L xs (m + 1) (d - 1) m a1 a2 x3 (upd g fM_thrown 0) r) (fun _ g' r' => Fm [fM_size, fM_thrown] [fM_kinds, fM_values] g r g' r') kN := by
    intro x3
    unfold BM_word_66
    exact pl_if (fun _ => pl_if (fun _ => pl_if (fun _ => ((hF.up (by decide)).ua (by decide)).ua (by decide)) (fun _ => trivial)) (fun _ => trivial)) (fun _ => hF)
  cases d with
  | zero => trivial
  | succ d =>
    have h48 : ∀ x3, pl (BM_word_48 L xs (m + 1) d m a1 a2 x3 (upd g fM_thrown 0) r) (fun _ g' r' => Fm [fM_size, fM_thrown] [fM_kinds, fM_values] g r g' r') kN := by
      intro x3
      unfold BM_word_48
      refine pl_if (fun _ => h66 _) (fun _ => ?_)
      exact pl_e xM_in (pl_if (fun _ => h66 _) (fun _ => hF))
    rw [qM_word]
    refine pl_e xM_in (pl_if (fun _ => ?_) (fun _ => hF))
    exact pl_if (fun _ => pl_if (fun _ => pl_if (fun _ => h48 _) (fun _ => h48 _)) (fun _ => h48 _)) (fun _ => h48 _)
theorem TC.fr (h : TC n D K F g r) (hg : ∀ k, k / 100 = 2 → g' k = g k) (hr : r' fT_cells = r fT_cells) : TC n D K F g' r' := by
  unfold TC Rc NC at h ⊢
  rw [hg fT_made (by decide), hg fT_numbered (by decide), hg fT_units (by decide), hg fT_greatestLevel (by decide), hr]
  exact h
theorem TN.fr (h : TN n D K F g r) (h1 : g' fM_told = g fM_told) (h2 : g' fM_deepest = g fM_deepest) (hr : ∀ q, q ∈ [fM_kind, fM_value, fM_place, fM_extra, fM_first, fM_last, fM_next, fM_above, fM_number, fM_order] → r' q = r q) : TN n D K F g' r' := by
  unfold TN NX NM Mz Sz at h ⊢
  rw [h1, h2, hr fM_kind (by decide), hr fM_value (by decide), hr fM_place (by decide), hr fM_extra (by decide), hr fM_first (by decide), hr fM_last (by decide), hr fM_next (by decide), hr fM_above (by decide), hr fM_number (by decide), hr fM_order (by decide)]
  exact h
theorem SMF.fr (h : SMF g r) (hg : ∀ k, k / 100 = 2 → g' k = g k) (hc : r' fT_cells = r fT_cells) (h1 : g' fM_told = g fM_told) (h2 : g' fM_deepest = g fM_deepest) (h3 : g' fM_units = g fM_units) (hr : ∀ q, q ∈ [fM_kind, fM_value, fM_place, fM_extra, fM_first, fM_last, fM_next, fM_above, fM_number, fM_order] ++ [fM_unitNode, fM_environment, fM_data, fM_procedure] → r' q = r q) : SMF g' r' := by
  rcases h with ⟨⟨a1, a2, a3⟩, a4, a5, a6⟩ | ⟨n, D, K, F, n', D', K', F', b1, b2, b3, b4, b5, b6⟩
  · left
    unfold kz0
    rw [hg fT_numbered (by decide), hg fT_units (by decide), hg fT_greatestLevel (by decide), h1, h2, h3]
    exact ⟨⟨a1, a2, a3⟩, a4, a5, a6⟩
  · right
    rw [h3]
    refine ⟨n, D, K, F, n', D', K', F', b1.fr hg hc, b2.fr h1 h2 (fun q hq => hr q (List.mem_append_left _ hq)), b3, b4, ⟨b5.1, fun k x hx => ?_⟩, b6⟩
    have y2 := b5.2 k x hx
    unfold UA at y2 ⊢
    rw [hr fM_unitNode (by decide), hr fM_environment (by decide), hr fM_data (by decide), hr fM_procedure (by decide)]
    exact y2
/-- a word on both sides -/
theorem SMF.word {g1 g2 : a2_G} {r1 r2 : a2_A} (h : SMF g r) (a : cpF cpRR g r g1 r1) (b : Fm [fM_size, fM_thrown] [fM_kinds, fM_values] g1 r1 g2 r2) : SMF g2 r2 := by
  have hg : ∀ k, k / 100 = 2 ∨ k = fM_told ∨ k = fM_deepest ∨ k = fM_units → g2 k = g k := fun k hk => by
    rw [b.1 k (fun q => ?_), a.1 k (fun q => ?_)]
    · have q' : k / 100 = 1 := q
      rcases hk with e | e | e | e
      · omega
      · rw [e] at q'; exact absurd q' (by decide)
      · rw [e] at q'; exact absurd q' (by decide)
      · rw [e] at q'; exact absurd q' (by decide)
    · rcases List.mem_cons.mp q with q | q
      · rcases hk with e | e | e | e
        · rw [q] at e; exact absurd e (by decide)
        · rw [e] at q; exact absurd q (by decide)
        · rw [e] at q; exact absurd q (by decide)
        · rw [e] at q; exact absurd q (by decide)
      · have q := List.mem_singleton.mp q
        rcases hk with e | e | e | e
        · rw [q] at e; exact absurd e (by decide)
        · rw [e] at q; exact absurd q (by decide)
        · rw [e] at q; exact absurd q (by decide)
        · rw [e] at q; exact absurd q (by decide)
  refine h.fr (fun k hk => hg k (Or.inl hk)) ?_ (hg _ (Or.inr (Or.inl rfl))) (hg _ (Or.inr (Or.inr (Or.inl rfl)))) (hg _ (Or.inr (Or.inr (Or.inr rfl)))) (fun q hq => ?_)
  · rw [b.2 fT_cells (by decide), a.2 fT_cells (by unfold cpRR; decide)]
  · have hq' : q ∉ [fM_kinds, fM_values] ∧ ¬ cpRR (q / 100) := by
      unfold cpRR
      revert q
      decide
    rw [b.2 q hq'.1, a.2 q hq'.2]
end
