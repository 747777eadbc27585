/-! A run of clauses without a fault; how many units its tree holds. -/
/-- from (c, x, p) on with un units so far, to the end of the words; b: with what is known of the class's state -/
def Rn (w : Ws) (b : Bool) : Nat → CU → Xs → Nat → Nat → CU × Xs × Nat → Prop
  | 0, _, _, _, _, _ => False
  | k + 1, c, x, p, un, y => (¬ p < w.2.2 ∧ y = (c, x, un)) ∨ (p < w.2.2 ∧ ∃ q s x', (zC w c p).1 = some (.inl (q, s)) ∧ yC w c x p = some (q, x') ∧ (b = true → q ≤ w.2.2 ∧ oN c < x.1.length ∧ ∀ i, i + 1 < oN c → oS c i = 12) ∧ Rn w b k (zC w c p).2.1 x' q (un + uN w p) y)
def Rx (w : Ws) (b : Bool) (c : CU) (x : Xs) (p un : Nat) (y : CU × Xs × Nat) : Prop := ∃ k, Rn w b k c x p un y
theorem Rx.fin {w : Ws} {b : Bool} {c : CU} {x : Xs} {p un : Nat} (h : ¬ p < w.2.2) : Rx w b c x p un (c, x, un) := ⟨1, Or.inl ⟨h, rfl⟩⟩
theorem Rx.go {w : Ws} {b : Bool} {c : CU} {x x' : Xs} {p q un : Nat} {s : Bool} {y : CU × Xs × Nat} (hp : p < w.2.2) (hz : (zC w c p).1 = some (.inl (q, s))) (hy : yC w c x p = some (q, x')) (hb : b = true → q ≤ w.2.2 ∧ oN c < x.1.length ∧ ∀ i, i + 1 < oN c → oS c i = 12) (h : Rx w b (zC w c p).2.1 x' q (un + uN w p) y) : Rx w b c x p un y := by
  obtain ⟨k, h⟩ := h
  exact ⟨k + 1, Or.inr ⟨hp, q, s, x', hz, hy, hb, h⟩⟩
theorem Rn.det {w w' : Ws} (ha : Ag w w') : ∀ {k k' : Nat} {c : CU} {x : Xs} {p un : Nat} {y y' : CU × Xs × Nat}, Rn w true k c x p un y → Rn w' false k' c x p un y' → y = y'
  | 0, _, _, _, _, _, _, _, h, _ => h.elim
  | _ + 1, 0, _, _, _, _, _, _, _, h => h.elim
  | k + 1, k' + 1, c, x, p, un, y, y', h, h' => by
    have hn := ha.1
    rcases h with ⟨h1, rfl⟩ | ⟨h1, q, s, x', hz, hy, hq, h⟩
    · rcases h' with ⟨h1', rfl⟩ | ⟨h1', -⟩
      · rfl
      · exact absurd h1' (by omega)
    · rcases h' with ⟨h1', -⟩ | ⟨h1', q', s', x'', hz', hy', hq', h'⟩
      · exact absurd h1 (by omega)
      · rw [yC_ag ha h1 hy (hq rfl).1] at hy'
        cases hy'
        rw [← zC_ag2 ha c h1 hz, ← uN_ag ha h1] at h'
        exact Rn.det ha h h'
theorem Rx.det {w w' : Ws} (ha : Ag w w') {c : CU} {x : Xs} {p un : Nat} {y y' : CU × Xs × Nat} (h : Rx w true c x p un y) (h' : Rx w' false c x p un y') : y = y' := by
  obtain ⟨k, h⟩ := h
  obtain ⟨k', h'⟩ := h'
  exact Rn.det ha h h'
