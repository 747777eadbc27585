/-! The model's open units beside the class's. -/
/-- one unit: its state, name, is it a function, has it contained one -/
def Mu (st un fu ha s k nm : Int32) : Prop := st = s ∧ (0 ≤ s.toInt ∧ s.toInt ≤ 12) ∧ (s ≠ 0 → un = nm ∧ (k = 1 ∨ k = 2)) ∧ fu = b2i (decide (k = 2)) ∧ ha = b2i (decide (s = 12))
def Ir (i : Nat) (lw : Nat → Int32) (it la : Int32) (lv : Nat → Int32) : Prop := it.toInt = i ∧ (0 < la.toInt ↔ 0 < i) ∧ ∀ j, j < i → lv j = lw j ∧ (j : Int) + 1 ≤ (lw j).toInt
def MC (c : CU) (op : Int32) (st un fu ha : Nat → Int32) (se it la : Int32) (lv : Nat → Int32) : Prop := op.toInt = oN c ∧ oN c ≤ 10 ∧ (∀ i, i < oN c → Mu (st i) (un i) (fu i) (ha i) (oS c i) (oK c i) (oM c i)) ∧ (8 ≤ (oT c).toInt ∧ (oT c).toInt ≤ 11 → (0 < se.toInt ↔ oC c = true)) ∧ (5 ≤ (oT c).toInt ∧ (oT c).toInt ≤ 7 → Ir (oI c) (oL c) it la lv) ∧ ∀ i, i + 1 < oN c → oS c i = 12
def Mc (c : CU) (g : a2_G) (r : a2_A) : Prop := MC c (g fM_open) (r fM_state).2 (r fM_unit).2 (r fM_function).2 (r fM_had).2 (g fM_section) (g fM_items) (g fM_latest) (r fM_levels).2
theorem Mc.fr {c : CU} {g g' : a2_G} {r r' : a2_A} (h : Mc c g r) (hF : Fm WS WSa g r g' r') : Mc c g' r' := by
  unfold Mc
  rw [hF.1 fM_open (by decide), hF.1 fM_section (by decide), hF.1 fM_items (by decide), hF.1 fM_latest (by decide), hF.2 fM_state (by decide), hF.2 fM_unit (by decide), hF.2 fM_function (by decide), hF.2 fM_had (by decide), hF.2 fM_levels (by decide)]
  exact h
theorem Mc.gd {c : CU} {w : Ws} {f : Gh} {p : Nat} {g : a2_G} {r : a2_A} (h : Mc c f.2.1 f.2.2) (hg : Gd w f p g r) : Mc c g r := h.fr hg.1.2.2.1
/-- where the model stands behind a clause -/
def MS (w : Ws) (n : Int32) (p : Nat) (c : CU) (g : a2_G) (r : a2_A) : Prop := Mrd w g r ∧ ML r ∧ 1 ≤ (g fM_nodes).toInt ∧ (g fM_at).toInt = p ∧ g fM_faults = n ∧ Mc c g r
/-- a clause read as A says, with what it leaves; or bad, with the same period behind it -/
def kZ (w : Ws) (f : Gh) (C : CU × Bool) (A : Option RR) : Option Value → a2_G → a2_A → Prop := fun o g r => o = none ∧ ((∃ q, A = ok q ∧ g fM_bad = 0 ∧ MS w (nb f.1 C.2) q C.1 g r) ∨ ∃ b b', A = no b ∧ rc w b' = rc w b ∧ Bd w f b' g r)
theorem kZ.n0 {w : Ws} {f : Gh} {C : CU × Bool} {b : Nat} {g : a2_G} {r : a2_A} (h : Bd w f b g r) : kZ w f C (no b) none g r := ⟨rfl, Or.inr ⟨b, b, rfl, rfl, h⟩⟩
theorem kZ.nr {w : Ws} {f : Gh} {C : CU × Bool} {b b' : Nat} {g : a2_G} {r : a2_A} (h : Bd w f b' g r) (hr : rc w b' = rc w b) : kZ w f C (no b) none g r := ⟨rfl, Or.inr ⟨b, b', rfl, hr, h⟩⟩
theorem kZ.k0 {w : Ws} {f : Gh} {c : CU} {q : Nat} {g g' : a2_G} {r r' : a2_A} (h : Gd w f q g r) (hL : ML r') (hM : Mc c g' r') (e1 : g' fM_n = g fM_n := by rfl) (e2 : g' fM_at = g fM_at := by rfl) (e3 : g' fM_faults = g fM_faults := by rfl) (e4 : g' fM_bad = g fM_bad := by rfl) (e5 : g' fM_nodes = g fM_nodes := by rfl) (e6 : r' fM_kinds = r fM_kinds := by rfl) (e7 : r' fM_values = r fM_values := by rfl) : kZ w f (c, false) (ok q) none g' r' := by
  obtain ⟨m1, m2, m3, m4⟩ := h.1.mrd
  refine ⟨rfl, Or.inl ⟨q, rfl, by rw [e4]; exact h.2.2.1, ⟨by rw [e6]; exact m1, by rw [e7]; exact m2, by rw [e1]; exact m3, m4⟩, hL, by rw [e5]; exact h.1.2.2.2, by rw [e2]; exact h.2.2.2.1, ?_, hM⟩⟩
  rw [e3]
  exact h.2.1
section
variable {c : CU} {op : Int32} {st un fu ha : Nat → Int32} {se it la : Int32} {lv : Nat → Int32}
theorem oT_pos (h : 0 < oN c) : oT c = oS c (oN c - 1) := by
  unfold oT
  rw [if_neg (by omega)]
theorem oT_0 (h : oN c = 0) : oT c = -1 := by
  unfold oT
  rw [if_pos h]
theorem sS_pos (h : 0 < oN c) (a : Int32) : sS c a = (oN c, upd (oS c) (oN c - 1) a, oK c, oM c, oC c, oI c, oL c) := by
  unfold sS
  rw [if_neg (by omega)]
theorem MC.top (h : MC c op st un fu ha se it la lv) (hn : 0 < oN c) : Mu (st (oN c - 1)) (un (oN c - 1)) (fu (oN c - 1)) (ha (oN c - 1)) (oS c (oN c - 1)) (oK c (oN c - 1)) (oM c (oN c - 1)) := h.2.2.1 _ (by omega)
/-- the state is that of a unit -/
theorem oT_n (h : 0 ≤ (oT c).toInt) : 0 < oN c := by
  by_cases e : oN c = 0
  · rw [oT_0 e] at h
    exact absurd h (by decide)
  · omega
theorem oT_u (h : MC c op st un fu ha se it la lv) : -1 ≤ (oT c).toInt ∧ (oT c).toInt ≤ 12 := by
  by_cases e : oN c = 0
  · rw [oT_0 e]
    decide
  · rw [oT_pos (by omega)]
    have := (h.top (by omega)).2.1
    omega
/-- a new state of the innermost unit -/
theorem MC.to (h : MC c op st un fu ha se it la lv) {a : Int32} (hT : 1 ≤ (oT c).toInt) (hT2 : (oT c).toInt ≤ 11) (ha1 : 1 ≤ a.toInt) (ha2 : a.toInt ≤ 11) {b : Bool} {i : Nat} {lw : Nat → Int32} {se' it' la' : Int32} {lv' : Nat → Int32} (hse : 8 ≤ a.toInt → (0 < se'.toInt ↔ b = true)) (hit : 5 ≤ a.toInt → a.toInt ≤ 7 → Ir i lw it' la' lv') : MC (oN c, upd (oS c) (oN c - 1) a, oK c, oM c, b, i, lw) op (upd st (oN c - 1) a) un fu ha se' it' la' lv' := by
  have hn := oT_n (by omega : 0 ≤ (oT c).toInt)
  have eT : oT (oN c, upd (oS c) (oN c - 1) a, oK c, oM c, b, i, lw) = a := by
    rw [oT_pos (c := (oN c, upd (oS c) (oN c - 1) a, oK c, oM c, b, i, lw)) hn]
    exact upd_eq
  refine ⟨h.1, h.2.1, fun j hj => ?_, fun e => ?_, fun e => ?_, fun j hj => ?_⟩
  · have hu := h.2.2.1 j hj
    show Mu (upd st (oN c - 1) a j) (un j) (fu j) (ha j) (upd (oS c) (oN c - 1) a j) (oK c j) (oM c j)
    by_cases cj : j = oN c - 1
    · subst cj
      rw [upd_eq, upd_eq]
      rw [oT_pos hn] at hT hT2
      obtain ⟨u1, u2, u3, u4, u5⟩ := hu
      have s0 : oS c (oN c - 1) ≠ 0 := fun e => by rw [e] at hT; exact absurd hT (by decide)
      have s12 : oS c (oN c - 1) ≠ 12 := fun e => by rw [e] at hT2; exact absurd hT2 (by decide)
      have a12 : a ≠ 12 := fun e => by rw [e] at ha2; exact absurd ha2 (by decide)
      refine ⟨rfl, by omega, fun _ => u3 s0, u4, ?_⟩
      rw [u5, decide_eq_false s12, decide_eq_false a12]
    · rw [upd_ne cj, upd_ne cj]
      exact hu
  · rw [eT] at e
    exact hse e.1
  · rw [eT] at e
    exact hit e.1 e.2
  · show upd (oS c) (oN c - 1) a j = 12
    have hj' : j + 1 < oN c := hj
    rw [upd_ne (by omega)]
    exact h.2.2.2.2.2 j hj
/-- the innermost unit named -/
theorem MC.nm (h : MC c op st un fu ha se it la lv) (hT : (oT c).toInt = 0) {k nm : Int32} (hk : k = 1 ∨ k = 2) : MC (sS (sI c k nm) 1) op (upd st (oN c - 1) 1) (upd un (oN c - 1) nm) (upd fu (oN c - 1) (b2i (decide (k = 2)))) ha se it la lv := by
  have hn := oT_n (by omega : 0 ≤ (oT c).toInt)
  have e1 : sI c k nm = (oN c, oS c, upd (oK c) (oN c - 1) k, upd (oM c) (oN c - 1) nm, oC c, oI c, oL c) := by
    unfold sI
    rw [if_neg (by omega)]
  rw [e1, sS_pos (c := (oN c, oS c, upd (oK c) (oN c - 1) k, upd (oM c) (oN c - 1) nm, oC c, oI c, oL c)) hn]
  have eT : oT ((oN c, upd (oS c) (oN c - 1) 1, upd (oK c) (oN c - 1) k, upd (oM c) (oN c - 1) nm, oC c, oI c, oL c) : CU) = 1 := by
    rw [oT_pos (c := (oN c, upd (oS c) (oN c - 1) 1, upd (oK c) (oN c - 1) k, upd (oM c) (oN c - 1) nm, oC c, oI c, oL c)) hn]
    exact upd_eq
  show MC (oN c, upd (oS c) (oN c - 1) 1, upd (oK c) (oN c - 1) k, upd (oM c) (oN c - 1) nm, oC c, oI c, oL c) _ _ _ _ _ _ _ _ _
  refine ⟨h.1, h.2.1, fun j hj => ?_, fun e => ?_, fun e => ?_, fun j hj => ?_⟩
  · have hu := h.2.2.1 j hj
    show Mu (upd st (oN c - 1) 1 j) (upd un (oN c - 1) nm j) (upd fu (oN c - 1) (b2i (decide (k = 2))) j) (ha j) (upd (oS c) (oN c - 1) 1 j) (upd (oK c) (oN c - 1) k j) (upd (oM c) (oN c - 1) nm j)
    by_cases cj : j = oN c - 1
    · subst cj
      rw [upd_eq, upd_eq, upd_eq, upd_eq, upd_eq, upd_eq]
      rw [oT_pos hn] at hT
      obtain ⟨u1, u2, u3, u4, u5⟩ := hu
      have s12 : oS c (oN c - 1) ≠ 12 := fun e => by rw [e] at hT; exact absurd hT (by decide)
      refine ⟨rfl, by decide, fun _ => ⟨rfl, hk⟩, rfl, ?_⟩
      rw [u5, decide_eq_false s12]
      rfl
    · rw [upd_ne cj, upd_ne cj, upd_ne cj, upd_ne cj, upd_ne cj, upd_ne cj]
      exact hu
  · rw [eT] at e
    exact absurd e.1 (by decide)
  · rw [eT] at e
    exact absurd e.1 (by decide)
  · show upd (oS c) (oN c - 1) 1 j = 12
    have hj' : j + 1 < oN c := hj
    rw [upd_ne (by omega)]
    exact h.2.2.2.2.2 j hj
/-- a unit ended -/
theorem MC.en (h : MC c op st un fu ha se it la lv) (hn : 0 < oN c) {op' : Int32} (ho : op'.toInt = op.toInt - 1) : MC (sX c) op' st un fu ha se it la lv := by
  have eN : oN (sX c) = oN c - 1 := rfl
  have eS : oS (sX c) = oS c := rfl
  have hT : ¬ (5 ≤ (oT (sX c)).toInt ∧ (oT (sX c)).toInt ≤ 11) := by
    by_cases e : oN (sX c) = 0
    · rw [oT_0 e]
      decide
    · rw [oT_pos (by omega), eS, h.2.2.2.2.2 _ (by omega)]
      decide
  refine ⟨?_, ?_, fun j hj => ?_, fun e => absurd ⟨by omega, e.2⟩ hT, fun e => absurd ⟨e.1, by omega⟩ hT, fun j hj => h.2.2.2.2.2 j (by omega)⟩
  · rw [ho, h.1, eN]
    omega
  · rw [eN]
    have := h.2.1
    omega
  · exact h.2.2.1 j (by omega)
/-- a unit opened -/
theorem MC.op0 (h : MC c op st un fu ha se it la lv) (hN : oN c < 10) (hT : oN c = 0 ∨ 1 ≤ (oT c).toInt) {op' : Int32} (ho : op'.toInt = op.toInt + 1) : MC (sO (sS c 12)) op' (upd (if oN c = 0 then st else upd st (oN c - 1) 12) (oN c) 0) un (upd fu (oN c) 0) (upd (if oN c = 0 then ha else upd ha (oN c - 1) 1) (oN c) 0) se it la lv := by
  have eN : oN (sS c 12) = oN c := by
    unfold sS
    split <;> rfl
  have eK : oK (sS c 12) = oK c := by
    unfold sS
    split <;> rfl
  have eM : oM (sS c 12) = oM c := by
    unfold sS
    split <;> rfl
  have eS : oS (sS c 12) = if oN c = 0 then oS c else upd (oS c) (oN c - 1) 12 := by
    unfold sS
    split <;> rfl
  have eN2 : oN (sO (sS c 12)) = oN c + 1 := by
    show oN (sS c 12) + 1 = _
    rw [eN]
  have eS2 : oS (sO (sS c 12)) = upd (if oN c = 0 then oS c else upd (oS c) (oN c - 1) 12) (oN c) 0 := by
    show upd (oS (sS c 12)) (oN (sS c 12)) 0 = _
    rw [eN, eS]
  have eT : oT (sO (sS c 12)) = 0 := by
    rw [oT_pos (by omega), eN2, eS2]
    exact upd_eq
  refine ⟨?_, by omega, fun j hj => ?_, fun e => ?_, fun e => ?_, fun j hj => ?_⟩
  · rw [ho, h.1, eN2]
    omega
  · rw [eS2]
    show Mu _ (un j) _ _ _ (upd (oK (sS c 12)) (oN (sS c 12)) 0 j) (upd (oM (sS c 12)) (oN (sS c 12)) (-1) j)
    rw [eN, eK, eM]
    by_cases cj : j = oN c
    · subst cj
      rw [upd_eq, upd_eq, upd_eq, upd_eq, upd_eq, upd_eq]
      exact ⟨rfl, by decide, fun e => absurd rfl e, rfl, rfl⟩
    · rw [upd_ne cj, upd_ne cj, upd_ne cj, upd_ne cj, upd_ne cj, upd_ne cj]
      have hj' : j < oN c := by omega
      have hu := h.2.2.1 j hj'
      rw [if_neg (show ¬ oN c = 0 by omega), if_neg (show ¬ oN c = 0 by omega), if_neg (show ¬ oN c = 0 by omega)]
      by_cases c2 : j = oN c - 1
      · subst c2
        rw [upd_eq, upd_eq, upd_eq]
        obtain ⟨u1, u2, u3, u4, u5⟩ := hu
        have hT' : 1 ≤ (oT c).toInt := hT.resolve_left (by omega)
        rw [oT_pos (by omega)] at hT'
        have s0 : oS c (oN c - 1) ≠ 0 := fun e => by rw [e] at hT'; exact absurd hT' (by decide)
        exact ⟨rfl, by decide, fun _ => u3 s0, u4, rfl⟩
      · rw [upd_ne c2, upd_ne c2, upd_ne c2]
        exact hu
  · rw [eT] at e
    exact absurd e.1 (by decide)
  · rw [eT] at e
    exact absurd e.1 (by decide)
  · rw [eN2] at hj
    rw [eS2, upd_ne (by omega), if_neg (show ¬ oN c = 0 by omega)]
    by_cases c2 : j = oN c - 1
    · subst c2
      exact upd_eq
    · rw [upd_ne c2]
      exact h.2.2.2.2.2 j (by omega)
end
