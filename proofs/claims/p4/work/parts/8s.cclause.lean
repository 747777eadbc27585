/-! ONE CLAUSE of the class, with its tree. -/
theorem TS.cg {c c' : CU} {x : Xs} {g : a2_G} {r : a2_A} (h : TS c x g r) (e1 : oN c' = oN c) (e2 : oT c' = oT c) (e3 : oI c' = oI c) (e4 : ∀ i, oS c' i = oS c i) : TS c' x g r := by
  obtain ⟨n, D, K, ids, h1, h2, h3, h4, h5⟩ := h
  refine ⟨n, D, K, ids, h1, h2, ?_, fun i hi => ?_, h5⟩
  · rw [e1, e2, e3]
    exact h3
  · rw [e4]
    exact h4 i (by rw [← e1]; exact hi)
theorem kTC.cg {c c' : CU} {z : Option (Nat × Xs)} {o : Option Value} {g : a2_G} {r : a2_A} (h : kTC z c o g r) (e1 : oN c' = oN c) (e2 : oT c' = oT c) (e3 : oI c' = oI c) (e4 : ∀ i, oS c' i = oS c i) : kTC z c' o g r := by
  obtain ⟨q, x', h1, h2, h3⟩ := h
  exact ⟨q, x', h1, h2, h3.cg e1 e2 e3 e4⟩
section
variable {L : Nat} {xs : Nat → Int32} {m d : Nat} {w : Ws} {f : Gh} {p : Nat} {c : CU} {x : Xs} {g : a2_G} {r : a2_A} {kn : a2_G → a2_A → Option fn_Z} {Q : Option Value → a2_G → a2_A → Prop} {n : Nat} {D : Nat → TD} {K : Nat → List Nat} {ids : List Nat}
theorem rl_rS {a b : Int32} (h : At w f p n D K g r) (hc : Cv c f.2.1 f.2.2) (ha : 0 ≤ a.toInt) (hk : oN c ≠ 0 → a.toInt ≤ (oT c).toInt → (oT c).toInt ≤ b.toInt → pl (kn g r) Q kYT) : pl (fn_n (ev L xs (m + 1) d nC_requireState [.ref cC, .int a, .int b] g r) kn) Q kYT := by
  refine pl_n (xC_requireState a b h.ru (h.cv hc)) (fun _ _ _ _ => trivial) (fun g1 r1 e => ?_)
  obtain ⟨-, e1, rfl, rfl⟩ := e
  obtain ⟨e2, e3, e4⟩ := oB_N e1 ha
  exact hk e2 e3 e4
theorem yC_endSomething (h : At w f p n D K g r) (hp : p < w.2.2) (hc : Cv c f.2.1 f.2.2) (hZ : Zc K D n ids x.1) (hh : Hc (oN c) (oT c).toInt (oI c) x.2 ids f.2.1 f.2.2) (h12 : ∀ i, i + 1 < oN c → oS c i = 12) (h53 : n53 x.1) : pl (ev L xs (m + 1) d nC_endSomething [.ref cC] g r) (kTC (if ww w (p + 1) 32 then some (p + 3, x.1, x.2.1, 0, 0) else some (p + 4, x)) (zE w c p).2.1) kYT := by
  cases d with
  | zero => trivial
  | succ d =>
    have hcv := h.cv hc
    rw [qC_endSomething]
    unfold BC_endSomething_104 zE
    have h54 : ww w (p + 1) 32 = false → (ww w (p + 1) 34 || ww w (p + 1) 35) = true → pl (BC_endSomething_54 L xs (m + 1) d m g r) (kTC (some (p + 4, x)) (sX c)) kYT := by
      intro _ _
      unfold BC_endSomething_54 BC_endSomething_104
      refine pl_e (xC_mayEndOrContain hcv) ?_
      refine rl_rT h.ru (fun e => ?_)
      have hN : oN c ≠ 0 := fun e0 => by
        refine e ?_
        unfold oT
        rw [if_pos e0]
        rfl
      exact pl_n (yC_endUnit h hp hc hN hZ hh h12 h53) (fun _ _ _ q => q) (fun _ _ q => q)
    refine pl_u (xR_isReserved L xs 32 1 (j := 1) rfl (by decide) h.1) (fun e => pl_neg (by decide) ?_) (fun e => pl_pos (by decide) ?_)
    · rw [if_pos e, if_pos e]
      refine rl_rS (a := 9) (b := 9) h hc (by decide) (fun hN e1 e2 => ?_)
      have e1' : 9 ≤ (oT c).toInt := e1
      have e2' : (oT c).toInt ≤ 9 := e2
      exact pl_n (yC_endDeclaratives h hp hN (by omega) hZ hh h12 h53) (fun _ _ _ q => q) (fun _ _ q => q)
    · have e' : ¬ ww w (p + 1) 32 = true := by rw [show ww w (p + 1) 32 = false from e]; decide
      rw [if_neg e', if_neg e']
      refine pl_u (xR_isReserved L xs 34 1 (j := 1) rfl (by decide) h.1) (fun e2 => pl_pos (by decide) ?_) (fun e2 => pl_neg (by decide) ?_)
      · have e3 : (ww w (p + 1) 34 || ww w (p + 1) 35) = true := by rw [show ww w (p + 1) 34 = true from e2]; rfl
        rw [if_pos e3]
        exact h54 e e3
      · refine pl_u (xR_isReserved L xs 35 1 (j := 1) rfl (by decide) h.1) (fun e4 => pl_neg (by decide) ?_) (fun e4 => pl_pos (by decide) ?_)
        · have e3 : (ww w (p + 1) 34 || ww w (p + 1) 35) = true := by rw [show ww w (p + 1) 35 = true from e4]; exact Bool.or_true _
          rw [if_pos e3]
          exact h54 e e3
        · refine pl_e (xU_state hcv) ?_
          have h86 : ∀ x1 {c'}, pl (BC_endSomething_86 L xs (m + 1) d m x1 g r) (kTC (some (p + 4, x)) c') kYT := by
            intro x1 c'
            unfold BC_endSomething_86
            refine rl_rT h.ru (fun _ => ?_)
            exact rl_ad At.lf h hp (fun g1 h1 _ => rl_rf h1.ru)
          exact pl_if (fun _ => h86 _) (fun _ => h86 _)
theorem yC_dataClause (h : At w f p n D K g r) (hp : p < w.2.2) (hc : Cv c f.2.1 f.2.2) (hZ : Zc K D n ids x.1) (hh : Hc (oN c) (oT c).toInt (oI c) x.2 ids f.2.1 f.2.2) (h12 : ∀ i, i + 1 < oN c → oS c i = 12) (h53 : n53 x.1) (n1 : ¬ wk w p 1 = true) (n2 : ¬ wk w p 2 = true) (n3 : ¬ wb w p = true) (hv : (w.2.1 p).toInt ≠ 0 ∧ (w.2.1 p).toInt ≠ 2 ∧ (w.2.1 p).toInt ≠ 3 ∧ (w.2.1 p).toInt ≠ 4 ∧ (w.2.1 p).toInt ≠ 5) : pl (ev L xs (m + 1) d nC_dataClause [.ref cC] g r) (kTC (yC w c x p) (zD w c p).2.1) kYT := by
  cases d with
  | zero => trivial
  | succ d =>
    rw [qC_dataClause]
    refine pl_e (xR_value L xs h.1) ?_
    rw [if_pos hp]
    unfold BC_dataClause_143 BC_dataClause_151
    refine pl_if (fun e => ?_) (fun e12 => ?_)
    · unfold yC zD
      rw [if_neg n1, if_neg n2, if_neg n3, if_neg (by omega), if_neg (by omega), if_neg (by omega), if_neg (by omega), if_neg (by omega), if_pos e, if_pos e]
      refine rl_rS (a := 1) (b := 2) h hc (by decide) (fun hN _ _ => ?_)
      exact yC_div (i := 3) (by decide) (Or.inr rfl) h hp hc hN hZ hh h12 h53
    refine pl_if (fun e => ?_) (fun e13 => ?_)
    · unfold yC zD
      rw [if_neg n1, if_neg n2, if_neg n3, if_neg (by omega), if_neg (by omega), if_neg (by omega), if_neg (by omega), if_neg (by omega), if_neg (by omega), if_pos e, if_neg (by omega), if_pos e]
      refine rl_rS (a := 3) (b := 3) h hc (by decide) (fun hN e1 e2 => ?_)
      have e1' : 3 ≤ (oT c).toInt := e1
      have e2' : (oT c).toInt ≤ 3 := e2
      exact pl_n (yC_dataSection (i := 4) (by decide) (by decide) h hp hN (by omega) hZ hh h12 h53) (fun _ _ _ q => q) (fun _ _ q => q)
    refine pl_if (fun e => ?_) (fun e14 => ?_)
    · unfold yC zD
      rw [if_neg n1, if_neg n2, if_neg n3, if_neg (by omega), if_neg (by omega), if_neg (by omega), if_neg (by omega), if_neg (by omega), if_neg (by omega), if_neg (by omega), if_pos e, if_neg (by omega), if_neg (by omega), if_pos e]
      refine rl_rS (a := 3) (b := 5) h hc (by decide) (fun hN e1 e2 => ?_)
      have e1' : 3 ≤ (oT c).toInt := e1
      have e2' : (oT c).toInt ≤ 5 := e2
      exact pl_n (yC_dataSection (i := 6) (by decide) (by decide) h hp hN (by omega) hZ hh h12 h53) (fun _ _ _ q => q) (fun _ _ q => q)
    refine pl_if (fun e => ?_) (fun e15 => ?_)
    · unfold yC zD
      rw [if_neg n1, if_neg n2, if_neg n3, if_neg (by omega), if_neg (by omega), if_neg (by omega), if_neg (by omega), if_neg (by omega), if_neg (by omega), if_neg (by omega), if_neg (by omega), if_pos e, if_neg (by omega), if_neg (by omega), if_neg (by omega), if_pos e]
      refine rl_rS (a := 3) (b := 6) h hc (by decide) (fun hN e1 e2 => ?_)
      have e1' : 3 ≤ (oT c).toInt := e1
      have e2' : (oT c).toInt ≤ 6 := e2
      exact pl_n (yC_dataSection (i := 7) (by decide) (by decide) h hp hN (by omega) hZ hh h12 h53) (fun _ _ _ q => q) (fun _ _ q => q)
    refine pl_if (fun e => rl_rf h.ru) (fun _ => ?_)
    refine pl_if (fun e => ?_) (fun _ => rl_rf h.ru)
    unfold yC zD
    rw [if_neg n1, if_neg n2, if_neg n3, if_neg (by omega), if_neg (by omega), if_neg (by omega), if_neg (by omega), if_neg (by omega), if_neg (by omega), if_neg (by omega), if_neg (by omega), if_neg (by omega), if_pos e, if_neg (by omega), if_neg (by omega), if_neg (by omega), if_neg (by omega), if_pos e]
    refine rl_rS (a := 4) (b := 5) h hc (by decide) (fun hN e1 e2 => ?_)
    exact pl_n (yC_fileDescription h hp hN ⟨e1, e2⟩ hZ hh h12 h53) (fun _ _ _ q => q) (fun _ _ q => q)
theorem yC_reservedClause (h : At w f p n D K g r) (hp : p < w.2.2) (hc : Cv c f.2.1 f.2.2) (hZ : Zc K D n ids x.1) (hh : Hc (oN c) (oT c).toInt (oI c) x.2 ids f.2.1 f.2.2) (h12 : ∀ i, i + 1 < oN c → oS c i = 12) (h53 : n53 x.1) (n1 : ¬ wk w p 1 = true) (n2 : ¬ wk w p 2 = true) (n3 : ¬ wb w p = true) : pl (ev L xs (m + 1) d nC_reservedClause [.ref cC] g r) (kTC (yC w c x p) (zR w c p).2.1) kYT := by
  cases d with
  | zero => trivial
  | succ d =>
    rw [qC_reservedClause]
    refine pl_e (xR_value L xs h.1) ?_
    rw [if_pos hp]
    unfold BC_reservedClause_222
    refine pl_if (fun e => ?_) (fun e0 => ?_)
    · have ez : (zR w c p).2.1 = sO (sS c 12) := by
        unfold zR
        rw [if_pos e]
      rw [ez]
      unfold yC
      rw [if_neg n1, if_neg n2, if_neg n3, if_pos e]
      exact pl_n (yC_identification h hp hc hZ hh h12 h53) (fun _ _ _ q => q) (fun _ _ q => q)
    refine pl_if (fun e => ?_) (fun e2 => ?_)
    · have ez : (zR w c p).2.1 = sS (sI c 1 (w.2.1 (p + 1))) 1 := by
        unfold zR
        rw [if_neg (by omega), if_pos e]
      rw [ez]
      unfold yC
      rw [if_neg n1, if_neg n2, if_neg n3, if_neg (by omega), if_pos e]
      refine rl_rS (a := 0) (b := 0) h hc (by decide) (fun hN _ _ => ?_)
      exact pl_n (yC_unitName (by decide) h hp hc hN hZ hh h12 h53) (fun _ _ _ q => q) (fun _ _ q => q)
    refine pl_if (fun e => ?_) (fun e3 => ?_)
    · have ez : (zR w c p).2.1 = sS (sI c 2 (w.2.1 (p + 1))) 1 := by
        unfold zR
        rw [if_neg (by omega), if_neg (by omega), if_pos e]
      rw [ez]
      unfold yC
      rw [if_neg n1, if_neg n2, if_neg n3, if_neg (by omega), if_neg (by omega), if_pos e]
      refine rl_rS (a := 0) (b := 0) h hc (by decide) (fun hN _ _ => ?_)
      refine pl_e xU_openCount ?_
      have h124 : ∀ x1, pl (BC_reservedClause_124 L xs (m + 1) d m x1 g r) (kTC (some (p + 3, renC (oN c) x.1 2 (w.2.1 (p + 1)), x.2)) (sS (sI c 2 (w.2.1 (p + 1))) 1)) kYT := by
        intro x1
        unfold BC_reservedClause_124 BC_reservedClause_222
        refine rl_rT h.ru (fun _ => ?_)
        exact pl_n (yC_unitName (by decide) h hp hc hN hZ hh h12 h53) (fun _ _ _ q => q) (fun _ _ q => q)
      exact pl_if (fun _ => h124 _) (fun _ => h124 _)
    refine pl_if (fun e => ?_) (fun e4 => ?_)
    · have ez : (zR w c p).2.1 = sS c 2 := by
        unfold zR
        rw [if_neg (by omega), if_neg (by omega), if_neg (by omega), if_pos e]
      rw [ez]
      unfold yC
      rw [if_neg n1, if_neg n2, if_neg n3, if_neg (by omega), if_neg (by omega), if_neg (by omega), if_pos e]
      refine rl_rS (a := 1) (b := 1) h hc (by decide) (fun hN _ _ => ?_)
      exact yC_div (i := 2) (by decide) (Or.inl rfl) h hp hc hN hZ hh h12 h53
    refine pl_if (fun e => ?_) (fun e5 => ?_)
    · have ez : (zR w c p).2.1 = c := by
        unfold zR
        rw [if_neg (by omega), if_neg (by omega), if_neg (by omega), if_neg (by omega), if_pos e]
      rw [ez]
      unfold yC
      rw [if_neg n1, if_neg n2, if_neg n3, if_neg (by omega), if_neg (by omega), if_neg (by omega), if_neg (by omega), if_pos e]
      refine rl_rS (a := 2) (b := 2) h hc (by decide) (fun hN e1 e2 => ?_)
      have e1' : 2 ≤ (oT c).toInt := e1
      have e2' : (oT c).toInt ≤ 2 := e2
      exact pl_n (yC_select h hp hc (by omega) hZ hh h12 h53) (fun _ _ _ q => q) (fun _ _ q => q)
    refine pl_if (fun e => ?_) (fun e30 => ?_)
    · have ez : (zR w c p).2.1 = sS (sC c false) 8 := by
        unfold zR
        rw [if_neg (by omega), if_neg (by omega), if_neg (by omega), if_neg (by omega), if_neg (by omega), if_pos e]
      rw [ez]
      unfold yC
      rw [if_neg n1, if_neg n2, if_neg n3, if_neg (by omega), if_neg (by omega), if_neg (by omega), if_neg (by omega), if_neg (by omega), if_neg (by omega), if_neg (by omega), if_neg (by omega), if_neg (by omega), if_neg (by omega), if_pos e]
      refine rl_rS (a := 1) (b := 7) h hc (by decide) (fun hN _ _ => ?_)
      exact pl_n (yC_procedure h hp hc hN hZ hh h12 h53) (fun _ _ _ q => q) (fun _ _ q => q)
    refine pl_if (fun e => ?_) (fun e32 => ?_)
    · have ez : (zR w c p).2.1 = sS c 9 := by
        unfold zR
        rw [if_neg (by omega), if_neg (by omega), if_neg (by omega), if_neg (by omega), if_neg (by omega), if_neg (by omega), if_pos e]
      rw [ez]
      unfold yC
      rw [if_neg n1, if_neg n2, if_neg n3, if_neg (by omega), if_neg (by omega), if_neg (by omega), if_neg (by omega), if_neg (by omega), if_neg (by omega), if_neg (by omega), if_neg (by omega), if_neg (by omega), if_neg (by omega), if_neg (by omega), if_pos e]
      refine rl_rS (a := 8) (b := 8) h hc (by decide) (fun hN e1 e2 => ?_)
      have e1' : 8 ≤ (oT c).toInt := e1
      have e2' : (oT c).toInt ≤ 8 := e2
      exact pl_n (yC_beginDeclaratives h hp hN (by omega) hZ hh h12 h53) (fun _ _ _ q => q) (fun _ _ q => q)
    refine pl_if (fun e => ?_) (fun e33 => ?_)
    · have ez : (zR w c p).2.1 = (zE w c p).2.1 := by
        unfold zR
        rw [if_neg (by omega), if_neg (by omega), if_neg (by omega), if_neg (by omega), if_neg (by omega), if_neg (by omega), if_neg (by omega), if_pos e]
      rw [ez]
      unfold yC
      rw [if_neg n1, if_neg n2, if_neg n3, if_neg (by omega), if_neg (by omega), if_neg (by omega), if_neg (by omega), if_neg (by omega), if_neg (by omega), if_neg (by omega), if_neg (by omega), if_neg (by omega), if_neg (by omega), if_neg (by omega), if_neg (by omega), if_pos e]
      exact pl_n (yC_endSomething h hp hc hZ hh h12 h53) (fun _ _ _ q => q) (fun _ _ q => q)
    have ez : (zR w c p).2.1 = (zD w c p).2.1 := by
      unfold zR
      rw [if_neg (by omega), if_neg (by omega), if_neg (by omega), if_neg (by omega), if_neg (by omega), if_neg (by omega), if_neg (by omega), if_neg (by omega)]
    rw [ez]
    exact pl_n (yC_dataClause h hp hc hZ hh h12 h53 n1 n2 n3 ⟨e0, e2, e3, e4, e5⟩) (fun _ _ _ q => q) (fun _ _ q => q)
theorem yC_readClause (h : At w f p n D K g r) (hp : p < w.2.2) (hc : Cv c f.2.1 f.2.2) (hZ : Zc K D n ids x.1) (hh : Hc (oN c) (oT c).toInt (oI c) x.2 ids f.2.1 f.2.2) (h12 : ∀ i, i + 1 < oN c → oS c i = 12) (h53 : n53 x.1) : pl (ev L xs (m + 1) d nC_readClause [.ref cC] g r) (kTC (yC w c x p) (zC w c p).2.1) kYT := by
  cases d with
  | zero => trivial
  | succ d =>
    rw [qC_readClause]
    unfold BC_readClause_89 zC
    refine pl_u (xR_isKind L xs 1 h.1) (fun e => pl_neg (by decide) ?_) (fun e => pl_pos (by decide) ?_)
    · rw [if_pos e]
      unfold yC
      rw [if_pos e]
      refine pl_n (yC_sectionOrParagraph h e hc hZ hh h12 h53) (fun _ _ _ q => q) (fun g1 r1 q => ?_)
      have hT : ∀ b : CU, oT b = oT c → oN b = oN c → oI b = oI c → (∀ i, oS b i = oS c i) → oN (eB b) = oN (eB c) ∧ oT (eB b) = oT (eB c) ∧ oI (eB b) = oI (eB c) ∧ ∀ i, oS (eB b) i = oS (eB c) i := by
        intro b t1 t2 t3 t4
        unfold eB
        rw [t1]
        split
        · exact ⟨t2, t1, t3, t4⟩
        · unfold sS
          rw [t2]
          split
          · exact ⟨t2, t1, t3, t4⟩
          · refine ⟨rfl, ?_, t3, fun i => ?_⟩
            · show (if oN c = 0 then -1 else upd (oS b) (oN c - 1) 11 (oN c - 1)) = (if oN c = 0 then -1 else upd (oS c) (oN c - 1) 11 (oN c - 1))
              split
              · rfl
              · rw [upd_eq, upd_eq]
            · show upd (oS b) (oN c - 1) 11 i = upd (oS c) (oN c - 1) 11 i
              by_cases ei : i = oN c - 1
              · rw [ei, upd_eq, upd_eq]
              · rw [upd_ne ei, upd_ne ei, t4]
      cases hw : ww w (p + 1) 16 with
      | true =>
        obtain ⟨t1, t2, t3, t4⟩ := hT (sC c true) rfl rfl rfl (fun _ => rfl)
        rw [hw] at q
        exact q.cg t1 t2 t3 t4
      | false =>
        rw [hw] at q
        exact q
    have n1 : ¬ wk w p 1 = true := by rw [e]; decide
    rw [if_neg n1]
    refine pl_u (xR_isKind L xs 2 h.1) (fun e2 => pl_neg (by decide) ?_) (fun e2 => pl_pos (by decide) ?_)
    · rw [if_pos e2]
      refine rl_rS (a := 5) (b := 7) h hc (by decide) (fun hN e3 e4 => ?_)
      refine pl_n (yI_readItem h hp hc ⟨e3, e4⟩ hZ hh h12 h53) (fun _ _ _ q => q) (fun g1 r1 q => ?_)
      obtain ⟨i, q1, q2⟩ := q
      unfold yC zIt
      rw [if_neg n1, if_pos e2, q1]
      unfold pI at q2
      cases ht : tv w 24 (itn w (p + 1)).2 none [] with
      | none =>
        rw [ht] at q2
        obtain ⟨_, _, e5, _⟩ := q2
        cases e5
      | some y =>
        rw [ht] at q2
        exact q2
    have n2 : ¬ wk w p 2 = true := by rw [e2]; decide
    rw [if_neg n2]
    refine pl_u (xS_isNext L xs h.1) (fun e3 => pl_neg (by decide) ?_) (fun e3 => pl_pos (by decide) ?_)
    · rw [if_pos e3]
      unfold yC
      rw [if_neg n1, if_neg n2, if_pos e3]
      exact pl_n (yC_sentence h hc hZ hh h12 h53) (fun _ _ _ q => q) (fun _ _ q => q)
    have n3 : ¬ wb w p = true := by rw [e3]; decide
    rw [if_neg n3]
    refine pl_u (xR_isKind L xs 0 h.1) (fun e4 => pl_neg (by decide) ?_) (fun e4 => pl_pos (by decide) (rl_rf h.ru))
    rw [if_pos e4]
    exact pl_n (yC_reservedClause h hp hc hZ hh h12 h53 n1 n2 n3) (fun _ _ _ q => q) (fun _ _ q => q)
end
