/-! The equations of the methods, by wip/whole/gensh2.py -/
/-- CobolParser$Items.beginIn(II)I -/
theorem eI_beginIn (L : Nat) (xs : Nat → Int32) (m d k : Nat) (n : Nat) (a1 a2 : Int32) (g : a2_G) (r : a2_A) : bk L xs nI_beginIn nm_m72 m d k (n + 19) 0 [some (.ref cI), some (.int a1), some (.int a2), none] [] g r = (fn_v (ev L xs m d nR_place [.ref cR] g r) fun v3 g1 r2 => (fn_v (ev L xs m d nT_make [.ref cT, .int a2, .int 0, .int v3] g1 r2) fun v6 g4 r5 => (fn_n (ev L xs m d nT_append [.ref cT, .int a1, .int v6] g4 r5) fun g7 r8 => (fn_n (ev L xs m d nR_advance [.ref cR] g7 r8) fun g9 r10 => (some (.inl (some (.int v6)), g9, r10)))))) := by
  refine (fs_r (n := n + 13) 6 (pc' := 10) (L' := [some (.ref cI), some (.int a1), some (.int a2), none]) (S' := [.ref cR, .int 0, .int a2, .ref cT]) rfl).trans ?_
  refine (fs_cv (n := n + 12) (N := nm_m58) (as := [.ref cR]) (rest := [.int 0, .int a2, .ref cT]) rfl rfl (Or.inl rfl) rfl rfl rfl rfl rfl).trans (fs_fv fun v3 g1 r2 => ?_)
  refine (fs_cv (n := n + 11) (N := nm_m45) (as := [.ref cT, .int a2, .int 0, .int v3]) (rest := []) rfl rfl (Or.inl rfl) rfl rfl rfl rfl rfl).trans (fs_fv fun v6 g4 r5 => ?_)
  refine (fs_r (n := n + 6) 5 (pc' := 23) (L' := [some (.ref cI), some (.int a1), some (.int a2), some (.int v6)]) (S' := [.int v6, .int a1, .ref cT]) rfl).trans ?_
  refine (fs_cn (n := n + 5) (N := nm_m63) (as := [.ref cT, .int a1, .int v6]) (rest := []) rfl rfl (Or.inl rfl) rfl rfl rfl rfl rfl).trans (fs_fn fun g7 r8 => ?_)
  refine (fs_r (n := n + 3) 2 (pc' := 30) (L' := [some (.ref cI), some (.int a1), some (.int a2), some (.int v6)]) (S' := [.ref cR]) rfl).trans ?_
  refine (fs_cn (n := n + 2) (N := nm_m61) (as := [.ref cR]) (rest := []) rfl rfl (Or.inl rfl) rfl rfl rfl rfl rfl).trans (fs_fn fun g9 r10 => ?_)
  refine (fs_r (n := n + 1) 1 (pc' := 34) (L' := [some (.ref cI), some (.int a1), some (.int a2), some (.int v6)]) (S' := [.int v6]) rfl).trans ?_
  exact (fs_ri (n := n + 0) rfl rfl).trans rfl
theorem qI_beginIn (L : Nat) (xs : Nat → Int32) (m d : Nat) (a1 a2 : Int32) (g : a2_G) (r : a2_A) : ev L xs (m + 1) (d + 1) nI_beginIn [.ref cI, .int a1, .int a2] g r = (fn_v (ev L xs (m + 1) d nR_place [.ref cR] g r) fun v3 g1 r2 => (fn_v (ev L xs (m + 1) d nT_make [.ref cT, .int a2, .int 0, .int v3] g1 r2) fun v6 g4 r5 => (fn_n (ev L xs (m + 1) d nT_append [.ref cT, .int a1, .int v6] g4 r5) fun g7 r8 => (fn_n (ev L xs (m + 1) d nR_advance [.ref cR] g7 r8) fun g9 r10 => (some (.inl (some (.int v6)), g9, r10)))))) := (fs_ev (M := nm_m72) rfl rfl).trans (eI_beginIn L xs (m + 1) d m 881 a1 a2 g r)
/-- CobolParser$Items.literals(I)V -/
def BI_literals_40 (L : Nat) (xs : Nat → Int32) (m d k : Nat) (x1 x2 : Int32) (g : a2_G) (r : a2_A) : Option fn_Z := (some (.inl none, g, r))
theorem bI_literals_40 (L : Nat) (xs : Nat → Int32) (m d k : Nat) (n : Nat) (x1 x2 : Int32) (g : a2_G) (r : a2_A) : bk L xs nI_literals nm_m73 m d k (n + 1) 40 [some (.ref cI), some (.int x1), some (.int x2)] [] g r = BI_literals_40 L xs m d k x1 x2 g r := by
  show _ = ((some (.inl none, g, r)) : Option fn_Z)
  exact (fs_rv (n := n + 0) rfl rfl).trans rfl
theorem eI_literals (L : Nat) (xs : Nat → Int32) (m d k : Nat) (n : Nat) (a1 : Int32) (g : a2_G) (r : a2_A) : bk L xs nI_literals nm_m73 m d k (n + 22) 0 [some (.ref cI), some (.int a1), none] [] g r = (fn_v (ev L xs m d nI_beginIn [.ref cI, .int a1, .int 14] g r) fun v3 g1 r2 => (fn_v (ev L xs m d nR_skip [.ref cR, .int 67] g1 r2) fun v6 g4 r5 => (fn_n (ev L xs m d nI_literal [.ref cI, .int v3] g4 r5) fun g7 r8 => (fn_v (ev L xs m d nR_skip [.ref cR, .int 21] g7 r8) fun v11 g9 r10 => (if am_c2 .eq v11 0 = true then (BI_literals_40 L xs m d k a1 v3 g9 r10) else (fn_n (ev L xs m d nI_literal [.ref cI, .int v3] g9 r10) fun g12 r13 => (BI_literals_40 L xs m d k a1 v3 g12 r13))))))) := by
  refine (fs_r (n := n + 19) 3 (pc' := 4) (L' := [some (.ref cI), some (.int a1), none]) (S' := [.int 14, .int a1, .ref cI]) rfl).trans ?_
  refine (fs_cv (n := n + 18) (N := nm_m72) (as := [.ref cI, .int a1, .int 14]) (rest := []) rfl rfl (Or.inl rfl) rfl rfl rfl rfl rfl).trans (fs_fv fun v3 g1 r2 => ?_)
  refine (fs_r (n := n + 14) 4 (pc' := 14) (L' := [some (.ref cI), some (.int a1), some (.int v3)]) (S' := [.int 67, .ref cR]) rfl).trans ?_
  refine (fs_cv (n := n + 13) (N := nm_m62) (as := [.ref cR, .int 67]) (rest := []) rfl rfl (Or.inl rfl) rfl rfl rfl rfl rfl).trans (fs_fv fun v6 g4 r5 => ?_)
  refine (fs_r (n := n + 10) 3 (pc' := 20) (L' := [some (.ref cI), some (.int a1), some (.int v3)]) (S' := [.int v3, .ref cI]) rfl).trans ?_
  refine (fs_cn (n := n + 9) (N := nm_m74) (as := [.ref cI, .int v3]) (rest := []) rfl rfl (Or.inl rfl) rfl rfl rfl rfl rfl).trans (fs_fn fun g7 r8 => ?_)
  refine (fs_r (n := n + 6) 3 (pc' := 29) (L' := [some (.ref cI), some (.int a1), some (.int v3)]) (S' := [.int 21, .ref cR]) rfl).trans ?_
  refine (fs_cv (n := n + 5) (N := nm_m62) (as := [.ref cR, .int 21]) (rest := []) rfl rfl (Or.inl rfl) rfl rfl rfl rfl rfl).trans (fs_fv fun v11 g9 r10 => ?_)
  refine (fs_i (n := n + 4) rfl (t := 40) rfl (by decide)).trans (fs_ite ?_ ?_)
  · skip
    exact bI_literals_40 L xs m d k (n + 3) a1 v3 g9 r10
  · skip
    refine (fs_r (n := n + 2) 2 (pc' := 37) (L' := [some (.ref cI), some (.int a1), some (.int v3)]) (S' := [.int v3, .ref cI]) rfl).trans ?_
    refine (fs_cn (n := n + 1) (N := nm_m74) (as := [.ref cI, .int v3]) (rest := []) rfl rfl (Or.inl rfl) rfl rfl rfl rfl rfl).trans (fs_fn fun g12 r13 => ?_)
    exact bI_literals_40 L xs m d k (n + 0) a1 v3 g12 r13
theorem qI_literals (L : Nat) (xs : Nat → Int32) (m d : Nat) (a1 : Int32) (g : a2_G) (r : a2_A) : ev L xs (m + 1) (d + 1) nI_literals [.ref cI, .int a1] g r = (fn_v (ev L xs (m + 1) d nI_beginIn [.ref cI, .int a1, .int 14] g r) fun v3 g1 r2 => (fn_v (ev L xs (m + 1) d nR_skip [.ref cR, .int 67] g1 r2) fun v6 g4 r5 => (fn_n (ev L xs (m + 1) d nI_literal [.ref cI, .int v3] g4 r5) fun g7 r8 => (fn_v (ev L xs (m + 1) d nR_skip [.ref cR, .int 21] g7 r8) fun v11 g9 r10 => (if am_c2 .eq v11 0 = true then (BI_literals_40 L xs (m + 1) d m a1 v3 g9 r10) else (fn_n (ev L xs (m + 1) d nI_literal [.ref cI, .int v3] g9 r10) fun g12 r13 => (BI_literals_40 L xs (m + 1) d m a1 v3 g12 r13))))))) := (fs_ev (M := nm_m73) rfl rfl).trans (eI_literals L xs (m + 1) d m 878 a1 g r)
/-- CobolParser$Items.literal(I)V -/
def BI_literal_19 (L : Nat) (xs : Nat → Int32) (m d k : Nat) (x1 : Int32) (g : a2_G) (r : a2_A) : Option fn_Z := (fn_v (ev L xs m d nL_operand [.ref cL] g r) fun v6 g4 r5 => (fn_n (ev L xs m d nT_append [.ref cT, .int x1, .int v6] g4 r5) fun g7 r8 => (some (.inl none, g7, r8))))
theorem bI_literal_19 (L : Nat) (xs : Nat → Int32) (m d k : Nat) (n : Nat) (x1 : Int32) (g : a2_G) (r : a2_A) : bk L xs nI_literal nm_m74 m d k (n + 8) 19 [some (.ref cI), some (.int x1)] [] g r = BI_literal_19 L xs m d k x1 g r := by
  show _ = ((fn_v (ev L xs m d nL_operand [.ref cL] g r) fun v6 g4 r5 => (fn_n (ev L xs m d nT_append [.ref cT, .int x1, .int v6] g4 r5) fun g7 r8 => (some (.inl none, g7, r8)))) : Option fn_Z)
  refine (fs_r (n := n + 3) 5 (pc' := 28) (L' := [some (.ref cI), some (.int x1)]) (S' := [.ref cL, .int x1, .ref cT]) rfl).trans ?_
  refine (fs_cv (n := n + 2) (N := nm_m75) (as := [.ref cL]) (rest := [.int x1, .ref cT]) rfl rfl (Or.inl rfl) rfl rfl rfl rfl rfl).trans (fs_fv fun v6 g4 r5 => ?_)
  refine (fs_cn (n := n + 1) (N := nm_m63) (as := [.ref cT, .int x1, .int v6]) (rest := []) rfl rfl (Or.inl rfl) rfl rfl rfl rfl rfl).trans (fs_fn fun g7 r8 => ?_)
  exact (fs_rv (n := n + 0) rfl rfl).trans rfl
theorem eI_literal (L : Nat) (xs : Nat → Int32) (m d k : Nat) (n : Nat) (a1 : Int32) (g : a2_G) (r : a2_A) : bk L xs nI_literal nm_m74 m d k (n + 17) 0 [some (.ref cI), some (.int a1)] [] g r = (fn_v (ev L xs m d nR_isKind [.ref cR, .int 1] g r) fun v3 g1 r2 => (if am_c2 .eq v3 0 = true then (BI_literal_19 L xs m d k a1 g1 r2) else (fn_n (ev L xs m d nR_refuse [.ref cR, .int 1] g1 r2) fun g9 r10 => (BI_literal_19 L xs m d k a1 g9 r10)))) := by
  refine (fs_r (n := n + 14) 3 (pc' := 5) (L' := [some (.ref cI), some (.int a1)]) (S' := [.int 1, .ref cR]) rfl).trans ?_
  refine (fs_cv (n := n + 13) (N := nm_m50) (as := [.ref cR, .int 1]) (rest := []) rfl rfl (Or.inl rfl) rfl rfl rfl rfl rfl).trans (fs_fv fun v3 g1 r2 => ?_)
  refine (fs_i (n := n + 12) rfl (t := 19) rfl (by decide)).trans (fs_ite ?_ ?_)
  · skip
    exact bI_literal_19 L xs m d k (n + 4) a1 g1 r2
  · skip
    refine (fs_r (n := n + 9) 3 (pc' := 16) (L' := [some (.ref cI), some (.int a1)]) (S' := [.int 1, .ref cR]) rfl).trans ?_
    refine (fs_cn (n := n + 8) (N := nm_m56) (as := [.ref cR, .int 1]) (rest := []) rfl rfl (Or.inl rfl) rfl rfl rfl rfl rfl).trans (fs_fn fun g9 r10 => ?_)
    exact bI_literal_19 L xs m d k (n + 0) a1 g9 r10
theorem qI_literal (L : Nat) (xs : Nat → Int32) (m d : Nat) (a1 : Int32) (g : a2_G) (r : a2_A) : ev L xs (m + 1) (d + 1) nI_literal [.ref cI, .int a1] g r = (fn_v (ev L xs (m + 1) d nR_isKind [.ref cR, .int 1] g r) fun v3 g1 r2 => (if am_c2 .eq v3 0 = true then (BI_literal_19 L xs (m + 1) d m a1 g1 r2) else (fn_n (ev L xs (m + 1) d nR_refuse [.ref cR, .int 1] g1 r2) fun g9 r10 => (BI_literal_19 L xs (m + 1) d m a1 g9 r10)))) := (fs_ev (M := nm_m74) rfl rfl).trans (eI_literal L xs (m + 1) d m 883 a1 g r)
/-- CobolParser$Leaves.operand()I -/
def BL_operand_18 (L : Nat) (xs : Nat → Int32) (m d k : Nat) (g : a2_G) (r : a2_A) : Option fn_Z := (fn_v (ev L xs m d nR_kind [.ref cR] g r) fun v6 g4 r5 => (fn_v (ev L xs m d nR_value [.ref cR] g4 r5) fun v9 g7 r8 => (fn_v (ev L xs m d nR_place [.ref cR] g7 r8) fun v12 g10 r11 => (fn_v (ev L xs m d nT_make [.ref cT, .int 41, .int ((100000 * v6) + v9), .int v12] g10 r11) fun v15 g13 r14 => (fn_n (ev L xs m d nR_advance [.ref cR] g13 r14) fun g16 r17 => (some (.inl (some (.int v15)), g16, r17)))))))
theorem bL_operand_18 (L : Nat) (xs : Nat → Int32) (m d k : Nat) (n : Nat) (g : a2_G) (r : a2_A) : bk L xs nL_operand nm_m75 m d k (n + 22) 18 [some (.ref cL), none] [] g r = BL_operand_18 L xs m d k g r := by
  show _ = ((fn_v (ev L xs m d nR_kind [.ref cR] g r) fun v6 g4 r5 => (fn_v (ev L xs m d nR_value [.ref cR] g4 r5) fun v9 g7 r8 => (fn_v (ev L xs m d nR_place [.ref cR] g7 r8) fun v12 g10 r11 => (fn_v (ev L xs m d nT_make [.ref cT, .int 41, .int ((100000 * v6) + v9), .int v12] g10 r11) fun v15 g13 r14 => (fn_n (ev L xs m d nR_advance [.ref cR] g13 r14) fun g16 r17 => (some (.inl (some (.int v15)), g16, r17))))))) : Option fn_Z)
  refine (fs_r (n := n + 16) 6 (pc' := 30) (L' := [some (.ref cL), none]) (S' := [.ref cR, .int 100000, .int 41, .ref cT]) rfl).trans ?_
  refine (fs_cv (n := n + 15) (N := nm_m77) (as := [.ref cR]) (rest := [.int 100000, .int 41, .ref cT]) rfl rfl (Or.inl rfl) rfl rfl rfl rfl rfl).trans (fs_fv fun v6 g4 r5 => ?_)
  refine (fs_r (n := n + 12) 3 (pc' := 38) (L' := [some (.ref cL), none]) (S' := [.ref cR, .int (100000 * v6), .int 41, .ref cT]) rfl).trans ?_
  refine (fs_cv (n := n + 11) (N := nm_m60) (as := [.ref cR]) (rest := [.int (100000 * v6), .int 41, .ref cT]) rfl rfl (Or.inl rfl) rfl rfl rfl rfl rfl).trans (fs_fv fun v9 g7 r8 => ?_)
  refine (fs_r (n := n + 8) 3 (pc' := 46) (L' := [some (.ref cL), none]) (S' := [.ref cR, .int ((100000 * v6) + v9), .int 41, .ref cT]) rfl).trans ?_
  refine (fs_cv (n := n + 7) (N := nm_m58) (as := [.ref cR]) (rest := [.int ((100000 * v6) + v9), .int 41, .ref cT]) rfl rfl (Or.inl rfl) rfl rfl rfl rfl rfl).trans (fs_fv fun v12 g10 r11 => ?_)
  refine (fs_cv (n := n + 6) (N := nm_m45) (as := [.ref cT, .int 41, .int ((100000 * v6) + v9), .int v12]) (rest := []) rfl rfl (Or.inl rfl) rfl rfl rfl rfl rfl).trans (fs_fv fun v15 g13 r14 => ?_)
  refine (fs_r (n := n + 3) 3 (pc' := 57) (L' := [some (.ref cL), some (.int v15)]) (S' := [.ref cR]) rfl).trans ?_
  refine (fs_cn (n := n + 2) (N := nm_m61) (as := [.ref cR]) (rest := []) rfl rfl (Or.inl rfl) rfl rfl rfl rfl rfl).trans (fs_fn fun g16 r17 => ?_)
  refine (fs_r (n := n + 1) 1 (pc' := 61) (L' := [some (.ref cL), some (.int v15)]) (S' := [.int v15]) rfl).trans ?_
  exact (fs_ri (n := n + 0) rfl rfl).trans rfl
theorem eL_operand (L : Nat) (xs : Nat → Int32) (m d k : Nat) (n : Nat) (g : a2_G) (r : a2_A) : bk L xs nL_operand nm_m75 m d k (n + 30) 0 [some (.ref cL), none] [] g r = (fn_v (ev L xs m d nR_isOperand [.ref cR] g r) fun v3 g1 r2 => (if am_c2 .ne v3 0 = true then (BL_operand_18 L xs m d k g1 r2) else (fn_n (ev L xs m d nR_refuse [.ref cR, .int 1] g1 r2) fun g18 r19 => (BL_operand_18 L xs m d k g18 r19)))) := by
  refine (fs_r (n := n + 28) 2 (pc' := 4) (L' := [some (.ref cL), none]) (S' := [.ref cR]) rfl).trans ?_
  refine (fs_cv (n := n + 27) (N := nm_m76) (as := [.ref cR]) (rest := []) rfl rfl (Or.inl rfl) rfl rfl rfl rfl rfl).trans (fs_fv fun v3 g1 r2 => ?_)
  refine (fs_i (n := n + 26) rfl (t := 18) rfl (by decide)).trans (fs_ite ?_ ?_)
  · skip
    exact bL_operand_18 L xs m d k (n + 4) g1 r2
  · skip
    refine (fs_r (n := n + 23) 3 (pc' := 15) (L' := [some (.ref cL), none]) (S' := [.int 1, .ref cR]) rfl).trans ?_
    refine (fs_cn (n := n + 22) (N := nm_m56) (as := [.ref cR, .int 1]) (rest := []) rfl rfl (Or.inl rfl) rfl rfl rfl rfl rfl).trans (fs_fn fun g18 r19 => ?_)
    exact bL_operand_18 L xs m d k (n + 0) g18 r19
theorem qL_operand (L : Nat) (xs : Nat → Int32) (m d : Nat) (g : a2_G) (r : a2_A) : ev L xs (m + 1) (d + 1) nL_operand [.ref cL] g r = (fn_v (ev L xs (m + 1) d nR_isOperand [.ref cR] g r) fun v3 g1 r2 => (if am_c2 .ne v3 0 = true then (BL_operand_18 L xs (m + 1) d m g1 r2) else (fn_n (ev L xs (m + 1) d nR_refuse [.ref cR, .int 1] g1 r2) fun g18 r19 => (BL_operand_18 L xs (m + 1) d m g18 r19)))) := (fs_ev (M := nm_m75) rfl rfl).trans (eL_operand L xs (m + 1) d m 870 g r)
/-- CobolParser$Row.isOperand()Z -/
def BR_isOperand_55 (L : Nat) (xs : Nat → Int32) (m d k : Nat) (x1 : Int32) (g : a2_G) (r : a2_A) : Option fn_Z := (if x1 = 0 ∨ x1 = 1 then some (.inl (some (.int x1)), g, r) else none)
theorem bR_isOperand_55 (L : Nat) (xs : Nat → Int32) (m d k : Nat) (n : Nat) (x1 : Int32) (g : a2_G) (r : a2_A) : bk L xs nR_isOperand nm_m76 m d k (n + 1) 55 [some (.ref cR)] [.int x1] g r = BR_isOperand_55 L xs m d k x1 g r := by
  show _ = ((if x1 = 0 ∨ x1 = 1 then some (.inl (some (.int x1)), g, r) else none) : Option fn_Z)
  exact (fs_rb (n := n + 0) rfl rfl).trans rfl
def BR_isOperand_54 (L : Nat) (xs : Nat → Int32) (m d k : Nat) (g : a2_G) (r : a2_A) : Option fn_Z := (BR_isOperand_55 L xs m d k 0 g r)
theorem bR_isOperand_54 (L : Nat) (xs : Nat → Int32) (m d k : Nat) (n : Nat) (g : a2_G) (r : a2_A) : bk L xs nR_isOperand nm_m76 m d k (n + 2) 54 [some (.ref cR)] [] g r = BR_isOperand_54 L xs m d k g r := by
  show _ = ((BR_isOperand_55 L xs m d k 0 g r) : Option fn_Z)
  refine (fs_r (n := n + 1) 1 (pc' := 55) (L' := [some (.ref cR)]) (S' := [.int 0]) rfl).trans ?_
  exact bR_isOperand_55 L xs m d k (n + 0) 0 g r
def BR_isOperand_50 (L : Nat) (xs : Nat → Int32) (m d k : Nat) (g : a2_G) (r : a2_A) : Option fn_Z := (BR_isOperand_55 L xs m d k 1 g r)
theorem bR_isOperand_50 (L : Nat) (xs : Nat → Int32) (m d k : Nat) (n : Nat) (g : a2_G) (r : a2_A) : bk L xs nR_isOperand nm_m76 m d k (n + 3) 50 [some (.ref cR)] [] g r = BR_isOperand_50 L xs m d k g r := by
  show _ = ((BR_isOperand_55 L xs m d k 1 g r) : Option fn_Z)
  refine (fs_r (n := n + 2) 1 (pc' := 51) (L' := [some (.ref cR)]) (S' := [.int 1]) rfl).trans ?_
  refine (fs_go (n := n + 1) rfl (t := 55) rfl (by decide)).trans ?_
  exact bR_isOperand_55 L xs m d k (n + 0) 1 g r
theorem eR_isOperand (L : Nat) (xs : Nat → Int32) (m d k : Nat) (n : Nat) (g : a2_G) (r : a2_A) : bk L xs nR_isOperand nm_m76 m d k (n + 29) 0 [some (.ref cR)] [] g r = (if am_c2 .ge (g fR_at) (g fR_size) = true then (BR_isOperand_54 L xs m d k g r) else (if am_inr (g fR_at) (r fR_kinds).1 = true then (if am_c2 .eq ((r fR_kinds).2 ((g fR_at) : Int32).toNatClampNeg) 1 = true then (BR_isOperand_50 L xs m d k g r) else (if am_inr (g fR_at) (r fR_kinds).1 = true then (if am_c2 .eq ((r fR_kinds).2 ((g fR_at) : Int32).toNatClampNeg) 2 = true then (BR_isOperand_50 L xs m d k g r) else (if am_inr (g fR_at) (r fR_kinds).1 = true then (if am_c2 .ne ((r fR_kinds).2 ((g fR_at) : Int32).toNatClampNeg) 3 = true then (BR_isOperand_54 L xs m d k g r) else (BR_isOperand_50 L xs m d k g r)) else none)) else none)) else none)) := by
  refine (fs_r (n := n + 25) 4 (pc' := 8) (L' := [some (.ref cR)]) (S' := [.int (g fR_size), .int (g fR_at)]) rfl).trans ?_
  refine (fs_j (n := n + 24) rfl (t := 54) rfl (by decide)).trans (fs_ite ?_ ?_)
  · skip
    exact bR_isOperand_54 L xs m d k (n + 22) g r
  · skip
    refine (fs_r (n := n + 20) 4 (pc' := 19) (L' := [some (.ref cR)]) (S' := [.int (g fR_at), .ref 10100]) rfl).trans ?_
    refine (fs_il (n := n + 19) (k := 100) rfl rfl).trans (fs_ite ?_ rfl)
    refine (fs_r (n := n + 18) 1 (pc' := 21) (L' := [some (.ref cR)]) (S' := [.int 1, .int ((r fR_kinds).2 ((g fR_at) : Int32).toNatClampNeg)]) rfl).trans ?_
    refine (fs_j (n := n + 17) rfl (t := 50) rfl (by decide)).trans (fs_ite ?_ ?_)
    · skip
      exact bR_isOperand_50 L xs m d k (n + 14) g r
    · skip
      refine (fs_r (n := n + 13) 4 (pc' := 32) (L' := [some (.ref cR)]) (S' := [.int (g fR_at), .ref 10100]) rfl).trans ?_
      refine (fs_il (n := n + 12) (k := 100) rfl rfl).trans (fs_ite ?_ rfl)
      refine (fs_r (n := n + 11) 1 (pc' := 34) (L' := [some (.ref cR)]) (S' := [.int 2, .int ((r fR_kinds).2 ((g fR_at) : Int32).toNatClampNeg)]) rfl).trans ?_
      refine (fs_j (n := n + 10) rfl (t := 50) rfl (by decide)).trans (fs_ite ?_ ?_)
      · skip
        exact bR_isOperand_50 L xs m d k (n + 7) g r
      · skip
        refine (fs_r (n := n + 6) 4 (pc' := 45) (L' := [some (.ref cR)]) (S' := [.int (g fR_at), .ref 10100]) rfl).trans ?_
        refine (fs_il (n := n + 5) (k := 100) rfl rfl).trans (fs_ite ?_ rfl)
        refine (fs_r (n := n + 4) 1 (pc' := 47) (L' := [some (.ref cR)]) (S' := [.int 3, .int ((r fR_kinds).2 ((g fR_at) : Int32).toNatClampNeg)]) rfl).trans ?_
        refine (fs_j (n := n + 3) rfl (t := 54) rfl (by decide)).trans (fs_ite ?_ ?_)
        · skip
          exact bR_isOperand_54 L xs m d k (n + 1) g r
        · skip
          exact bR_isOperand_50 L xs m d k (n + 0) g r
theorem qR_isOperand (L : Nat) (xs : Nat → Int32) (m d : Nat) (g : a2_G) (r : a2_A) : ev L xs (m + 1) (d + 1) nR_isOperand [.ref cR] g r = (if am_c2 .ge (g fR_at) (g fR_size) = true then (BR_isOperand_54 L xs (m + 1) d m g r) else (if am_inr (g fR_at) (r fR_kinds).1 = true then (if am_c2 .eq ((r fR_kinds).2 ((g fR_at) : Int32).toNatClampNeg) 1 = true then (BR_isOperand_50 L xs (m + 1) d m g r) else (if am_inr (g fR_at) (r fR_kinds).1 = true then (if am_c2 .eq ((r fR_kinds).2 ((g fR_at) : Int32).toNatClampNeg) 2 = true then (BR_isOperand_50 L xs (m + 1) d m g r) else (if am_inr (g fR_at) (r fR_kinds).1 = true then (if am_c2 .ne ((r fR_kinds).2 ((g fR_at) : Int32).toNatClampNeg) 3 = true then (BR_isOperand_54 L xs (m + 1) d m g r) else (BR_isOperand_50 L xs (m + 1) d m g r)) else none)) else none)) else none)) := (fs_ev (M := nm_m76) rfl rfl).trans (eR_isOperand L xs (m + 1) d m 871 g r)
/-- CobolParser$Row.kind()I -/
def BR_kind_24 (L : Nat) (xs : Nat → Int32) (m d k : Nat) (x1 : Int32) (g : a2_G) (r : a2_A) : Option fn_Z := (some (.inl (some (.int x1)), g, r))
theorem bR_kind_24 (L : Nat) (xs : Nat → Int32) (m d k : Nat) (n : Nat) (x1 : Int32) (g : a2_G) (r : a2_A) : bk L xs nR_kind nm_m77 m d k (n + 1) 24 [some (.ref cR)] [.int x1] g r = BR_kind_24 L xs m d k x1 g r := by
  show _ = ((some (.inl (some (.int x1)), g, r)) : Option fn_Z)
  exact (fs_ri (n := n + 0) rfl rfl).trans rfl
theorem eR_kind (L : Nat) (xs : Nat → Int32) (m d k : Nat) (n : Nat) (g : a2_G) (r : a2_A) : bk L xs nR_kind nm_m77 m d k (n + 12) 0 [some (.ref cR)] [] g r = (if am_c2 .ge (g fR_at) (g fR_size) = true then (BR_kind_24 L xs m d k (-1) g r) else (if am_inr (g fR_at) (r fR_kinds).1 = true then (BR_kind_24 L xs m d k ((r fR_kinds).2 ((g fR_at) : Int32).toNatClampNeg) g r) else none)) := by
  refine (fs_r (n := n + 8) 4 (pc' := 8) (L' := [some (.ref cR)]) (S' := [.int (g fR_size), .int (g fR_at)]) rfl).trans ?_
  refine (fs_j (n := n + 7) rfl (t := 23) rfl (by decide)).trans (fs_ite ?_ ?_)
  · skip
    refine (fs_r (n := n + 6) 1 (pc' := 24) (L' := [some (.ref cR)]) (S' := [.int (-1)]) rfl).trans ?_
    exact bR_kind_24 L xs m d k (n + 5) (-1) g r
  · skip
    refine (fs_r (n := n + 3) 4 (pc' := 19) (L' := [some (.ref cR)]) (S' := [.int (g fR_at), .ref 10100]) rfl).trans ?_
    refine (fs_il (n := n + 2) (k := 100) rfl rfl).trans (fs_ite ?_ rfl)
    refine (fs_go (n := n + 1) rfl (t := 24) rfl (by decide)).trans ?_
    exact bR_kind_24 L xs m d k (n + 0) ((r fR_kinds).2 ((g fR_at) : Int32).toNatClampNeg) g r
theorem qR_kind (L : Nat) (xs : Nat → Int32) (m d : Nat) (g : a2_G) (r : a2_A) : ev L xs (m + 1) (d + 1) nR_kind [.ref cR] g r = (if am_c2 .ge (g fR_at) (g fR_size) = true then (BR_kind_24 L xs (m + 1) d m (-1) g r) else (if am_inr (g fR_at) (r fR_kinds).1 = true then (BR_kind_24 L xs (m + 1) d m ((r fR_kinds).2 ((g fR_at) : Int32).toNatClampNeg) g r) else none)) := (fs_ev (M := nm_m77) rfl rfl).trans (eR_kind L xs (m + 1) d m 888 g r)
/-- CobolParser$Items.occurs(I)V -/
def BI_occurs_89 (L : Nat) (xs : Nat → Int32) (m d k : Nat) (x1 x2 : Int32) (g : a2_G) (r : a2_A) : Option fn_Z := (some (.inl none, g, r))
theorem bI_occurs_89 (L : Nat) (xs : Nat → Int32) (m d k : Nat) (n : Nat) (x1 x2 : Int32) (g : a2_G) (r : a2_A) : bk L xs nI_occurs nm_m78 m d k (n + 1) 89 [some (.ref cI), some (.int x1), some (.int x2)] [] g r = BI_occurs_89 L xs m d k x1 x2 g r := by
  show _ = ((some (.inl none, g, r)) : Option fn_Z)
  exact (fs_rv (n := n + 0) rfl rfl).trans rfl
def BI_occurs_57 (L : Nat) (xs : Nat → Int32) (m d k : Nat) (x1 x2 : Int32) (g : a2_G) (r : a2_A) : Option fn_Z := (fn_v (ev L xs m d nR_skip [.ref cR, .int 10] g r) fun v17 g15 r16 => (if am_c2 .eq v17 0 = true then (BI_occurs_89 L xs m d k x1 x2 g15 r16) else (fn_v (ev L xs m d nR_skip [.ref cR, .int 25] g15 r16) fun v20 g18 r19 => (fn_n (ev L xs m d nL_namesIn [.ref cL, .int x2, .int 17] g18 r19) fun g21 r22 => (BI_occurs_89 L xs m d k x1 x2 g21 r22)))))
theorem bI_occurs_57 (L : Nat) (xs : Nat → Int32) (m d k : Nat) (n : Nat) (x1 x2 : Int32) (g : a2_G) (r : a2_A) : bk L xs nI_occurs nm_m78 m d k (n + 16) 57 [some (.ref cI), some (.int x1), some (.int x2)] [] g r = BI_occurs_57 L xs m d k x1 x2 g r := by
  show _ = ((fn_v (ev L xs m d nR_skip [.ref cR, .int 10] g r) fun v17 g15 r16 => (if am_c2 .eq v17 0 = true then (BI_occurs_89 L xs m d k x1 x2 g15 r16) else (fn_v (ev L xs m d nR_skip [.ref cR, .int 25] g15 r16) fun v20 g18 r19 => (fn_n (ev L xs m d nL_namesIn [.ref cL, .int x2, .int 17] g18 r19) fun g21 r22 => (BI_occurs_89 L xs m d k x1 x2 g21 r22))))) : Option fn_Z)
  refine (fs_r (n := n + 13) 3 (pc' := 63) (L' := [some (.ref cI), some (.int x1), some (.int x2)]) (S' := [.int 10, .ref cR]) rfl).trans ?_
  refine (fs_cv (n := n + 12) (N := nm_m62) (as := [.ref cR, .int 10]) (rest := []) rfl rfl (Or.inl rfl) rfl rfl rfl rfl rfl).trans (fs_fv fun v17 g15 r16 => ?_)
  refine (fs_i (n := n + 11) rfl (t := 89) rfl (by decide)).trans (fs_ite ?_ ?_)
  · skip
    exact bI_occurs_89 L xs m d k (n + 10) x1 x2 g15 r16
  · skip
    refine (fs_r (n := n + 8) 3 (pc' := 75) (L' := [some (.ref cI), some (.int x1), some (.int x2)]) (S' := [.int 25, .ref cR]) rfl).trans ?_
    refine (fs_cv (n := n + 7) (N := nm_m62) (as := [.ref cR, .int 25]) (rest := []) rfl rfl (Or.inl rfl) rfl rfl rfl rfl rfl).trans (fs_fv fun v20 g18 r19 => ?_)
    refine (fs_r (n := n + 2) 5 (pc' := 86) (L' := [some (.ref cI), some (.int x1), some (.int x2)]) (S' := [.int 17, .int x2, .ref cL]) rfl).trans ?_
    refine (fs_cn (n := n + 1) (N := nm_m80) (as := [.ref cL, .int x2, .int 17]) (rest := []) rfl rfl (Or.inl rfl) rfl rfl rfl rfl rfl).trans (fs_fn fun g21 r22 => ?_)
    exact bI_occurs_89 L xs m d k (n + 0) x1 x2 g21 r22
theorem eI_occurs (L : Nat) (xs : Nat → Int32) (m d k : Nat) (n : Nat) (a1 : Int32) (g : a2_G) (r : a2_A) : bk L xs nI_occurs nm_m78 m d k (n + 45) 0 [some (.ref cI), some (.int a1), none] [] g r = (fn_v (ev L xs m d nI_beginIn [.ref cI, .int a1, .int 15] g r) fun v3 g1 r2 => (fn_v (ev L xs m d nR_requireKind [.ref cR, .int 2] g1 r2) fun v6 g4 r5 => (fn_n (ev L xs m d nT_set [.ref cT, .int v3, .int 1, .int v6] g4 r5) fun g7 r8 => (fn_v (ev L xs m d nR_skip [.ref cR, .int 23] g7 r8) fun v11 g9 r10 => (fn_v (ev L xs m d nR_skip [.ref cR, .int 24] g9 r10) fun v14 g12 r13 => (if am_c2 .eq v14 0 = true then (BI_occurs_57 L xs m d k a1 v3 g12 r13) else (fn_n (ev L xs m d nL_nameIn [.ref cL, .int v3, .int 16] g12 r13) fun g23 r24 => (BI_occurs_57 L xs m d k a1 v3 g23 r24)))))))) := by
  refine (fs_r (n := n + 42) 3 (pc' := 4) (L' := [some (.ref cI), some (.int a1), none]) (S' := [.int 15, .int a1, .ref cI]) rfl).trans ?_
  refine (fs_cv (n := n + 41) (N := nm_m72) (as := [.ref cI, .int a1, .int 15]) (rest := []) rfl rfl (Or.inl rfl) rfl rfl rfl rfl rfl).trans (fs_fv fun v3 g1 r2 => ?_)
  refine (fs_r (n := n + 33) 8 (pc' := 19) (L' := [some (.ref cI), some (.int a1), some (.int v3)]) (S' := [.int 2, .ref cR, .int 1, .int v3, .ref cT]) rfl).trans ?_
  refine (fs_cv (n := n + 32) (N := nm_m59) (as := [.ref cR, .int 2]) (rest := [.int 1, .int v3, .ref cT]) rfl rfl (Or.inl rfl) rfl rfl rfl rfl rfl).trans (fs_fv fun v6 g4 r5 => ?_)
  refine (fs_cn (n := n + 31) (N := nm_m69) (as := [.ref cT, .int v3, .int 1, .int v6]) (rest := []) rfl rfl (Or.inl rfl) rfl rfl rfl rfl rfl).trans (fs_fn fun g7 r8 => ?_)
  refine (fs_r (n := n + 28) 3 (pc' := 31) (L' := [some (.ref cI), some (.int a1), some (.int v3)]) (S' := [.int 23, .ref cR]) rfl).trans ?_
  refine (fs_cv (n := n + 27) (N := nm_m62) (as := [.ref cR, .int 23]) (rest := []) rfl rfl (Or.inl rfl) rfl rfl rfl rfl rfl).trans (fs_fv fun v11 g9 r10 => ?_)
  refine (fs_r (n := n + 23) 4 (pc' := 41) (L' := [some (.ref cI), some (.int a1), some (.int v3)]) (S' := [.int 24, .ref cR]) rfl).trans ?_
  refine (fs_cv (n := n + 22) (N := nm_m62) (as := [.ref cR, .int 24]) (rest := []) rfl rfl (Or.inl rfl) rfl rfl rfl rfl rfl).trans (fs_fv fun v14 g12 r13 => ?_)
  refine (fs_i (n := n + 21) rfl (t := 57) rfl (by decide)).trans (fs_ite ?_ ?_)
  · skip
    exact bI_occurs_57 L xs m d k (n + 5) a1 v3 g12 r13
  · skip
    refine (fs_r (n := n + 17) 4 (pc' := 54) (L' := [some (.ref cI), some (.int a1), some (.int v3)]) (S' := [.int 16, .int v3, .ref cL]) rfl).trans ?_
    refine (fs_cn (n := n + 16) (N := nm_m79) (as := [.ref cL, .int v3, .int 16]) (rest := []) rfl rfl (Or.inl rfl) rfl rfl rfl rfl rfl).trans (fs_fn fun g23 r24 => ?_)
    exact bI_occurs_57 L xs m d k (n + 0) a1 v3 g23 r24
theorem qI_occurs (L : Nat) (xs : Nat → Int32) (m d : Nat) (a1 : Int32) (g : a2_G) (r : a2_A) : ev L xs (m + 1) (d + 1) nI_occurs [.ref cI, .int a1] g r = (fn_v (ev L xs (m + 1) d nI_beginIn [.ref cI, .int a1, .int 15] g r) fun v3 g1 r2 => (fn_v (ev L xs (m + 1) d nR_requireKind [.ref cR, .int 2] g1 r2) fun v6 g4 r5 => (fn_n (ev L xs (m + 1) d nT_set [.ref cT, .int v3, .int 1, .int v6] g4 r5) fun g7 r8 => (fn_v (ev L xs (m + 1) d nR_skip [.ref cR, .int 23] g7 r8) fun v11 g9 r10 => (fn_v (ev L xs (m + 1) d nR_skip [.ref cR, .int 24] g9 r10) fun v14 g12 r13 => (if am_c2 .eq v14 0 = true then (BI_occurs_57 L xs (m + 1) d m a1 v3 g12 r13) else (fn_n (ev L xs (m + 1) d nL_nameIn [.ref cL, .int v3, .int 16] g12 r13) fun g23 r24 => (BI_occurs_57 L xs (m + 1) d m a1 v3 g23 r24)))))))) := (fs_ev (M := nm_m78) rfl rfl).trans (eI_occurs L xs (m + 1) d m 855 a1 g r)
/-- CobolParser$Leaves.nameIn(II)V -/
def BL_nameIn_31 (L : Nat) (xs : Nat → Int32) (m d k : Nat) (x1 x2 x3 : Int32) (g : a2_G) (r : a2_A) : Option fn_Z := (fn_v (ev L xs m d nR_value [.ref cR] g r) fun v6 g4 r5 => (fn_v (ev L xs m d nR_place [.ref cR] g4 r5) fun v9 g7 r8 => (fn_v (ev L xs m d nT_make [.ref cT, .int x2, .int (x3 + v6), .int v9] g7 r8) fun v12 g10 r11 => (fn_n (ev L xs m d nT_append [.ref cT, .int x1, .int v12] g10 r11) fun g13 r14 => (fn_n (ev L xs m d nR_advance [.ref cR] g13 r14) fun g15 r16 => (some (.inl none, g15, r16)))))))
theorem bL_nameIn_31 (L : Nat) (xs : Nat → Int32) (m d k : Nat) (n : Nat) (x1 x2 x3 : Int32) (g : a2_G) (r : a2_A) : bk L xs nL_nameIn nm_m79 m d k (n + 21) 31 [some (.ref cL), some (.int x1), some (.int x2), none] [.int x3] g r = BL_nameIn_31 L xs m d k x1 x2 x3 g r := by
  show _ = ((fn_v (ev L xs m d nR_value [.ref cR] g r) fun v6 g4 r5 => (fn_v (ev L xs m d nR_place [.ref cR] g4 r5) fun v9 g7 r8 => (fn_v (ev L xs m d nT_make [.ref cT, .int x2, .int (x3 + v6), .int v9] g7 r8) fun v12 g10 r11 => (fn_n (ev L xs m d nT_append [.ref cT, .int x1, .int v12] g10 r11) fun g13 r14 => (fn_n (ev L xs m d nR_advance [.ref cR] g13 r14) fun g15 r16 => (some (.inl none, g15, r16))))))) : Option fn_Z)
  refine (fs_r (n := n + 11) 10 (pc' := 47) (L' := [some (.ref cL), some (.int x1), some (.int x2), some (.int x3)]) (S' := [.ref cR, .int x3, .int x2, .ref cT, .int x1, .ref cT]) rfl).trans ?_
  refine (fs_cv (n := n + 10) (N := nm_m60) (as := [.ref cR]) (rest := [.int x3, .int x2, .ref cT, .int x1, .ref cT]) rfl rfl (Or.inl rfl) rfl rfl rfl rfl rfl).trans (fs_fv fun v6 g4 r5 => ?_)
  refine (fs_r (n := n + 7) 3 (pc' := 55) (L' := [some (.ref cL), some (.int x1), some (.int x2), some (.int x3)]) (S' := [.ref cR, .int (x3 + v6), .int x2, .ref cT, .int x1, .ref cT]) rfl).trans ?_
  refine (fs_cv (n := n + 6) (N := nm_m58) (as := [.ref cR]) (rest := [.int (x3 + v6), .int x2, .ref cT, .int x1, .ref cT]) rfl rfl (Or.inl rfl) rfl rfl rfl rfl rfl).trans (fs_fv fun v9 g7 r8 => ?_)
  refine (fs_cv (n := n + 5) (N := nm_m45) (as := [.ref cT, .int x2, .int (x3 + v6), .int v9]) (rest := [.int x1, .ref cT]) rfl rfl (Or.inl rfl) rfl rfl rfl rfl rfl).trans (fs_fv fun v12 g10 r11 => ?_)
  refine (fs_cn (n := n + 4) (N := nm_m63) (as := [.ref cT, .int x1, .int v12]) (rest := []) rfl rfl (Or.inl rfl) rfl rfl rfl rfl rfl).trans (fs_fn fun g13 r14 => ?_)
  refine (fs_r (n := n + 2) 2 (pc' := 68) (L' := [some (.ref cL), some (.int x1), some (.int x2), some (.int x3)]) (S' := [.ref cR]) rfl).trans ?_
  refine (fs_cn (n := n + 1) (N := nm_m61) (as := [.ref cR]) (rest := []) rfl rfl (Or.inl rfl) rfl rfl rfl rfl rfl).trans (fs_fn fun g15 r16 => ?_)
  exact (fs_rv (n := n + 0) rfl rfl).trans rfl
def BL_nameIn_19 (L : Nat) (xs : Nat → Int32) (m d k : Nat) (x1 x2 : Int32) (g : a2_G) (r : a2_A) : Option fn_Z := (if am_c2 .ne x2 41 = true then (BL_nameIn_31 L xs m d k x1 x2 0 g r) else (BL_nameIn_31 L xs m d k x1 x2 100000 g r))
theorem bL_nameIn_19 (L : Nat) (xs : Nat → Int32) (m d k : Nat) (n : Nat) (x1 x2 : Int32) (g : a2_G) (r : a2_A) : bk L xs nL_nameIn nm_m79 m d k (n + 26) 19 [some (.ref cL), some (.int x1), some (.int x2), none] [] g r = BL_nameIn_19 L xs m d k x1 x2 g r := by
  show _ = ((if am_c2 .ne x2 41 = true then (BL_nameIn_31 L xs m d k x1 x2 0 g r) else (BL_nameIn_31 L xs m d k x1 x2 100000 g r)) : Option fn_Z)
  refine (fs_r (n := n + 24) 2 (pc' := 22) (L' := [some (.ref cL), some (.int x1), some (.int x2), none]) (S' := [.int 41, .int x2]) rfl).trans ?_
  refine (fs_j (n := n + 23) rfl (t := 30) rfl (by decide)).trans (fs_ite ?_ ?_)
  · skip
    refine (fs_r (n := n + 22) 1 (pc' := 31) (L' := [some (.ref cL), some (.int x1), some (.int x2), none]) (S' := [.int 0]) rfl).trans ?_
    exact bL_nameIn_31 L xs m d k (n + 1) x1 x2 0 g r
  · skip
    refine (fs_r (n := n + 22) 1 (pc' := 27) (L' := [some (.ref cL), some (.int x1), some (.int x2), none]) (S' := [.int 100000]) rfl).trans ?_
    refine (fs_go (n := n + 21) rfl (t := 31) rfl (by decide)).trans ?_
    exact bL_nameIn_31 L xs m d k (n + 0) x1 x2 100000 g r
theorem eL_nameIn (L : Nat) (xs : Nat → Int32) (m d k : Nat) (n : Nat) (a1 a2 : Int32) (g : a2_G) (r : a2_A) : bk L xs nL_nameIn nm_m79 m d k (n + 35) 0 [some (.ref cL), some (.int a1), some (.int a2), none] [] g r = (fn_v (ev L xs m d nR_isKind [.ref cR, .int 1] g r) fun v3 g1 r2 => (if am_c2 .ne v3 0 = true then (BL_nameIn_19 L xs m d k a1 a2 g1 r2) else (fn_n (ev L xs m d nR_refuse [.ref cR, .int 1] g1 r2) fun g17 r18 => (BL_nameIn_19 L xs m d k a1 a2 g17 r18)))) := by
  refine (fs_r (n := n + 32) 3 (pc' := 5) (L' := [some (.ref cL), some (.int a1), some (.int a2), none]) (S' := [.int 1, .ref cR]) rfl).trans ?_
  refine (fs_cv (n := n + 31) (N := nm_m50) (as := [.ref cR, .int 1]) (rest := []) rfl rfl (Or.inl rfl) rfl rfl rfl rfl rfl).trans (fs_fv fun v3 g1 r2 => ?_)
  refine (fs_i (n := n + 30) rfl (t := 19) rfl (by decide)).trans (fs_ite ?_ ?_)
  · skip
    exact bL_nameIn_19 L xs m d k (n + 4) a1 a2 g1 r2
  · skip
    refine (fs_r (n := n + 27) 3 (pc' := 16) (L' := [some (.ref cL), some (.int a1), some (.int a2), none]) (S' := [.int 1, .ref cR]) rfl).trans ?_
    refine (fs_cn (n := n + 26) (N := nm_m56) (as := [.ref cR, .int 1]) (rest := []) rfl rfl (Or.inl rfl) rfl rfl rfl rfl rfl).trans (fs_fn fun g17 r18 => ?_)
    exact bL_nameIn_19 L xs m d k (n + 0) a1 a2 g17 r18
theorem qL_nameIn (L : Nat) (xs : Nat → Int32) (m d : Nat) (a1 a2 : Int32) (g : a2_G) (r : a2_A) : ev L xs (m + 1) (d + 1) nL_nameIn [.ref cL, .int a1, .int a2] g r = (fn_v (ev L xs (m + 1) d nR_isKind [.ref cR, .int 1] g r) fun v3 g1 r2 => (if am_c2 .ne v3 0 = true then (BL_nameIn_19 L xs (m + 1) d m a1 a2 g1 r2) else (fn_n (ev L xs (m + 1) d nR_refuse [.ref cR, .int 1] g1 r2) fun g17 r18 => (BL_nameIn_19 L xs (m + 1) d m a1 a2 g17 r18)))) := (fs_ev (M := nm_m79) rfl rfl).trans (eL_nameIn L xs (m + 1) d m 865 a1 a2 g r)
/-- CobolParser$Leaves.namesIn(II)V -/
def BL_namesIn_38 (L : Nat) (xs : Nat → Int32) (m d k : Nat) (x1 x2 x3 : Int32) (g : a2_G) (r : a2_A) : Option fn_Z := (some (.inl none, g, r))
theorem bL_namesIn_38 (L : Nat) (xs : Nat → Int32) (m d k : Nat) (n : Nat) (x1 x2 x3 : Int32) (g : a2_G) (r : a2_A) : bk L xs nL_namesIn nm_m80 m d k (n + 1) 38 [some (.ref cL), some (.int x1), some (.int x2), some (.int x3)] [] g r = BL_namesIn_38 L xs m d k x1 x2 x3 g r := by
  show _ = ((some (.inl none, g, r)) : Option fn_Z)
  exact (fs_rv (n := n + 0) rfl rfl).trans rfl
def BL_namesIn_8 (L : Nat) (xs : Nat → Int32) (m d k : Nat) (x1 x2 x3 : Int32) (g : a2_G) (r : a2_A) : Option fn_Z := (if am_c2 .ge x3 1500 = true then (BL_namesIn_38 L xs m d k x1 x2 x3 g r) else (fn_v (ev L xs m d nR_isKind [.ref cR, .int 1] g r) fun v5 g3 r4 => (if am_c2 .eq v5 0 = true then (BL_namesIn_38 L xs m d k x1 x2 x3 g3 r4) else (fn_n (ev L xs m d nL_nameIn [.ref cL, .int x1, .int x2] g3 r4) fun g6 r7 => (lp L xs nL_namesIn nm_m80 m d k 8 [some (.ref cL), some (.int x1), some (.int x2), some (.int (x3 + 1))] g6 r7)))))
theorem bL_namesIn_8 (L : Nat) (xs : Nat → Int32) (m d k : Nat) (n : Nat) (x1 x2 x3 : Int32) (g : a2_G) (r : a2_A) : bk L xs nL_namesIn nm_m80 m d k (n + 14) 8 [some (.ref cL), some (.int x1), some (.int x2), some (.int x3)] [] g r = BL_namesIn_8 L xs m d k x1 x2 x3 g r := by
  show _ = ((if am_c2 .ge x3 1500 = true then (BL_namesIn_38 L xs m d k x1 x2 x3 g r) else (fn_v (ev L xs m d nR_isKind [.ref cR, .int 1] g r) fun v5 g3 r4 => (if am_c2 .eq v5 0 = true then (BL_namesIn_38 L xs m d k x1 x2 x3 g3 r4) else (fn_n (ev L xs m d nL_nameIn [.ref cL, .int x1, .int x2] g3 r4) fun g6 r7 => (lp L xs nL_namesIn nm_m80 m d k 8 [some (.ref cL), some (.int x1), some (.int x2), some (.int (x3 + 1))] g6 r7))))) : Option fn_Z)
  refine (fs_r (n := n + 12) 2 (pc' := 12) (L' := [some (.ref cL), some (.int x1), some (.int x2), some (.int x3)]) (S' := [.int 1500, .int x3]) rfl).trans ?_
  refine (fs_j (n := n + 11) rfl (t := 38) rfl (by decide)).trans (fs_ite ?_ ?_)
  · skip
    exact bL_namesIn_38 L xs m d k (n + 10) x1 x2 x3 g r
  · skip
    refine (fs_r (n := n + 8) 3 (pc' := 20) (L' := [some (.ref cL), some (.int x1), some (.int x2), some (.int x3)]) (S' := [.int 1, .ref cR]) rfl).trans ?_
    refine (fs_cv (n := n + 7) (N := nm_m50) (as := [.ref cR, .int 1]) (rest := []) rfl rfl (Or.inl rfl) rfl rfl rfl rfl rfl).trans (fs_fv fun v5 g3 r4 => ?_)
    refine (fs_i (n := n + 6) rfl (t := 38) rfl (by decide)).trans (fs_ite ?_ ?_)
    · skip
      exact bL_namesIn_38 L xs m d k (n + 5) x1 x2 x3 g3 r4
    · skip
      refine (fs_r (n := n + 3) 3 (pc' := 29) (L' := [some (.ref cL), some (.int x1), some (.int x2), some (.int x3)]) (S' := [.int x2, .int x1, .ref cL]) rfl).trans ?_
      refine (fs_cn (n := n + 2) (N := nm_m79) (as := [.ref cL, .int x1, .int x2]) (rest := []) rfl rfl (Or.inl rfl) rfl rfl rfl rfl rfl).trans (fs_fn fun g6 r7 => ?_)
      refine (fs_r (n := n + 1) 1 (pc' := 35) (L' := [some (.ref cL), some (.int x1), some (.int x2), some (.int (x3 + 1))]) (S' := []) rfl).trans ?_
      exact (fs_gb (n := n + 0) rfl (t := 8) rfl (by decide)).trans rfl
theorem lL_namesIn_8 (L : Nat) (xs : Nat → Int32) (m d k : Nat) (x1 x2 x3 : Int32) (g : a2_G) (r : a2_A) : lp L xs nL_namesIn nm_m80 m d (k + 1) 8 [some (.ref cL), some (.int x1), some (.int x2), some (.int x3)] g r = BL_namesIn_8 L xs m d k x1 x2 x3 g r := fs_lp.trans (bL_namesIn_8 L xs m d k 886 x1 x2 x3 g r)
theorem eL_namesIn (L : Nat) (xs : Nat → Int32) (m d k : Nat) (n : Nat) (a1 a2 : Int32) (g : a2_G) (r : a2_A) : bk L xs nL_namesIn nm_m80 m d k (n + 20) 0 [some (.ref cL), some (.int a1), some (.int a2), none] [] g r = (fn_n (ev L xs m d nL_nameIn [.ref cL, .int a1, .int a2] g r) fun g1 r2 => (BL_namesIn_8 L xs m d k a1 a2 0 g1 r2)) := by
  refine (fs_r (n := n + 17) 3 (pc' := 3) (L' := [some (.ref cL), some (.int a1), some (.int a2), none]) (S' := [.int a2, .int a1, .ref cL]) rfl).trans ?_
  refine (fs_cn (n := n + 16) (N := nm_m79) (as := [.ref cL, .int a1, .int a2]) (rest := []) rfl rfl (Or.inl rfl) rfl rfl rfl rfl rfl).trans (fs_fn fun g1 r2 => ?_)
  refine (fs_r (n := n + 14) 2 (pc' := 8) (L' := [some (.ref cL), some (.int a1), some (.int a2), some (.int 0)]) (S' := []) rfl).trans ?_
  exact bL_namesIn_8 L xs m d k (n + 0) a1 a2 0 g1 r2
theorem qL_namesIn (L : Nat) (xs : Nat → Int32) (m d : Nat) (a1 a2 : Int32) (g : a2_G) (r : a2_A) : ev L xs (m + 1) (d + 1) nL_namesIn [.ref cL, .int a1, .int a2] g r = (fn_n (ev L xs (m + 1) d nL_nameIn [.ref cL, .int a1, .int a2] g r) fun g1 r2 => (BL_namesIn_8 L xs (m + 1) d m a1 a2 0 g1 r2)) := (fs_ev (M := nm_m80) rfl rfl).trans (eL_namesIn L xs (m + 1) d m 880 a1 a2 g r)
/-- CobolParser$Items.redefines(I)V -/
theorem eI_redefines (L : Nat) (xs : Nat → Int32) (m d k : Nat) (n : Nat) (a1 : Int32) (g : a2_G) (r : a2_A) : bk L xs nI_redefines nm_m81 m d k (n + 15) 0 [some (.ref cI), some (.int a1), none] [] g r = (fn_v (ev L xs m d nI_beginIn [.ref cI, .int a1, .int 18] g r) fun v3 g1 r2 => (fn_v (ev L xs m d nR_requireKind [.ref cR, .int 1] g1 r2) fun v6 g4 r5 => (fn_n (ev L xs m d nT_set [.ref cT, .int v3, .int 1, .int v6] g4 r5) fun g7 r8 => (some (.inl none, g7, r8))))) := by
  refine (fs_r (n := n + 12) 3 (pc' := 4) (L' := [some (.ref cI), some (.int a1), none]) (S' := [.int 18, .int a1, .ref cI]) rfl).trans ?_
  refine (fs_cv (n := n + 11) (N := nm_m72) (as := [.ref cI, .int a1, .int 18]) (rest := []) rfl rfl (Or.inl rfl) rfl rfl rfl rfl rfl).trans (fs_fv fun v3 g1 r2 => ?_)
  refine (fs_r (n := n + 3) 8 (pc' := 19) (L' := [some (.ref cI), some (.int a1), some (.int v3)]) (S' := [.int 1, .ref cR, .int 1, .int v3, .ref cT]) rfl).trans ?_
  refine (fs_cv (n := n + 2) (N := nm_m59) (as := [.ref cR, .int 1]) (rest := [.int 1, .int v3, .ref cT]) rfl rfl (Or.inl rfl) rfl rfl rfl rfl rfl).trans (fs_fv fun v6 g4 r5 => ?_)
  refine (fs_cn (n := n + 1) (N := nm_m69) (as := [.ref cT, .int v3, .int 1, .int v6]) (rest := []) rfl rfl (Or.inl rfl) rfl rfl rfl rfl rfl).trans (fs_fn fun g7 r8 => ?_)
  exact (fs_rv (n := n + 0) rfl rfl).trans rfl
theorem qI_redefines (L : Nat) (xs : Nat → Int32) (m d : Nat) (a1 : Int32) (g : a2_G) (r : a2_A) : ev L xs (m + 1) (d + 1) nI_redefines [.ref cI, .int a1] g r = (fn_v (ev L xs (m + 1) d nI_beginIn [.ref cI, .int a1, .int 18] g r) fun v3 g1 r2 => (fn_v (ev L xs (m + 1) d nR_requireKind [.ref cR, .int 1] g1 r2) fun v6 g4 r5 => (fn_n (ev L xs (m + 1) d nT_set [.ref cT, .int v3, .int 1, .int v6] g4 r5) fun g7 r8 => (some (.inl none, g7, r8))))) := (fs_ev (M := nm_m81) rfl rfl).trans (eI_redefines L xs (m + 1) d m 885 a1 g r)
/-- CobolParser$Items.usage(I)V -/
def BI_usage_52 (L : Nat) (xs : Nat → Int32) (m d k : Nat) (x1 x2 : Int32) (g : a2_G) (r : a2_A) : Option fn_Z := (some (.inl none, g, r))
theorem bI_usage_52 (L : Nat) (xs : Nat → Int32) (m d k : Nat) (n : Nat) (x1 x2 : Int32) (g : a2_G) (r : a2_A) : bk L xs nI_usage nm_m82 m d k (n + 1) 52 [some (.ref cI), some (.int x1), some (.int x2)] [] g r = BI_usage_52 L xs m d k x1 x2 g r := by
  show _ = ((some (.inl none, g, r)) : Option fn_Z)
  exact (fs_rv (n := n + 0) rfl rfl).trans rfl
theorem eI_usage (L : Nat) (xs : Nat → Int32) (m d k : Nat) (n : Nat) (a1 : Int32) (g : a2_G) (r : a2_A) : bk L xs nI_usage nm_m82 m d k (n + 23) 0 [some (.ref cI), some (.int a1), none] [] g r = (fn_v (ev L xs m d nI_beginIn [.ref cI, .int a1, .int 19] g r) fun v3 g1 r2 => (fn_v (ev L xs m d nR_skip [.ref cR, .int 67] g1 r2) fun v6 g4 r5 => (fn_v (ev L xs m d nR_skip [.ref cR, .int 29] g4 r5) fun v9 g7 r8 => (if am_c2 .eq v9 0 = true then (fn_n (ev L xs m d nR_require [.ref cR, .int 28] g7 r8) fun g10 r11 => (BI_usage_52 L xs m d k a1 v3 g10 r11)) else (fn_n (ev L xs m d nT_set [.ref cT, .int v3, .int 1, .int 1] g7 r8) fun g12 r13 => (BI_usage_52 L xs m d k a1 v3 g12 r13)))))) := by
  refine (fs_r (n := n + 20) 3 (pc' := 4) (L' := [some (.ref cI), some (.int a1), none]) (S' := [.int 19, .int a1, .ref cI]) rfl).trans ?_
  refine (fs_cv (n := n + 19) (N := nm_m72) (as := [.ref cI, .int a1, .int 19]) (rest := []) rfl rfl (Or.inl rfl) rfl rfl rfl rfl rfl).trans (fs_fv fun v3 g1 r2 => ?_)
  refine (fs_r (n := n + 15) 4 (pc' := 14) (L' := [some (.ref cI), some (.int a1), some (.int v3)]) (S' := [.int 67, .ref cR]) rfl).trans ?_
  refine (fs_cv (n := n + 14) (N := nm_m62) (as := [.ref cR, .int 67]) (rest := []) rfl rfl (Or.inl rfl) rfl rfl rfl rfl rfl).trans (fs_fv fun v6 g4 r5 => ?_)
  refine (fs_r (n := n + 10) 4 (pc' := 24) (L' := [some (.ref cI), some (.int a1), some (.int v3)]) (S' := [.int 29, .ref cR]) rfl).trans ?_
  refine (fs_cv (n := n + 9) (N := nm_m62) (as := [.ref cR, .int 29]) (rest := []) rfl rfl (Or.inl rfl) rfl rfl rfl rfl rfl).trans (fs_fv fun v9 g7 r8 => ?_)
  refine (fs_i (n := n + 8) rfl (t := 43) rfl (by decide)).trans (fs_ite ?_ ?_)
  · skip
    refine (fs_r (n := n + 5) 3 (pc' := 49) (L' := [some (.ref cI), some (.int a1), some (.int v3)]) (S' := [.int 28, .ref cR]) rfl).trans ?_
    refine (fs_cn (n := n + 4) (N := nm_m83) (as := [.ref cR, .int 28]) (rest := []) rfl rfl (Or.inl rfl) rfl rfl rfl rfl rfl).trans (fs_fn fun g10 r11 => ?_)
    exact bI_usage_52 L xs m d k (n + 3) a1 v3 g10 r11
  · skip
    refine (fs_r (n := n + 3) 5 (pc' := 37) (L' := [some (.ref cI), some (.int a1), some (.int v3)]) (S' := [.int 1, .int 1, .int v3, .ref cT]) rfl).trans ?_
    refine (fs_cn (n := n + 2) (N := nm_m69) (as := [.ref cT, .int v3, .int 1, .int 1]) (rest := []) rfl rfl (Or.inl rfl) rfl rfl rfl rfl rfl).trans (fs_fn fun g12 r13 => ?_)
    refine (fs_go (n := n + 1) rfl (t := 52) rfl (by decide)).trans ?_
    exact bI_usage_52 L xs m d k (n + 0) a1 v3 g12 r13
theorem qI_usage (L : Nat) (xs : Nat → Int32) (m d : Nat) (a1 : Int32) (g : a2_G) (r : a2_A) : ev L xs (m + 1) (d + 1) nI_usage [.ref cI, .int a1] g r = (fn_v (ev L xs (m + 1) d nI_beginIn [.ref cI, .int a1, .int 19] g r) fun v3 g1 r2 => (fn_v (ev L xs (m + 1) d nR_skip [.ref cR, .int 67] g1 r2) fun v6 g4 r5 => (fn_v (ev L xs (m + 1) d nR_skip [.ref cR, .int 29] g4 r5) fun v9 g7 r8 => (if am_c2 .eq v9 0 = true then (fn_n (ev L xs (m + 1) d nR_require [.ref cR, .int 28] g7 r8) fun g10 r11 => (BI_usage_52 L xs (m + 1) d m a1 v3 g10 r11)) else (fn_n (ev L xs (m + 1) d nT_set [.ref cT, .int v3, .int 1, .int 1] g7 r8) fun g12 r13 => (BI_usage_52 L xs (m + 1) d m a1 v3 g12 r13)))))) := (fs_ev (M := nm_m82) rfl rfl).trans (eI_usage L xs (m + 1) d m 877 a1 g r)
/-- CobolParser$Row.require(I)V -/
def BR_require_13 (L : Nat) (xs : Nat → Int32) (m d k : Nat) (x1 : Int32) (g : a2_G) (r : a2_A) : Option fn_Z := (some (.inl none, g, r))
theorem bR_require_13 (L : Nat) (xs : Nat → Int32) (m d k : Nat) (n : Nat) (x1 : Int32) (g : a2_G) (r : a2_A) : bk L xs nR_require nm_m83 m d k (n + 1) 13 [some (.ref cR), some (.int x1)] [] g r = BR_require_13 L xs m d k x1 g r := by
  show _ = ((some (.inl none, g, r)) : Option fn_Z)
  exact (fs_rv (n := n + 0) rfl rfl).trans rfl
theorem eR_require (L : Nat) (xs : Nat → Int32) (m d k : Nat) (n : Nat) (a1 : Int32) (g : a2_G) (r : a2_A) : bk L xs nR_require nm_m83 m d k (n + 8) 0 [some (.ref cR), some (.int a1)] [] g r = (fn_v (ev L xs m d nR_skip [.ref cR, .int a1] g r) fun v3 g1 r2 => (if am_c2 .ne v3 0 = true then (BR_require_13 L xs m d k a1 g1 r2) else (fn_n (ev L xs m d nR_refuse [.ref cR, .int 1] g1 r2) fun g4 r5 => (BR_require_13 L xs m d k a1 g4 r5)))) := by
  refine (fs_r (n := n + 6) 2 (pc' := 2) (L' := [some (.ref cR), some (.int a1)]) (S' := [.int a1, .ref cR]) rfl).trans ?_
  refine (fs_cv (n := n + 5) (N := nm_m62) (as := [.ref cR, .int a1]) (rest := []) rfl rfl (Or.inl rfl) rfl rfl rfl rfl rfl).trans (fs_fv fun v3 g1 r2 => ?_)
  refine (fs_i (n := n + 4) rfl (t := 13) rfl (by decide)).trans (fs_ite ?_ ?_)
  · skip
    exact bR_require_13 L xs m d k (n + 3) a1 g1 r2
  · skip
    refine (fs_r (n := n + 2) 2 (pc' := 10) (L' := [some (.ref cR), some (.int a1)]) (S' := [.int 1, .ref cR]) rfl).trans ?_
    refine (fs_cn (n := n + 1) (N := nm_m56) (as := [.ref cR, .int 1]) (rest := []) rfl rfl (Or.inl rfl) rfl rfl rfl rfl rfl).trans (fs_fn fun g4 r5 => ?_)
    exact bR_require_13 L xs m d k (n + 0) a1 g4 r5
theorem qR_require (L : Nat) (xs : Nat → Int32) (m d : Nat) (a1 : Int32) (g : a2_G) (r : a2_A) : ev L xs (m + 1) (d + 1) nR_require [.ref cR, .int a1] g r = (fn_v (ev L xs (m + 1) d nR_skip [.ref cR, .int a1] g r) fun v3 g1 r2 => (if am_c2 .ne v3 0 = true then (BR_require_13 L xs (m + 1) d m a1 g1 r2) else (fn_n (ev L xs (m + 1) d nR_refuse [.ref cR, .int 1] g1 r2) fun g4 r5 => (BR_require_13 L xs (m + 1) d m a1 g4 r5)))) := (fs_ev (M := nm_m83) rfl rfl).trans (eR_require L xs (m + 1) d m 892 a1 g r)
/-- CobolParser$Items.place(III)V -/
def BI_place_82 (L : Nat) (xs : Nat → Int32) (m d k : Nat) (x1 x2 x3 x4 : Int32) (g : a2_G) (r : a2_A) : Option fn_Z := (some (.inl none, g, r))
theorem bI_place_82 (L : Nat) (xs : Nat → Int32) (m d k : Nat) (n : Nat) (x1 x2 x3 x4 : Int32) (g : a2_G) (r : a2_A) : bk L xs nI_place nm_m84 m d k (n + 1) 82 [some (.ref cI), some (.int x1), some (.int x2), some (.int x3), some (.int x4)] [] g r = BI_place_82 L xs m d k x1 x2 x3 x4 g r := by
  show _ = ((some (.inl none, g, r)) : Option fn_Z)
  exact (fs_rv (n := n + 0) rfl rfl).trans rfl
def BI_place_41 (L : Nat) (xs : Nat → Int32) (m d k : Nat) (x1 x2 x3 x4 x5 : Int32) (g : a2_G) (r : a2_A) : Option fn_Z := (fn_n (ev L xs m d nT_append [.ref cT, .int x5, .int x1] g r) fun g1 r2 => (if am_c2 .eq x2 88 = true then (BI_place_82 L xs m d k x1 x2 x3 x4 g1 r2) else (if am_c2 .lt x3 0 = true then (BI_place_82 L xs m d k x1 x2 x3 x4 g1 r2) else (if am_c2 .ge x3 49 = true then (BI_place_82 L xs m d k x1 x2 x3 x4 g1 r2) else (if am_inr x3 (r2 fI_openLevels).1 = true then (if am_inr x3 (r2 fI_openHandles).1 = true then (BI_place_82 L xs m d k x1 x2 x3 x4 (upd g1 fI_openSize (x3 + 1)) (a2_ua (a2_ua r2 fI_openLevels ((r2 fI_openLevels).1, (upd (r2 fI_openLevels).2 (x3 : Int32).toNatClampNeg x2))) fI_openHandles ((r2 fI_openHandles).1, (upd (r2 fI_openHandles).2 (x3 : Int32).toNatClampNeg x1)))) else none) else none)))))
theorem bI_place_41 (L : Nat) (xs : Nat → Int32) (m d k : Nat) (n : Nat) (x1 x2 x3 x4 x5 : Int32) (g : a2_G) (r : a2_A) : bk L xs nI_place nm_m84 m d k (n + 26) 41 [some (.ref cI), some (.int x1), some (.int x2), some (.int x3), some (.int x4)] [.int x5, .ref cT] g r = BI_place_41 L xs m d k x1 x2 x3 x4 x5 g r := by
  show _ = ((fn_n (ev L xs m d nT_append [.ref cT, .int x5, .int x1] g r) fun g1 r2 => (if am_c2 .eq x2 88 = true then (BI_place_82 L xs m d k x1 x2 x3 x4 g1 r2) else (if am_c2 .lt x3 0 = true then (BI_place_82 L xs m d k x1 x2 x3 x4 g1 r2) else (if am_c2 .ge x3 49 = true then (BI_place_82 L xs m d k x1 x2 x3 x4 g1 r2) else (if am_inr x3 (r2 fI_openLevels).1 = true then (if am_inr x3 (r2 fI_openHandles).1 = true then (BI_place_82 L xs m d k x1 x2 x3 x4 (upd g1 fI_openSize (x3 + 1)) (a2_ua (a2_ua r2 fI_openLevels ((r2 fI_openLevels).1, (upd (r2 fI_openLevels).2 (x3 : Int32).toNatClampNeg x2))) fI_openHandles ((r2 fI_openHandles).1, (upd (r2 fI_openHandles).2 (x3 : Int32).toNatClampNeg x1)))) else none) else none))))) : Option fn_Z)
  refine (fs_r (n := n + 25) 1 (pc' := 42) (L' := [some (.ref cI), some (.int x1), some (.int x2), some (.int x3), some (.int x4)]) (S' := [.int x1, .int x5, .ref cT]) rfl).trans ?_
  refine (fs_cn (n := n + 24) (N := nm_m63) (as := [.ref cT, .int x5, .int x1]) (rest := []) rfl rfl (Or.inl rfl) rfl rfl rfl rfl rfl).trans (fs_fn fun g1 r2 => ?_)
  refine (fs_r (n := n + 22) 2 (pc' := 48) (L' := [some (.ref cI), some (.int x1), some (.int x2), some (.int x3), some (.int x4)]) (S' := [.int 88, .int x2]) rfl).trans ?_
  refine (fs_j (n := n + 21) rfl (t := 82) rfl (by decide)).trans (fs_ite ?_ ?_)
  · skip
    exact bI_place_82 L xs m d k (n + 20) x1 x2 x3 x4 g1 r2
  · skip
    refine (fs_r (n := n + 20) 1 (pc' := 52) (L' := [some (.ref cI), some (.int x1), some (.int x2), some (.int x3), some (.int x4)]) (S' := [.int x3]) rfl).trans ?_
    refine (fs_i (n := n + 19) rfl (t := 82) rfl (by decide)).trans (fs_ite ?_ ?_)
    · skip
      exact bI_place_82 L xs m d k (n + 18) x1 x2 x3 x4 g1 r2
    · skip
      refine (fs_r (n := n + 17) 2 (pc' := 58) (L' := [some (.ref cI), some (.int x1), some (.int x2), some (.int x3), some (.int x4)]) (S' := [.int 49, .int x3]) rfl).trans ?_
      refine (fs_j (n := n + 16) rfl (t := 82) rfl (by decide)).trans (fs_ite ?_ ?_)
      · skip
        exact bI_place_82 L xs m d k (n + 15) x1 x2 x3 x4 g1 r2
      · skip
        refine (fs_r (n := n + 12) 4 (pc' := 67) (L' := [some (.ref cI), some (.int x1), some (.int x2), some (.int x3), some (.int x4)]) (S' := [.int x2, .int x3, .ref 10703]) rfl).trans ?_
        refine (fs_is (n := n + 11) (k := 703) rfl rfl).trans (fs_ite ?_ rfl)
        refine (fs_r (n := n + 7) 4 (pc' := 74) (L' := [some (.ref cI), some (.int x1), some (.int x2), some (.int x3), some (.int x4)]) (S' := [.int x1, .int x3, .ref 10704]) rfl).trans ?_
        refine (fs_is (n := n + 6) (k := 704) rfl rfl).trans (fs_ite ?_ rfl)
        refine (fs_r (n := n + 2) 4 (pc' := 79) (L' := [some (.ref cI), some (.int x1), some (.int x2), some (.int x3), some (.int x4)]) (S' := [.int (x3 + 1), .ref cI]) rfl).trans ?_
        refine (fs_pf (n := n + 1) (ci := 7) (j := 5) rfl rfl rfl rfl).trans ?_
        exact bI_place_82 L xs m d k (n + 0) x1 x2 x3 x4 (upd g1 fI_openSize (x3 + 1)) (a2_ua (a2_ua r2 fI_openLevels ((r2 fI_openLevels).1, (upd (r2 fI_openLevels).2 (x3 : Int32).toNatClampNeg x2))) fI_openHandles ((r2 fI_openHandles).1, (upd (r2 fI_openHandles).2 (x3 : Int32).toNatClampNeg x1)))
def BI_place_15 (L : Nat) (xs : Nat → Int32) (m d k : Nat) (x1 x2 x3 x4 : Int32) (g : a2_G) (r : a2_A) : Option fn_Z := (if am_c2 .eq x4 0 = true then (BI_place_41 L xs m d k x1 x2 x3 x4 (g fI_holder) g r) else (if am_inr (x3 - 1) (r fI_openHandles).1 = true then (BI_place_41 L xs m d k x1 x2 x3 x4 ((r fI_openHandles).2 ((x3 - 1) : Int32).toNatClampNeg) g r) else none))
theorem bI_place_15 (L : Nat) (xs : Nat → Int32) (m d k : Nat) (n : Nat) (x1 x2 x3 x4 : Int32) (g : a2_G) (r : a2_A) : bk L xs nI_place nm_m84 m d k (n + 38) 15 [some (.ref cI), some (.int x1), some (.int x2), some (.int x3), none] [.int x4] g r = BI_place_15 L xs m d k x1 x2 x3 x4 g r := by
  show _ = ((if am_c2 .eq x4 0 = true then (BI_place_41 L xs m d k x1 x2 x3 x4 (g fI_holder) g r) else (if am_inr (x3 - 1) (r fI_openHandles).1 = true then (BI_place_41 L xs m d k x1 x2 x3 x4 ((r fI_openHandles).2 ((x3 - 1) : Int32).toNatClampNeg) g r) else none)) : Option fn_Z)
  refine (fs_r (n := n + 34) 4 (pc' := 23) (L' := [some (.ref cI), some (.int x1), some (.int x2), some (.int x3), some (.int x4)]) (S' := [.int x4, .ref cT]) rfl).trans ?_
  refine (fs_i (n := n + 33) rfl (t := 37) rfl (by decide)).trans (fs_ite ?_ ?_)
  · skip
    refine (fs_r (n := n + 31) 2 (pc' := 41) (L' := [some (.ref cI), some (.int x1), some (.int x2), some (.int x3), some (.int x4)]) (S' := [.int (g fI_holder), .ref cT]) rfl).trans ?_
    exact bI_place_41 L xs m d k (n + 5) x1 x2 x3 x4 (g fI_holder) g r
  · skip
    refine (fs_r (n := n + 28) 5 (pc' := 33) (L' := [some (.ref cI), some (.int x1), some (.int x2), some (.int x3), some (.int x4)]) (S' := [.int (x3 - 1), .ref 10704, .ref cT]) rfl).trans ?_
    refine (fs_il (n := n + 27) (k := 704) rfl rfl).trans (fs_ite ?_ rfl)
    refine (fs_go (n := n + 26) rfl (t := 41) rfl (by decide)).trans ?_
    exact bI_place_41 L xs m d k (n + 0) x1 x2 x3 x4 ((r fI_openHandles).2 ((x3 - 1) : Int32).toNatClampNeg) g r
def BI_place_14 (L : Nat) (xs : Nat → Int32) (m d k : Nat) (x1 x2 x3 : Int32) (g : a2_G) (r : a2_A) : Option fn_Z := (BI_place_15 L xs m d k x1 x2 x3 0 g r)
theorem bI_place_14 (L : Nat) (xs : Nat → Int32) (m d k : Nat) (n : Nat) (x1 x2 x3 : Int32) (g : a2_G) (r : a2_A) : bk L xs nI_place nm_m84 m d k (n + 39) 14 [some (.ref cI), some (.int x1), some (.int x2), some (.int x3), none] [] g r = BI_place_14 L xs m d k x1 x2 x3 g r := by
  show _ = ((BI_place_15 L xs m d k x1 x2 x3 0 g r) : Option fn_Z)
  refine (fs_r (n := n + 38) 1 (pc' := 15) (L' := [some (.ref cI), some (.int x1), some (.int x2), some (.int x3), none]) (S' := [.int 0]) rfl).trans ?_
  exact bI_place_15 L xs m d k (n + 0) x1 x2 x3 0 g r
theorem eI_place (L : Nat) (xs : Nat → Int32) (m d k : Nat) (n : Nat) (a1 a2 a3 : Int32) (g : a2_G) (r : a2_A) : bk L xs nI_place nm_m84 m d k (n + 45) 0 [some (.ref cI), some (.int a1), some (.int a2), some (.int a3), none] [] g r = (if am_c2 .le a3 0 = true then (BI_place_14 L xs m d k a1 a2 a3 g r) else (if am_c2 .gt a3 49 = true then (BI_place_14 L xs m d k a1 a2 a3 g r) else (BI_place_15 L xs m d k a1 a2 a3 1 g r))) := by
  refine (fs_r (n := n + 44) 1 (pc' := 1) (L' := [some (.ref cI), some (.int a1), some (.int a2), some (.int a3), none]) (S' := [.int a3]) rfl).trans ?_
  refine (fs_i (n := n + 43) rfl (t := 14) rfl (by decide)).trans (fs_ite ?_ ?_)
  · skip
    exact bI_place_14 L xs m d k (n + 4) a1 a2 a3 g r
  · skip
    refine (fs_r (n := n + 41) 2 (pc' := 7) (L' := [some (.ref cI), some (.int a1), some (.int a2), some (.int a3), none]) (S' := [.int 49, .int a3]) rfl).trans ?_
    refine (fs_j (n := n + 40) rfl (t := 14) rfl (by decide)).trans (fs_ite ?_ ?_)
    · skip
      exact bI_place_14 L xs m d k (n + 1) a1 a2 a3 g r
    · skip
      refine (fs_r (n := n + 39) 1 (pc' := 11) (L' := [some (.ref cI), some (.int a1), some (.int a2), some (.int a3), none]) (S' := [.int 1]) rfl).trans ?_
      refine (fs_go (n := n + 38) rfl (t := 15) rfl (by decide)).trans ?_
      exact bI_place_15 L xs m d k (n + 0) a1 a2 a3 1 g r
theorem qI_place (L : Nat) (xs : Nat → Int32) (m d : Nat) (a1 a2 a3 : Int32) (g : a2_G) (r : a2_A) : ev L xs (m + 1) (d + 1) nI_place [.ref cI, .int a1, .int a2, .int a3] g r = (if am_c2 .le a3 0 = true then (BI_place_14 L xs (m + 1) d m a1 a2 a3 g r) else (if am_c2 .gt a3 49 = true then (BI_place_14 L xs (m + 1) d m a1 a2 a3 g r) else (BI_place_15 L xs (m + 1) d m a1 a2 a3 1 g r))) := (fs_ev (M := nm_m84) rfl rfl).trans (eI_place L xs (m + 1) d m 855 a1 a2 a3 g r)
/-- CobolParser$Statements.isNext()Z -/
def BS_isNext_52 (L : Nat) (xs : Nat → Int32) (m d k : Nat) (x1 x2 x3 : Int32) (g : a2_G) (r : a2_A) : Option fn_Z := (if x3 = 0 ∨ x3 = 1 then some (.inl (some (.int x3)), g, r) else none)
theorem bS_isNext_52 (L : Nat) (xs : Nat → Int32) (m d k : Nat) (n : Nat) (x1 x2 x3 : Int32) (g : a2_G) (r : a2_A) : bk L xs nS_isNext nm_m85 m d k (n + 1) 52 [some (.ref cS), some (.int x1), some (.int x2)] [.int x3] g r = BS_isNext_52 L xs m d k x1 x2 x3 g r := by
  show _ = ((if x3 = 0 ∨ x3 = 1 then some (.inl (some (.int x3)), g, r) else none) : Option fn_Z)
  exact (fs_rb (n := n + 0) rfl rfl).trans rfl
def BS_isNext_51 (L : Nat) (xs : Nat → Int32) (m d k : Nat) (x1 x2 : Int32) (g : a2_G) (r : a2_A) : Option fn_Z := (BS_isNext_52 L xs m d k x1 x2 0 g r)
theorem bS_isNext_51 (L : Nat) (xs : Nat → Int32) (m d k : Nat) (n : Nat) (x1 x2 : Int32) (g : a2_G) (r : a2_A) : bk L xs nS_isNext nm_m85 m d k (n + 2) 51 [some (.ref cS), some (.int x1), some (.int x2)] [] g r = BS_isNext_51 L xs m d k x1 x2 g r := by
  show _ = ((BS_isNext_52 L xs m d k x1 x2 0 g r) : Option fn_Z)
  refine (fs_r (n := n + 1) 1 (pc' := 52) (L' := [some (.ref cS), some (.int x1), some (.int x2)]) (S' := [.int 0]) rfl).trans ?_
  exact bS_isNext_52 L xs m d k (n + 0) x1 x2 0 g r
def BS_isNext_31 (L : Nat) (xs : Nat → Int32) (m d k : Nat) (x1 x2 : Int32) (g : a2_G) (r : a2_A) : Option fn_Z := (fn_v (ev L xs m d nR_isKind [.ref cR, .int 0] g r) fun v6 g4 r5 => (if am_c2 .eq v6 0 = true then (BS_isNext_51 L xs m d k x1 x2 g4 r5) else (if am_c2 .eq x2 0 = true then (BS_isNext_51 L xs m d k x1 x2 g4 r5) else (BS_isNext_52 L xs m d k x1 x2 1 g4 r5))))
theorem bS_isNext_31 (L : Nat) (xs : Nat → Int32) (m d k : Nat) (n : Nat) (x1 x2 : Int32) (g : a2_G) (r : a2_A) : bk L xs nS_isNext nm_m85 m d k (n + 11) 31 [some (.ref cS), some (.int x1), none] [.int x2] g r = BS_isNext_31 L xs m d k x1 x2 g r := by
  show _ = ((fn_v (ev L xs m d nR_isKind [.ref cR, .int 0] g r) fun v6 g4 r5 => (if am_c2 .eq v6 0 = true then (BS_isNext_51 L xs m d k x1 x2 g4 r5) else (if am_c2 .eq x2 0 = true then (BS_isNext_51 L xs m d k x1 x2 g4 r5) else (BS_isNext_52 L xs m d k x1 x2 1 g4 r5)))) : Option fn_Z)
  refine (fs_r (n := n + 7) 4 (pc' := 37) (L' := [some (.ref cS), some (.int x1), some (.int x2)]) (S' := [.int 0, .ref cR]) rfl).trans ?_
  refine (fs_cv (n := n + 6) (N := nm_m50) (as := [.ref cR, .int 0]) (rest := []) rfl rfl (Or.inl rfl) rfl rfl rfl rfl rfl).trans (fs_fv fun v6 g4 r5 => ?_)
  refine (fs_i (n := n + 5) rfl (t := 51) rfl (by decide)).trans (fs_ite ?_ ?_)
  · skip
    exact bS_isNext_51 L xs m d k (n + 3) x1 x2 g4 r5
  · skip
    refine (fs_r (n := n + 4) 1 (pc' := 44) (L' := [some (.ref cS), some (.int x1), some (.int x2)]) (S' := [.int x2]) rfl).trans ?_
    refine (fs_i (n := n + 3) rfl (t := 51) rfl (by decide)).trans (fs_ite ?_ ?_)
    · skip
      exact bS_isNext_51 L xs m d k (n + 1) x1 x2 g4 r5
    · skip
      refine (fs_r (n := n + 2) 1 (pc' := 48) (L' := [some (.ref cS), some (.int x1), some (.int x2)]) (S' := [.int 1]) rfl).trans ?_
      refine (fs_go (n := n + 1) rfl (t := 52) rfl (by decide)).trans ?_
      exact bS_isNext_52 L xs m d k (n + 0) x1 x2 1 g4 r5
def BS_isNext_26 (L : Nat) (xs : Nat → Int32) (m d k : Nat) (x1 : Int32) (g : a2_G) (r : a2_A) : Option fn_Z := (BS_isNext_31 L xs m d k x1 1 g r)
theorem bS_isNext_26 (L : Nat) (xs : Nat → Int32) (m d k : Nat) (n : Nat) (x1 : Int32) (g : a2_G) (r : a2_A) : bk L xs nS_isNext nm_m85 m d k (n + 13) 26 [some (.ref cS), some (.int x1), none] [] g r = BS_isNext_26 L xs m d k x1 g r := by
  show _ = ((BS_isNext_31 L xs m d k x1 1 g r) : Option fn_Z)
  refine (fs_r (n := n + 12) 1 (pc' := 27) (L' := [some (.ref cS), some (.int x1), none]) (S' := [.int 1]) rfl).trans ?_
  refine (fs_go (n := n + 11) rfl (t := 31) rfl (by decide)).trans ?_
  exact bS_isNext_31 L xs m d k (n + 0) x1 1 g r
def BS_isNext_20 (L : Nat) (xs : Nat → Int32) (m d k : Nat) (x1 : Int32) (g : a2_G) (r : a2_A) : Option fn_Z := (if am_c2 .ne x1 29 = true then (BS_isNext_31 L xs m d k x1 0 g r) else (BS_isNext_26 L xs m d k x1 g r))
theorem bS_isNext_20 (L : Nat) (xs : Nat → Int32) (m d k : Nat) (n : Nat) (x1 : Int32) (g : a2_G) (r : a2_A) : bk L xs nS_isNext nm_m85 m d k (n + 16) 20 [some (.ref cS), some (.int x1), none] [] g r = BS_isNext_20 L xs m d k x1 g r := by
  show _ = ((if am_c2 .ne x1 29 = true then (BS_isNext_31 L xs m d k x1 0 g r) else (BS_isNext_26 L xs m d k x1 g r)) : Option fn_Z)
  refine (fs_r (n := n + 14) 2 (pc' := 23) (L' := [some (.ref cS), some (.int x1), none]) (S' := [.int 29, .int x1]) rfl).trans ?_
  refine (fs_j (n := n + 13) rfl (t := 30) rfl (by decide)).trans (fs_ite ?_ ?_)
  · skip
    refine (fs_r (n := n + 12) 1 (pc' := 31) (L' := [some (.ref cS), some (.int x1), none]) (S' := [.int 0]) rfl).trans ?_
    exact bS_isNext_31 L xs m d k (n + 1) x1 0 g r
  · skip
    exact bS_isNext_26 L xs m d k (n + 0) x1 g r
theorem eS_isNext (L : Nat) (xs : Nat → Int32) (m d k : Nat) (n : Nat) (g : a2_G) (r : a2_A) : bk L xs nS_isNext nm_m85 m d k (n + 26) 0 [some (.ref cS), none, none] [] g r = (fn_v (ev L xs m d nR_value [.ref cR] g r) fun v3 g1 r2 => (if am_c2 .lt v3 36 = true then (BS_isNext_20 L xs m d k v3 g1 r2) else (if am_c2 .le v3 47 = true then (BS_isNext_26 L xs m d k v3 g1 r2) else (BS_isNext_20 L xs m d k v3 g1 r2)))) := by
  refine (fs_r (n := n + 24) 2 (pc' := 4) (L' := [some (.ref cS), none, none]) (S' := [.ref cR]) rfl).trans ?_
  refine (fs_cv (n := n + 23) (N := nm_m60) (as := [.ref cR]) (rest := []) rfl rfl (Or.inl rfl) rfl rfl rfl rfl rfl).trans (fs_fv fun v3 g1 r2 => ?_)
  refine (fs_r (n := n + 20) 3 (pc' := 11) (L' := [some (.ref cS), some (.int v3), none]) (S' := [.int 36, .int v3]) rfl).trans ?_
  refine (fs_j (n := n + 19) rfl (t := 20) rfl (by decide)).trans (fs_ite ?_ ?_)
  · skip
    exact bS_isNext_20 L xs m d k (n + 3) v3 g1 r2
  · skip
    refine (fs_r (n := n + 17) 2 (pc' := 17) (L' := [some (.ref cS), some (.int v3), none]) (S' := [.int 47, .int v3]) rfl).trans ?_
    refine (fs_j (n := n + 16) rfl (t := 26) rfl (by decide)).trans (fs_ite ?_ ?_)
    · skip
      exact bS_isNext_26 L xs m d k (n + 3) v3 g1 r2
    · skip
      exact bS_isNext_20 L xs m d k (n + 0) v3 g1 r2
theorem qS_isNext (L : Nat) (xs : Nat → Int32) (m d : Nat) (g : a2_G) (r : a2_A) : ev L xs (m + 1) (d + 1) nS_isNext [.ref cS] g r = (fn_v (ev L xs (m + 1) d nR_value [.ref cR] g r) fun v3 g1 r2 => (if am_c2 .lt v3 36 = true then (BS_isNext_20 L xs (m + 1) d m v3 g1 r2) else (if am_c2 .le v3 47 = true then (BS_isNext_26 L xs (m + 1) d m v3 g1 r2) else (BS_isNext_20 L xs (m + 1) d m v3 g1 r2)))) := (fs_ev (M := nm_m85) rfl rfl).trans (eS_isNext L xs (m + 1) d m 874 g r)
/-- CobolParser$Clauses.sentence()V -/
def BC_sentence_76 (L : Nat) (xs : Nat → Int32) (m d k : Nat) (x1 x2 x3 : Int32) (g : a2_G) (r : a2_A) : Option fn_Z := (fn_n (ev L xs m d nT_append [.ref cT, .int x3, .int x1] g r) fun g14 r15 => (fn_n (ev L xs m d nC_enterBody [.ref cC] g14 r15) fun g16 r17 => (some (.inl none, g16, r17))))
theorem bC_sentence_76 (L : Nat) (xs : Nat → Int32) (m d k : Nat) (n : Nat) (x1 x2 x3 : Int32) (g : a2_G) (r : a2_A) : bk L xs nC_sentence nm_m86 m d k (n + 5) 76 [some (.ref cC), some (.int x1), some (.int x2)] [.int x3, .ref cT] g r = BC_sentence_76 L xs m d k x1 x2 x3 g r := by
  show _ = ((fn_n (ev L xs m d nT_append [.ref cT, .int x3, .int x1] g r) fun g14 r15 => (fn_n (ev L xs m d nC_enterBody [.ref cC] g14 r15) fun g16 r17 => (some (.inl none, g16, r17)))) : Option fn_Z)
  refine (fs_r (n := n + 4) 1 (pc' := 77) (L' := [some (.ref cC), some (.int x1), some (.int x2)]) (S' := [.int x1, .int x3, .ref cT]) rfl).trans ?_
  refine (fs_cn (n := n + 3) (N := nm_m63) (as := [.ref cT, .int x3, .int x1]) (rest := []) rfl rfl (Or.inl rfl) rfl rfl rfl rfl rfl).trans (fs_fn fun g14 r15 => ?_)
  refine (fs_r (n := n + 2) 1 (pc' := 81) (L' := [some (.ref cC), some (.int x1), some (.int x2)]) (S' := [.ref cC]) rfl).trans ?_
  refine (fs_cn (n := n + 1) (N := nm_m64) (as := [.ref cC]) (rest := []) rfl rfl (Or.inl rfl) rfl rfl rfl rfl rfl).trans (fs_fn fun g16 r17 => ?_)
  exact (fs_rv (n := n + 0) rfl rfl).trans rfl
def BC_sentence_55 (L : Nat) (xs : Nat → Int32) (m d k : Nat) (x1 x2 : Int32) (g : a2_G) (r : a2_A) : Option fn_Z := (if am_c2 .ne (g fC_paragraph) (-1) = true then (BC_sentence_76 L xs m d k x1 x2 (g fC_paragraph) g r) else (BC_sentence_76 L xs m d k x1 x2 x2 g r))
theorem bC_sentence_55 (L : Nat) (xs : Nat → Int32) (m d k : Nat) (n : Nat) (x1 x2 : Int32) (g : a2_G) (r : a2_A) : bk L xs nC_sentence nm_m86 m d k (n + 14) 55 [some (.ref cC), some (.int x1), none] [.int x2] g r = BC_sentence_55 L xs m d k x1 x2 g r := by
  show _ = ((if am_c2 .ne (g fC_paragraph) (-1) = true then (BC_sentence_76 L xs m d k x1 x2 (g fC_paragraph) g r) else (BC_sentence_76 L xs m d k x1 x2 x2 g r)) : Option fn_Z)
  refine (fs_r (n := n + 8) 6 (pc' := 65) (L' := [some (.ref cC), some (.int x1), some (.int x2)]) (S' := [.int (-1), .int (g fC_paragraph), .ref cT]) rfl).trans ?_
  refine (fs_j (n := n + 7) rfl (t := 72) rfl (by decide)).trans (fs_ite ?_ ?_)
  · skip
    refine (fs_r (n := n + 5) 2 (pc' := 76) (L' := [some (.ref cC), some (.int x1), some (.int x2)]) (S' := [.int (g fC_paragraph), .ref cT]) rfl).trans ?_
    exact bC_sentence_76 L xs m d k (n + 0) x1 x2 (g fC_paragraph) g r
  · skip
    refine (fs_r (n := n + 6) 1 (pc' := 69) (L' := [some (.ref cC), some (.int x1), some (.int x2)]) (S' := [.int x2, .ref cT]) rfl).trans ?_
    refine (fs_go (n := n + 5) rfl (t := 76) rfl (by decide)).trans ?_
    exact bC_sentence_76 L xs m d k (n + 0) x1 x2 x2 g r
theorem eC_sentence (L : Nat) (xs : Nat → Int32) (m d k : Nat) (n : Nat) (g : a2_G) (r : a2_A) : bk L xs nC_sentence nm_m86 m d k (n + 40) 0 [some (.ref cC), none, none] [] g r = (fn_n (ev L xs m d nC_requireState [.ref cC, .int 8, .int 11] g r) fun g1 r2 => (fn_v (ev L xs m d nC_mayHoldSentences [.ref cC] g1 r2) fun v5 g3 r4 => (fn_n (ev L xs m d nC_requireThat [.ref cC, .int v5] g3 r4) fun g6 r7 => (fn_v (ev L xs m d nS_list [.ref cS, .int 25, .int 0] g6 r7) fun v10 g8 r9 => (fn_v (ev L xs m d nR_requireKind [.ref cR, .int 4] g8 r9) fun v13 g11 r12 => (if am_c2 .ne (g11 fC_section) (-1) = true then (BC_sentence_55 L xs m d k v10 (g11 fC_section) g11 r12) else (BC_sentence_55 L xs m d k v10 (g11 fC_openDivision) g11 r12))))))) := by
  refine (fs_r (n := n + 37) 3 (pc' := 5) (L' := [some (.ref cC), none, none]) (S' := [.int 11, .int 8, .ref cC]) rfl).trans ?_
  refine (fs_cn (n := n + 36) (N := nm_m53) (as := [.ref cC, .int 8, .int 11]) (rest := []) rfl rfl (Or.inl rfl) rfl rfl rfl rfl rfl).trans (fs_fn fun g1 r2 => ?_)
  refine (fs_r (n := n + 34) 2 (pc' := 10) (L' := [some (.ref cC), none, none]) (S' := [.ref cC, .ref cC]) rfl).trans ?_
  refine (fs_cv (n := n + 33) (N := nm_m57) (as := [.ref cC]) (rest := [.ref cC]) rfl rfl (Or.inl rfl) rfl rfl rfl rfl rfl).trans (fs_fv fun v5 g3 r4 => ?_)
  refine (fs_cn (n := n + 32) (N := nm_m55) (as := [.ref cC, .int v5]) (rest := []) rfl rfl (Or.inl rfl) rfl rfl rfl rfl rfl).trans (fs_fn fun g6 r7 => ?_)
  refine (fs_r (n := n + 28) 4 (pc' := 23) (L' := [some (.ref cC), none, none]) (S' := [.int 0, .int 25, .ref cS]) rfl).trans ?_
  refine (fs_cv (n := n + 27) (N := nm_m87) (as := [.ref cS, .int 25, .int 0]) (rest := []) rfl rfl (Or.inr rfl) rfl rfl rfl rfl rfl).trans (fs_fv fun v10 g8 r9 => ?_)
  refine (fs_r (n := n + 23) 4 (pc' := 32) (L' := [some (.ref cC), some (.int v10), none]) (S' := [.int 4, .ref cR]) rfl).trans ?_
  refine (fs_cv (n := n + 22) (N := nm_m59) (as := [.ref cR, .int 4]) (rest := []) rfl rfl (Or.inl rfl) rfl rfl rfl rfl rfl).trans (fs_fv fun v13 g11 r12 => ?_)
  refine (fs_r (n := n + 18) 4 (pc' := 41) (L' := [some (.ref cC), some (.int v10), none]) (S' := [.int (-1), .int (g11 fC_section)]) rfl).trans ?_
  refine (fs_j (n := n + 17) rfl (t := 51) rfl (by decide)).trans (fs_ite ?_ ?_)
  · skip
    refine (fs_r (n := n + 15) 2 (pc' := 55) (L' := [some (.ref cC), some (.int v10), none]) (S' := [.int (g11 fC_section)]) rfl).trans ?_
    exact bC_sentence_55 L xs m d k (n + 1) v10 (g11 fC_section) g11 r12
  · skip
    refine (fs_r (n := n + 15) 2 (pc' := 48) (L' := [some (.ref cC), some (.int v10), none]) (S' := [.int (g11 fC_openDivision)]) rfl).trans ?_
    refine (fs_go (n := n + 14) rfl (t := 55) rfl (by decide)).trans ?_
    exact bC_sentence_55 L xs m d k (n + 0) v10 (g11 fC_openDivision) g11 r12
theorem qC_sentence (L : Nat) (xs : Nat → Int32) (m d : Nat) (g : a2_G) (r : a2_A) : ev L xs (m + 1) (d + 1) nC_sentence [.ref cC] g r = (fn_n (ev L xs (m + 1) d nC_requireState [.ref cC, .int 8, .int 11] g r) fun g1 r2 => (fn_v (ev L xs (m + 1) d nC_mayHoldSentences [.ref cC] g1 r2) fun v5 g3 r4 => (fn_n (ev L xs (m + 1) d nC_requireThat [.ref cC, .int v5] g3 r4) fun g6 r7 => (fn_v (ev L xs (m + 1) d nS_list [.ref cS, .int 25, .int 0] g6 r7) fun v10 g8 r9 => (fn_v (ev L xs (m + 1) d nR_requireKind [.ref cR, .int 4] g8 r9) fun v13 g11 r12 => (if am_c2 .ne (g11 fC_section) (-1) = true then (BC_sentence_55 L xs (m + 1) d m v10 (g11 fC_section) g11 r12) else (BC_sentence_55 L xs (m + 1) d m v10 (g11 fC_openDivision) g11 r12))))))) := (fs_ev (M := nm_m86) rfl rfl).trans (eC_sentence L xs (m + 1) d m 860 g r)
/-- CobolParser$Statements.list(II)I -/
def BS_list_83 (L : Nat) (xs : Nat → Int32) (m d k : Nat) (x1 x2 x3 x4 : Int32) (g : a2_G) (r : a2_A) : Option fn_Z := (some (.inl (some (.int x3)), g, r))
theorem bS_list_83 (L : Nat) (xs : Nat → Int32) (m d k : Nat) (n : Nat) (x1 x2 x3 x4 : Int32) (g : a2_G) (r : a2_A) : bk L xs nS_list nm_m87 m d k (n + 2) 83 [some (.ref cS), some (.int x1), some (.int x2), some (.int x3), some (.int x4)] [] g r = BS_list_83 L xs m d k x1 x2 x3 x4 g r := by
  show _ = ((some (.inl (some (.int x3)), g, r)) : Option fn_Z)
  refine (fs_r (n := n + 1) 1 (pc' := 84) (L' := [some (.ref cS), some (.int x1), some (.int x2), some (.int x3), some (.int x4)]) (S' := [.int x3]) rfl).trans ?_
  exact (fs_ri (n := n + 0) rfl rfl).trans rfl
def BS_list_49 (L : Nat) (xs : Nat → Int32) (m d k : Nat) (x1 x2 x3 x4 : Int32) (g : a2_G) (r : a2_A) : Option fn_Z := (if am_c2 .ge x4 1500 = true then (BS_list_83 L xs m d k x1 x2 x3 x4 g r) else (fn_v (ev L xs m d nS_isNext [.ref cS] g r) fun v12 g10 r11 => (if am_c2 .eq v12 0 = true then (BS_list_83 L xs m d k x1 x2 x3 x4 g10 r11) else (fn_v (ev L xs m d nS_statement [.ref cS, .int x2] g10 r11) fun v15 g13 r14 => (fn_n (ev L xs m d nT_append [.ref cT, .int x3, .int v15] g13 r14) fun g16 r17 => (lp L xs nS_list nm_m87 m d k 49 [some (.ref cS), some (.int x1), some (.int x2), some (.int x3), some (.int (x4 + 1))] g16 r17))))))
theorem bS_list_49 (L : Nat) (xs : Nat → Int32) (m d k : Nat) (n : Nat) (x1 x2 x3 x4 : Int32) (g : a2_G) (r : a2_A) : bk L xs nS_list nm_m87 m d k (n + 15) 49 [some (.ref cS), some (.int x1), some (.int x2), some (.int x3), some (.int x4)] [] g r = BS_list_49 L xs m d k x1 x2 x3 x4 g r := by
  show _ = ((if am_c2 .ge x4 1500 = true then (BS_list_83 L xs m d k x1 x2 x3 x4 g r) else (fn_v (ev L xs m d nS_isNext [.ref cS] g r) fun v12 g10 r11 => (if am_c2 .eq v12 0 = true then (BS_list_83 L xs m d k x1 x2 x3 x4 g10 r11) else (fn_v (ev L xs m d nS_statement [.ref cS, .int x2] g10 r11) fun v15 g13 r14 => (fn_n (ev L xs m d nT_append [.ref cT, .int x3, .int v15] g13 r14) fun g16 r17 => (lp L xs nS_list nm_m87 m d k 49 [some (.ref cS), some (.int x1), some (.int x2), some (.int x3), some (.int (x4 + 1))] g16 r17)))))) : Option fn_Z)
  refine (fs_r (n := n + 13) 2 (pc' := 54) (L' := [some (.ref cS), some (.int x1), some (.int x2), some (.int x3), some (.int x4)]) (S' := [.int 1500, .int x4]) rfl).trans ?_
  refine (fs_j (n := n + 12) rfl (t := 83) rfl (by decide)).trans (fs_ite ?_ ?_)
  · skip
    exact bS_list_83 L xs m d k (n + 10) x1 x2 x3 x4 g r
  · skip
    refine (fs_r (n := n + 11) 1 (pc' := 58) (L' := [some (.ref cS), some (.int x1), some (.int x2), some (.int x3), some (.int x4)]) (S' := [.ref cS]) rfl).trans ?_
    refine (fs_cv (n := n + 10) (N := nm_m85) (as := [.ref cS]) (rest := []) rfl rfl (Or.inl rfl) rfl rfl rfl rfl rfl).trans (fs_fv fun v12 g10 r11 => ?_)
    refine (fs_i (n := n + 9) rfl (t := 83) rfl (by decide)).trans (fs_ite ?_ ?_)
    · skip
      exact bS_list_83 L xs m d k (n + 7) x1 x2 x3 x4 g10 r11
    · skip
      refine (fs_r (n := n + 4) 5 (pc' := 71) (L' := [some (.ref cS), some (.int x1), some (.int x2), some (.int x3), some (.int x4)]) (S' := [.int x2, .ref cS, .int x3, .ref cT]) rfl).trans ?_
      refine (fs_cv (n := n + 3) (N := nm_m88) (as := [.ref cS, .int x2]) (rest := [.int x3, .ref cT]) rfl rfl (Or.inl rfl) rfl rfl rfl rfl rfl).trans (fs_fv fun v15 g13 r14 => ?_)
      refine (fs_cn (n := n + 2) (N := nm_m63) (as := [.ref cT, .int x3, .int v15]) (rest := []) rfl rfl (Or.inl rfl) rfl rfl rfl rfl rfl).trans (fs_fn fun g16 r17 => ?_)
      refine (fs_r (n := n + 1) 1 (pc' := 80) (L' := [some (.ref cS), some (.int x1), some (.int x2), some (.int x3), some (.int (x4 + 1))]) (S' := []) rfl).trans ?_
      exact (fs_gb (n := n + 0) rfl (t := 49) rfl (by decide)).trans rfl
theorem lS_list_49 (L : Nat) (xs : Nat → Int32) (m d k : Nat) (x1 x2 x3 x4 : Int32) (g : a2_G) (r : a2_A) : lp L xs nS_list nm_m87 m d (k + 1) 49 [some (.ref cS), some (.int x1), some (.int x2), some (.int x3), some (.int x4)] g r = BS_list_49 L xs m d k x1 x2 x3 x4 g r := fs_lp.trans (bS_list_49 L xs m d k 885 x1 x2 x3 x4 g r)
def BS_list_29 (L : Nat) (xs : Nat → Int32) (m d k : Nat) (x1 x2 : Int32) (g : a2_G) (r : a2_A) : Option fn_Z := (fn_v (ev L xs m d nR_place [.ref cR] g r) fun v6 g4 r5 => (fn_v (ev L xs m d nT_make [.ref cT, .int x1, .int 0, .int v6] g4 r5) fun v9 g7 r8 => (BS_list_49 L xs m d k x1 x2 v9 0 g7 r8)))
theorem bS_list_29 (L : Nat) (xs : Nat → Int32) (m d k : Nat) (n : Nat) (x1 x2 : Int32) (g : a2_G) (r : a2_A) : bk L xs nS_list nm_m87 m d k (n + 26) 29 [some (.ref cS), some (.int x1), some (.int x2), none, none] [] g r = BS_list_29 L xs m d k x1 x2 g r := by
  show _ = ((fn_v (ev L xs m d nR_place [.ref cR] g r) fun v6 g4 r5 => (fn_v (ev L xs m d nT_make [.ref cT, .int x1, .int 0, .int v6] g4 r5) fun v9 g7 r8 => (BS_list_49 L xs m d k x1 x2 v9 0 g7 r8))) : Option fn_Z)
  refine (fs_r (n := n + 20) 6 (pc' := 39) (L' := [some (.ref cS), some (.int x1), some (.int x2), none, none]) (S' := [.ref cR, .int 0, .int x1, .ref cT]) rfl).trans ?_
  refine (fs_cv (n := n + 19) (N := nm_m58) (as := [.ref cR]) (rest := [.int 0, .int x1, .ref cT]) rfl rfl (Or.inl rfl) rfl rfl rfl rfl rfl).trans (fs_fv fun v6 g4 r5 => ?_)
  refine (fs_cv (n := n + 18) (N := nm_m45) (as := [.ref cT, .int x1, .int 0, .int v6]) (rest := []) rfl rfl (Or.inl rfl) rfl rfl rfl rfl rfl).trans (fs_fv fun v9 g7 r8 => ?_)
  refine (fs_r (n := n + 15) 3 (pc' := 49) (L' := [some (.ref cS), some (.int x1), some (.int x2), some (.int v9), some (.int 0)]) (S' := []) rfl).trans ?_
  exact bS_list_49 L xs m d k (n + 0) x1 x2 v9 0 g7 r8
def BS_list_15 (L : Nat) (xs : Nat → Int32) (m d k : Nat) (x1 x2 : Int32) (g : a2_G) (r : a2_A) : Option fn_Z := (if am_c2 .le x2 40 = true then (BS_list_29 L xs m d k x1 x2 g r) else (fn_n (ev L xs m d nR_refuse [.ref cR, .int 3] g r) fun g18 r19 => (BS_list_29 L xs m d k x1 x2 g18 r19)))
theorem bS_list_15 (L : Nat) (xs : Nat → Int32) (m d k : Nat) (n : Nat) (x1 x2 : Int32) (g : a2_G) (r : a2_A) : bk L xs nS_list nm_m87 m d k (n + 33) 15 [some (.ref cS), some (.int x1), some (.int x2), none, none] [] g r = BS_list_15 L xs m d k x1 x2 g r := by
  show _ = ((if am_c2 .le x2 40 = true then (BS_list_29 L xs m d k x1 x2 g r) else (fn_n (ev L xs m d nR_refuse [.ref cR, .int 3] g r) fun g18 r19 => (BS_list_29 L xs m d k x1 x2 g18 r19))) : Option fn_Z)
  refine (fs_r (n := n + 31) 2 (pc' := 18) (L' := [some (.ref cS), some (.int x1), some (.int x2), none, none]) (S' := [.int 40, .int x2]) rfl).trans ?_
  refine (fs_j (n := n + 30) rfl (t := 29) rfl (by decide)).trans (fs_ite ?_ ?_)
  · skip
    exact bS_list_29 L xs m d k (n + 4) x1 x2 g r
  · skip
    refine (fs_r (n := n + 27) 3 (pc' := 26) (L' := [some (.ref cS), some (.int x1), some (.int x2), none, none]) (S' := [.int 3, .ref cR]) rfl).trans ?_
    refine (fs_cn (n := n + 26) (N := nm_m56) (as := [.ref cR, .int 3]) (rest := []) rfl rfl (Or.inl rfl) rfl rfl rfl rfl rfl).trans (fs_fn fun g18 r19 => ?_)
    exact bS_list_29 L xs m d k (n + 0) x1 x2 g18 r19
theorem eS_list (L : Nat) (xs : Nat → Int32) (m d k : Nat) (n : Nat) (a1 a2 : Int32) (g : a2_G) (r : a2_A) : bk L xs nS_list nm_m87 m d k (n + 40) 0 [some (.ref cS), some (.int a1), some (.int a2), none, none] [] g r = (fn_v (ev L xs m d nS_isNext [.ref cS] g r) fun v3 g1 r2 => (if am_c2 .ne v3 0 = true then (BS_list_15 L xs m d k a1 a2 g1 r2) else (fn_n (ev L xs m d nR_refuse [.ref cR, .int 1] g1 r2) fun g20 r21 => (BS_list_15 L xs m d k a1 a2 g20 r21)))) := by
  refine (fs_r (n := n + 39) 1 (pc' := 1) (L' := [some (.ref cS), some (.int a1), some (.int a2), none, none]) (S' := [.ref cS]) rfl).trans ?_
  refine (fs_cv (n := n + 38) (N := nm_m85) (as := [.ref cS]) (rest := []) rfl rfl (Or.inl rfl) rfl rfl rfl rfl rfl).trans (fs_fv fun v3 g1 r2 => ?_)
  refine (fs_i (n := n + 37) rfl (t := 15) rfl (by decide)).trans (fs_ite ?_ ?_)
  · skip
    exact bS_list_15 L xs m d k (n + 4) a1 a2 g1 r2
  · skip
    refine (fs_r (n := n + 34) 3 (pc' := 12) (L' := [some (.ref cS), some (.int a1), some (.int a2), none, none]) (S' := [.int 1, .ref cR]) rfl).trans ?_
    refine (fs_cn (n := n + 33) (N := nm_m56) (as := [.ref cR, .int 1]) (rest := []) rfl rfl (Or.inl rfl) rfl rfl rfl rfl rfl).trans (fs_fn fun g20 r21 => ?_)
    exact bS_list_15 L xs m d k (n + 0) a1 a2 g20 r21
theorem qS_list (L : Nat) (xs : Nat → Int32) (m d : Nat) (a1 a2 : Int32) (g : a2_G) (r : a2_A) : ev L xs (m + 1) (d + 1) nS_list [.ref cS, .int a1, .int a2] g r = (fn_v (ev L xs (m + 1) d nS_isNext [.ref cS] g r) fun v3 g1 r2 => (if am_c2 .ne v3 0 = true then (BS_list_15 L xs (m + 1) d m a1 a2 g1 r2) else (fn_n (ev L xs (m + 1) d nR_refuse [.ref cR, .int 1] g1 r2) fun g20 r21 => (BS_list_15 L xs (m + 1) d m a1 a2 g20 r21)))) := (fs_ev (M := nm_m87) rfl rfl).trans (eS_list L xs (m + 1) d m 860 a1 a2 g r)
/-- CobolParser$Statements.statement(I)I -/
def BS_statement_162 (L : Nat) (xs : Nat → Int32) (m d k : Nat) (x1 : Int32) (g : a2_G) (r : a2_A) : Option fn_Z := (fn_v (ev L xs m d nS_compute [.ref cS, .int x1] g r) fun v9 g7 r8 => (some (.inl (some (.int v9)), g7, r8)))
theorem bS_statement_162 (L : Nat) (xs : Nat → Int32) (m d k : Nat) (n : Nat) (x1 : Int32) (g : a2_G) (r : a2_A) : bk L xs nS_statement nm_m88 m d k (n + 4) 162 [some (.ref cS), some (.int x1)] [] g r = BS_statement_162 L xs m d k x1 g r := by
  show _ = ((fn_v (ev L xs m d nS_compute [.ref cS, .int x1] g r) fun v9 g7 r8 => (some (.inl (some (.int v9)), g7, r8))) : Option fn_Z)
  refine (fs_r (n := n + 2) 2 (pc' := 164) (L' := [some (.ref cS), some (.int x1)]) (S' := [.int x1, .ref cS]) rfl).trans ?_
  refine (fs_cv (n := n + 1) (N := nm_m120) (as := [.ref cS, .int x1]) (rest := []) rfl rfl (Or.inl rfl) rfl rfl rfl rfl rfl).trans (fs_fv fun v9 g7 r8 => ?_)
  exact (fs_ri (n := n + 0) rfl rfl).trans rfl
theorem eS_statement (L : Nat) (xs : Nat → Int32) (m d k : Nat) (n : Nat) (a1 : Int32) (g : a2_G) (r : a2_A) : bk L xs nS_statement nm_m88 m d k (n + 8) 0 [some (.ref cS), some (.int a1)] [] g r = (fn_v (ev L xs m d nR_value [.ref cR] g r) fun v3 g1 r2 => (if (v3 : Int32).toInt = 29 then (fn_v (ev L xs m d nS_display [.ref cS] g1 r2) fun v6 g4 r5 => (some (.inl (some (.int v6)), g4, r5))) else (if (v3 : Int32).toInt = 30 then (BS_statement_162 L xs m d k a1 g1 r2) else (if (v3 : Int32).toInt = 31 then (BS_statement_162 L xs m d k a1 g1 r2) else (if (v3 : Int32).toInt = 32 then (BS_statement_162 L xs m d k a1 g1 r2) else (if (v3 : Int32).toInt = 33 then (BS_statement_162 L xs m d k a1 g1 r2) else (if (v3 : Int32).toInt = 34 then (BS_statement_162 L xs m d k a1 g1 r2) else (if (v3 : Int32).toInt = 35 then (BS_statement_162 L xs m d k a1 g1 r2) else (if (v3 : Int32).toInt = 36 then (fn_v (ev L xs m d nS_move [.ref cS] g1 r2) fun v12 g10 r11 => (some (.inl (some (.int v12)), g10, r11))) else (if (v3 : Int32).toInt = 37 then (fn_v (ev L xs m d nS_add [.ref cS, .int a1] g1 r2) fun v15 g13 r14 => (some (.inl (some (.int v15)), g13, r14))) else (if (v3 : Int32).toInt = 38 then (fn_v (ev L xs m d nS_ifElse [.ref cS, .int a1] g1 r2) fun v18 g16 r17 => (some (.inl (some (.int v18)), g16, r17))) else (if (v3 : Int32).toInt = 39 then (fn_v (ev L xs m d nS_perform [.ref cS, .int a1] g1 r2) fun v21 g19 r20 => (some (.inl (some (.int v21)), g19, r20))) else (if (v3 : Int32).toInt = 40 then (fn_v (ev L xs m d nS_evaluate [.ref cS, .int a1] g1 r2) fun v24 g22 r23 => (some (.inl (some (.int v24)), g22, r23))) else (if (v3 : Int32).toInt = 41 then (fn_v (ev L xs m d nS_read [.ref cS, .int a1] g1 r2) fun v27 g25 r26 => (some (.inl (some (.int v27)), g25, r26))) else (if (v3 : Int32).toInt = 42 then (fn_v (ev L xs m d nS_call [.ref cS, .int a1] g1 r2) fun v30 g28 r29 => (some (.inl (some (.int v30)), g28, r29))) else (if (v3 : Int32).toInt = 43 then (fn_v (ev L xs m d nS_goTo [.ref cS] g1 r2) fun v33 g31 r32 => (some (.inl (some (.int v33)), g31, r32))) else (if (v3 : Int32).toInt = 44 then (fn_v (ev L xs m d nS_stop [.ref cS] g1 r2) fun v36 g34 r35 => (some (.inl (some (.int v36)), g34, r35))) else (if (v3 : Int32).toInt = 45 then (fn_v (ev L xs m d nS_begin [.ref cS, .int 36] g1 r2) fun v39 g37 r38 => (some (.inl (some (.int v39)), g37, r38))) else (if (v3 : Int32).toInt = 46 then (fn_v (ev L xs m d nS_begin [.ref cS, .int 37] g1 r2) fun v42 g40 r41 => (some (.inl (some (.int v42)), g40, r41))) else (BS_statement_162 L xs m d k a1 g1 r2)))))))))))))))))))) := by
  refine (fs_r (n := n + 6) 2 (pc' := 4) (L' := [some (.ref cS), some (.int a1)]) (S' := [.ref cR]) rfl).trans ?_
  refine (fs_cv (n := n + 5) (N := nm_m60) (as := [.ref cR]) (rest := []) rfl rfl (Or.inl rfl) rfl rfl rfl rfl rfl).trans (fs_fv fun v3 g1 r2 => ?_)
  refine (fs_ts (n := n + 4) (l := [126, 155, 155, 155, 155, 155, 155, 85, 90, 96, 102, 108, 114, 120, 131, 136, 141, 148]) rfl rfl rfl).trans ?_
  refine fs_tc (v' := 30) rfl ?_ (fs_tc (v' := 31) rfl ?_ (fs_tc (v' := 32) rfl ?_ (fs_tc (v' := 33) rfl ?_ (fs_tc (v' := 34) rfl ?_ (fs_tc (v' := 35) rfl ?_ (fs_tc (v' := 36) rfl ?_ (fs_tc (v' := 37) rfl ?_ (fs_tc (v' := 38) rfl ?_ (fs_tc (v' := 39) rfl ?_ (fs_tc (v' := 40) rfl ?_ (fs_tc (v' := 41) rfl ?_ (fs_tc (v' := 42) rfl ?_ (fs_tc (v' := 43) rfl ?_ (fs_tc (v' := 44) rfl ?_ (fs_tc (v' := 45) rfl ?_ (fs_tc (v' := 46) rfl ?_ (fs_tc (v' := 47) rfl ?_ (fs_tn ?_))))))))))))))))))
  · refine (fs_J1 (n := n + 4) (t := 133) rfl (by decide)).trans ?_
    refine (fs_r (n := n + 3) 1 (pc' := 134) (L' := [some (.ref cS), some (.int a1)]) (S' := [.ref cS]) rfl).trans ?_
    refine (fs_cv (n := n + 2) (N := nm_m117) (as := [.ref cS]) (rest := []) rfl rfl (Or.inl rfl) rfl rfl rfl rfl rfl).trans (fs_fv fun v6 g4 r5 => ?_)
    exact (fs_ri (n := n + 1) rfl rfl).trans rfl
  · refine (fs_J1 (n := n + 4) (t := 162) rfl (by decide)).trans ?_
    exact bS_statement_162 L xs m d k (n + 0) a1 g1 r2
  · refine (fs_J1 (n := n + 4) (t := 162) rfl (by decide)).trans ?_
    exact bS_statement_162 L xs m d k (n + 0) a1 g1 r2
  · refine (fs_J1 (n := n + 4) (t := 162) rfl (by decide)).trans ?_
    exact bS_statement_162 L xs m d k (n + 0) a1 g1 r2
  · refine (fs_J1 (n := n + 4) (t := 162) rfl (by decide)).trans ?_
    exact bS_statement_162 L xs m d k (n + 0) a1 g1 r2
  · refine (fs_J1 (n := n + 4) (t := 162) rfl (by decide)).trans ?_
    exact bS_statement_162 L xs m d k (n + 0) a1 g1 r2
  · refine (fs_J1 (n := n + 4) (t := 162) rfl (by decide)).trans ?_
    exact bS_statement_162 L xs m d k (n + 0) a1 g1 r2
  · refine (fs_J1 (n := n + 4) (t := 92) rfl (by decide)).trans ?_
    refine (fs_r (n := n + 3) 1 (pc' := 93) (L' := [some (.ref cS), some (.int a1)]) (S' := [.ref cS]) rfl).trans ?_
    refine (fs_cv (n := n + 2) (N := nm_m89) (as := [.ref cS]) (rest := []) rfl rfl (Or.inl rfl) rfl rfl rfl rfl rfl).trans (fs_fv fun v12 g10 r11 => ?_)
    exact (fs_ri (n := n + 1) rfl rfl).trans rfl
  · refine (fs_J1 (n := n + 4) (t := 97) rfl (by decide)).trans ?_
    refine (fs_r (n := n + 2) 2 (pc' := 99) (L' := [some (.ref cS), some (.int a1)]) (S' := [.int a1, .ref cS]) rfl).trans ?_
    refine (fs_cv (n := n + 1) (N := nm_m92) (as := [.ref cS, .int a1]) (rest := []) rfl rfl (Or.inl rfl) rfl rfl rfl rfl rfl).trans (fs_fv fun v15 g13 r14 => ?_)
    exact (fs_ri (n := n + 0) rfl rfl).trans rfl
  · refine (fs_J1 (n := n + 4) (t := 103) rfl (by decide)).trans ?_
    refine (fs_r (n := n + 2) 2 (pc' := 105) (L' := [some (.ref cS), some (.int a1)]) (S' := [.int a1, .ref cS]) rfl).trans ?_
    refine (fs_cv (n := n + 1) (N := nm_m95) (as := [.ref cS, .int a1]) (rest := []) rfl rfl (Or.inl rfl) rfl rfl rfl rfl rfl).trans (fs_fv fun v18 g16 r17 => ?_)
    exact (fs_ri (n := n + 0) rfl rfl).trans rfl
  · refine (fs_J1 (n := n + 4) (t := 109) rfl (by decide)).trans ?_
    refine (fs_r (n := n + 2) 2 (pc' := 111) (L' := [some (.ref cS), some (.int a1)]) (S' := [.int a1, .ref cS]) rfl).trans ?_
    refine (fs_cv (n := n + 1) (N := nm_m109) (as := [.ref cS, .int a1]) (rest := []) rfl rfl (Or.inl rfl) rfl rfl rfl rfl rfl).trans (fs_fv fun v21 g19 r20 => ?_)
    exact (fs_ri (n := n + 0) rfl rfl).trans rfl
  · refine (fs_J1 (n := n + 4) (t := 115) rfl (by decide)).trans ?_
    refine (fs_r (n := n + 2) 2 (pc' := 117) (L' := [some (.ref cS), some (.int a1)]) (S' := [.int a1, .ref cS]) rfl).trans ?_
    refine (fs_cv (n := n + 1) (N := nm_m113) (as := [.ref cS, .int a1]) (rest := []) rfl rfl (Or.inl rfl) rfl rfl rfl rfl rfl).trans (fs_fv fun v24 g22 r23 => ?_)
    exact (fs_ri (n := n + 0) rfl rfl).trans rfl
  · refine (fs_J1 (n := n + 4) (t := 121) rfl (by decide)).trans ?_
    refine (fs_r (n := n + 2) 2 (pc' := 123) (L' := [some (.ref cS), some (.int a1)]) (S' := [.int a1, .ref cS]) rfl).trans ?_
    refine (fs_cv (n := n + 1) (N := nm_m115) (as := [.ref cS, .int a1]) (rest := []) rfl rfl (Or.inl rfl) rfl rfl rfl rfl rfl).trans (fs_fv fun v27 g25 r26 => ?_)
    exact (fs_ri (n := n + 0) rfl rfl).trans rfl
  · refine (fs_J1 (n := n + 4) (t := 127) rfl (by decide)).trans ?_
    refine (fs_r (n := n + 2) 2 (pc' := 129) (L' := [some (.ref cS), some (.int a1)]) (S' := [.int a1, .ref cS]) rfl).trans ?_
    refine (fs_cv (n := n + 1) (N := nm_m116) (as := [.ref cS, .int a1]) (rest := []) rfl rfl (Or.inl rfl) rfl rfl rfl rfl rfl).trans (fs_fv fun v30 g28 r29 => ?_)
    exact (fs_ri (n := n + 0) rfl rfl).trans rfl
  · refine (fs_J1 (n := n + 4) (t := 138) rfl (by decide)).trans ?_
    refine (fs_r (n := n + 3) 1 (pc' := 139) (L' := [some (.ref cS), some (.int a1)]) (S' := [.ref cS]) rfl).trans ?_
    refine (fs_cv (n := n + 2) (N := nm_m118) (as := [.ref cS]) (rest := []) rfl rfl (Or.inl rfl) rfl rfl rfl rfl rfl).trans (fs_fv fun v33 g31 r32 => ?_)
    exact (fs_ri (n := n + 1) rfl rfl).trans rfl
  · refine (fs_J1 (n := n + 4) (t := 143) rfl (by decide)).trans ?_
    refine (fs_r (n := n + 3) 1 (pc' := 144) (L' := [some (.ref cS), some (.int a1)]) (S' := [.ref cS]) rfl).trans ?_
    refine (fs_cv (n := n + 2) (N := nm_m119) (as := [.ref cS]) (rest := []) rfl rfl (Or.inl rfl) rfl rfl rfl rfl rfl).trans (fs_fv fun v36 g34 r35 => ?_)
    exact (fs_ri (n := n + 1) rfl rfl).trans rfl
  · refine (fs_J1 (n := n + 4) (t := 148) rfl (by decide)).trans ?_
    refine (fs_r (n := n + 2) 2 (pc' := 151) (L' := [some (.ref cS), some (.int a1)]) (S' := [.int 36, .ref cS]) rfl).trans ?_
    refine (fs_cv (n := n + 1) (N := nm_m90) (as := [.ref cS, .int 36]) (rest := []) rfl rfl (Or.inl rfl) rfl rfl rfl rfl rfl).trans (fs_fv fun v39 g37 r38 => ?_)
    exact (fs_ri (n := n + 0) rfl rfl).trans rfl
  · refine (fs_J1 (n := n + 4) (t := 155) rfl (by decide)).trans ?_
    refine (fs_r (n := n + 2) 2 (pc' := 158) (L' := [some (.ref cS), some (.int a1)]) (S' := [.int 37, .ref cS]) rfl).trans ?_
    refine (fs_cv (n := n + 1) (N := nm_m90) (as := [.ref cS, .int 37]) (rest := []) rfl rfl (Or.inl rfl) rfl rfl rfl rfl rfl).trans (fs_fv fun v42 g40 r41 => ?_)
    exact (fs_ri (n := n + 0) rfl rfl).trans rfl
  · refine (fs_J1 (n := n + 4) (t := 162) rfl (by decide)).trans ?_
    exact bS_statement_162 L xs m d k (n + 0) a1 g1 r2
theorem qS_statement (L : Nat) (xs : Nat → Int32) (m d : Nat) (a1 : Int32) (g : a2_G) (r : a2_A) : ev L xs (m + 1) (d + 1) nS_statement [.ref cS, .int a1] g r = (fn_v (ev L xs (m + 1) d nR_value [.ref cR] g r) fun v3 g1 r2 => (if (v3 : Int32).toInt = 29 then (fn_v (ev L xs (m + 1) d nS_display [.ref cS] g1 r2) fun v6 g4 r5 => (some (.inl (some (.int v6)), g4, r5))) else (if (v3 : Int32).toInt = 30 then (BS_statement_162 L xs (m + 1) d m a1 g1 r2) else (if (v3 : Int32).toInt = 31 then (BS_statement_162 L xs (m + 1) d m a1 g1 r2) else (if (v3 : Int32).toInt = 32 then (BS_statement_162 L xs (m + 1) d m a1 g1 r2) else (if (v3 : Int32).toInt = 33 then (BS_statement_162 L xs (m + 1) d m a1 g1 r2) else (if (v3 : Int32).toInt = 34 then (BS_statement_162 L xs (m + 1) d m a1 g1 r2) else (if (v3 : Int32).toInt = 35 then (BS_statement_162 L xs (m + 1) d m a1 g1 r2) else (if (v3 : Int32).toInt = 36 then (fn_v (ev L xs (m + 1) d nS_move [.ref cS] g1 r2) fun v12 g10 r11 => (some (.inl (some (.int v12)), g10, r11))) else (if (v3 : Int32).toInt = 37 then (fn_v (ev L xs (m + 1) d nS_add [.ref cS, .int a1] g1 r2) fun v15 g13 r14 => (some (.inl (some (.int v15)), g13, r14))) else (if (v3 : Int32).toInt = 38 then (fn_v (ev L xs (m + 1) d nS_ifElse [.ref cS, .int a1] g1 r2) fun v18 g16 r17 => (some (.inl (some (.int v18)), g16, r17))) else (if (v3 : Int32).toInt = 39 then (fn_v (ev L xs (m + 1) d nS_perform [.ref cS, .int a1] g1 r2) fun v21 g19 r20 => (some (.inl (some (.int v21)), g19, r20))) else (if (v3 : Int32).toInt = 40 then (fn_v (ev L xs (m + 1) d nS_evaluate [.ref cS, .int a1] g1 r2) fun v24 g22 r23 => (some (.inl (some (.int v24)), g22, r23))) else (if (v3 : Int32).toInt = 41 then (fn_v (ev L xs (m + 1) d nS_read [.ref cS, .int a1] g1 r2) fun v27 g25 r26 => (some (.inl (some (.int v27)), g25, r26))) else (if (v3 : Int32).toInt = 42 then (fn_v (ev L xs (m + 1) d nS_call [.ref cS, .int a1] g1 r2) fun v30 g28 r29 => (some (.inl (some (.int v30)), g28, r29))) else (if (v3 : Int32).toInt = 43 then (fn_v (ev L xs (m + 1) d nS_goTo [.ref cS] g1 r2) fun v33 g31 r32 => (some (.inl (some (.int v33)), g31, r32))) else (if (v3 : Int32).toInt = 44 then (fn_v (ev L xs (m + 1) d nS_stop [.ref cS] g1 r2) fun v36 g34 r35 => (some (.inl (some (.int v36)), g34, r35))) else (if (v3 : Int32).toInt = 45 then (fn_v (ev L xs (m + 1) d nS_begin [.ref cS, .int 36] g1 r2) fun v39 g37 r38 => (some (.inl (some (.int v39)), g37, r38))) else (if (v3 : Int32).toInt = 46 then (fn_v (ev L xs (m + 1) d nS_begin [.ref cS, .int 37] g1 r2) fun v42 g40 r41 => (some (.inl (some (.int v42)), g40, r41))) else (BS_statement_162 L xs (m + 1) d m a1 g1 r2)))))))))))))))))))) := (fs_ev (M := nm_m88) rfl rfl).trans (eS_statement L xs (m + 1) d m 892 a1 g r)
/-- CobolParser$Statements.move()I -/
theorem eS_move (L : Nat) (xs : Nat → Int32) (m d k : Nat) (n : Nat) (g : a2_G) (r : a2_A) : bk L xs nS_move nm_m89 m d k (n + 19) 0 [some (.ref cS), none] [] g r = (fn_v (ev L xs m d nS_begin [.ref cS, .int 26] g r) fun v3 g1 r2 => (fn_n (ev L xs m d nL_operandIn [.ref cL, .int v3] g1 r2) fun g4 r5 => (fn_n (ev L xs m d nR_require [.ref cR, .int 48] g4 r5) fun g6 r7 => (fn_n (ev L xs m d nL_namesIn [.ref cL, .int v3, .int 41] g6 r7) fun g8 r9 => (some (.inl (some (.int v3)), g8, r9)))))) := by
  refine (fs_r (n := n + 17) 2 (pc' := 3) (L' := [some (.ref cS), none]) (S' := [.int 26, .ref cS]) rfl).trans ?_
  refine (fs_cv (n := n + 16) (N := nm_m90) (as := [.ref cS, .int 26]) (rest := []) rfl rfl (Or.inl rfl) rfl rfl rfl rfl rfl).trans (fs_fv fun v3 g1 r2 => ?_)
  refine (fs_r (n := n + 12) 4 (pc' := 12) (L' := [some (.ref cS), some (.int v3)]) (S' := [.int v3, .ref cL]) rfl).trans ?_
  refine (fs_cn (n := n + 11) (N := nm_m91) (as := [.ref cL, .int v3]) (rest := []) rfl rfl (Or.inl rfl) rfl rfl rfl rfl rfl).trans (fs_fn fun g4 r5 => ?_)
  refine (fs_r (n := n + 8) 3 (pc' := 21) (L' := [some (.ref cS), some (.int v3)]) (S' := [.int 48, .ref cR]) rfl).trans ?_
  refine (fs_cn (n := n + 7) (N := nm_m83) (as := [.ref cR, .int 48]) (rest := []) rfl rfl (Or.inl rfl) rfl rfl rfl rfl rfl).trans (fs_fn fun g6 r7 => ?_)
  refine (fs_r (n := n + 3) 4 (pc' := 31) (L' := [some (.ref cS), some (.int v3)]) (S' := [.int 41, .int v3, .ref cL]) rfl).trans ?_
  refine (fs_cn (n := n + 2) (N := nm_m80) (as := [.ref cL, .int v3, .int 41]) (rest := []) rfl rfl (Or.inl rfl) rfl rfl rfl rfl rfl).trans (fs_fn fun g8 r9 => ?_)
  refine (fs_r (n := n + 1) 1 (pc' := 35) (L' := [some (.ref cS), some (.int v3)]) (S' := [.int v3]) rfl).trans ?_
  exact (fs_ri (n := n + 0) rfl rfl).trans rfl
theorem qS_move (L : Nat) (xs : Nat → Int32) (m d : Nat) (g : a2_G) (r : a2_A) : ev L xs (m + 1) (d + 1) nS_move [.ref cS] g r = (fn_v (ev L xs (m + 1) d nS_begin [.ref cS, .int 26] g r) fun v3 g1 r2 => (fn_n (ev L xs (m + 1) d nL_operandIn [.ref cL, .int v3] g1 r2) fun g4 r5 => (fn_n (ev L xs (m + 1) d nR_require [.ref cR, .int 48] g4 r5) fun g6 r7 => (fn_n (ev L xs (m + 1) d nL_namesIn [.ref cL, .int v3, .int 41] g6 r7) fun g8 r9 => (some (.inl (some (.int v3)), g8, r9)))))) := (fs_ev (M := nm_m89) rfl rfl).trans (eS_move L xs (m + 1) d m 881 g r)
/-- CobolParser$Statements.begin(I)I -/
theorem eS_begin (L : Nat) (xs : Nat → Int32) (m d k : Nat) (n : Nat) (a1 : Int32) (g : a2_G) (r : a2_A) : bk L xs nS_begin nm_m90 m d k (n + 20) 0 [some (.ref cS), some (.int a1), none] [] g r = (fn_v (ev L xs m d nR_place [.ref cR] g r) fun v3 g1 r2 => (fn_v (ev L xs m d nT_make [.ref cT, .int a1, .int 0, .int v3] g1 r2) fun v6 g4 r5 => (fn_n (ev L xs m d nT_set [.ref cT, .int v6, .int 3, .int 0] g4 r5) fun g7 r8 => (fn_n (ev L xs m d nR_advance [.ref cR] g7 r8) fun g9 r10 => (some (.inl (some (.int v6)), g9, r10)))))) := by
  refine (fs_r (n := n + 14) 6 (pc' := 10) (L' := [some (.ref cS), some (.int a1), none]) (S' := [.ref cR, .int 0, .int a1, .ref cT]) rfl).trans ?_
  refine (fs_cv (n := n + 13) (N := nm_m58) (as := [.ref cR]) (rest := [.int 0, .int a1, .ref cT]) rfl rfl (Or.inl rfl) rfl rfl rfl rfl rfl).trans (fs_fv fun v3 g1 r2 => ?_)
  refine (fs_cv (n := n + 12) (N := nm_m45) (as := [.ref cT, .int a1, .int 0, .int v3]) (rest := []) rfl rfl (Or.inl rfl) rfl rfl rfl rfl rfl).trans (fs_fv fun v6 g4 r5 => ?_)
  refine (fs_r (n := n + 6) 6 (pc' := 24) (L' := [some (.ref cS), some (.int a1), some (.int v6)]) (S' := [.int 0, .int 3, .int v6, .ref cT]) rfl).trans ?_
  refine (fs_cn (n := n + 5) (N := nm_m69) (as := [.ref cT, .int v6, .int 3, .int 0]) (rest := []) rfl rfl (Or.inl rfl) rfl rfl rfl rfl rfl).trans (fs_fn fun g7 r8 => ?_)
  refine (fs_r (n := n + 3) 2 (pc' := 31) (L' := [some (.ref cS), some (.int a1), some (.int v6)]) (S' := [.ref cR]) rfl).trans ?_
  refine (fs_cn (n := n + 2) (N := nm_m61) (as := [.ref cR]) (rest := []) rfl rfl (Or.inl rfl) rfl rfl rfl rfl rfl).trans (fs_fn fun g9 r10 => ?_)
  refine (fs_r (n := n + 1) 1 (pc' := 35) (L' := [some (.ref cS), some (.int a1), some (.int v6)]) (S' := [.int v6]) rfl).trans ?_
  exact (fs_ri (n := n + 0) rfl rfl).trans rfl
theorem qS_begin (L : Nat) (xs : Nat → Int32) (m d : Nat) (a1 : Int32) (g : a2_G) (r : a2_A) : ev L xs (m + 1) (d + 1) nS_begin [.ref cS, .int a1] g r = (fn_v (ev L xs (m + 1) d nR_place [.ref cR] g r) fun v3 g1 r2 => (fn_v (ev L xs (m + 1) d nT_make [.ref cT, .int a1, .int 0, .int v3] g1 r2) fun v6 g4 r5 => (fn_n (ev L xs (m + 1) d nT_set [.ref cT, .int v6, .int 3, .int 0] g4 r5) fun g7 r8 => (fn_n (ev L xs (m + 1) d nR_advance [.ref cR] g7 r8) fun g9 r10 => (some (.inl (some (.int v6)), g9, r10)))))) := (fs_ev (M := nm_m90) rfl rfl).trans (eS_begin L xs (m + 1) d m 880 a1 g r)
/-- CobolParser$Leaves.operandIn(I)V -/
theorem eL_operandIn (L : Nat) (xs : Nat → Int32) (m d k : Nat) (n : Nat) (a1 : Int32) (g : a2_G) (r : a2_A) : bk L xs nL_operandIn nm_m91 m d k (n + 7) 0 [some (.ref cL), some (.int a1)] [] g r = (fn_v (ev L xs m d nL_operand [.ref cL] g r) fun v3 g1 r2 => (fn_n (ev L xs m d nT_append [.ref cT, .int a1, .int v3] g1 r2) fun g4 r5 => (some (.inl none, g4, r5)))) := by
  refine (fs_r (n := n + 3) 4 (pc' := 6) (L' := [some (.ref cL), some (.int a1)]) (S' := [.ref cL, .int a1, .ref cT]) rfl).trans ?_
  refine (fs_cv (n := n + 2) (N := nm_m75) (as := [.ref cL]) (rest := [.int a1, .ref cT]) rfl rfl (Or.inl rfl) rfl rfl rfl rfl rfl).trans (fs_fv fun v3 g1 r2 => ?_)
  refine (fs_cn (n := n + 1) (N := nm_m63) (as := [.ref cT, .int a1, .int v3]) (rest := []) rfl rfl (Or.inl rfl) rfl rfl rfl rfl rfl).trans (fs_fn fun g4 r5 => ?_)
  exact (fs_rv (n := n + 0) rfl rfl).trans rfl
theorem qL_operandIn (L : Nat) (xs : Nat → Int32) (m d : Nat) (a1 : Int32) (g : a2_G) (r : a2_A) : ev L xs (m + 1) (d + 1) nL_operandIn [.ref cL, .int a1] g r = (fn_v (ev L xs (m + 1) d nL_operand [.ref cL] g r) fun v3 g1 r2 => (fn_n (ev L xs (m + 1) d nT_append [.ref cT, .int a1, .int v3] g1 r2) fun g4 r5 => (some (.inl none, g4, r5)))) := (fs_ev (M := nm_m91) rfl rfl).trans (eL_operandIn L xs (m + 1) d m 893 a1 g r)
/-- CobolParser$Statements.add(I)I -/
def BS_add_104 (L : Nat) (xs : Nat → Int32) (m d k : Nat) (x1 x2 : Int32) (g : a2_G) (r : a2_A) : Option fn_Z := (fn_n (ev L xs m d nS_scopeEnd [.ref cS, .int x2, .int 72] g r) fun g16 r17 => (some (.inl (some (.int x2)), g16, r17)))
theorem bS_add_104 (L : Nat) (xs : Nat → Int32) (m d k : Nat) (n : Nat) (x1 x2 : Int32) (g : a2_G) (r : a2_A) : bk L xs nS_add nm_m92 m d k (n + 6) 104 [some (.ref cS), some (.int x1), some (.int x2)] [] g r = BS_add_104 L xs m d k x1 x2 g r := by
  show _ = ((fn_n (ev L xs m d nS_scopeEnd [.ref cS, .int x2, .int 72] g r) fun g16 r17 => (some (.inl (some (.int x2)), g16, r17))) : Option fn_Z)
  refine (fs_r (n := n + 3) 3 (pc' := 108) (L' := [some (.ref cS), some (.int x1), some (.int x2)]) (S' := [.int 72, .int x2, .ref cS]) rfl).trans ?_
  refine (fs_cn (n := n + 2) (N := nm_m94) (as := [.ref cS, .int x2, .int 72]) (rest := []) rfl rfl (Or.inl rfl) rfl rfl rfl rfl rfl).trans (fs_fn fun g16 r17 => ?_)
  refine (fs_r (n := n + 1) 1 (pc' := 112) (L' := [some (.ref cS), some (.int x1), some (.int x2)]) (S' := [.int x2]) rfl).trans ?_
  exact (fs_ri (n := n + 0) rfl rfl).trans rfl
def BS_add_66 (L : Nat) (xs : Nat → Int32) (m d k : Nat) (x1 x2 : Int32) (g : a2_G) (r : a2_A) : Option fn_Z := (fn_v (ev L xs m d nR_skip [.ref cR, .int 50] g r) fun v15 g13 r14 => (if am_c2 .eq v15 0 = true then (BS_add_104 L xs m d k x1 x2 g13 r14) else (fn_n (ev L xs m d nR_require [.ref cR, .int 51] g13 r14) fun g18 r19 => (fn_v (ev L xs m d nS_list [.ref cS, .int 40, .int (x1 + 1)] g18 r19) fun v22 g20 r21 => (fn_n (ev L xs m d nT_append [.ref cT, .int x2, .int v22] g20 r21) fun g23 r24 => (BS_add_104 L xs m d k x1 x2 g23 r24))))))
theorem bS_add_66 (L : Nat) (xs : Nat → Int32) (m d k : Nat) (n : Nat) (x1 x2 : Int32) (g : a2_G) (r : a2_A) : bk L xs nS_add nm_m92 m d k (n + 25) 66 [some (.ref cS), some (.int x1), some (.int x2)] [] g r = BS_add_66 L xs m d k x1 x2 g r := by
  show _ = ((fn_v (ev L xs m d nR_skip [.ref cR, .int 50] g r) fun v15 g13 r14 => (if am_c2 .eq v15 0 = true then (BS_add_104 L xs m d k x1 x2 g13 r14) else (fn_n (ev L xs m d nR_require [.ref cR, .int 51] g13 r14) fun g18 r19 => (fn_v (ev L xs m d nS_list [.ref cS, .int 40, .int (x1 + 1)] g18 r19) fun v22 g20 r21 => (fn_n (ev L xs m d nT_append [.ref cT, .int x2, .int v22] g20 r21) fun g23 r24 => (BS_add_104 L xs m d k x1 x2 g23 r24)))))) : Option fn_Z)
  refine (fs_r (n := n + 22) 3 (pc' := 72) (L' := [some (.ref cS), some (.int x1), some (.int x2)]) (S' := [.int 50, .ref cR]) rfl).trans ?_
  refine (fs_cv (n := n + 21) (N := nm_m62) (as := [.ref cR, .int 50]) (rest := []) rfl rfl (Or.inl rfl) rfl rfl rfl rfl rfl).trans (fs_fv fun v15 g13 r14 => ?_)
  refine (fs_i (n := n + 20) rfl (t := 104) rfl (by decide)).trans (fs_ite ?_ ?_)
  · skip
    exact bS_add_104 L xs m d k (n + 14) x1 x2 g13 r14
  · skip
    refine (fs_r (n := n + 17) 3 (pc' := 84) (L' := [some (.ref cS), some (.int x1), some (.int x2)]) (S' := [.int 51, .ref cR]) rfl).trans ?_
    refine (fs_cn (n := n + 16) (N := nm_m83) (as := [.ref cR, .int 51]) (rest := []) rfl rfl (Or.inl rfl) rfl rfl rfl rfl rfl).trans (fs_fn fun g18 r19 => ?_)
    refine (fs_r (n := n + 8) 8 (pc' := 98) (L' := [some (.ref cS), some (.int x1), some (.int x2)]) (S' := [.int (x1 + 1), .int 40, .ref cS, .int x2, .ref cT]) rfl).trans ?_
    refine (fs_cv (n := n + 7) (N := nm_m87) (as := [.ref cS, .int 40, .int (x1 + 1)]) (rest := [.int x2, .ref cT]) rfl rfl (Or.inl rfl) rfl rfl rfl rfl rfl).trans (fs_fv fun v22 g20 r21 => ?_)
    refine (fs_cn (n := n + 6) (N := nm_m63) (as := [.ref cT, .int x2, .int v22]) (rest := []) rfl rfl (Or.inl rfl) rfl rfl rfl rfl rfl).trans (fs_fn fun g23 r24 => ?_)
    exact bS_add_104 L xs m d k (n + 0) x1 x2 g23 r24
theorem eS_add (L : Nat) (xs : Nat → Int32) (m d k : Nat) (n : Nat) (a1 : Int32) (g : a2_G) (r : a2_A) : bk L xs nS_add nm_m92 m d k (n + 49) 0 [some (.ref cS), some (.int a1), none] [] g r = (fn_v (ev L xs m d nS_begin [.ref cS, .int 27] g r) fun v3 g1 r2 => (fn_n (ev L xs m d nS_operandsIn [.ref cS, .int v3] g1 r2) fun g4 r5 => (fn_v (ev L xs m d nR_skip [.ref cR, .int 49] g4 r5) fun v8 g6 r7 => (if am_c2 .eq v8 0 = true then (fn_n (ev L xs m d nR_require [.ref cR, .int 48] g6 r7) fun g9 r10 => (fn_n (ev L xs m d nL_namesIn [.ref cL, .int v3, .int 41] g9 r10) fun g11 r12 => (BS_add_66 L xs m d k a1 v3 g11 r12))) else (fn_n (ev L xs m d nT_set [.ref cT, .int v3, .int 1, .int 1] g6 r7) fun g25 r26 => (fn_n (ev L xs m d nL_nameIn [.ref cL, .int v3, .int 41] g25 r26) fun g27 r28 => (BS_add_66 L xs m d k a1 v3 g27 r28))))))) := by
  refine (fs_r (n := n + 47) 2 (pc' := 3) (L' := [some (.ref cS), some (.int a1), none]) (S' := [.int 27, .ref cS]) rfl).trans ?_
  refine (fs_cv (n := n + 46) (N := nm_m90) (as := [.ref cS, .int 27]) (rest := []) rfl rfl (Or.inl rfl) rfl rfl rfl rfl rfl).trans (fs_fv fun v3 g1 r2 => ?_)
  refine (fs_r (n := n + 43) 3 (pc' := 9) (L' := [some (.ref cS), some (.int a1), some (.int v3)]) (S' := [.int v3, .ref cS]) rfl).trans ?_
  refine (fs_cn (n := n + 42) (N := nm_m93) (as := [.ref cS, .int v3]) (rest := []) rfl rfl (Or.inl rfl) rfl rfl rfl rfl rfl).trans (fs_fn fun g4 r5 => ?_)
  refine (fs_r (n := n + 39) 3 (pc' := 18) (L' := [some (.ref cS), some (.int a1), some (.int v3)]) (S' := [.int 49, .ref cR]) rfl).trans ?_
  refine (fs_cv (n := n + 38) (N := nm_m62) (as := [.ref cR, .int 49]) (rest := []) rfl rfl (Or.inl rfl) rfl rfl rfl rfl rfl).trans (fs_fv fun v8 g6 r7 => ?_)
  refine (fs_i (n := n + 37) rfl (t := 47) rfl (by decide)).trans (fs_ite ?_ ?_)
  · skip
    refine (fs_r (n := n + 34) 3 (pc' := 53) (L' := [some (.ref cS), some (.int a1), some (.int v3)]) (S' := [.int 48, .ref cR]) rfl).trans ?_
    refine (fs_cn (n := n + 33) (N := nm_m83) (as := [.ref cR, .int 48]) (rest := []) rfl rfl (Or.inl rfl) rfl rfl rfl rfl rfl).trans (fs_fn fun g9 r10 => ?_)
    refine (fs_r (n := n + 29) 4 (pc' := 63) (L' := [some (.ref cS), some (.int a1), some (.int v3)]) (S' := [.int 41, .int v3, .ref cL]) rfl).trans ?_
    refine (fs_cn (n := n + 28) (N := nm_m80) (as := [.ref cL, .int v3, .int 41]) (rest := []) rfl rfl (Or.inl rfl) rfl rfl rfl rfl rfl).trans (fs_fn fun g11 r12 => ?_)
    exact bS_add_66 L xs m d k (n + 3) a1 v3 g11 r12
  · skip
    refine (fs_r (n := n + 32) 5 (pc' := 31) (L' := [some (.ref cS), some (.int a1), some (.int v3)]) (S' := [.int 1, .int 1, .int v3, .ref cT]) rfl).trans ?_
    refine (fs_cn (n := n + 31) (N := nm_m69) (as := [.ref cT, .int v3, .int 1, .int 1]) (rest := []) rfl rfl (Or.inl rfl) rfl rfl rfl rfl rfl).trans (fs_fn fun g25 r26 => ?_)
    refine (fs_r (n := n + 27) 4 (pc' := 41) (L' := [some (.ref cS), some (.int a1), some (.int v3)]) (S' := [.int 41, .int v3, .ref cL]) rfl).trans ?_
    refine (fs_cn (n := n + 26) (N := nm_m79) (as := [.ref cL, .int v3, .int 41]) (rest := []) rfl rfl (Or.inl rfl) rfl rfl rfl rfl rfl).trans (fs_fn fun g27 r28 => ?_)
    refine (fs_go (n := n + 25) rfl (t := 66) rfl (by decide)).trans ?_
    exact bS_add_66 L xs m d k (n + 0) a1 v3 g27 r28
theorem qS_add (L : Nat) (xs : Nat → Int32) (m d : Nat) (a1 : Int32) (g : a2_G) (r : a2_A) : ev L xs (m + 1) (d + 1) nS_add [.ref cS, .int a1] g r = (fn_v (ev L xs (m + 1) d nS_begin [.ref cS, .int 27] g r) fun v3 g1 r2 => (fn_n (ev L xs (m + 1) d nS_operandsIn [.ref cS, .int v3] g1 r2) fun g4 r5 => (fn_v (ev L xs (m + 1) d nR_skip [.ref cR, .int 49] g4 r5) fun v8 g6 r7 => (if am_c2 .eq v8 0 = true then (fn_n (ev L xs (m + 1) d nR_require [.ref cR, .int 48] g6 r7) fun g9 r10 => (fn_n (ev L xs (m + 1) d nL_namesIn [.ref cL, .int v3, .int 41] g9 r10) fun g11 r12 => (BS_add_66 L xs (m + 1) d m a1 v3 g11 r12))) else (fn_n (ev L xs (m + 1) d nT_set [.ref cT, .int v3, .int 1, .int 1] g6 r7) fun g25 r26 => (fn_n (ev L xs (m + 1) d nL_nameIn [.ref cL, .int v3, .int 41] g25 r26) fun g27 r28 => (BS_add_66 L xs (m + 1) d m a1 v3 g27 r28))))))) := (fs_ev (M := nm_m92) rfl rfl).trans (eS_add L xs (m + 1) d m 851 a1 g r)
/-- CobolParser$Statements.operandsIn(I)V -/
def BS_operandsIn_55 (L : Nat) (xs : Nat → Int32) (m d k : Nat) (x1 x2 : Int32) (g : a2_G) (r : a2_A) : Option fn_Z := (some (.inl none, g, r))
theorem bS_operandsIn_55 (L : Nat) (xs : Nat → Int32) (m d k : Nat) (n : Nat) (x1 x2 : Int32) (g : a2_G) (r : a2_A) : bk L xs nS_operandsIn nm_m93 m d k (n + 1) 55 [some (.ref cS), some (.int x1), some (.int x2)] [] g r = BS_operandsIn_55 L xs m d k x1 x2 g r := by
  show _ = ((some (.inl none, g, r)) : Option fn_Z)
  exact (fs_rv (n := n + 0) rfl rfl).trans rfl
def BS_operandsIn_17 (L : Nat) (xs : Nat → Int32) (m d k : Nat) (x1 x2 : Int32) (g : a2_G) (r : a2_A) : Option fn_Z := (if am_c2 .ge x2 1500 = true then (BS_operandsIn_55 L xs m d k x1 x2 g r) else (fn_v (ev L xs m d nR_isOperand [.ref cR] g r) fun v8 g6 r7 => (if am_c2 .eq v8 0 = true then (BS_operandsIn_55 L xs m d k x1 x2 g6 r7) else (fn_v (ev L xs m d nL_operand [.ref cL] g6 r7) fun v11 g9 r10 => (fn_n (ev L xs m d nT_append [.ref cT, .int x1, .int v11] g9 r10) fun g12 r13 => (lp L xs nS_operandsIn nm_m93 m d k 17 [some (.ref cS), some (.int x1), some (.int (x2 + 1))] g12 r13))))))
theorem bS_operandsIn_17 (L : Nat) (xs : Nat → Int32) (m d k : Nat) (n : Nat) (x1 x2 : Int32) (g : a2_G) (r : a2_A) : bk L xs nS_operandsIn nm_m93 m d k (n + 16) 17 [some (.ref cS), some (.int x1), some (.int x2)] [] g r = BS_operandsIn_17 L xs m d k x1 x2 g r := by
  show _ = ((if am_c2 .ge x2 1500 = true then (BS_operandsIn_55 L xs m d k x1 x2 g r) else (fn_v (ev L xs m d nR_isOperand [.ref cR] g r) fun v8 g6 r7 => (if am_c2 .eq v8 0 = true then (BS_operandsIn_55 L xs m d k x1 x2 g6 r7) else (fn_v (ev L xs m d nL_operand [.ref cL] g6 r7) fun v11 g9 r10 => (fn_n (ev L xs m d nT_append [.ref cT, .int x1, .int v11] g9 r10) fun g12 r13 => (lp L xs nS_operandsIn nm_m93 m d k 17 [some (.ref cS), some (.int x1), some (.int (x2 + 1))] g12 r13)))))) : Option fn_Z)
  refine (fs_r (n := n + 14) 2 (pc' := 21) (L' := [some (.ref cS), some (.int x1), some (.int x2)]) (S' := [.int 1500, .int x2]) rfl).trans ?_
  refine (fs_j (n := n + 13) rfl (t := 55) rfl (by decide)).trans (fs_ite ?_ ?_)
  · skip
    exact bS_operandsIn_55 L xs m d k (n + 12) x1 x2 g r
  · skip
    refine (fs_r (n := n + 11) 2 (pc' := 28) (L' := [some (.ref cS), some (.int x1), some (.int x2)]) (S' := [.ref cR]) rfl).trans ?_
    refine (fs_cv (n := n + 10) (N := nm_m76) (as := [.ref cR]) (rest := []) rfl rfl (Or.inl rfl) rfl rfl rfl rfl rfl).trans (fs_fv fun v8 g6 r7 => ?_)
    refine (fs_i (n := n + 9) rfl (t := 55) rfl (by decide)).trans (fs_ite ?_ ?_)
    · skip
      exact bS_operandsIn_55 L xs m d k (n + 8) x1 x2 g6 r7
    · skip
      refine (fs_r (n := n + 4) 5 (pc' := 43) (L' := [some (.ref cS), some (.int x1), some (.int x2)]) (S' := [.ref cL, .int x1, .ref cT]) rfl).trans ?_
      refine (fs_cv (n := n + 3) (N := nm_m75) (as := [.ref cL]) (rest := [.int x1, .ref cT]) rfl rfl (Or.inl rfl) rfl rfl rfl rfl rfl).trans (fs_fv fun v11 g9 r10 => ?_)
      refine (fs_cn (n := n + 2) (N := nm_m63) (as := [.ref cT, .int x1, .int v11]) (rest := []) rfl rfl (Or.inl rfl) rfl rfl rfl rfl rfl).trans (fs_fn fun g12 r13 => ?_)
      refine (fs_r (n := n + 1) 1 (pc' := 52) (L' := [some (.ref cS), some (.int x1), some (.int (x2 + 1))]) (S' := []) rfl).trans ?_
      exact (fs_gb (n := n + 0) rfl (t := 17) rfl (by decide)).trans rfl
theorem lS_operandsIn_17 (L : Nat) (xs : Nat → Int32) (m d k : Nat) (x1 x2 : Int32) (g : a2_G) (r : a2_A) : lp L xs nS_operandsIn nm_m93 m d (k + 1) 17 [some (.ref cS), some (.int x1), some (.int x2)] g r = BS_operandsIn_17 L xs m d k x1 x2 g r := fs_lp.trans (bS_operandsIn_17 L xs m d k 884 x1 x2 g r)
theorem eS_operandsIn (L : Nat) (xs : Nat → Int32) (m d k : Nat) (n : Nat) (a1 : Int32) (g : a2_G) (r : a2_A) : bk L xs nS_operandsIn nm_m93 m d k (n + 25) 0 [some (.ref cS), some (.int a1), none] [] g r = (fn_v (ev L xs m d nL_operand [.ref cL] g r) fun v3 g1 r2 => (fn_n (ev L xs m d nT_append [.ref cT, .int a1, .int v3] g1 r2) fun g4 r5 => (BS_operandsIn_17 L xs m d k a1 0 g4 r5))) := by
  refine (fs_r (n := n + 20) 5 (pc' := 9) (L' := [some (.ref cS), some (.int a1), none]) (S' := [.ref cL, .int a1, .ref cT]) rfl).trans ?_
  refine (fs_cv (n := n + 19) (N := nm_m75) (as := [.ref cL]) (rest := [.int a1, .ref cT]) rfl rfl (Or.inl rfl) rfl rfl rfl rfl rfl).trans (fs_fv fun v3 g1 r2 => ?_)
  refine (fs_cn (n := n + 18) (N := nm_m63) (as := [.ref cT, .int a1, .int v3]) (rest := []) rfl rfl (Or.inl rfl) rfl rfl rfl rfl rfl).trans (fs_fn fun g4 r5 => ?_)
  refine (fs_r (n := n + 16) 2 (pc' := 17) (L' := [some (.ref cS), some (.int a1), some (.int 0)]) (S' := []) rfl).trans ?_
  exact bS_operandsIn_17 L xs m d k (n + 0) a1 0 g4 r5
theorem qS_operandsIn (L : Nat) (xs : Nat → Int32) (m d : Nat) (a1 : Int32) (g : a2_G) (r : a2_A) : ev L xs (m + 1) (d + 1) nS_operandsIn [.ref cS, .int a1] g r = (fn_v (ev L xs (m + 1) d nL_operand [.ref cL] g r) fun v3 g1 r2 => (fn_n (ev L xs (m + 1) d nT_append [.ref cT, .int a1, .int v3] g1 r2) fun g4 r5 => (BS_operandsIn_17 L xs (m + 1) d m a1 0 g4 r5))) := (fs_ev (M := nm_m93) rfl rfl).trans (eS_operandsIn L xs (m + 1) d m 875 a1 g r)
/-- CobolParser$Statements.scopeEnd(II)V -/
def BS_scopeEnd_21 (L : Nat) (xs : Nat → Int32) (m d k : Nat) (x1 x2 : Int32) (g : a2_G) (r : a2_A) : Option fn_Z := (some (.inl none, g, r))
theorem bS_scopeEnd_21 (L : Nat) (xs : Nat → Int32) (m d k : Nat) (n : Nat) (x1 x2 : Int32) (g : a2_G) (r : a2_A) : bk L xs nS_scopeEnd nm_m94 m d k (n + 1) 21 [some (.ref cS), some (.int x1), some (.int x2)] [] g r = BS_scopeEnd_21 L xs m d k x1 x2 g r := by
  show _ = ((some (.inl none, g, r)) : Option fn_Z)
  exact (fs_rv (n := n + 0) rfl rfl).trans rfl
theorem eS_scopeEnd (L : Nat) (xs : Nat → Int32) (m d k : Nat) (n : Nat) (a1 a2 : Int32) (g : a2_G) (r : a2_A) : bk L xs nS_scopeEnd nm_m94 m d k (n + 12) 0 [some (.ref cS), some (.int a1), some (.int a2)] [] g r = (fn_v (ev L xs m d nR_skip [.ref cR, .int a2] g r) fun v3 g1 r2 => (if am_c2 .eq v3 0 = true then (BS_scopeEnd_21 L xs m d k a1 a2 g1 r2) else (fn_n (ev L xs m d nT_set [.ref cT, .int a1, .int 3, .int 1] g1 r2) fun g4 r5 => (BS_scopeEnd_21 L xs m d k a1 a2 g4 r5)))) := by
  refine (fs_r (n := n + 9) 3 (pc' := 5) (L' := [some (.ref cS), some (.int a1), some (.int a2)]) (S' := [.int a2, .ref cR]) rfl).trans ?_
  refine (fs_cv (n := n + 8) (N := nm_m62) (as := [.ref cR, .int a2]) (rest := []) rfl rfl (Or.inl rfl) rfl rfl rfl rfl rfl).trans (fs_fv fun v3 g1 r2 => ?_)
  refine (fs_i (n := n + 7) rfl (t := 21) rfl (by decide)).trans (fs_ite ?_ ?_)
  · skip
    exact bS_scopeEnd_21 L xs m d k (n + 6) a1 a2 g1 r2
  · skip
    refine (fs_r (n := n + 2) 5 (pc' := 18) (L' := [some (.ref cS), some (.int a1), some (.int a2)]) (S' := [.int 1, .int 3, .int a1, .ref cT]) rfl).trans ?_
    refine (fs_cn (n := n + 1) (N := nm_m69) (as := [.ref cT, .int a1, .int 3, .int 1]) (rest := []) rfl rfl (Or.inl rfl) rfl rfl rfl rfl rfl).trans (fs_fn fun g4 r5 => ?_)
    exact bS_scopeEnd_21 L xs m d k (n + 0) a1 a2 g4 r5
theorem qS_scopeEnd (L : Nat) (xs : Nat → Int32) (m d : Nat) (a1 a2 : Int32) (g : a2_G) (r : a2_A) : ev L xs (m + 1) (d + 1) nS_scopeEnd [.ref cS, .int a1, .int a2] g r = (fn_v (ev L xs (m + 1) d nR_skip [.ref cR, .int a2] g r) fun v3 g1 r2 => (if am_c2 .eq v3 0 = true then (BS_scopeEnd_21 L xs (m + 1) d m a1 a2 g1 r2) else (fn_n (ev L xs (m + 1) d nT_set [.ref cT, .int a1, .int 3, .int 1] g1 r2) fun g4 r5 => (BS_scopeEnd_21 L xs (m + 1) d m a1 a2 g4 r5)))) := (fs_ev (M := nm_m94) rfl rfl).trans (eS_scopeEnd L xs (m + 1) d m 888 a1 a2 g r)
/-- CobolParser$Statements.ifElse(I)I -/
def BS_ifElse_71 (L : Nat) (xs : Nat → Int32) (m d k : Nat) (x1 x2 : Int32) (g : a2_G) (r : a2_A) : Option fn_Z := (fn_n (ev L xs m d nS_scopeEnd [.ref cS, .int x2, .int 73] g r) fun g20 r21 => (some (.inl (some (.int x2)), g20, r21)))
theorem bS_ifElse_71 (L : Nat) (xs : Nat → Int32) (m d k : Nat) (n : Nat) (x1 x2 : Int32) (g : a2_G) (r : a2_A) : bk L xs nS_ifElse nm_m95 m d k (n + 6) 71 [some (.ref cS), some (.int x1), some (.int x2)] [] g r = BS_ifElse_71 L xs m d k x1 x2 g r := by
  show _ = ((fn_n (ev L xs m d nS_scopeEnd [.ref cS, .int x2, .int 73] g r) fun g20 r21 => (some (.inl (some (.int x2)), g20, r21))) : Option fn_Z)
  refine (fs_r (n := n + 3) 3 (pc' := 75) (L' := [some (.ref cS), some (.int x1), some (.int x2)]) (S' := [.int 73, .int x2, .ref cS]) rfl).trans ?_
  refine (fs_cn (n := n + 2) (N := nm_m94) (as := [.ref cS, .int x2, .int 73]) (rest := []) rfl rfl (Or.inl rfl) rfl rfl rfl rfl rfl).trans (fs_fn fun g20 r21 => ?_)
  refine (fs_r (n := n + 1) 1 (pc' := 79) (L' := [some (.ref cS), some (.int x1), some (.int x2)]) (S' := [.int x2]) rfl).trans ?_
  exact (fs_ri (n := n + 0) rfl rfl).trans rfl
theorem eS_ifElse (L : Nat) (xs : Nat → Int32) (m d k : Nat) (n : Nat) (a1 : Int32) (g : a2_G) (r : a2_A) : bk L xs nS_ifElse nm_m95 m d k (n + 42) 0 [some (.ref cS), some (.int a1), none] [] g r = (fn_v (ev L xs m d nS_begin [.ref cS, .int 28] g r) fun v3 g1 r2 => (fn_v (ev L xs m d nX_condition [.ref cX, .int a1] g1 r2) fun v6 g4 r5 => (fn_n (ev L xs m d nT_append [.ref cT, .int v3, .int v6] g4 r5) fun g7 r8 => (fn_v (ev L xs m d nR_skip [.ref cR, .int 52] g7 r8) fun v11 g9 r10 => (fn_v (ev L xs m d nS_branch [.ref cS, .int a1] g9 r10) fun v14 g12 r13 => (fn_n (ev L xs m d nT_append [.ref cT, .int v3, .int v14] g12 r13) fun g15 r16 => (fn_v (ev L xs m d nR_skip [.ref cR, .int 53] g15 r16) fun v19 g17 r18 => (if am_c2 .eq v19 0 = true then (BS_ifElse_71 L xs m d k a1 v3 g17 r18) else (fn_v (ev L xs m d nS_branch [.ref cS, .int a1] g17 r18) fun v24 g22 r23 => (fn_n (ev L xs m d nT_append [.ref cT, .int v3, .int v24] g22 r23) fun g25 r26 => (BS_ifElse_71 L xs m d k a1 v3 g25 r26))))))))))) := by
  refine (fs_r (n := n + 40) 2 (pc' := 3) (L' := [some (.ref cS), some (.int a1), none]) (S' := [.int 28, .ref cS]) rfl).trans ?_
  refine (fs_cv (n := n + 39) (N := nm_m90) (as := [.ref cS, .int 28]) (rest := []) rfl rfl (Or.inl rfl) rfl rfl rfl rfl rfl).trans (fs_fv fun v3 g1 r2 => ?_)
  refine (fs_r (n := n + 32) 7 (pc' := 17) (L' := [some (.ref cS), some (.int a1), some (.int v3)]) (S' := [.int a1, .ref cX, .int v3, .ref cT]) rfl).trans ?_
  refine (fs_cv (n := n + 31) (N := nm_m96) (as := [.ref cX, .int a1]) (rest := [.int v3, .ref cT]) rfl rfl (Or.inr rfl) rfl rfl rfl rfl rfl).trans (fs_fv fun v6 g4 r5 => ?_)
  refine (fs_cn (n := n + 30) (N := nm_m63) (as := [.ref cT, .int v3, .int v6]) (rest := []) rfl rfl (Or.inl rfl) rfl rfl rfl rfl rfl).trans (fs_fn fun g7 r8 => ?_)
  refine (fs_r (n := n + 27) 3 (pc' := 29) (L' := [some (.ref cS), some (.int a1), some (.int v3)]) (S' := [.int 52, .ref cR]) rfl).trans ?_
  refine (fs_cv (n := n + 26) (N := nm_m62) (as := [.ref cR, .int 52]) (rest := []) rfl rfl (Or.inl rfl) rfl rfl rfl rfl rfl).trans (fs_fv fun v11 g9 r10 => ?_)
  refine (fs_r (n := n + 20) 6 (pc' := 40) (L' := [some (.ref cS), some (.int a1), some (.int v3)]) (S' := [.int a1, .ref cS, .int v3, .ref cT]) rfl).trans ?_
  refine (fs_cv (n := n + 19) (N := nm_m108) (as := [.ref cS, .int a1]) (rest := [.int v3, .ref cT]) rfl rfl (Or.inl rfl) rfl rfl rfl rfl rfl).trans (fs_fv fun v14 g12 r13 => ?_)
  refine (fs_cn (n := n + 18) (N := nm_m63) (as := [.ref cT, .int v3, .int v14]) (rest := []) rfl rfl (Or.inl rfl) rfl rfl rfl rfl rfl).trans (fs_fn fun g15 r16 => ?_)
  refine (fs_r (n := n + 15) 3 (pc' := 52) (L' := [some (.ref cS), some (.int a1), some (.int v3)]) (S' := [.int 53, .ref cR]) rfl).trans ?_
  refine (fs_cv (n := n + 14) (N := nm_m62) (as := [.ref cR, .int 53]) (rest := []) rfl rfl (Or.inl rfl) rfl rfl rfl rfl rfl).trans (fs_fv fun v19 g17 r18 => ?_)
  refine (fs_i (n := n + 13) rfl (t := 71) rfl (by decide)).trans (fs_ite ?_ ?_)
  · skip
    exact bS_ifElse_71 L xs m d k (n + 7) a1 v3 g17 r18
  · skip
    refine (fs_r (n := n + 8) 5 (pc' := 65) (L' := [some (.ref cS), some (.int a1), some (.int v3)]) (S' := [.int a1, .ref cS, .int v3, .ref cT]) rfl).trans ?_
    refine (fs_cv (n := n + 7) (N := nm_m108) (as := [.ref cS, .int a1]) (rest := [.int v3, .ref cT]) rfl rfl (Or.inl rfl) rfl rfl rfl rfl rfl).trans (fs_fv fun v24 g22 r23 => ?_)
    refine (fs_cn (n := n + 6) (N := nm_m63) (as := [.ref cT, .int v3, .int v24]) (rest := []) rfl rfl (Or.inl rfl) rfl rfl rfl rfl rfl).trans (fs_fn fun g25 r26 => ?_)
    exact bS_ifElse_71 L xs m d k (n + 0) a1 v3 g25 r26
theorem qS_ifElse (L : Nat) (xs : Nat → Int32) (m d : Nat) (a1 : Int32) (g : a2_G) (r : a2_A) : ev L xs (m + 1) (d + 1) nS_ifElse [.ref cS, .int a1] g r = (fn_v (ev L xs (m + 1) d nS_begin [.ref cS, .int 28] g r) fun v3 g1 r2 => (fn_v (ev L xs (m + 1) d nX_condition [.ref cX, .int a1] g1 r2) fun v6 g4 r5 => (fn_n (ev L xs (m + 1) d nT_append [.ref cT, .int v3, .int v6] g4 r5) fun g7 r8 => (fn_v (ev L xs (m + 1) d nR_skip [.ref cR, .int 52] g7 r8) fun v11 g9 r10 => (fn_v (ev L xs (m + 1) d nS_branch [.ref cS, .int a1] g9 r10) fun v14 g12 r13 => (fn_n (ev L xs (m + 1) d nT_append [.ref cT, .int v3, .int v14] g12 r13) fun g15 r16 => (fn_v (ev L xs (m + 1) d nR_skip [.ref cR, .int 53] g15 r16) fun v19 g17 r18 => (if am_c2 .eq v19 0 = true then (BS_ifElse_71 L xs (m + 1) d m a1 v3 g17 r18) else (fn_v (ev L xs (m + 1) d nS_branch [.ref cS, .int a1] g17 r18) fun v24 g22 r23 => (fn_n (ev L xs (m + 1) d nT_append [.ref cT, .int v3, .int v24] g22 r23) fun g25 r26 => (BS_ifElse_71 L xs (m + 1) d m a1 v3 g25 r26))))))))))) := (fs_ev (M := nm_m95) rfl rfl).trans (eS_ifElse L xs (m + 1) d m 858 a1 g r)
/-- CobolParser$Expressions.condition(I)I -/
def BX_condition_77 (L : Nat) (xs : Nat → Int32) (m d k : Nat) (x1 x2 x3 x4 : Int32) (g : a2_G) (r : a2_A) : Option fn_Z := (some (.inl (some (.int x3)), g, r))
theorem bX_condition_77 (L : Nat) (xs : Nat → Int32) (m d k : Nat) (n : Nat) (x1 x2 x3 x4 : Int32) (g : a2_G) (r : a2_A) : bk L xs nX_condition nm_m96 m d k (n + 2) 77 [some (.ref cX), some (.int x1), some (.int x2), some (.int x3), some (.int x4)] [] g r = BX_condition_77 L xs m d k x1 x2 x3 x4 g r := by
  show _ = ((some (.inl (some (.int x3)), g, r)) : Option fn_Z)
  refine (fs_r (n := n + 1) 1 (pc' := 78) (L' := [some (.ref cX), some (.int x1), some (.int x2), some (.int x3), some (.int x4)]) (S' := [.int x3]) rfl).trans ?_
  exact (fs_ri (n := n + 0) rfl rfl).trans rfl
def BX_condition_38 (L : Nat) (xs : Nat → Int32) (m d k : Nat) (x1 x2 x3 x4 : Int32) (g : a2_G) (r : a2_A) : Option fn_Z := (if am_c2 .ge x4 1500 = true then (BX_condition_77 L xs m d k x1 x2 x3 x4 g r) else (fn_v (ev L xs m d nR_skip [.ref cR, .int 66] g r) fun v12 g10 r11 => (if am_c2 .eq v12 0 = true then (BX_condition_77 L xs m d k x1 x2 x3 x4 g10 r11) else (fn_v (ev L xs m d nX_conjunction [.ref cX, .int x1] g10 r11) fun v15 g13 r14 => (fn_n (ev L xs m d nT_append [.ref cT, .int x3, .int v15] g13 r14) fun g16 r17 => (lp L xs nX_condition nm_m96 m d k 38 [some (.ref cX), some (.int x1), some (.int x2), some (.int x3), some (.int (x4 + 1))] g16 r17))))))
theorem bX_condition_38 (L : Nat) (xs : Nat → Int32) (m d k : Nat) (n : Nat) (x1 x2 x3 x4 : Int32) (g : a2_G) (r : a2_A) : bk L xs nX_condition nm_m96 m d k (n + 17) 38 [some (.ref cX), some (.int x1), some (.int x2), some (.int x3), some (.int x4)] [] g r = BX_condition_38 L xs m d k x1 x2 x3 x4 g r := by
  show _ = ((if am_c2 .ge x4 1500 = true then (BX_condition_77 L xs m d k x1 x2 x3 x4 g r) else (fn_v (ev L xs m d nR_skip [.ref cR, .int 66] g r) fun v12 g10 r11 => (if am_c2 .eq v12 0 = true then (BX_condition_77 L xs m d k x1 x2 x3 x4 g10 r11) else (fn_v (ev L xs m d nX_conjunction [.ref cX, .int x1] g10 r11) fun v15 g13 r14 => (fn_n (ev L xs m d nT_append [.ref cT, .int x3, .int v15] g13 r14) fun g16 r17 => (lp L xs nX_condition nm_m96 m d k 38 [some (.ref cX), some (.int x1), some (.int x2), some (.int x3), some (.int (x4 + 1))] g16 r17)))))) : Option fn_Z)
  refine (fs_r (n := n + 15) 2 (pc' := 43) (L' := [some (.ref cX), some (.int x1), some (.int x2), some (.int x3), some (.int x4)]) (S' := [.int 1500, .int x4]) rfl).trans ?_
  refine (fs_j (n := n + 14) rfl (t := 77) rfl (by decide)).trans (fs_ite ?_ ?_)
  · skip
    exact bX_condition_77 L xs m d k (n + 12) x1 x2 x3 x4 g r
  · skip
    refine (fs_r (n := n + 11) 3 (pc' := 52) (L' := [some (.ref cX), some (.int x1), some (.int x2), some (.int x3), some (.int x4)]) (S' := [.int 66, .ref cR]) rfl).trans ?_
    refine (fs_cv (n := n + 10) (N := nm_m62) (as := [.ref cR, .int 66]) (rest := []) rfl rfl (Or.inl rfl) rfl rfl rfl rfl rfl).trans (fs_fv fun v12 g10 r11 => ?_)
    refine (fs_i (n := n + 9) rfl (t := 77) rfl (by decide)).trans (fs_ite ?_ ?_)
    · skip
      exact bX_condition_77 L xs m d k (n + 7) x1 x2 x3 x4 g10 r11
    · skip
      refine (fs_r (n := n + 4) 5 (pc' := 65) (L' := [some (.ref cX), some (.int x1), some (.int x2), some (.int x3), some (.int x4)]) (S' := [.int x1, .ref cX, .int x3, .ref cT]) rfl).trans ?_
      refine (fs_cv (n := n + 3) (N := nm_m97) (as := [.ref cX, .int x1]) (rest := [.int x3, .ref cT]) rfl rfl (Or.inl rfl) rfl rfl rfl rfl rfl).trans (fs_fv fun v15 g13 r14 => ?_)
      refine (fs_cn (n := n + 2) (N := nm_m63) (as := [.ref cT, .int x3, .int v15]) (rest := []) rfl rfl (Or.inl rfl) rfl rfl rfl rfl rfl).trans (fs_fn fun g16 r17 => ?_)
      refine (fs_r (n := n + 1) 1 (pc' := 74) (L' := [some (.ref cX), some (.int x1), some (.int x2), some (.int x3), some (.int (x4 + 1))]) (S' := []) rfl).trans ?_
      exact (fs_gb (n := n + 0) rfl (t := 38) rfl (by decide)).trans rfl
theorem lX_condition_38 (L : Nat) (xs : Nat → Int32) (m d k : Nat) (x1 x2 x3 x4 : Int32) (g : a2_G) (r : a2_A) : lp L xs nX_condition nm_m96 m d (k + 1) 38 [some (.ref cX), some (.int x1), some (.int x2), some (.int x3), some (.int x4)] g r = BX_condition_38 L xs m d k x1 x2 x3 x4 g r := fs_lp.trans (bX_condition_38 L xs m d k 883 x1 x2 x3 x4 g r)
theorem eX_condition (L : Nat) (xs : Nat → Int32) (m d k : Nat) (n : Nat) (a1 : Int32) (g : a2_G) (r : a2_A) : bk L xs nX_condition nm_m96 m d k (n + 38) 0 [some (.ref cX), some (.int a1), none, none, none] [] g r = (fn_v (ev L xs m d nX_conjunction [.ref cX, .int a1] (upd g fX_subject (-1)) r) fun v3 g1 r2 => (fn_v (ev L xs m d nR_isReserved [.ref cR, .int 66, .int 0] g1 r2) fun v6 g4 r5 => (if am_c2 .ne v6 0 = true then (fn_v (ev L xs m d nX_join [.ref cX, .int 50, .int 0, .int v3] g4 r5) fun v9 g7 r8 => (BX_condition_38 L xs m d k a1 v3 v9 0 g7 r8)) else (some (.inl (some (.int v3)), g4, r5))))) := by
  refine (fs_r (n := n + 36) 2 (pc' := 2) (L' := [some (.ref cX), some (.int a1), none, none, none]) (S' := [.int (-1), .ref cX]) rfl).trans ?_
  refine (fs_pf (n := n + 35) (ci := 5) (j := 3) rfl rfl rfl rfl).trans ?_
  refine (fs_r (n := n + 33) 2 (pc' := 7) (L' := [some (.ref cX), some (.int a1), none, none, none]) (S' := [.int a1, .ref cX]) rfl).trans ?_
  refine (fs_cv (n := n + 32) (N := nm_m97) (as := [.ref cX, .int a1]) (rest := []) rfl rfl (Or.inl rfl) rfl rfl rfl rfl rfl).trans (fs_fv fun v3 g1 r2 => ?_)
  refine (fs_r (n := n + 27) 5 (pc' := 18) (L' := [some (.ref cX), some (.int a1), some (.int v3), none, none]) (S' := [.int 0, .int 66, .ref cR]) rfl).trans ?_
  refine (fs_cv (n := n + 26) (N := nm_m52) (as := [.ref cR, .int 66, .int 0]) (rest := []) rfl rfl (Or.inl rfl) rfl rfl rfl rfl rfl).trans (fs_fv fun v6 g4 r5 => ?_)
  refine (fs_i (n := n + 25) rfl (t := 26) rfl (by decide)).trans (fs_ite ?_ ?_)
  · skip
    refine (fs_r (n := n + 21) 4 (pc' := 31) (L' := [some (.ref cX), some (.int a1), some (.int v3), none, none]) (S' := [.int v3, .int 0, .int 50, .ref cX]) rfl).trans ?_
    refine (fs_cv (n := n + 20) (N := nm_m107) (as := [.ref cX, .int 50, .int 0, .int v3]) (rest := []) rfl rfl (Or.inl rfl) rfl rfl rfl rfl rfl).trans (fs_fv fun v9 g7 r8 => ?_)
    refine (fs_r (n := n + 17) 3 (pc' := 38) (L' := [some (.ref cX), some (.int a1), some (.int v3), some (.int v9), some (.int 0)]) (S' := []) rfl).trans ?_
    exact bX_condition_38 L xs m d k (n + 0) a1 v3 v9 0 g7 r8
  · skip
    refine (fs_r (n := n + 24) 1 (pc' := 25) (L' := [some (.ref cX), some (.int a1), some (.int v3), none, none]) (S' := [.int v3]) rfl).trans ?_
    exact (fs_ri (n := n + 23) rfl rfl).trans rfl
theorem qX_condition (L : Nat) (xs : Nat → Int32) (m d : Nat) (a1 : Int32) (g : a2_G) (r : a2_A) : ev L xs (m + 1) (d + 1) nX_condition [.ref cX, .int a1] g r = (fn_v (ev L xs (m + 1) d nX_conjunction [.ref cX, .int a1] (upd g fX_subject (-1)) r) fun v3 g1 r2 => (fn_v (ev L xs (m + 1) d nR_isReserved [.ref cR, .int 66, .int 0] g1 r2) fun v6 g4 r5 => (if am_c2 .ne v6 0 = true then (fn_v (ev L xs (m + 1) d nX_join [.ref cX, .int 50, .int 0, .int v3] g4 r5) fun v9 g7 r8 => (BX_condition_38 L xs (m + 1) d m a1 v3 v9 0 g7 r8)) else (some (.inl (some (.int v3)), g4, r5))))) := (fs_ev (M := nm_m96) rfl rfl).trans (eX_condition L xs (m + 1) d m 862 a1 g r)
/-- CobolParser$Expressions.conjunction(I)I -/
def BX_conjunction_72 (L : Nat) (xs : Nat → Int32) (m d k : Nat) (x1 x2 x3 x4 : Int32) (g : a2_G) (r : a2_A) : Option fn_Z := (some (.inl (some (.int x3)), g, r))
theorem bX_conjunction_72 (L : Nat) (xs : Nat → Int32) (m d k : Nat) (n : Nat) (x1 x2 x3 x4 : Int32) (g : a2_G) (r : a2_A) : bk L xs nX_conjunction nm_m97 m d k (n + 2) 72 [some (.ref cX), some (.int x1), some (.int x2), some (.int x3), some (.int x4)] [] g r = BX_conjunction_72 L xs m d k x1 x2 x3 x4 g r := by
  show _ = ((some (.inl (some (.int x3)), g, r)) : Option fn_Z)
  refine (fs_r (n := n + 1) 1 (pc' := 73) (L' := [some (.ref cX), some (.int x1), some (.int x2), some (.int x3), some (.int x4)]) (S' := [.int x3]) rfl).trans ?_
  exact (fs_ri (n := n + 0) rfl rfl).trans rfl
def BX_conjunction_33 (L : Nat) (xs : Nat → Int32) (m d k : Nat) (x1 x2 x3 x4 : Int32) (g : a2_G) (r : a2_A) : Option fn_Z := (if am_c2 .ge x4 1500 = true then (BX_conjunction_72 L xs m d k x1 x2 x3 x4 g r) else (fn_v (ev L xs m d nR_skip [.ref cR, .int 65] g r) fun v12 g10 r11 => (if am_c2 .eq v12 0 = true then (BX_conjunction_72 L xs m d k x1 x2 x3 x4 g10 r11) else (fn_v (ev L xs m d nX_factor [.ref cX, .int x1] g10 r11) fun v15 g13 r14 => (fn_n (ev L xs m d nT_append [.ref cT, .int x3, .int v15] g13 r14) fun g16 r17 => (lp L xs nX_conjunction nm_m97 m d k 33 [some (.ref cX), some (.int x1), some (.int x2), some (.int x3), some (.int (x4 + 1))] g16 r17))))))
theorem bX_conjunction_33 (L : Nat) (xs : Nat → Int32) (m d k : Nat) (n : Nat) (x1 x2 x3 x4 : Int32) (g : a2_G) (r : a2_A) : bk L xs nX_conjunction nm_m97 m d k (n + 17) 33 [some (.ref cX), some (.int x1), some (.int x2), some (.int x3), some (.int x4)] [] g r = BX_conjunction_33 L xs m d k x1 x2 x3 x4 g r := by
  show _ = ((if am_c2 .ge x4 1500 = true then (BX_conjunction_72 L xs m d k x1 x2 x3 x4 g r) else (fn_v (ev L xs m d nR_skip [.ref cR, .int 65] g r) fun v12 g10 r11 => (if am_c2 .eq v12 0 = true then (BX_conjunction_72 L xs m d k x1 x2 x3 x4 g10 r11) else (fn_v (ev L xs m d nX_factor [.ref cX, .int x1] g10 r11) fun v15 g13 r14 => (fn_n (ev L xs m d nT_append [.ref cT, .int x3, .int v15] g13 r14) fun g16 r17 => (lp L xs nX_conjunction nm_m97 m d k 33 [some (.ref cX), some (.int x1), some (.int x2), some (.int x3), some (.int (x4 + 1))] g16 r17)))))) : Option fn_Z)
  refine (fs_r (n := n + 15) 2 (pc' := 38) (L' := [some (.ref cX), some (.int x1), some (.int x2), some (.int x3), some (.int x4)]) (S' := [.int 1500, .int x4]) rfl).trans ?_
  refine (fs_j (n := n + 14) rfl (t := 72) rfl (by decide)).trans (fs_ite ?_ ?_)
  · skip
    exact bX_conjunction_72 L xs m d k (n + 12) x1 x2 x3 x4 g r
  · skip
    refine (fs_r (n := n + 11) 3 (pc' := 47) (L' := [some (.ref cX), some (.int x1), some (.int x2), some (.int x3), some (.int x4)]) (S' := [.int 65, .ref cR]) rfl).trans ?_
    refine (fs_cv (n := n + 10) (N := nm_m62) (as := [.ref cR, .int 65]) (rest := []) rfl rfl (Or.inl rfl) rfl rfl rfl rfl rfl).trans (fs_fv fun v12 g10 r11 => ?_)
    refine (fs_i (n := n + 9) rfl (t := 72) rfl (by decide)).trans (fs_ite ?_ ?_)
    · skip
      exact bX_conjunction_72 L xs m d k (n + 7) x1 x2 x3 x4 g10 r11
    · skip
      refine (fs_r (n := n + 4) 5 (pc' := 60) (L' := [some (.ref cX), some (.int x1), some (.int x2), some (.int x3), some (.int x4)]) (S' := [.int x1, .ref cX, .int x3, .ref cT]) rfl).trans ?_
      refine (fs_cv (n := n + 3) (N := nm_m98) (as := [.ref cX, .int x1]) (rest := [.int x3, .ref cT]) rfl rfl (Or.inl rfl) rfl rfl rfl rfl rfl).trans (fs_fv fun v15 g13 r14 => ?_)
      refine (fs_cn (n := n + 2) (N := nm_m63) (as := [.ref cT, .int x3, .int v15]) (rest := []) rfl rfl (Or.inl rfl) rfl rfl rfl rfl rfl).trans (fs_fn fun g16 r17 => ?_)
      refine (fs_r (n := n + 1) 1 (pc' := 69) (L' := [some (.ref cX), some (.int x1), some (.int x2), some (.int x3), some (.int (x4 + 1))]) (S' := []) rfl).trans ?_
      exact (fs_gb (n := n + 0) rfl (t := 33) rfl (by decide)).trans rfl
theorem lX_conjunction_33 (L : Nat) (xs : Nat → Int32) (m d k : Nat) (x1 x2 x3 x4 : Int32) (g : a2_G) (r : a2_A) : lp L xs nX_conjunction nm_m97 m d (k + 1) 33 [some (.ref cX), some (.int x1), some (.int x2), some (.int x3), some (.int x4)] g r = BX_conjunction_33 L xs m d k x1 x2 x3 x4 g r := fs_lp.trans (bX_conjunction_33 L xs m d k 883 x1 x2 x3 x4 g r)
theorem eX_conjunction (L : Nat) (xs : Nat → Int32) (m d k : Nat) (n : Nat) (a1 : Int32) (g : a2_G) (r : a2_A) : bk L xs nX_conjunction nm_m97 m d k (n + 35) 0 [some (.ref cX), some (.int a1), none, none, none] [] g r = (fn_v (ev L xs m d nX_factor [.ref cX, .int a1] g r) fun v3 g1 r2 => (fn_v (ev L xs m d nR_isReserved [.ref cR, .int 65, .int 0] g1 r2) fun v6 g4 r5 => (if am_c2 .ne v6 0 = true then (fn_v (ev L xs m d nX_join [.ref cX, .int 51, .int 0, .int v3] g4 r5) fun v9 g7 r8 => (BX_conjunction_33 L xs m d k a1 v3 v9 0 g7 r8)) else (some (.inl (some (.int v3)), g4, r5))))) := by
  refine (fs_r (n := n + 33) 2 (pc' := 2) (L' := [some (.ref cX), some (.int a1), none, none, none]) (S' := [.int a1, .ref cX]) rfl).trans ?_
  refine (fs_cv (n := n + 32) (N := nm_m98) (as := [.ref cX, .int a1]) (rest := []) rfl rfl (Or.inl rfl) rfl rfl rfl rfl rfl).trans (fs_fv fun v3 g1 r2 => ?_)
  refine (fs_r (n := n + 27) 5 (pc' := 13) (L' := [some (.ref cX), some (.int a1), some (.int v3), none, none]) (S' := [.int 0, .int 65, .ref cR]) rfl).trans ?_
  refine (fs_cv (n := n + 26) (N := nm_m52) (as := [.ref cR, .int 65, .int 0]) (rest := []) rfl rfl (Or.inl rfl) rfl rfl rfl rfl rfl).trans (fs_fv fun v6 g4 r5 => ?_)
  refine (fs_i (n := n + 25) rfl (t := 21) rfl (by decide)).trans (fs_ite ?_ ?_)
  · skip
    refine (fs_r (n := n + 21) 4 (pc' := 26) (L' := [some (.ref cX), some (.int a1), some (.int v3), none, none]) (S' := [.int v3, .int 0, .int 51, .ref cX]) rfl).trans ?_
    refine (fs_cv (n := n + 20) (N := nm_m107) (as := [.ref cX, .int 51, .int 0, .int v3]) (rest := []) rfl rfl (Or.inl rfl) rfl rfl rfl rfl rfl).trans (fs_fv fun v9 g7 r8 => ?_)
    refine (fs_r (n := n + 17) 3 (pc' := 33) (L' := [some (.ref cX), some (.int a1), some (.int v3), some (.int v9), some (.int 0)]) (S' := []) rfl).trans ?_
    exact bX_conjunction_33 L xs m d k (n + 0) a1 v3 v9 0 g7 r8
  · skip
    refine (fs_r (n := n + 24) 1 (pc' := 20) (L' := [some (.ref cX), some (.int a1), some (.int v3), none, none]) (S' := [.int v3]) rfl).trans ?_
    exact (fs_ri (n := n + 23) rfl rfl).trans rfl
theorem qX_conjunction (L : Nat) (xs : Nat → Int32) (m d : Nat) (a1 : Int32) (g : a2_G) (r : a2_A) : ev L xs (m + 1) (d + 1) nX_conjunction [.ref cX, .int a1] g r = (fn_v (ev L xs (m + 1) d nX_factor [.ref cX, .int a1] g r) fun v3 g1 r2 => (fn_v (ev L xs (m + 1) d nR_isReserved [.ref cR, .int 65, .int 0] g1 r2) fun v6 g4 r5 => (if am_c2 .ne v6 0 = true then (fn_v (ev L xs (m + 1) d nX_join [.ref cX, .int 51, .int 0, .int v3] g4 r5) fun v9 g7 r8 => (BX_conjunction_33 L xs (m + 1) d m a1 v3 v9 0 g7 r8)) else (some (.inl (some (.int v3)), g4, r5))))) := (fs_ev (M := nm_m97) rfl rfl).trans (eX_conjunction L xs (m + 1) d m 865 a1 g r)
/-- CobolParser$Expressions.factor(I)I -/
def BX_factor_66 (L : Nat) (xs : Nat → Int32) (m d k : Nat) (x1 : Int32) (g : a2_G) (r : a2_A) : Option fn_Z := (fn_v (ev L xs m d nR_isSign [.ref cR, .int 0, .int 0] g r) fun v6 g4 r5 => (if am_c2 .eq v6 0 = true then (fn_v (ev L xs m d nX_relation [.ref cX] g4 r5) fun v9 g7 r8 => (some (.inl (some (.int v9)), g7, r8))) else (fn_n (ev L xs m d nX_goDeeper [.ref cX, .int (x1 + 1)] g4 r5) fun g10 r11 => (fn_v (ev L xs m d nX_condition [.ref cX, .int (x1 + 1)] g10 r11) fun v14 g12 r13 => (fn_n (ev L xs m d nR_requireSign [.ref cR, .int 1] g12 r13) fun g15 r16 => (some (.inl (some (.int v14)), (upd g15 fX_subject (-1)), r16)))))))
theorem bX_factor_66 (L : Nat) (xs : Nat → Int32) (m d k : Nat) (n : Nat) (x1 : Int32) (g : a2_G) (r : a2_A) : bk L xs nX_factor nm_m98 m d k (n + 26) 66 [some (.ref cX), some (.int x1), none] [] g r = BX_factor_66 L xs m d k x1 g r := by
  show _ = ((fn_v (ev L xs m d nR_isSign [.ref cR, .int 0, .int 0] g r) fun v6 g4 r5 => (if am_c2 .eq v6 0 = true then (fn_v (ev L xs m d nX_relation [.ref cX] g4 r5) fun v9 g7 r8 => (some (.inl (some (.int v9)), g7, r8))) else (fn_n (ev L xs m d nX_goDeeper [.ref cX, .int (x1 + 1)] g4 r5) fun g10 r11 => (fn_v (ev L xs m d nX_condition [.ref cX, .int (x1 + 1)] g10 r11) fun v14 g12 r13 => (fn_n (ev L xs m d nR_requireSign [.ref cR, .int 1] g12 r13) fun g15 r16 => (some (.inl (some (.int v14)), (upd g15 fX_subject (-1)), r16))))))) : Option fn_Z)
  refine (fs_r (n := n + 22) 4 (pc' := 72) (L' := [some (.ref cX), some (.int x1), none]) (S' := [.int 0, .int 0, .ref cR]) rfl).trans ?_
  refine (fs_cv (n := n + 21) (N := nm_m101) (as := [.ref cR, .int 0, .int 0]) (rest := []) rfl rfl (Or.inl rfl) rfl rfl rfl rfl rfl).trans (fs_fv fun v6 g4 r5 => ?_)
  refine (fs_i (n := n + 20) rfl (t := 108) rfl (by decide)).trans (fs_ite ?_ ?_)
  · skip
    refine (fs_r (n := n + 19) 1 (pc' := 109) (L' := [some (.ref cX), some (.int x1), none]) (S' := [.ref cX]) rfl).trans ?_
    refine (fs_cv (n := n + 18) (N := nm_m103) (as := [.ref cX]) (rest := []) rfl rfl (Or.inl rfl) rfl rfl rfl rfl rfl).trans (fs_fv fun v9 g7 r8 => ?_)
    exact (fs_ri (n := n + 17) rfl rfl).trans rfl
  · skip
    refine (fs_r (n := n + 16) 4 (pc' := 82) (L' := [some (.ref cX), some (.int x1), none]) (S' := [.int (x1 + 1), .ref cX]) rfl).trans ?_
    refine (fs_cn (n := n + 15) (N := nm_m100) (as := [.ref cX, .int (x1 + 1)]) (rest := []) rfl rfl (Or.inl rfl) rfl rfl rfl rfl rfl).trans (fs_fn fun g10 r11 => ?_)
    refine (fs_r (n := n + 11) 4 (pc' := 89) (L' := [some (.ref cX), some (.int x1), none]) (S' := [.int (x1 + 1), .ref cX]) rfl).trans ?_
    refine (fs_cv (n := n + 10) (N := nm_m96) (as := [.ref cX, .int (x1 + 1)]) (rest := []) rfl rfl (Or.inl rfl) rfl rfl rfl rfl rfl).trans (fs_fv fun v14 g12 r13 => ?_)
    refine (fs_r (n := n + 6) 4 (pc' := 98) (L' := [some (.ref cX), some (.int x1), some (.int v14)]) (S' := [.int 1, .ref cR]) rfl).trans ?_
    refine (fs_cn (n := n + 5) (N := nm_m102) (as := [.ref cR, .int 1]) (rest := []) rfl rfl (Or.inl rfl) rfl rfl rfl rfl rfl).trans (fs_fn fun g15 r16 => ?_)
    refine (fs_r (n := n + 3) 2 (pc' := 103) (L' := [some (.ref cX), some (.int x1), some (.int v14)]) (S' := [.int (-1), .ref cX]) rfl).trans ?_
    refine (fs_pf (n := n + 2) (ci := 5) (j := 3) rfl rfl rfl rfl).trans ?_
    refine (fs_r (n := n + 1) 1 (pc' := 107) (L' := [some (.ref cX), some (.int x1), some (.int v14)]) (S' := [.int v14]) rfl).trans ?_
    exact (fs_ri (n := n + 0) rfl rfl).trans rfl
theorem eX_factor (L : Nat) (xs : Nat → Int32) (m d k : Nat) (n : Nat) (a1 : Int32) (g : a2_G) (r : a2_A) : bk L xs nX_factor nm_m98 m d k (n + 37) 0 [some (.ref cX), some (.int a1), none] [] g r = (fn_v (ev L xs m d nR_isReserved [.ref cR, .int 64, .int 0] g r) fun v3 g1 r2 => (if am_c2 .eq v3 0 = true then (BX_factor_66 L xs m d k a1 g1 r2) else (fn_v (ev L xs m d nR_isComparingWord [.ref cR, .int 1] g1 r2) fun v19 g17 r18 => (if am_c2 .ne v19 0 = true then (BX_factor_66 L xs m d k a1 g17 r18) else (fn_v (ev L xs m d nR_place [.ref cR] g17 r18) fun v22 g20 r21 => (fn_v (ev L xs m d nT_make [.ref cT, .int 52, .int 0, .int v22] g20 r21) fun v25 g23 r24 => (fn_n (ev L xs m d nX_goDeeper [.ref cX, .int (a1 + 1)] g23 r24) fun g26 r27 => (fn_v (ev L xs m d nX_factor [.ref cX, .int (a1 + 1)] g26 r27) fun v30 g28 r29 => (fn_n (ev L xs m d nT_append [.ref cT, .int v25, .int v30] g28 r29) fun g31 r32 => (some (.inl (some (.int v25)), g31, r32))))))))))) := by
  refine (fs_r (n := n + 33) 4 (pc' := 7) (L' := [some (.ref cX), some (.int a1), none]) (S' := [.int 0, .int 64, .ref cR]) rfl).trans ?_
  refine (fs_cv (n := n + 32) (N := nm_m52) (as := [.ref cR, .int 64, .int 0]) (rest := []) rfl rfl (Or.inl rfl) rfl rfl rfl rfl rfl).trans (fs_fv fun v3 g1 r2 => ?_)
  refine (fs_i (n := n + 31) rfl (t := 66) rfl (by decide)).trans (fs_ite ?_ ?_)
  · skip
    exact bX_factor_66 L xs m d k (n + 5) a1 g1 r2
  · skip
    refine (fs_r (n := n + 28) 3 (pc' := 18) (L' := [some (.ref cX), some (.int a1), none]) (S' := [.int 1, .ref cR]) rfl).trans ?_
    refine (fs_cv (n := n + 27) (N := nm_m99) (as := [.ref cR, .int 1]) (rest := []) rfl rfl (Or.inl rfl) rfl rfl rfl rfl rfl).trans (fs_fv fun v19 g17 r18 => ?_)
    refine (fs_i (n := n + 26) rfl (t := 66) rfl (by decide)).trans (fs_ite ?_ ?_)
    · skip
      exact bX_factor_66 L xs m d k (n + 0) a1 g17 r18
    · skip
      refine (fs_r (n := n + 20) 6 (pc' := 35) (L' := [some (.ref cX), some (.int a1), none]) (S' := [.ref cR, .int 0, .int 52, .ref cT]) rfl).trans ?_
      refine (fs_cv (n := n + 19) (N := nm_m58) (as := [.ref cR]) (rest := [.int 0, .int 52, .ref cT]) rfl rfl (Or.inl rfl) rfl rfl rfl rfl rfl).trans (fs_fv fun v22 g20 r21 => ?_)
      refine (fs_cv (n := n + 18) (N := nm_m45) (as := [.ref cT, .int 52, .int 0, .int v22]) (rest := []) rfl rfl (Or.inl rfl) rfl rfl rfl rfl rfl).trans (fs_fv fun v25 g23 r24 => ?_)
      refine (fs_r (n := n + 13) 5 (pc' := 46) (L' := [some (.ref cX), some (.int a1), some (.int v25)]) (S' := [.int (a1 + 1), .ref cX]) rfl).trans ?_
      refine (fs_cn (n := n + 12) (N := nm_m100) (as := [.ref cX, .int (a1 + 1)]) (rest := []) rfl rfl (Or.inl rfl) rfl rfl rfl rfl rfl).trans (fs_fn fun g26 r27 => ?_)
      refine (fs_r (n := n + 5) 7 (pc' := 58) (L' := [some (.ref cX), some (.int a1), some (.int v25)]) (S' := [.int (a1 + 1), .ref cX, .int v25, .ref cT]) rfl).trans ?_
      refine (fs_cv (n := n + 4) (N := nm_m98) (as := [.ref cX, .int (a1 + 1)]) (rest := [.int v25, .ref cT]) rfl rfl (Or.inl rfl) rfl rfl rfl rfl rfl).trans (fs_fv fun v30 g28 r29 => ?_)
      refine (fs_cn (n := n + 3) (N := nm_m63) (as := [.ref cT, .int v25, .int v30]) (rest := []) rfl rfl (Or.inl rfl) rfl rfl rfl rfl rfl).trans (fs_fn fun g31 r32 => ?_)
      refine (fs_r (n := n + 2) 1 (pc' := 65) (L' := [some (.ref cX), some (.int a1), some (.int v25)]) (S' := [.int v25]) rfl).trans ?_
      exact (fs_ri (n := n + 1) rfl rfl).trans rfl
theorem qX_factor (L : Nat) (xs : Nat → Int32) (m d : Nat) (a1 : Int32) (g : a2_G) (r : a2_A) : ev L xs (m + 1) (d + 1) nX_factor [.ref cX, .int a1] g r = (fn_v (ev L xs (m + 1) d nR_isReserved [.ref cR, .int 64, .int 0] g r) fun v3 g1 r2 => (if am_c2 .eq v3 0 = true then (BX_factor_66 L xs (m + 1) d m a1 g1 r2) else (fn_v (ev L xs (m + 1) d nR_isComparingWord [.ref cR, .int 1] g1 r2) fun v19 g17 r18 => (if am_c2 .ne v19 0 = true then (BX_factor_66 L xs (m + 1) d m a1 g17 r18) else (fn_v (ev L xs (m + 1) d nR_place [.ref cR] g17 r18) fun v22 g20 r21 => (fn_v (ev L xs (m + 1) d nT_make [.ref cT, .int 52, .int 0, .int v22] g20 r21) fun v25 g23 r24 => (fn_n (ev L xs (m + 1) d nX_goDeeper [.ref cX, .int (a1 + 1)] g23 r24) fun g26 r27 => (fn_v (ev L xs (m + 1) d nX_factor [.ref cX, .int (a1 + 1)] g26 r27) fun v30 g28 r29 => (fn_n (ev L xs (m + 1) d nT_append [.ref cT, .int v25, .int v30] g28 r29) fun g31 r32 => (some (.inl (some (.int v25)), g31, r32))))))))))) := (fs_ev (M := nm_m98) rfl rfl).trans (eX_factor L xs (m + 1) d m 863 a1 g r)
/-- CobolParser$Row.isComparingWord(I)Z -/
def BR_isComparingWord_19 (L : Nat) (xs : Nat → Int32) (m d k : Nat) (x1 x2 : Int32) (g : a2_G) (r : a2_A) : Option fn_Z := (some (.inl (some (.int 0)), g, r))
theorem bR_isComparingWord_19 (L : Nat) (xs : Nat → Int32) (m d k : Nat) (n : Nat) (x1 x2 : Int32) (g : a2_G) (r : a2_A) : bk L xs nR_isComparingWord nm_m99 m d k (n + 2) 19 [some (.ref cR), some (.int x1), some (.int x2), none, none] [] g r = BR_isComparingWord_19 L xs m d k x1 x2 g r := by
  show _ = ((some (.inl (some (.int 0)), g, r)) : Option fn_Z)
  refine (fs_r (n := n + 1) 1 (pc' := 20) (L' := [some (.ref cR), some (.int x1), some (.int x2), none, none]) (S' := [.int 0]) rfl).trans ?_
  exact (fs_rb (n := n + 0) rfl rfl).trans ((if_pos (by decide)).trans rfl)
def BR_isComparingWord_109 (L : Nat) (xs : Nat → Int32) (m d k : Nat) (x1 x2 x3 x4 x5 : Int32) (g : a2_G) (r : a2_A) : Option fn_Z := (if x5 = 0 ∨ x5 = 1 then some (.inl (some (.int x5)), g, r) else none)
theorem bR_isComparingWord_109 (L : Nat) (xs : Nat → Int32) (m d k : Nat) (n : Nat) (x1 x2 x3 x4 x5 : Int32) (g : a2_G) (r : a2_A) : bk L xs nR_isComparingWord nm_m99 m d k (n + 1) 109 [some (.ref cR), some (.int x1), some (.int x2), some (.int x3), some (.int x4)] [.int x5] g r = BR_isComparingWord_109 L xs m d k x1 x2 x3 x4 x5 g r := by
  show _ = ((if x5 = 0 ∨ x5 = 1 then some (.inl (some (.int x5)), g, r) else none) : Option fn_Z)
  exact (fs_rb (n := n + 0) rfl rfl).trans rfl
def BR_isComparingWord_108 (L : Nat) (xs : Nat → Int32) (m d k : Nat) (x1 x2 x3 x4 : Int32) (g : a2_G) (r : a2_A) : Option fn_Z := (BR_isComparingWord_109 L xs m d k x1 x2 x3 x4 0 g r)
theorem bR_isComparingWord_108 (L : Nat) (xs : Nat → Int32) (m d k : Nat) (n : Nat) (x1 x2 x3 x4 : Int32) (g : a2_G) (r : a2_A) : bk L xs nR_isComparingWord nm_m99 m d k (n + 2) 108 [some (.ref cR), some (.int x1), some (.int x2), some (.int x3), some (.int x4)] [] g r = BR_isComparingWord_108 L xs m d k x1 x2 x3 x4 g r := by
  show _ = ((BR_isComparingWord_109 L xs m d k x1 x2 x3 x4 0 g r) : Option fn_Z)
  refine (fs_r (n := n + 1) 1 (pc' := 109) (L' := [some (.ref cR), some (.int x1), some (.int x2), some (.int x3), some (.int x4)]) (S' := [.int 0]) rfl).trans ?_
  exact bR_isComparingWord_109 L xs m d k (n + 0) x1 x2 x3 x4 0 g r
def BR_isComparingWord_104 (L : Nat) (xs : Nat → Int32) (m d k : Nat) (x1 x2 x3 x4 : Int32) (g : a2_G) (r : a2_A) : Option fn_Z := (BR_isComparingWord_109 L xs m d k x1 x2 x3 x4 1 g r)
theorem bR_isComparingWord_104 (L : Nat) (xs : Nat → Int32) (m d k : Nat) (n : Nat) (x1 x2 x3 x4 : Int32) (g : a2_G) (r : a2_A) : bk L xs nR_isComparingWord nm_m99 m d k (n + 3) 104 [some (.ref cR), some (.int x1), some (.int x2), some (.int x3), some (.int x4)] [] g r = BR_isComparingWord_104 L xs m d k x1 x2 x3 x4 g r := by
  show _ = ((BR_isComparingWord_109 L xs m d k x1 x2 x3 x4 1 g r) : Option fn_Z)
  refine (fs_r (n := n + 2) 1 (pc' := 105) (L' := [some (.ref cR), some (.int x1), some (.int x2), some (.int x3), some (.int x4)]) (S' := [.int 1]) rfl).trans ?_
  refine (fs_go (n := n + 1) rfl (t := 109) rfl (by decide)).trans ?_
  exact bR_isComparingWord_109 L xs m d k (n + 0) x1 x2 x3 x4 1 g r
def BR_isComparingWord_90 (L : Nat) (xs : Nat → Int32) (m d k : Nat) (x1 x2 x3 x4 : Int32) (g : a2_G) (r : a2_A) : Option fn_Z := (if am_inr x2 (r fR_kinds).1 = true then (if am_c2 .ne ((r fR_kinds).2 (x2 : Int32).toNatClampNeg) 0 = true then (BR_isComparingWord_108 L xs m d k x1 x2 x3 x4 g r) else (if am_c2 .eq x4 0 = true then (BR_isComparingWord_108 L xs m d k x1 x2 x3 x4 g r) else (BR_isComparingWord_104 L xs m d k x1 x2 x3 x4 g r))) else none)
theorem bR_isComparingWord_90 (L : Nat) (xs : Nat → Int32) (m d k : Nat) (n : Nat) (x1 x2 x3 x4 : Int32) (g : a2_G) (r : a2_A) : bk L xs nR_isComparingWord nm_m99 m d k (n + 10) 90 [some (.ref cR), some (.int x1), some (.int x2), some (.int x3), some (.int x4)] [] g r = BR_isComparingWord_90 L xs m d k x1 x2 x3 x4 g r := by
  show _ = ((if am_inr x2 (r fR_kinds).1 = true then (if am_c2 .ne ((r fR_kinds).2 (x2 : Int32).toNatClampNeg) 0 = true then (BR_isComparingWord_108 L xs m d k x1 x2 x3 x4 g r) else (if am_c2 .eq x4 0 = true then (BR_isComparingWord_108 L xs m d k x1 x2 x3 x4 g r) else (BR_isComparingWord_104 L xs m d k x1 x2 x3 x4 g r))) else none) : Option fn_Z)
  refine (fs_r (n := n + 7) 3 (pc' := 95) (L' := [some (.ref cR), some (.int x1), some (.int x2), some (.int x3), some (.int x4)]) (S' := [.int x2, .ref 10100]) rfl).trans ?_
  refine (fs_il (n := n + 6) (k := 100) rfl rfl).trans (fs_ite ?_ rfl)
  refine (fs_i (n := n + 5) rfl (t := 108) rfl (by decide)).trans (fs_ite ?_ ?_)
  · skip
    exact bR_isComparingWord_108 L xs m d k (n + 3) x1 x2 x3 x4 g r
  · skip
    refine (fs_r (n := n + 4) 1 (pc' := 101) (L' := [some (.ref cR), some (.int x1), some (.int x2), some (.int x3), some (.int x4)]) (S' := [.int x4]) rfl).trans ?_
    refine (fs_i (n := n + 3) rfl (t := 108) rfl (by decide)).trans (fs_ite ?_ ?_)
    · skip
      exact bR_isComparingWord_108 L xs m d k (n + 1) x1 x2 x3 x4 g r
    · skip
      exact bR_isComparingWord_104 L xs m d k (n + 0) x1 x2 x3 x4 g r
def BR_isComparingWord_74 (L : Nat) (xs : Nat → Int32) (m d k : Nat) (x1 x2 x3 x4 : Int32) (g : a2_G) (r : a2_A) : Option fn_Z := (if am_inr x2 (r fR_kinds).1 = true then (if am_c2 .ne ((r fR_kinds).2 (x2 : Int32).toNatClampNeg) 5 = true then (BR_isComparingWord_90 L xs m d k x1 x2 x3 x4 g r) else (if am_c2 .ne x3 0 = true then (BR_isComparingWord_104 L xs m d k x1 x2 x3 x4 g r) else (BR_isComparingWord_90 L xs m d k x1 x2 x3 x4 g r))) else none)
theorem bR_isComparingWord_74 (L : Nat) (xs : Nat → Int32) (m d k : Nat) (n : Nat) (x1 x2 x3 x4 : Int32) (g : a2_G) (r : a2_A) : bk L xs nR_isComparingWord nm_m99 m d k (n + 19) 74 [some (.ref cR), some (.int x1), some (.int x2), some (.int x3), none] [.int x4] g r = BR_isComparingWord_74 L xs m d k x1 x2 x3 x4 g r := by
  show _ = ((if am_inr x2 (r fR_kinds).1 = true then (if am_c2 .ne ((r fR_kinds).2 (x2 : Int32).toNatClampNeg) 5 = true then (BR_isComparingWord_90 L xs m d k x1 x2 x3 x4 g r) else (if am_c2 .ne x3 0 = true then (BR_isComparingWord_104 L xs m d k x1 x2 x3 x4 g r) else (BR_isComparingWord_90 L xs m d k x1 x2 x3 x4 g r))) else none) : Option fn_Z)
  refine (fs_r (n := n + 15) 4 (pc' := 81) (L' := [some (.ref cR), some (.int x1), some (.int x2), some (.int x3), some (.int x4)]) (S' := [.int x2, .ref 10100]) rfl).trans ?_
  refine (fs_il (n := n + 14) (k := 100) rfl rfl).trans (fs_ite ?_ rfl)
  refine (fs_r (n := n + 13) 1 (pc' := 83) (L' := [some (.ref cR), some (.int x1), some (.int x2), some (.int x3), some (.int x4)]) (S' := [.int 5, .int ((r fR_kinds).2 (x2 : Int32).toNatClampNeg)]) rfl).trans ?_
  refine (fs_j (n := n + 12) rfl (t := 90) rfl (by decide)).trans (fs_ite ?_ ?_)
  · skip
    exact bR_isComparingWord_90 L xs m d k (n + 2) x1 x2 x3 x4 g r
  · skip
    refine (fs_r (n := n + 11) 1 (pc' := 87) (L' := [some (.ref cR), some (.int x1), some (.int x2), some (.int x3), some (.int x4)]) (S' := [.int x3]) rfl).trans ?_
    refine (fs_i (n := n + 10) rfl (t := 104) rfl (by decide)).trans (fs_ite ?_ ?_)
    · skip
      exact bR_isComparingWord_104 L xs m d k (n + 7) x1 x2 x3 x4 g r
    · skip
      exact bR_isComparingWord_90 L xs m d k (n + 0) x1 x2 x3 x4 g r
def BR_isComparingWord_73 (L : Nat) (xs : Nat → Int32) (m d k : Nat) (x1 x2 x3 : Int32) (g : a2_G) (r : a2_A) : Option fn_Z := (BR_isComparingWord_74 L xs m d k x1 x2 x3 0 g r)
theorem bR_isComparingWord_73 (L : Nat) (xs : Nat → Int32) (m d k : Nat) (n : Nat) (x1 x2 x3 : Int32) (g : a2_G) (r : a2_A) : bk L xs nR_isComparingWord nm_m99 m d k (n + 20) 73 [some (.ref cR), some (.int x1), some (.int x2), some (.int x3), none] [] g r = BR_isComparingWord_73 L xs m d k x1 x2 x3 g r := by
  show _ = ((BR_isComparingWord_74 L xs m d k x1 x2 x3 0 g r) : Option fn_Z)
  refine (fs_r (n := n + 19) 1 (pc' := 74) (L' := [some (.ref cR), some (.int x1), some (.int x2), some (.int x3), none]) (S' := [.int 0]) rfl).trans ?_
  exact bR_isComparingWord_74 L xs m d k (n + 0) x1 x2 x3 0 g r
def BR_isComparingWord_46 (L : Nat) (xs : Nat → Int32) (m d k : Nat) (x1 x2 x3 : Int32) (g : a2_G) (r : a2_A) : Option fn_Z := (if am_inr x2 (r fR_values).1 = true then (if am_c2 .lt ((r fR_values).2 (x2 : Int32).toNatClampNeg) 68 = true then (BR_isComparingWord_73 L xs m d k x1 x2 x3 g r) else (if am_inr x2 (r fR_values).1 = true then (if am_c2 .gt ((r fR_values).2 (x2 : Int32).toNatClampNeg) 70 = true then (BR_isComparingWord_73 L xs m d k x1 x2 x3 g r) else (BR_isComparingWord_74 L xs m d k x1 x2 x3 1 g r)) else none)) else none)
theorem bR_isComparingWord_46 (L : Nat) (xs : Nat → Int32) (m d k : Nat) (n : Nat) (x1 x2 x3 : Int32) (g : a2_G) (r : a2_A) : bk L xs nR_isComparingWord nm_m99 m d k (n + 34) 46 [some (.ref cR), some (.int x1), some (.int x2), none, none] [.int x3] g r = BR_isComparingWord_46 L xs m d k x1 x2 x3 g r := by
  show _ = ((if am_inr x2 (r fR_values).1 = true then (if am_c2 .lt ((r fR_values).2 (x2 : Int32).toNatClampNeg) 68 = true then (BR_isComparingWord_73 L xs m d k x1 x2 x3 g r) else (if am_inr x2 (r fR_values).1 = true then (if am_c2 .gt ((r fR_values).2 (x2 : Int32).toNatClampNeg) 70 = true then (BR_isComparingWord_73 L xs m d k x1 x2 x3 g r) else (BR_isComparingWord_74 L xs m d k x1 x2 x3 1 g r)) else none)) else none) : Option fn_Z)
  refine (fs_r (n := n + 30) 4 (pc' := 52) (L' := [some (.ref cR), some (.int x1), some (.int x2), some (.int x3), none]) (S' := [.int x2, .ref 10101]) rfl).trans ?_
  refine (fs_il (n := n + 29) (k := 101) rfl rfl).trans (fs_ite ?_ rfl)
  refine (fs_r (n := n + 28) 1 (pc' := 55) (L' := [some (.ref cR), some (.int x1), some (.int x2), some (.int x3), none]) (S' := [.int 68, .int ((r fR_values).2 (x2 : Int32).toNatClampNeg)]) rfl).trans ?_
  refine (fs_j (n := n + 27) rfl (t := 73) rfl (by decide)).trans (fs_ite ?_ ?_)
  · skip
    exact bR_isComparingWord_73 L xs m d k (n + 7) x1 x2 x3 g r
  · skip
    refine (fs_r (n := n + 24) 3 (pc' := 63) (L' := [some (.ref cR), some (.int x1), some (.int x2), some (.int x3), none]) (S' := [.int x2, .ref 10101]) rfl).trans ?_
    refine (fs_il (n := n + 23) (k := 101) rfl rfl).trans (fs_ite ?_ rfl)
    refine (fs_r (n := n + 22) 1 (pc' := 66) (L' := [some (.ref cR), some (.int x1), some (.int x2), some (.int x3), none]) (S' := [.int 70, .int ((r fR_values).2 (x2 : Int32).toNatClampNeg)]) rfl).trans ?_
    refine (fs_j (n := n + 21) rfl (t := 73) rfl (by decide)).trans (fs_ite ?_ ?_)
    · skip
      exact bR_isComparingWord_73 L xs m d k (n + 1) x1 x2 x3 g r
    · skip
      refine (fs_r (n := n + 20) 1 (pc' := 70) (L' := [some (.ref cR), some (.int x1), some (.int x2), some (.int x3), none]) (S' := [.int 1]) rfl).trans ?_
      refine (fs_go (n := n + 19) rfl (t := 74) rfl (by decide)).trans ?_
      exact bR_isComparingWord_74 L xs m d k (n + 0) x1 x2 x3 1 g r
def BR_isComparingWord_45 (L : Nat) (xs : Nat → Int32) (m d k : Nat) (x1 x2 : Int32) (g : a2_G) (r : a2_A) : Option fn_Z := (BR_isComparingWord_46 L xs m d k x1 x2 0 g r)
theorem bR_isComparingWord_45 (L : Nat) (xs : Nat → Int32) (m d k : Nat) (n : Nat) (x1 x2 : Int32) (g : a2_G) (r : a2_A) : bk L xs nR_isComparingWord nm_m99 m d k (n + 35) 45 [some (.ref cR), some (.int x1), some (.int x2), none, none] [] g r = BR_isComparingWord_45 L xs m d k x1 x2 g r := by
  show _ = ((BR_isComparingWord_46 L xs m d k x1 x2 0 g r) : Option fn_Z)
  refine (fs_r (n := n + 34) 1 (pc' := 46) (L' := [some (.ref cR), some (.int x1), some (.int x2), none, none]) (S' := [.int 0]) rfl).trans ?_
  exact bR_isComparingWord_46 L xs m d k (n + 0) x1 x2 0 g r
theorem eR_isComparingWord (L : Nat) (xs : Nat → Int32) (m d k : Nat) (n : Nat) (a1 : Int32) (g : a2_G) (r : a2_A) : bk L xs nR_isComparingWord nm_m99 m d k (n + 59) 0 [some (.ref cR), some (.int a1), none, none, none] [] g r = (if am_c2 .lt ((g fR_at) + a1) 0 = true then (BR_isComparingWord_19 L xs m d k a1 ((g fR_at) + a1) g r) else (if am_c2 .lt ((g fR_at) + a1) (g fR_size) = true then (if am_inr ((g fR_at) + a1) (r fR_values).1 = true then (if am_c2 .lt ((r fR_values).2 (((g fR_at) + a1) : Int32).toNatClampNeg) 2 = true then (BR_isComparingWord_45 L xs m d k a1 ((g fR_at) + a1) g r) else (if am_inr ((g fR_at) + a1) (r fR_values).1 = true then (if am_c2 .gt ((r fR_values).2 (((g fR_at) + a1) : Int32).toNatClampNeg) 4 = true then (BR_isComparingWord_45 L xs m d k a1 ((g fR_at) + a1) g r) else (BR_isComparingWord_46 L xs m d k a1 ((g fR_at) + a1) 1 g r)) else none)) else none) else (BR_isComparingWord_19 L xs m d k a1 ((g fR_at) + a1) g r))) := by
  refine (fs_r (n := n + 53) 6 (pc' := 8) (L' := [some (.ref cR), some (.int a1), some (.int ((g fR_at) + a1)), none, none]) (S' := [.int ((g fR_at) + a1)]) rfl).trans ?_
  refine (fs_i (n := n + 52) rfl (t := 19) rfl (by decide)).trans (fs_ite ?_ ?_)
  · skip
    exact bR_isComparingWord_19 L xs m d k (n + 50) a1 ((g fR_at) + a1) g r
  · skip
    refine (fs_r (n := n + 49) 3 (pc' := 16) (L' := [some (.ref cR), some (.int a1), some (.int ((g fR_at) + a1)), none, none]) (S' := [.int (g fR_size), .int ((g fR_at) + a1)]) rfl).trans ?_
    refine (fs_j (n := n + 48) rfl (t := 21) rfl (by decide)).trans (fs_ite ?_ ?_)
    · skip
      refine (fs_r (n := n + 45) 3 (pc' := 26) (L' := [some (.ref cR), some (.int a1), some (.int ((g fR_at) + a1)), none, none]) (S' := [.int ((g fR_at) + a1), .ref 10101]) rfl).trans ?_
      refine (fs_il (n := n + 44) (k := 101) rfl rfl).trans (fs_ite ?_ rfl)
      refine (fs_r (n := n + 43) 1 (pc' := 28) (L' := [some (.ref cR), some (.int a1), some (.int ((g fR_at) + a1)), none, none]) (S' := [.int 2, .int ((r fR_values).2 (((g fR_at) + a1) : Int32).toNatClampNeg)]) rfl).trans ?_
      refine (fs_j (n := n + 42) rfl (t := 45) rfl (by decide)).trans (fs_ite ?_ ?_)
      · skip
        exact bR_isComparingWord_45 L xs m d k (n + 7) a1 ((g fR_at) + a1) g r
      · skip
        refine (fs_r (n := n + 39) 3 (pc' := 36) (L' := [some (.ref cR), some (.int a1), some (.int ((g fR_at) + a1)), none, none]) (S' := [.int ((g fR_at) + a1), .ref 10101]) rfl).trans ?_
        refine (fs_il (n := n + 38) (k := 101) rfl rfl).trans (fs_ite ?_ rfl)
        refine (fs_r (n := n + 37) 1 (pc' := 38) (L' := [some (.ref cR), some (.int a1), some (.int ((g fR_at) + a1)), none, none]) (S' := [.int 4, .int ((r fR_values).2 (((g fR_at) + a1) : Int32).toNatClampNeg)]) rfl).trans ?_
        refine (fs_j (n := n + 36) rfl (t := 45) rfl (by decide)).trans (fs_ite ?_ ?_)
        · skip
          exact bR_isComparingWord_45 L xs m d k (n + 1) a1 ((g fR_at) + a1) g r
        · skip
          refine (fs_r (n := n + 35) 1 (pc' := 42) (L' := [some (.ref cR), some (.int a1), some (.int ((g fR_at) + a1)), none, none]) (S' := [.int 1]) rfl).trans ?_
          refine (fs_go (n := n + 34) rfl (t := 46) rfl (by decide)).trans ?_
          exact bR_isComparingWord_46 L xs m d k (n + 0) a1 ((g fR_at) + a1) 1 g r
    · skip
      exact bR_isComparingWord_19 L xs m d k (n + 46) a1 ((g fR_at) + a1) g r
theorem qR_isComparingWord (L : Nat) (xs : Nat → Int32) (m d : Nat) (a1 : Int32) (g : a2_G) (r : a2_A) : ev L xs (m + 1) (d + 1) nR_isComparingWord [.ref cR, .int a1] g r = (if am_c2 .lt ((g fR_at) + a1) 0 = true then (BR_isComparingWord_19 L xs (m + 1) d m a1 ((g fR_at) + a1) g r) else (if am_c2 .lt ((g fR_at) + a1) (g fR_size) = true then (if am_inr ((g fR_at) + a1) (r fR_values).1 = true then (if am_c2 .lt ((r fR_values).2 (((g fR_at) + a1) : Int32).toNatClampNeg) 2 = true then (BR_isComparingWord_45 L xs (m + 1) d m a1 ((g fR_at) + a1) g r) else (if am_inr ((g fR_at) + a1) (r fR_values).1 = true then (if am_c2 .gt ((r fR_values).2 (((g fR_at) + a1) : Int32).toNatClampNeg) 4 = true then (BR_isComparingWord_45 L xs (m + 1) d m a1 ((g fR_at) + a1) g r) else (BR_isComparingWord_46 L xs (m + 1) d m a1 ((g fR_at) + a1) 1 g r)) else none)) else none) else (BR_isComparingWord_19 L xs (m + 1) d m a1 ((g fR_at) + a1) g r))) := (fs_ev (M := nm_m99) rfl rfl).trans (eR_isComparingWord L xs (m + 1) d m 841 a1 g r)
/-- CobolParser$Expressions.goDeeper(I)V -/
def BX_goDeeper_14 (L : Nat) (xs : Nat → Int32) (m d k : Nat) (x1 : Int32) (g : a2_G) (r : a2_A) : Option fn_Z := (fn_n (ev L xs m d nR_advance [.ref cR] g r) fun g1 r2 => (some (.inl none, g1, r2)))
theorem bX_goDeeper_14 (L : Nat) (xs : Nat → Int32) (m d k : Nat) (n : Nat) (x1 : Int32) (g : a2_G) (r : a2_A) : bk L xs nX_goDeeper nm_m100 m d k (n + 4) 14 [some (.ref cX), some (.int x1)] [] g r = BX_goDeeper_14 L xs m d k x1 g r := by
  show _ = ((fn_n (ev L xs m d nR_advance [.ref cR] g r) fun g1 r2 => (some (.inl none, g1, r2))) : Option fn_Z)
  refine (fs_r (n := n + 2) 2 (pc' := 18) (L' := [some (.ref cX), some (.int x1)]) (S' := [.ref cR]) rfl).trans ?_
  refine (fs_cn (n := n + 1) (N := nm_m61) (as := [.ref cR]) (rest := []) rfl rfl (Or.inl rfl) rfl rfl rfl rfl rfl).trans (fs_fn fun g1 r2 => ?_)
  exact (fs_rv (n := n + 0) rfl rfl).trans rfl
theorem eX_goDeeper (L : Nat) (xs : Nat → Int32) (m d k : Nat) (n : Nat) (a1 : Int32) (g : a2_G) (r : a2_A) : bk L xs nX_goDeeper nm_m100 m d k (n + 11) 0 [some (.ref cX), some (.int a1)] [] g r = (if am_c2 .le a1 40 = true then (BX_goDeeper_14 L xs m d k a1 g r) else (fn_n (ev L xs m d nR_refuse [.ref cR, .int 3] g r) fun g3 r4 => (BX_goDeeper_14 L xs m d k a1 g3 r4))) := by
  refine (fs_r (n := n + 9) 2 (pc' := 3) (L' := [some (.ref cX), some (.int a1)]) (S' := [.int 40, .int a1]) rfl).trans ?_
  refine (fs_j (n := n + 8) rfl (t := 14) rfl (by decide)).trans (fs_ite ?_ ?_)
  · skip
    exact bX_goDeeper_14 L xs m d k (n + 4) a1 g r
  · skip
    refine (fs_r (n := n + 5) 3 (pc' := 11) (L' := [some (.ref cX), some (.int a1)]) (S' := [.int 3, .ref cR]) rfl).trans ?_
    refine (fs_cn (n := n + 4) (N := nm_m56) (as := [.ref cR, .int 3]) (rest := []) rfl rfl (Or.inl rfl) rfl rfl rfl rfl rfl).trans (fs_fn fun g3 r4 => ?_)
    exact bX_goDeeper_14 L xs m d k (n + 0) a1 g3 r4
theorem qX_goDeeper (L : Nat) (xs : Nat → Int32) (m d : Nat) (a1 : Int32) (g : a2_G) (r : a2_A) : ev L xs (m + 1) (d + 1) nX_goDeeper [.ref cX, .int a1] g r = (if am_c2 .le a1 40 = true then (BX_goDeeper_14 L xs (m + 1) d m a1 g r) else (fn_n (ev L xs (m + 1) d nR_refuse [.ref cR, .int 3] g r) fun g3 r4 => (BX_goDeeper_14 L xs (m + 1) d m a1 g3 r4))) := (fs_ev (M := nm_m100) rfl rfl).trans (eX_goDeeper L xs (m + 1) d m 889 a1 g r)
/-- CobolParser$Row.isSign(II)Z -/
def BR_isSign_44 (L : Nat) (xs : Nat → Int32) (m d k : Nat) (x1 x2 x3 x4 : Int32) (g : a2_G) (r : a2_A) : Option fn_Z := (if x4 = 0 ∨ x4 = 1 then some (.inl (some (.int x4)), g, r) else none)
theorem bR_isSign_44 (L : Nat) (xs : Nat → Int32) (m d k : Nat) (n : Nat) (x1 x2 x3 x4 : Int32) (g : a2_G) (r : a2_A) : bk L xs nR_isSign nm_m101 m d k (n + 1) 44 [some (.ref cR), some (.int x1), some (.int x2), some (.int x3)] [.int x4] g r = BR_isSign_44 L xs m d k x1 x2 x3 x4 g r := by
  show _ = ((if x4 = 0 ∨ x4 = 1 then some (.inl (some (.int x4)), g, r) else none) : Option fn_Z)
  exact (fs_rb (n := n + 0) rfl rfl).trans rfl
def BR_isSign_43 (L : Nat) (xs : Nat → Int32) (m d k : Nat) (x1 x2 x3 : Int32) (g : a2_G) (r : a2_A) : Option fn_Z := (BR_isSign_44 L xs m d k x1 x2 x3 0 g r)
theorem bR_isSign_43 (L : Nat) (xs : Nat → Int32) (m d k : Nat) (n : Nat) (x1 x2 x3 : Int32) (g : a2_G) (r : a2_A) : bk L xs nR_isSign nm_m101 m d k (n + 2) 43 [some (.ref cR), some (.int x1), some (.int x2), some (.int x3)] [] g r = BR_isSign_43 L xs m d k x1 x2 x3 g r := by
  show _ = ((BR_isSign_44 L xs m d k x1 x2 x3 0 g r) : Option fn_Z)
  refine (fs_r (n := n + 1) 1 (pc' := 44) (L' := [some (.ref cR), some (.int x1), some (.int x2), some (.int x3)]) (S' := [.int 0]) rfl).trans ?_
  exact bR_isSign_44 L xs m d k (n + 0) x1 x2 x3 0 g r
theorem eR_isSign (L : Nat) (xs : Nat → Int32) (m d k : Nat) (n : Nat) (a1 a2 : Int32) (g : a2_G) (r : a2_A) : bk L xs nR_isSign nm_m101 m d k (n + 26) 0 [some (.ref cR), some (.int a1), some (.int a2), none] [] g r = (if am_c2 .lt ((g fR_at) + a2) 0 = true then (BR_isSign_43 L xs m d k a1 a2 ((g fR_at) + a2) g r) else (if am_c2 .ge ((g fR_at) + a2) (g fR_size) = true then (BR_isSign_43 L xs m d k a1 a2 ((g fR_at) + a2) g r) else (if am_inr ((g fR_at) + a2) (r fR_kinds).1 = true then (if am_c2 .ne ((r fR_kinds).2 (((g fR_at) + a2) : Int32).toNatClampNeg) 5 = true then (BR_isSign_43 L xs m d k a1 a2 ((g fR_at) + a2) g r) else (if am_inr ((g fR_at) + a2) (r fR_values).1 = true then (if am_c2 .ne ((r fR_values).2 (((g fR_at) + a2) : Int32).toNatClampNeg) a1 = true then (BR_isSign_43 L xs m d k a1 a2 ((g fR_at) + a2) g r) else (BR_isSign_44 L xs m d k a1 a2 ((g fR_at) + a2) 1 g r)) else none)) else none))) := by
  refine (fs_r (n := n + 20) 6 (pc' := 8) (L' := [some (.ref cR), some (.int a1), some (.int a2), some (.int ((g fR_at) + a2))]) (S' := [.int ((g fR_at) + a2)]) rfl).trans ?_
  refine (fs_i (n := n + 19) rfl (t := 43) rfl (by decide)).trans (fs_ite ?_ ?_)
  · skip
    exact bR_isSign_43 L xs m d k (n + 17) a1 a2 ((g fR_at) + a2) g r
  · skip
    refine (fs_r (n := n + 16) 3 (pc' := 16) (L' := [some (.ref cR), some (.int a1), some (.int a2), some (.int ((g fR_at) + a2))]) (S' := [.int (g fR_size), .int ((g fR_at) + a2)]) rfl).trans ?_
    refine (fs_j (n := n + 15) rfl (t := 43) rfl (by decide)).trans (fs_ite ?_ ?_)
    · skip
      exact bR_isSign_43 L xs m d k (n + 13) a1 a2 ((g fR_at) + a2) g r
    · skip
      refine (fs_r (n := n + 12) 3 (pc' := 24) (L' := [some (.ref cR), some (.int a1), some (.int a2), some (.int ((g fR_at) + a2))]) (S' := [.int ((g fR_at) + a2), .ref 10100]) rfl).trans ?_
      refine (fs_il (n := n + 11) (k := 100) rfl rfl).trans (fs_ite ?_ rfl)
      refine (fs_r (n := n + 10) 1 (pc' := 26) (L' := [some (.ref cR), some (.int a1), some (.int a2), some (.int ((g fR_at) + a2))]) (S' := [.int 5, .int ((r fR_kinds).2 (((g fR_at) + a2) : Int32).toNatClampNeg)]) rfl).trans ?_
      refine (fs_j (n := n + 9) rfl (t := 43) rfl (by decide)).trans (fs_ite ?_ ?_)
      · skip
        exact bR_isSign_43 L xs m d k (n + 7) a1 a2 ((g fR_at) + a2) g r
      · skip
        refine (fs_r (n := n + 6) 3 (pc' := 34) (L' := [some (.ref cR), some (.int a1), some (.int a2), some (.int ((g fR_at) + a2))]) (S' := [.int ((g fR_at) + a2), .ref 10101]) rfl).trans ?_
        refine (fs_il (n := n + 5) (k := 101) rfl rfl).trans (fs_ite ?_ rfl)
        refine (fs_r (n := n + 4) 1 (pc' := 36) (L' := [some (.ref cR), some (.int a1), some (.int a2), some (.int ((g fR_at) + a2))]) (S' := [.int a1, .int ((r fR_values).2 (((g fR_at) + a2) : Int32).toNatClampNeg)]) rfl).trans ?_
        refine (fs_j (n := n + 3) rfl (t := 43) rfl (by decide)).trans (fs_ite ?_ ?_)
        · skip
          exact bR_isSign_43 L xs m d k (n + 1) a1 a2 ((g fR_at) + a2) g r
        · skip
          refine (fs_r (n := n + 2) 1 (pc' := 40) (L' := [some (.ref cR), some (.int a1), some (.int a2), some (.int ((g fR_at) + a2))]) (S' := [.int 1]) rfl).trans ?_
          refine (fs_go (n := n + 1) rfl (t := 44) rfl (by decide)).trans ?_
          exact bR_isSign_44 L xs m d k (n + 0) a1 a2 ((g fR_at) + a2) 1 g r
theorem qR_isSign (L : Nat) (xs : Nat → Int32) (m d : Nat) (a1 a2 : Int32) (g : a2_G) (r : a2_A) : ev L xs (m + 1) (d + 1) nR_isSign [.ref cR, .int a1, .int a2] g r = (if am_c2 .lt ((g fR_at) + a2) 0 = true then (BR_isSign_43 L xs (m + 1) d m a1 a2 ((g fR_at) + a2) g r) else (if am_c2 .ge ((g fR_at) + a2) (g fR_size) = true then (BR_isSign_43 L xs (m + 1) d m a1 a2 ((g fR_at) + a2) g r) else (if am_inr ((g fR_at) + a2) (r fR_kinds).1 = true then (if am_c2 .ne ((r fR_kinds).2 (((g fR_at) + a2) : Int32).toNatClampNeg) 5 = true then (BR_isSign_43 L xs (m + 1) d m a1 a2 ((g fR_at) + a2) g r) else (if am_inr ((g fR_at) + a2) (r fR_values).1 = true then (if am_c2 .ne ((r fR_values).2 (((g fR_at) + a2) : Int32).toNatClampNeg) a1 = true then (BR_isSign_43 L xs (m + 1) d m a1 a2 ((g fR_at) + a2) g r) else (BR_isSign_44 L xs (m + 1) d m a1 a2 ((g fR_at) + a2) 1 g r)) else none)) else none))) := (fs_ev (M := nm_m101) rfl rfl).trans (eR_isSign L xs (m + 1) d m 874 a1 a2 g r)
/-- CobolParser$Row.requireSign(I)V -/
def BR_requireSign_14 (L : Nat) (xs : Nat → Int32) (m d k : Nat) (x1 : Int32) (g : a2_G) (r : a2_A) : Option fn_Z := (fn_n (ev L xs m d nR_advance [.ref cR] g r) fun g4 r5 => (some (.inl none, g4, r5)))
theorem bR_requireSign_14 (L : Nat) (xs : Nat → Int32) (m d k : Nat) (n : Nat) (x1 : Int32) (g : a2_G) (r : a2_A) : bk L xs nR_requireSign nm_m102 m d k (n + 3) 14 [some (.ref cR), some (.int x1)] [] g r = BR_requireSign_14 L xs m d k x1 g r := by
  show _ = ((fn_n (ev L xs m d nR_advance [.ref cR] g r) fun g4 r5 => (some (.inl none, g4, r5))) : Option fn_Z)
  refine (fs_r (n := n + 2) 1 (pc' := 15) (L' := [some (.ref cR), some (.int x1)]) (S' := [.ref cR]) rfl).trans ?_
  refine (fs_cn (n := n + 1) (N := nm_m61) (as := [.ref cR]) (rest := []) rfl rfl (Or.inl rfl) rfl rfl rfl rfl rfl).trans (fs_fn fun g4 r5 => ?_)
  exact (fs_rv (n := n + 0) rfl rfl).trans rfl
theorem eR_requireSign (L : Nat) (xs : Nat → Int32) (m d k : Nat) (n : Nat) (a1 : Int32) (g : a2_G) (r : a2_A) : bk L xs nR_requireSign nm_m102 m d k (n + 11) 0 [some (.ref cR), some (.int a1)] [] g r = (fn_v (ev L xs m d nR_isSign [.ref cR, .int a1, .int 0] g r) fun v3 g1 r2 => (if am_c2 .ne v3 0 = true then (BR_requireSign_14 L xs m d k a1 g1 r2) else (fn_n (ev L xs m d nR_refuse [.ref cR, .int 1] g1 r2) fun g6 r7 => (BR_requireSign_14 L xs m d k a1 g6 r7)))) := by
  refine (fs_r (n := n + 8) 3 (pc' := 3) (L' := [some (.ref cR), some (.int a1)]) (S' := [.int 0, .int a1, .ref cR]) rfl).trans ?_
  refine (fs_cv (n := n + 7) (N := nm_m101) (as := [.ref cR, .int a1, .int 0]) (rest := []) rfl rfl (Or.inl rfl) rfl rfl rfl rfl rfl).trans (fs_fv fun v3 g1 r2 => ?_)
  refine (fs_i (n := n + 6) rfl (t := 14) rfl (by decide)).trans (fs_ite ?_ ?_)
  · skip
    exact bR_requireSign_14 L xs m d k (n + 3) a1 g1 r2
  · skip
    refine (fs_r (n := n + 4) 2 (pc' := 11) (L' := [some (.ref cR), some (.int a1)]) (S' := [.int 1, .ref cR]) rfl).trans ?_
    refine (fs_cn (n := n + 3) (N := nm_m56) (as := [.ref cR, .int 1]) (rest := []) rfl rfl (Or.inl rfl) rfl rfl rfl rfl rfl).trans (fs_fn fun g6 r7 => ?_)
    exact bR_requireSign_14 L xs m d k (n + 0) a1 g6 r7
theorem qR_requireSign (L : Nat) (xs : Nat → Int32) (m d : Nat) (a1 : Int32) (g : a2_G) (r : a2_A) : ev L xs (m + 1) (d + 1) nR_requireSign [.ref cR, .int a1] g r = (fn_v (ev L xs (m + 1) d nR_isSign [.ref cR, .int a1, .int 0] g r) fun v3 g1 r2 => (if am_c2 .ne v3 0 = true then (BR_requireSign_14 L xs (m + 1) d m a1 g1 r2) else (fn_n (ev L xs (m + 1) d nR_refuse [.ref cR, .int 1] g1 r2) fun g6 r7 => (BR_requireSign_14 L xs (m + 1) d m a1 g6 r7)))) := (fs_ev (M := nm_m102) rfl rfl).trans (eR_requireSign L xs (m + 1) d m 889 a1 g r)
/-- CobolParser$Expressions.relation()I -/
def BX_relation_134 (L : Nat) (xs : Nat → Int32) (m d k : Nat) (x1 x2 x3 x4 : Int32) (g : a2_G) (r : a2_A) : Option fn_Z := (fn_v (ev L xs m d nL_operand [.ref cL] g r) fun v20 g18 r19 => (fn_n (ev L xs m d nT_append [.ref cT, .int x4, .int v20] g18 r19) fun g21 r22 => (some (.inl (some (.int x4)), g21, r22))))
theorem bX_relation_134 (L : Nat) (xs : Nat → Int32) (m d k : Nat) (n : Nat) (x1 x2 x3 x4 : Int32) (g : a2_G) (r : a2_A) : bk L xs nX_relation nm_m103 m d k (n + 9) 134 [some (.ref cX), some (.int x1), some (.int x2), some (.int x3), some (.int x4)] [] g r = BX_relation_134 L xs m d k x1 x2 x3 x4 g r := by
  show _ = ((fn_v (ev L xs m d nL_operand [.ref cL] g r) fun v20 g18 r19 => (fn_n (ev L xs m d nT_append [.ref cT, .int x4, .int v20] g18 r19) fun g21 r22 => (some (.inl (some (.int x4)), g21, r22)))) : Option fn_Z)
  refine (fs_r (n := n + 4) 5 (pc' := 144) (L' := [some (.ref cX), some (.int x1), some (.int x2), some (.int x3), some (.int x4)]) (S' := [.ref cL, .int x4, .ref cT]) rfl).trans ?_
  refine (fs_cv (n := n + 3) (N := nm_m75) (as := [.ref cL]) (rest := [.int x4, .ref cT]) rfl rfl (Or.inl rfl) rfl rfl rfl rfl rfl).trans (fs_fv fun v20 g18 r19 => ?_)
  refine (fs_cn (n := n + 2) (N := nm_m63) (as := [.ref cT, .int x4, .int v20]) (rest := []) rfl rfl (Or.inl rfl) rfl rfl rfl rfl rfl).trans (fs_fn fun g21 r22 => ?_)
  refine (fs_r (n := n + 1) 1 (pc' := 152) (L' := [some (.ref cX), some (.int x1), some (.int x2), some (.int x3), some (.int x4)]) (S' := [.int x4]) rfl).trans ?_
  exact (fs_ri (n := n + 0) rfl rfl).trans rfl
def BX_relation_87 (L : Nat) (xs : Nat → Int32) (m d k : Nat) (x1 x2 x3 : Int32) (g : a2_G) (r : a2_A) : Option fn_Z := (fn_v (ev L xs m d nT_make [.ref cT, .int 53, .int (g fX_latestHow), .int x1] g r) fun v15 g13 r14 => (fn_n (ev L xs m d nT_set [.ref cT, .int v15, .int 3, .int (g13 fX_subject)] g13 r14) fun g16 r17 => (if am_c2 .eq x2 0 = true then (BX_relation_134 L xs m d k x1 x2 x3 v15 g16 r17) else (fn_n (ev L xs m d nT_append [.ref cT, .int v15, .int (g16 fX_subject)] g16 r17) fun g23 r24 => (BX_relation_134 L xs m d k x1 x2 x3 v15 g23 r24)))))
theorem bX_relation_87 (L : Nat) (xs : Nat → Int32) (m d k : Nat) (n : Nat) (x1 x2 x3 : Int32) (g : a2_G) (r : a2_A) : bk L xs nX_relation nm_m103 m d k (n + 32) 87 [some (.ref cX), some (.int x1), some (.int x2), some (.int x3), none] [] g r = BX_relation_87 L xs m d k x1 x2 x3 g r := by
  show _ = ((fn_v (ev L xs m d nT_make [.ref cT, .int 53, .int (g fX_latestHow), .int x1] g r) fun v15 g13 r14 => (fn_n (ev L xs m d nT_set [.ref cT, .int v15, .int 3, .int (g13 fX_subject)] g13 r14) fun g16 r17 => (if am_c2 .eq x2 0 = true then (BX_relation_134 L xs m d k x1 x2 x3 v15 g16 r17) else (fn_n (ev L xs m d nT_append [.ref cT, .int v15, .int (g16 fX_subject)] g16 r17) fun g23 r24 => (BX_relation_134 L xs m d k x1 x2 x3 v15 g23 r24))))) : Option fn_Z)
  refine (fs_r (n := n + 26) 6 (pc' := 98) (L' := [some (.ref cX), some (.int x1), some (.int x2), some (.int x3), none]) (S' := [.int x1, .int (g fX_latestHow), .int 53, .ref cT]) rfl).trans ?_
  refine (fs_cv (n := n + 25) (N := nm_m45) (as := [.ref cT, .int 53, .int (g fX_latestHow), .int x1]) (rest := []) rfl rfl (Or.inl rfl) rfl rfl rfl rfl rfl).trans (fs_fv fun v15 g13 r14 => ?_)
  refine (fs_r (n := n + 18) 7 (pc' := 114) (L' := [some (.ref cX), some (.int x1), some (.int x2), some (.int x3), some (.int v15)]) (S' := [.int (g13 fX_subject), .int 3, .int v15, .ref cT]) rfl).trans ?_
  refine (fs_cn (n := n + 17) (N := nm_m69) (as := [.ref cT, .int v15, .int 3, .int (g13 fX_subject)]) (rest := []) rfl rfl (Or.inl rfl) rfl rfl rfl rfl rfl).trans (fs_fn fun g16 r17 => ?_)
  refine (fs_r (n := n + 16) 1 (pc' := 118) (L' := [some (.ref cX), some (.int x1), some (.int x2), some (.int x3), some (.int v15)]) (S' := [.int x2]) rfl).trans ?_
  refine (fs_i (n := n + 15) rfl (t := 134) rfl (by decide)).trans (fs_ite ?_ ?_)
  · skip
    exact bX_relation_134 L xs m d k (n + 6) x1 x2 x3 v15 g16 r17
  · skip
    refine (fs_r (n := n + 10) 5 (pc' := 131) (L' := [some (.ref cX), some (.int x1), some (.int x2), some (.int x3), some (.int v15)]) (S' := [.int (g16 fX_subject), .int v15, .ref cT]) rfl).trans ?_
    refine (fs_cn (n := n + 9) (N := nm_m63) (as := [.ref cT, .int v15, .int (g16 fX_subject)]) (rest := []) rfl rfl (Or.inl rfl) rfl rfl rfl rfl rfl).trans (fs_fn fun g23 r24 => ?_)
    exact bX_relation_134 L xs m d k (n + 0) x1 x2 x3 v15 g23 r24
def BX_relation_79 (L : Nat) (xs : Nat → Int32) (m d k : Nat) (x1 x2 x3 : Int32) (g : a2_G) (r : a2_A) : Option fn_Z := (fn_v (ev L xs m d nX_comparing [.ref cX] g r) fun v12 g10 r11 => (BX_relation_87 L xs m d k x1 x2 x3 (upd g10 fX_latestHow v12) r11))
theorem bX_relation_79 (L : Nat) (xs : Nat → Int32) (m d k : Nat) (n : Nat) (x1 x2 x3 : Int32) (g : a2_G) (r : a2_A) : bk L xs nX_relation nm_m103 m d k (n + 36) 79 [some (.ref cX), some (.int x1), some (.int x2), some (.int x3), none] [] g r = BX_relation_79 L xs m d k x1 x2 x3 g r := by
  show _ = ((fn_v (ev L xs m d nX_comparing [.ref cX] g r) fun v12 g10 r11 => (BX_relation_87 L xs m d k x1 x2 x3 (upd g10 fX_latestHow v12) r11)) : Option fn_Z)
  refine (fs_r (n := n + 34) 2 (pc' := 81) (L' := [some (.ref cX), some (.int x1), some (.int x2), some (.int x3), none]) (S' := [.ref cX, .ref cX]) rfl).trans ?_
  refine (fs_cv (n := n + 33) (N := nm_m106) (as := [.ref cX]) (rest := [.ref cX]) rfl rfl (Or.inl rfl) rfl rfl rfl rfl rfl).trans (fs_fv fun v12 g10 r11 => ?_)
  refine (fs_pf (n := n + 32) (ci := 5) (j := 4) rfl rfl rfl rfl).trans ?_
  exact bX_relation_87 L xs m d k (n + 0) x1 x2 x3 (upd g10 fX_latestHow v12) r11
def BX_relation_71 (L : Nat) (xs : Nat → Int32) (m d k : Nat) (x1 x2 x3 : Int32) (g : a2_G) (r : a2_A) : Option fn_Z := (if am_c2 .ne x2 0 = true then (BX_relation_79 L xs m d k x1 x2 x3 g r) else (if am_c2 .eq x3 0 = true then (BX_relation_87 L xs m d k x1 x2 x3 g r) else (BX_relation_79 L xs m d k x1 x2 x3 g r)))
theorem bX_relation_71 (L : Nat) (xs : Nat → Int32) (m d k : Nat) (n : Nat) (x1 x2 x3 : Int32) (g : a2_G) (r : a2_A) : bk L xs nX_relation nm_m103 m d k (n + 40) 71 [some (.ref cX), some (.int x1), some (.int x2), some (.int x3), none] [] g r = BX_relation_71 L xs m d k x1 x2 x3 g r := by
  show _ = ((if am_c2 .ne x2 0 = true then (BX_relation_79 L xs m d k x1 x2 x3 g r) else (if am_c2 .eq x3 0 = true then (BX_relation_87 L xs m d k x1 x2 x3 g r) else (BX_relation_79 L xs m d k x1 x2 x3 g r))) : Option fn_Z)
  refine (fs_r (n := n + 39) 1 (pc' := 72) (L' := [some (.ref cX), some (.int x1), some (.int x2), some (.int x3), none]) (S' := [.int x2]) rfl).trans ?_
  refine (fs_i (n := n + 38) rfl (t := 79) rfl (by decide)).trans (fs_ite ?_ ?_)
  · skip
    exact bX_relation_79 L xs m d k (n + 2) x1 x2 x3 g r
  · skip
    refine (fs_r (n := n + 37) 1 (pc' := 76) (L' := [some (.ref cX), some (.int x1), some (.int x2), some (.int x3), none]) (S' := [.int x3]) rfl).trans ?_
    refine (fs_i (n := n + 36) rfl (t := 87) rfl (by decide)).trans (fs_ite ?_ ?_)
    · skip
      exact bX_relation_87 L xs m d k (n + 4) x1 x2 x3 g r
    · skip
      exact bX_relation_79 L xs m d k (n + 0) x1 x2 x3 g r
def BX_relation_56 (L : Nat) (xs : Nat → Int32) (m d k : Nat) (x1 x2 x3 : Int32) (g : a2_G) (r : a2_A) : Option fn_Z := (if am_c2 .eq x2 0 = true then (BX_relation_71 L xs m d k x1 x2 x3 g r) else (fn_v (ev L xs m d nL_operand [.ref cL] g r) fun v27 g25 r26 => (BX_relation_71 L xs m d k x1 x2 x3 (upd g25 fX_subject v27) r26)))
theorem bX_relation_56 (L : Nat) (xs : Nat → Int32) (m d k : Nat) (n : Nat) (x1 x2 x3 : Int32) (g : a2_G) (r : a2_A) : bk L xs nX_relation nm_m103 m d k (n + 47) 56 [some (.ref cX), some (.int x1), some (.int x2), some (.int x3), none] [] g r = BX_relation_56 L xs m d k x1 x2 x3 g r := by
  show _ = ((if am_c2 .eq x2 0 = true then (BX_relation_71 L xs m d k x1 x2 x3 g r) else (fn_v (ev L xs m d nL_operand [.ref cL] g r) fun v27 g25 r26 => (BX_relation_71 L xs m d k x1 x2 x3 (upd g25 fX_subject v27) r26))) : Option fn_Z)
  refine (fs_r (n := n + 46) 1 (pc' := 57) (L' := [some (.ref cX), some (.int x1), some (.int x2), some (.int x3), none]) (S' := [.int x2]) rfl).trans ?_
  refine (fs_i (n := n + 45) rfl (t := 71) rfl (by decide)).trans (fs_ite ?_ ?_)
  · skip
    exact bX_relation_71 L xs m d k (n + 5) x1 x2 x3 g r
  · skip
    refine (fs_r (n := n + 42) 3 (pc' := 65) (L' := [some (.ref cX), some (.int x1), some (.int x2), some (.int x3), none]) (S' := [.ref cL, .ref cX]) rfl).trans ?_
    refine (fs_cv (n := n + 41) (N := nm_m75) (as := [.ref cL]) (rest := [.ref cX]) rfl rfl (Or.inl rfl) rfl rfl rfl rfl rfl).trans (fs_fv fun v27 g25 r26 => ?_)
    refine (fs_pf (n := n + 40) (ci := 5) (j := 3) rfl rfl rfl rfl).trans ?_
    exact bX_relation_71 L xs m d k (n + 0) x1 x2 x3 (upd g25 fX_subject v27) r26
def BX_relation_31 (L : Nat) (xs : Nat → Int32) (m d k : Nat) (x1 x2 : Int32) (g : a2_G) (r : a2_A) : Option fn_Z := (fn_v (ev L xs m d nX_isComparing [.ref cX, .int 0] g r) fun v9 g7 r8 => (if am_c2 .ne x2 0 = true then (BX_relation_56 L xs m d k x1 x2 v9 g7 r8) else (if am_c2 .ne (g7 fX_subject) (-1) = true then (BX_relation_56 L xs m d k x1 x2 v9 g7 r8) else (fn_v (ev L xs m d nX_conditionName [.ref cX, .int x1] g7 r8) fun v30 g28 r29 => (some (.inl (some (.int v30)), g28, r29))))))
theorem bX_relation_31 (L : Nat) (xs : Nat → Int32) (m d k : Nat) (n : Nat) (x1 x2 : Int32) (g : a2_G) (r : a2_A) : bk L xs nX_relation nm_m103 m d k (n + 58) 31 [some (.ref cX), some (.int x1), none, none, none] [.int x2] g r = BX_relation_31 L xs m d k x1 x2 g r := by
  show _ = ((fn_v (ev L xs m d nX_isComparing [.ref cX, .int 0] g r) fun v9 g7 r8 => (if am_c2 .ne x2 0 = true then (BX_relation_56 L xs m d k x1 x2 v9 g7 r8) else (if am_c2 .ne (g7 fX_subject) (-1) = true then (BX_relation_56 L xs m d k x1 x2 v9 g7 r8) else (fn_v (ev L xs m d nX_conditionName [.ref cX, .int x1] g7 r8) fun v30 g28 r29 => (some (.inl (some (.int v30)), g28, r29)))))) : Option fn_Z)
  refine (fs_r (n := n + 55) 3 (pc' := 34) (L' := [some (.ref cX), some (.int x1), some (.int x2), none, none]) (S' := [.int 0, .ref cX]) rfl).trans ?_
  refine (fs_cv (n := n + 54) (N := nm_m104) (as := [.ref cX, .int 0]) (rest := []) rfl rfl (Or.inl rfl) rfl rfl rfl rfl rfl).trans (fs_fv fun v9 g7 r8 => ?_)
  refine (fs_r (n := n + 52) 2 (pc' := 39) (L' := [some (.ref cX), some (.int x1), some (.int x2), some (.int v9), none]) (S' := [.int x2]) rfl).trans ?_
  refine (fs_i (n := n + 51) rfl (t := 56) rfl (by decide)).trans (fs_ite ?_ ?_)
  · skip
    exact bX_relation_56 L xs m d k (n + 4) x1 x2 v9 g7 r8
  · skip
    refine (fs_r (n := n + 48) 3 (pc' := 47) (L' := [some (.ref cX), some (.int x1), some (.int x2), some (.int v9), none]) (S' := [.int (-1), .int (g7 fX_subject)]) rfl).trans ?_
    refine (fs_j (n := n + 47) rfl (t := 56) rfl (by decide)).trans (fs_ite ?_ ?_)
    · skip
      exact bX_relation_56 L xs m d k (n + 0) x1 x2 v9 g7 r8
    · skip
      refine (fs_r (n := n + 45) 2 (pc' := 52) (L' := [some (.ref cX), some (.int x1), some (.int x2), some (.int v9), none]) (S' := [.int x1, .ref cX]) rfl).trans ?_
      refine (fs_cv (n := n + 44) (N := nm_m105) (as := [.ref cX, .int x1]) (rest := []) rfl rfl (Or.inl rfl) rfl rfl rfl rfl rfl).trans (fs_fv fun v30 g28 r29 => ?_)
      exact (fs_ri (n := n + 43) rfl rfl).trans rfl
def BX_relation_30 (L : Nat) (xs : Nat → Int32) (m d k : Nat) (x1 : Int32) (g : a2_G) (r : a2_A) : Option fn_Z := (BX_relation_31 L xs m d k x1 0 g r)
theorem bX_relation_30 (L : Nat) (xs : Nat → Int32) (m d k : Nat) (n : Nat) (x1 : Int32) (g : a2_G) (r : a2_A) : bk L xs nX_relation nm_m103 m d k (n + 59) 30 [some (.ref cX), some (.int x1), none, none, none] [] g r = BX_relation_30 L xs m d k x1 g r := by
  show _ = ((BX_relation_31 L xs m d k x1 0 g r) : Option fn_Z)
  refine (fs_r (n := n + 58) 1 (pc' := 31) (L' := [some (.ref cX), some (.int x1), none, none, none]) (S' := [.int 0]) rfl).trans ?_
  exact bX_relation_31 L xs m d k (n + 0) x1 0 g r
theorem eX_relation (L : Nat) (xs : Nat → Int32) (m d k : Nat) (n : Nat) (g : a2_G) (r : a2_A) : bk L xs nX_relation nm_m103 m d k (n + 72) 0 [some (.ref cX), none, none, none, none] [] g r = (fn_v (ev L xs m d nR_place [.ref cR] g r) fun v3 g1 r2 => (fn_v (ev L xs m d nR_isOperand [.ref cR] g1 r2) fun v6 g4 r5 => (if am_c2 .eq v6 0 = true then (BX_relation_30 L xs m d k v3 g4 r5) else (fn_v (ev L xs m d nX_isComparing [.ref cX, .int 1] g4 r5) fun v33 g31 r32 => (if am_c2 .eq v33 0 = true then (BX_relation_30 L xs m d k v3 g31 r32) else (BX_relation_31 L xs m d k v3 1 g31 r32)))))) := by
  refine (fs_r (n := n + 70) 2 (pc' := 4) (L' := [some (.ref cX), none, none, none, none]) (S' := [.ref cR]) rfl).trans ?_
  refine (fs_cv (n := n + 69) (N := nm_m58) (as := [.ref cR]) (rest := []) rfl rfl (Or.inl rfl) rfl rfl rfl rfl rfl).trans (fs_fv fun v3 g1 r2 => ?_)
  refine (fs_r (n := n + 66) 3 (pc' := 12) (L' := [some (.ref cX), some (.int v3), none, none, none]) (S' := [.ref cR]) rfl).trans ?_
  refine (fs_cv (n := n + 65) (N := nm_m76) (as := [.ref cR]) (rest := []) rfl rfl (Or.inl rfl) rfl rfl rfl rfl rfl).trans (fs_fv fun v6 g4 r5 => ?_)
  refine (fs_i (n := n + 64) rfl (t := 30) rfl (by decide)).trans (fs_ite ?_ ?_)
  · skip
    exact bX_relation_30 L xs m d k (n + 5) v3 g4 r5
  · skip
    refine (fs_r (n := n + 62) 2 (pc' := 20) (L' := [some (.ref cX), some (.int v3), none, none, none]) (S' := [.int 1, .ref cX]) rfl).trans ?_
    refine (fs_cv (n := n + 61) (N := nm_m104) (as := [.ref cX, .int 1]) (rest := []) rfl rfl (Or.inl rfl) rfl rfl rfl rfl rfl).trans (fs_fv fun v33 g31 r32 => ?_)
    refine (fs_i (n := n + 60) rfl (t := 30) rfl (by decide)).trans (fs_ite ?_ ?_)
    · skip
      exact bX_relation_30 L xs m d k (n + 1) v3 g31 r32
    · skip
      refine (fs_r (n := n + 59) 1 (pc' := 27) (L' := [some (.ref cX), some (.int v3), none, none, none]) (S' := [.int 1]) rfl).trans ?_
      refine (fs_go (n := n + 58) rfl (t := 31) rfl (by decide)).trans ?_
      exact bX_relation_31 L xs m d k (n + 0) v3 1 g31 r32
theorem qX_relation (L : Nat) (xs : Nat → Int32) (m d : Nat) (g : a2_G) (r : a2_A) : ev L xs (m + 1) (d + 1) nX_relation [.ref cX] g r = (fn_v (ev L xs (m + 1) d nR_place [.ref cR] g r) fun v3 g1 r2 => (fn_v (ev L xs (m + 1) d nR_isOperand [.ref cR] g1 r2) fun v6 g4 r5 => (if am_c2 .eq v6 0 = true then (BX_relation_30 L xs (m + 1) d m v3 g4 r5) else (fn_v (ev L xs (m + 1) d nX_isComparing [.ref cX, .int 1] g4 r5) fun v33 g31 r32 => (if am_c2 .eq v33 0 = true then (BX_relation_30 L xs (m + 1) d m v3 g31 r32) else (BX_relation_31 L xs (m + 1) d m v3 1 g31 r32)))))) := (fs_ev (M := nm_m103) rfl rfl).trans (eX_relation L xs (m + 1) d m 828 g r)
/-- CobolParser$Expressions.isComparing(I)Z -/
def BX_isComparing_55 (L : Nat) (xs : Nat → Int32) (m d k : Nat) (x1 x2 : Int32) (g : a2_G) (r : a2_A) : Option fn_Z := (if x2 = 0 ∨ x2 = 1 then some (.inl (some (.int x2)), g, r) else none)
theorem bX_isComparing_55 (L : Nat) (xs : Nat → Int32) (m d k : Nat) (n : Nat) (x1 x2 : Int32) (g : a2_G) (r : a2_A) : bk L xs nX_isComparing nm_m104 m d k (n + 1) 55 [some (.ref cX), some (.int x1)] [.int x2] g r = BX_isComparing_55 L xs m d k x1 x2 g r := by
  show _ = ((if x2 = 0 ∨ x2 = 1 then some (.inl (some (.int x2)), g, r) else none) : Option fn_Z)
  exact (fs_rb (n := n + 0) rfl rfl).trans rfl
def BX_isComparing_50 (L : Nat) (xs : Nat → Int32) (m d k : Nat) (x1 : Int32) (g : a2_G) (r : a2_A) : Option fn_Z := (BX_isComparing_55 L xs m d k x1 1 g r)
theorem bX_isComparing_50 (L : Nat) (xs : Nat → Int32) (m d k : Nat) (n : Nat) (x1 : Int32) (g : a2_G) (r : a2_A) : bk L xs nX_isComparing nm_m104 m d k (n + 3) 50 [some (.ref cX), some (.int x1)] [] g r = BX_isComparing_50 L xs m d k x1 g r := by
  show _ = ((BX_isComparing_55 L xs m d k x1 1 g r) : Option fn_Z)
  refine (fs_r (n := n + 2) 1 (pc' := 51) (L' := [some (.ref cX), some (.int x1)]) (S' := [.int 1]) rfl).trans ?_
  refine (fs_go (n := n + 1) rfl (t := 55) rfl (by decide)).trans ?_
  exact bX_isComparing_55 L xs m d k (n + 0) x1 1 g r
def BX_isComparing_54 (L : Nat) (xs : Nat → Int32) (m d k : Nat) (x1 : Int32) (g : a2_G) (r : a2_A) : Option fn_Z := (BX_isComparing_55 L xs m d k x1 0 g r)
theorem bX_isComparing_54 (L : Nat) (xs : Nat → Int32) (m d k : Nat) (n : Nat) (x1 : Int32) (g : a2_G) (r : a2_A) : bk L xs nX_isComparing nm_m104 m d k (n + 2) 54 [some (.ref cX), some (.int x1)] [] g r = BX_isComparing_54 L xs m d k x1 g r := by
  show _ = ((BX_isComparing_55 L xs m d k x1 0 g r) : Option fn_Z)
  refine (fs_r (n := n + 1) 1 (pc' := 55) (L' := [some (.ref cX), some (.int x1)]) (S' := [.int 0]) rfl).trans ?_
  exact bX_isComparing_55 L xs m d k (n + 0) x1 0 g r
theorem eX_isComparing (L : Nat) (xs : Nat → Int32) (m d k : Nat) (n : Nat) (a1 : Int32) (g : a2_G) (r : a2_A) : bk L xs nX_isComparing nm_m104 m d k (n + 27) 0 [some (.ref cX), some (.int a1)] [] g r = (fn_v (ev L xs m d nR_isReserved [.ref cR, .int 67, .int a1] g r) fun v3 g1 r2 => (if am_c2 .ne v3 0 = true then (BX_isComparing_50 L xs m d k a1 g1 r2) else (fn_v (ev L xs m d nR_isComparingWord [.ref cR, .int a1] g1 r2) fun v6 g4 r5 => (if am_c2 .ne v6 0 = true then (BX_isComparing_50 L xs m d k a1 g4 r5) else (fn_v (ev L xs m d nR_isReserved [.ref cR, .int 64, .int a1] g4 r5) fun v9 g7 r8 => (if am_c2 .eq v9 0 = true then (BX_isComparing_54 L xs m d k a1 g7 r8) else (fn_v (ev L xs m d nR_isComparingWord [.ref cR, .int (a1 + 1)] g7 r8) fun v12 g10 r11 => (if am_c2 .eq v12 0 = true then (BX_isComparing_54 L xs m d k a1 g10 r11) else (BX_isComparing_50 L xs m d k a1 g10 r11))))))))) := by
  refine (fs_r (n := n + 23) 4 (pc' := 7) (L' := [some (.ref cX), some (.int a1)]) (S' := [.int a1, .int 67, .ref cR]) rfl).trans ?_
  refine (fs_cv (n := n + 22) (N := nm_m52) (as := [.ref cR, .int 67, .int a1]) (rest := []) rfl rfl (Or.inl rfl) rfl rfl rfl rfl rfl).trans (fs_fv fun v3 g1 r2 => ?_)
  refine (fs_i (n := n + 21) rfl (t := 50) rfl (by decide)).trans (fs_ite ?_ ?_)
  · skip
    exact bX_isComparing_50 L xs m d k (n + 18) a1 g1 r2
  · skip
    refine (fs_r (n := n + 18) 3 (pc' := 18) (L' := [some (.ref cX), some (.int a1)]) (S' := [.int a1, .ref cR]) rfl).trans ?_
    refine (fs_cv (n := n + 17) (N := nm_m99) (as := [.ref cR, .int a1]) (rest := []) rfl rfl (Or.inl rfl) rfl rfl rfl rfl rfl).trans (fs_fv fun v6 g4 r5 => ?_)
    refine (fs_i (n := n + 16) rfl (t := 50) rfl (by decide)).trans (fs_ite ?_ ?_)
    · skip
      exact bX_isComparing_50 L xs m d k (n + 13) a1 g4 r5
    · skip
      refine (fs_r (n := n + 12) 4 (pc' := 31) (L' := [some (.ref cX), some (.int a1)]) (S' := [.int a1, .int 64, .ref cR]) rfl).trans ?_
      refine (fs_cv (n := n + 11) (N := nm_m52) (as := [.ref cR, .int 64, .int a1]) (rest := []) rfl rfl (Or.inl rfl) rfl rfl rfl rfl rfl).trans (fs_fv fun v9 g7 r8 => ?_)
      refine (fs_i (n := n + 10) rfl (t := 54) rfl (by decide)).trans (fs_ite ?_ ?_)
      · skip
        exact bX_isComparing_54 L xs m d k (n + 8) a1 g7 r8
      · skip
        refine (fs_r (n := n + 5) 5 (pc' := 44) (L' := [some (.ref cX), some (.int a1)]) (S' := [.int (a1 + 1), .ref cR]) rfl).trans ?_
        refine (fs_cv (n := n + 4) (N := nm_m99) (as := [.ref cR, .int (a1 + 1)]) (rest := []) rfl rfl (Or.inl rfl) rfl rfl rfl rfl rfl).trans (fs_fv fun v12 g10 r11 => ?_)
        refine (fs_i (n := n + 3) rfl (t := 54) rfl (by decide)).trans (fs_ite ?_ ?_)
        · skip
          exact bX_isComparing_54 L xs m d k (n + 1) a1 g10 r11
        · skip
          exact bX_isComparing_50 L xs m d k (n + 0) a1 g10 r11
theorem qX_isComparing (L : Nat) (xs : Nat → Int32) (m d : Nat) (a1 : Int32) (g : a2_G) (r : a2_A) : ev L xs (m + 1) (d + 1) nX_isComparing [.ref cX, .int a1] g r = (fn_v (ev L xs (m + 1) d nR_isReserved [.ref cR, .int 67, .int a1] g r) fun v3 g1 r2 => (if am_c2 .ne v3 0 = true then (BX_isComparing_50 L xs (m + 1) d m a1 g1 r2) else (fn_v (ev L xs (m + 1) d nR_isComparingWord [.ref cR, .int a1] g1 r2) fun v6 g4 r5 => (if am_c2 .ne v6 0 = true then (BX_isComparing_50 L xs (m + 1) d m a1 g4 r5) else (fn_v (ev L xs (m + 1) d nR_isReserved [.ref cR, .int 64, .int a1] g4 r5) fun v9 g7 r8 => (if am_c2 .eq v9 0 = true then (BX_isComparing_54 L xs (m + 1) d m a1 g7 r8) else (fn_v (ev L xs (m + 1) d nR_isComparingWord [.ref cR, .int (a1 + 1)] g7 r8) fun v12 g10 r11 => (if am_c2 .eq v12 0 = true then (BX_isComparing_54 L xs (m + 1) d m a1 g10 r11) else (BX_isComparing_50 L xs (m + 1) d m a1 g10 r11))))))))) := (fs_ev (M := nm_m104) rfl rfl).trans (eX_isComparing L xs (m + 1) d m 873 a1 g r)
/-- CobolParser$Expressions.conditionName(I)I -/
def BX_conditionName_36 (L : Nat) (xs : Nat → Int32) (m d k : Nat) (x1 : Int32) (g : a2_G) (r : a2_A) : Option fn_Z := (fn_v (ev L xs m d nR_value [.ref cR] g r) fun v6 g4 r5 => (fn_v (ev L xs m d nT_make [.ref cT, .int 54, .int v6, .int x1] g4 r5) fun v9 g7 r8 => (fn_n (ev L xs m d nR_advance [.ref cR] g7 r8) fun g10 r11 => (some (.inl (some (.int v9)), g10, r11)))))
theorem bX_conditionName_36 (L : Nat) (xs : Nat → Int32) (m d k : Nat) (n : Nat) (x1 : Int32) (g : a2_G) (r : a2_A) : bk L xs nX_conditionName nm_m105 m d k (n + 14) 36 [some (.ref cX), some (.int x1), none] [] g r = BX_conditionName_36 L xs m d k x1 g r := by
  show _ = ((fn_v (ev L xs m d nR_value [.ref cR] g r) fun v6 g4 r5 => (fn_v (ev L xs m d nT_make [.ref cT, .int 54, .int v6, .int x1] g4 r5) fun v9 g7 r8 => (fn_n (ev L xs m d nR_advance [.ref cR] g7 r8) fun g10 r11 => (some (.inl (some (.int v9)), g10, r11))))) : Option fn_Z)
  refine (fs_r (n := n + 9) 5 (pc' := 46) (L' := [some (.ref cX), some (.int x1), none]) (S' := [.ref cR, .int 54, .ref cT]) rfl).trans ?_
  refine (fs_cv (n := n + 8) (N := nm_m60) (as := [.ref cR]) (rest := [.int 54, .ref cT]) rfl rfl (Or.inl rfl) rfl rfl rfl rfl rfl).trans (fs_fv fun v6 g4 r5 => ?_)
  refine (fs_r (n := n + 7) 1 (pc' := 50) (L' := [some (.ref cX), some (.int x1), none]) (S' := [.int x1, .int v6, .int 54, .ref cT]) rfl).trans ?_
  refine (fs_cv (n := n + 6) (N := nm_m45) (as := [.ref cT, .int 54, .int v6, .int x1]) (rest := []) rfl rfl (Or.inl rfl) rfl rfl rfl rfl rfl).trans (fs_fv fun v9 g7 r8 => ?_)
  refine (fs_r (n := n + 3) 3 (pc' := 58) (L' := [some (.ref cX), some (.int x1), some (.int v9)]) (S' := [.ref cR]) rfl).trans ?_
  refine (fs_cn (n := n + 2) (N := nm_m61) (as := [.ref cR]) (rest := []) rfl rfl (Or.inl rfl) rfl rfl rfl rfl rfl).trans (fs_fn fun g10 r11 => ?_)
  refine (fs_r (n := n + 1) 1 (pc' := 62) (L' := [some (.ref cX), some (.int x1), some (.int v9)]) (S' := [.int v9]) rfl).trans ?_
  exact (fs_ri (n := n + 0) rfl rfl).trans rfl
def BX_conditionName_28 (L : Nat) (xs : Nat → Int32) (m d k : Nat) (x1 : Int32) (g : a2_G) (r : a2_A) : Option fn_Z := (fn_n (ev L xs m d nR_refuse [.ref cR, .int 1] g r) fun g15 r16 => (BX_conditionName_36 L xs m d k x1 g15 r16))
theorem bX_conditionName_28 (L : Nat) (xs : Nat → Int32) (m d k : Nat) (n : Nat) (x1 : Int32) (g : a2_G) (r : a2_A) : bk L xs nX_conditionName nm_m105 m d k (n + 18) 28 [some (.ref cX), some (.int x1), none] [] g r = BX_conditionName_28 L xs m d k x1 g r := by
  show _ = ((fn_n (ev L xs m d nR_refuse [.ref cR, .int 1] g r) fun g15 r16 => (BX_conditionName_36 L xs m d k x1 g15 r16)) : Option fn_Z)
  refine (fs_r (n := n + 15) 3 (pc' := 33) (L' := [some (.ref cX), some (.int x1), none]) (S' := [.int 1, .ref cR]) rfl).trans ?_
  refine (fs_cn (n := n + 14) (N := nm_m56) (as := [.ref cR, .int 1]) (rest := []) rfl rfl (Or.inl rfl) rfl rfl rfl rfl rfl).trans (fs_fn fun g15 r16 => ?_)
  exact bX_conditionName_36 L xs m d k (n + 0) x1 g15 r16
theorem eX_conditionName (L : Nat) (xs : Nat → Int32) (m d k : Nat) (n : Nat) (a1 : Int32) (g : a2_G) (r : a2_A) : bk L xs nX_conditionName nm_m105 m d k (n + 30) 0 [some (.ref cX), some (.int a1), none] [] g r = (fn_v (ev L xs m d nR_isKind [.ref cR, .int 1] g r) fun v3 g1 r2 => (if am_c2 .ne v3 0 = true then (BX_conditionName_36 L xs m d k a1 g1 r2) else (fn_v (ev L xs m d nR_isOperand [.ref cR] g1 r2) fun v14 g12 r13 => (if am_c2 .eq v14 0 = true then (BX_conditionName_28 L xs m d k a1 g12 r13) else (fn_n (ev L xs m d nR_advance [.ref cR] g12 r13) fun g17 r18 => (BX_conditionName_28 L xs m d k a1 g17 r18)))))) := by
  refine (fs_r (n := n + 27) 3 (pc' := 5) (L' := [some (.ref cX), some (.int a1), none]) (S' := [.int 1, .ref cR]) rfl).trans ?_
  refine (fs_cv (n := n + 26) (N := nm_m50) (as := [.ref cR, .int 1]) (rest := []) rfl rfl (Or.inl rfl) rfl rfl rfl rfl rfl).trans (fs_fv fun v3 g1 r2 => ?_)
  refine (fs_i (n := n + 25) rfl (t := 36) rfl (by decide)).trans (fs_ite ?_ ?_)
  · skip
    exact bX_conditionName_36 L xs m d k (n + 11) a1 g1 r2
  · skip
    refine (fs_r (n := n + 23) 2 (pc' := 15) (L' := [some (.ref cX), some (.int a1), none]) (S' := [.ref cR]) rfl).trans ?_
    refine (fs_cv (n := n + 22) (N := nm_m76) (as := [.ref cR]) (rest := []) rfl rfl (Or.inl rfl) rfl rfl rfl rfl rfl).trans (fs_fv fun v14 g12 r13 => ?_)
    refine (fs_i (n := n + 21) rfl (t := 28) rfl (by decide)).trans (fs_ite ?_ ?_)
    · skip
      exact bX_conditionName_28 L xs m d k (n + 3) a1 g12 r13
    · skip
      refine (fs_r (n := n + 19) 2 (pc' := 25) (L' := [some (.ref cX), some (.int a1), none]) (S' := [.ref cR]) rfl).trans ?_
      refine (fs_cn (n := n + 18) (N := nm_m61) (as := [.ref cR]) (rest := []) rfl rfl (Or.inl rfl) rfl rfl rfl rfl rfl).trans (fs_fn fun g17 r18 => ?_)
      exact bX_conditionName_28 L xs m d k (n + 0) a1 g17 r18
theorem qX_conditionName (L : Nat) (xs : Nat → Int32) (m d : Nat) (a1 : Int32) (g : a2_G) (r : a2_A) : ev L xs (m + 1) (d + 1) nX_conditionName [.ref cX, .int a1] g r = (fn_v (ev L xs (m + 1) d nR_isKind [.ref cR, .int 1] g r) fun v3 g1 r2 => (if am_c2 .ne v3 0 = true then (BX_conditionName_36 L xs (m + 1) d m a1 g1 r2) else (fn_v (ev L xs (m + 1) d nR_isOperand [.ref cR] g1 r2) fun v14 g12 r13 => (if am_c2 .eq v14 0 = true then (BX_conditionName_28 L xs (m + 1) d m a1 g12 r13) else (fn_n (ev L xs (m + 1) d nR_advance [.ref cR] g12 r13) fun g17 r18 => (BX_conditionName_28 L xs (m + 1) d m a1 g17 r18)))))) := (fs_ev (M := nm_m105) rfl rfl).trans (eX_conditionName L xs (m + 1) d m 870 a1 g r)
/-- CobolParser$Expressions.comparing()I -/
def BX_comparing_147 (L : Nat) (xs : Nat → Int32) (m d k : Nat) (x1 : Int32) (g : a2_G) (r : a2_A) : Option fn_Z := (fn_v (ev L xs m d nR_value [.ref cR] g r) fun v23 g21 r22 => (fn_n (ev L xs m d nR_advance [.ref cR] g21 r22) fun g24 r25 => (some (.inl (some (.int (x1 + (v23 - 2)))), g24, r25))))
theorem bX_comparing_147 (L : Nat) (xs : Nat → Int32) (m d k : Nat) (n : Nat) (x1 : Int32) (g : a2_G) (r : a2_A) : bk L xs nX_comparing nm_m106 m d k (n + 13) 147 [some (.ref cX), some (.int x1), none] [] g r = BX_comparing_147 L xs m d k x1 g r := by
  show _ = ((fn_v (ev L xs m d nR_value [.ref cR] g r) fun v23 g21 r22 => (fn_n (ev L xs m d nR_advance [.ref cR] g21 r22) fun g24 r25 => (some (.inl (some (.int (x1 + (v23 - 2)))), g24, r25)))) : Option fn_Z)
  refine (fs_r (n := n + 11) 2 (pc' := 151) (L' := [some (.ref cX), some (.int x1), none]) (S' := [.ref cR]) rfl).trans ?_
  refine (fs_cv (n := n + 10) (N := nm_m60) (as := [.ref cR]) (rest := []) rfl rfl (Or.inl rfl) rfl rfl rfl rfl rfl).trans (fs_fv fun v23 g21 r22 => ?_)
  refine (fs_r (n := n + 5) 5 (pc' := 161) (L' := [some (.ref cX), some (.int x1), some (.int (v23 - 2))]) (S' := [.ref cR]) rfl).trans ?_
  refine (fs_cn (n := n + 4) (N := nm_m61) (as := [.ref cR]) (rest := []) rfl rfl (Or.inl rfl) rfl rfl rfl rfl rfl).trans (fs_fn fun g24 r25 => ?_)
  refine (fs_r (n := n + 1) 3 (pc' := 167) (L' := [some (.ref cX), some (.int x1), some (.int (v23 - 2))]) (S' := [.int (x1 + (v23 - 2))]) rfl).trans ?_
  exact (fs_ri (n := n + 0) rfl rfl).trans rfl
def BX_comparing_139 (L : Nat) (xs : Nat → Int32) (m d k : Nat) (x1 : Int32) (g : a2_G) (r : a2_A) : Option fn_Z := (fn_n (ev L xs m d nR_refuse [.ref cR, .int 1] g r) fun g19 r20 => (BX_comparing_147 L xs m d k x1 g19 r20))
theorem bX_comparing_139 (L : Nat) (xs : Nat → Int32) (m d k : Nat) (n : Nat) (x1 : Int32) (g : a2_G) (r : a2_A) : bk L xs nX_comparing nm_m106 m d k (n + 17) 139 [some (.ref cX), some (.int x1), none] [] g r = BX_comparing_139 L xs m d k x1 g r := by
  show _ = ((fn_n (ev L xs m d nR_refuse [.ref cR, .int 1] g r) fun g19 r20 => (BX_comparing_147 L xs m d k x1 g19 r20)) : Option fn_Z)
  refine (fs_r (n := n + 14) 3 (pc' := 144) (L' := [some (.ref cX), some (.int x1), none]) (S' := [.int 1, .ref cR]) rfl).trans ?_
  refine (fs_cn (n := n + 13) (N := nm_m56) (as := [.ref cR, .int 1]) (rest := []) rfl rfl (Or.inl rfl) rfl rfl rfl rfl rfl).trans (fs_fn fun g19 r20 => ?_)
  exact bX_comparing_147 L xs m d k (n + 0) x1 g19 r20
def BX_comparing_27 (L : Nat) (xs : Nat → Int32) (m d k : Nat) (x1 : Int32) (g : a2_G) (r : a2_A) : Option fn_Z := (fn_v (ev L xs m d nR_skip [.ref cR, .int 68] g r) fun v9 g7 r8 => (if am_c2 .eq v9 0 = true then (fn_v (ev L xs m d nR_skip [.ref cR, .int 70] g7 r8) fun v12 g10 r11 => (if am_c2 .eq v12 0 = true then (fn_v (ev L xs m d nR_skip [.ref cR, .int 69] g10 r11) fun v15 g13 r14 => (if am_c2 .eq v15 0 = true then (fn_v (ev L xs m d nR_isKind [.ref cR, .int 5] g13 r14) fun v18 g16 r17 => (if am_c2 .eq v18 0 = true then (BX_comparing_139 L xs m d k x1 g16 r17) else (fn_v (ev L xs m d nR_value [.ref cR] g16 r17) fun v28 g26 r27 => (if am_c2 .lt v28 2 = true then (BX_comparing_139 L xs m d k x1 g26 r27) else (fn_v (ev L xs m d nR_value [.ref cR] g26 r27) fun v31 g29 r30 => (if am_c2 .le v31 4 = true then (BX_comparing_147 L xs m d k x1 g29 r30) else (BX_comparing_139 L xs m d k x1 g29 r30))))))) else (fn_v (ev L xs m d nR_skip [.ref cR, .int 71] g13 r14) fun v34 g32 r33 => (some (.inl (some (.int (x1 + 2))), g32, r33))))) else (fn_v (ev L xs m d nR_skip [.ref cR, .int 71] g10 r11) fun v37 g35 r36 => (some (.inl (some (.int (x1 + 1))), g35, r36))))) else (fn_v (ev L xs m d nR_skip [.ref cR, .int 48] g7 r8) fun v40 g38 r39 => (some (.inl (some (.int (x1 + 0))), g38, r39)))))
theorem bX_comparing_27 (L : Nat) (xs : Nat → Int32) (m d k : Nat) (n : Nat) (x1 : Int32) (g : a2_G) (r : a2_A) : bk L xs nX_comparing nm_m106 m d k (n + 48) 27 [some (.ref cX), none, none] [.int x1] g r = BX_comparing_27 L xs m d k x1 g r := by
  show _ = ((fn_v (ev L xs m d nR_skip [.ref cR, .int 68] g r) fun v9 g7 r8 => (if am_c2 .eq v9 0 = true then (fn_v (ev L xs m d nR_skip [.ref cR, .int 70] g7 r8) fun v12 g10 r11 => (if am_c2 .eq v12 0 = true then (fn_v (ev L xs m d nR_skip [.ref cR, .int 69] g10 r11) fun v15 g13 r14 => (if am_c2 .eq v15 0 = true then (fn_v (ev L xs m d nR_isKind [.ref cR, .int 5] g13 r14) fun v18 g16 r17 => (if am_c2 .eq v18 0 = true then (BX_comparing_139 L xs m d k x1 g16 r17) else (fn_v (ev L xs m d nR_value [.ref cR] g16 r17) fun v28 g26 r27 => (if am_c2 .lt v28 2 = true then (BX_comparing_139 L xs m d k x1 g26 r27) else (fn_v (ev L xs m d nR_value [.ref cR] g26 r27) fun v31 g29 r30 => (if am_c2 .le v31 4 = true then (BX_comparing_147 L xs m d k x1 g29 r30) else (BX_comparing_139 L xs m d k x1 g29 r30))))))) else (fn_v (ev L xs m d nR_skip [.ref cR, .int 71] g13 r14) fun v34 g32 r33 => (some (.inl (some (.int (x1 + 2))), g32, r33))))) else (fn_v (ev L xs m d nR_skip [.ref cR, .int 71] g10 r11) fun v37 g35 r36 => (some (.inl (some (.int (x1 + 1))), g35, r36))))) else (fn_v (ev L xs m d nR_skip [.ref cR, .int 48] g7 r8) fun v40 g38 r39 => (some (.inl (some (.int (x1 + 0))), g38, r39))))) : Option fn_Z)
  refine (fs_r (n := n + 44) 4 (pc' := 34) (L' := [some (.ref cX), some (.int x1), none]) (S' := [.int 68, .ref cR]) rfl).trans ?_
  refine (fs_cv (n := n + 43) (N := nm_m62) (as := [.ref cR, .int 68]) (rest := []) rfl rfl (Or.inl rfl) rfl rfl rfl rfl rfl).trans (fs_fv fun v9 g7 r8 => ?_)
  refine (fs_i (n := n + 42) rfl (t := 54) rfl (by decide)).trans (fs_ite ?_ ?_)
  · skip
    refine (fs_r (n := n + 39) 3 (pc' := 60) (L' := [some (.ref cX), some (.int x1), none]) (S' := [.int 70, .ref cR]) rfl).trans ?_
    refine (fs_cv (n := n + 38) (N := nm_m62) (as := [.ref cR, .int 70]) (rest := []) rfl rfl (Or.inl rfl) rfl rfl rfl rfl rfl).trans (fs_fv fun v12 g10 r11 => ?_)
    refine (fs_i (n := n + 37) rfl (t := 80) rfl (by decide)).trans (fs_ite ?_ ?_)
    · skip
      refine (fs_r (n := n + 34) 3 (pc' := 86) (L' := [some (.ref cX), some (.int x1), none]) (S' := [.int 69, .ref cR]) rfl).trans ?_
      refine (fs_cv (n := n + 33) (N := nm_m62) (as := [.ref cR, .int 69]) (rest := []) rfl rfl (Or.inl rfl) rfl rfl rfl rfl rfl).trans (fs_fv fun v15 g13 r14 => ?_)
      refine (fs_i (n := n + 32) rfl (t := 106) rfl (by decide)).trans (fs_ite ?_ ?_)
      · skip
        refine (fs_r (n := n + 29) 3 (pc' := 111) (L' := [some (.ref cX), some (.int x1), none]) (S' := [.int 5, .ref cR]) rfl).trans ?_
        refine (fs_cv (n := n + 28) (N := nm_m50) (as := [.ref cR, .int 5]) (rest := []) rfl rfl (Or.inl rfl) rfl rfl rfl rfl rfl).trans (fs_fv fun v18 g16 r17 => ?_)
        refine (fs_i (n := n + 27) rfl (t := 139) rfl (by decide)).trans (fs_ite ?_ ?_)
        · skip
          exact bX_comparing_139 L xs m d k (n + 10) x1 g16 r17
        · skip
          refine (fs_r (n := n + 25) 2 (pc' := 121) (L' := [some (.ref cX), some (.int x1), none]) (S' := [.ref cR]) rfl).trans ?_
          refine (fs_cv (n := n + 24) (N := nm_m60) (as := [.ref cR]) (rest := []) rfl rfl (Or.inl rfl) rfl rfl rfl rfl rfl).trans (fs_fv fun v28 g26 r27 => ?_)
          refine (fs_r (n := n + 23) 1 (pc' := 125) (L' := [some (.ref cX), some (.int x1), none]) (S' := [.int 2, .int v28]) rfl).trans ?_
          refine (fs_j (n := n + 22) rfl (t := 139) rfl (by decide)).trans (fs_ite ?_ ?_)
          · skip
            exact bX_comparing_139 L xs m d k (n + 5) x1 g26 r27
          · skip
            refine (fs_r (n := n + 20) 2 (pc' := 132) (L' := [some (.ref cX), some (.int x1), none]) (S' := [.ref cR]) rfl).trans ?_
            refine (fs_cv (n := n + 19) (N := nm_m60) (as := [.ref cR]) (rest := []) rfl rfl (Or.inl rfl) rfl rfl rfl rfl rfl).trans (fs_fv fun v31 g29 r30 => ?_)
            refine (fs_r (n := n + 18) 1 (pc' := 136) (L' := [some (.ref cX), some (.int x1), none]) (S' := [.int 4, .int v31]) rfl).trans ?_
            refine (fs_j (n := n + 17) rfl (t := 147) rfl (by decide)).trans (fs_ite ?_ ?_)
            · skip
              exact bX_comparing_147 L xs m d k (n + 4) x1 g29 r30
            · skip
              exact bX_comparing_139 L xs m d k (n + 0) x1 g29 r30
      · skip
        refine (fs_r (n := n + 29) 3 (pc' := 98) (L' := [some (.ref cX), some (.int x1), none]) (S' := [.int 71, .ref cR]) rfl).trans ?_
        refine (fs_cv (n := n + 28) (N := nm_m62) (as := [.ref cR, .int 71]) (rest := []) rfl rfl (Or.inl rfl) rfl rfl rfl rfl rfl).trans (fs_fv fun v34 g32 r33 => ?_)
        refine (fs_r (n := n + 24) 4 (pc' := 105) (L' := [some (.ref cX), some (.int x1), none]) (S' := [.int (x1 + 2)]) rfl).trans ?_
        exact (fs_ri (n := n + 23) rfl rfl).trans rfl
    · skip
      refine (fs_r (n := n + 34) 3 (pc' := 72) (L' := [some (.ref cX), some (.int x1), none]) (S' := [.int 71, .ref cR]) rfl).trans ?_
      refine (fs_cv (n := n + 33) (N := nm_m62) (as := [.ref cR, .int 71]) (rest := []) rfl rfl (Or.inl rfl) rfl rfl rfl rfl rfl).trans (fs_fv fun v37 g35 r36 => ?_)
      refine (fs_r (n := n + 29) 4 (pc' := 79) (L' := [some (.ref cX), some (.int x1), none]) (S' := [.int (x1 + 1)]) rfl).trans ?_
      exact (fs_ri (n := n + 28) rfl rfl).trans rfl
  · skip
    refine (fs_r (n := n + 39) 3 (pc' := 46) (L' := [some (.ref cX), some (.int x1), none]) (S' := [.int 48, .ref cR]) rfl).trans ?_
    refine (fs_cv (n := n + 38) (N := nm_m62) (as := [.ref cR, .int 48]) (rest := []) rfl rfl (Or.inl rfl) rfl rfl rfl rfl rfl).trans (fs_fv fun v40 g38 r39 => ?_)
    refine (fs_r (n := n + 34) 4 (pc' := 53) (L' := [some (.ref cX), some (.int x1), none]) (S' := [.int (x1 + 0)]) rfl).trans ?_
    exact (fs_ri (n := n + 33) rfl rfl).trans rfl
theorem eX_comparing (L : Nat) (xs : Nat → Int32) (m d k : Nat) (n : Nat) (g : a2_G) (r : a2_A) : bk L xs nX_comparing nm_m106 m d k (n + 60) 0 [some (.ref cX), none, none] [] g r = (fn_v (ev L xs m d nR_skip [.ref cR, .int 67] g r) fun v3 g1 r2 => (fn_v (ev L xs m d nR_skip [.ref cR, .int 64] g1 r2) fun v6 g4 r5 => (if am_c2 .eq v6 0 = true then (BX_comparing_27 L xs m d k 0 g4 r5) else (BX_comparing_27 L xs m d k 3 g4 r5)))) := by
  refine (fs_r (n := n + 57) 3 (pc' := 6) (L' := [some (.ref cX), none, none]) (S' := [.int 67, .ref cR]) rfl).trans ?_
  refine (fs_cv (n := n + 56) (N := nm_m62) (as := [.ref cR, .int 67]) (rest := []) rfl rfl (Or.inl rfl) rfl rfl rfl rfl rfl).trans (fs_fv fun v3 g1 r2 => ?_)
  refine (fs_r (n := n + 52) 4 (pc' := 16) (L' := [some (.ref cX), none, none]) (S' := [.int 64, .ref cR]) rfl).trans ?_
  refine (fs_cv (n := n + 51) (N := nm_m62) (as := [.ref cR, .int 64]) (rest := []) rfl rfl (Or.inl rfl) rfl rfl rfl rfl rfl).trans (fs_fv fun v6 g4 r5 => ?_)
  refine (fs_i (n := n + 50) rfl (t := 26) rfl (by decide)).trans (fs_ite ?_ ?_)
  · skip
    refine (fs_r (n := n + 49) 1 (pc' := 27) (L' := [some (.ref cX), none, none]) (S' := [.int 0]) rfl).trans ?_
    exact bX_comparing_27 L xs m d k (n + 1) 0 g4 r5
  · skip
    refine (fs_r (n := n + 49) 1 (pc' := 23) (L' := [some (.ref cX), none, none]) (S' := [.int 3]) rfl).trans ?_
    refine (fs_go (n := n + 48) rfl (t := 27) rfl (by decide)).trans ?_
    exact bX_comparing_27 L xs m d k (n + 0) 3 g4 r5
theorem qX_comparing (L : Nat) (xs : Nat → Int32) (m d : Nat) (g : a2_G) (r : a2_A) : ev L xs (m + 1) (d + 1) nX_comparing [.ref cX] g r = (fn_v (ev L xs (m + 1) d nR_skip [.ref cR, .int 67] g r) fun v3 g1 r2 => (fn_v (ev L xs (m + 1) d nR_skip [.ref cR, .int 64] g1 r2) fun v6 g4 r5 => (if am_c2 .eq v6 0 = true then (BX_comparing_27 L xs (m + 1) d m 0 g4 r5) else (BX_comparing_27 L xs (m + 1) d m 3 g4 r5)))) := (fs_ev (M := nm_m106) rfl rfl).trans (eX_comparing L xs (m + 1) d m 840 g r)
/-- CobolParser$Expressions.join(III)I -/
theorem eX_join (L : Nat) (xs : Nat → Int32) (m d k : Nat) (n : Nat) (a1 a2 a3 : Int32) (g : a2_G) (r : a2_A) : bk L xs nX_join nm_m107 m d k (n + 18) 0 [some (.ref cX), some (.int a1), some (.int a2), some (.int a3), none] [] g r = (fn_v (ev L xs m d nT_get [.ref cT, .int a3, .int 2] g r) fun v3 g1 r2 => (fn_v (ev L xs m d nT_make [.ref cT, .int a1, .int a2, .int v3] g1 r2) fun v6 g4 r5 => (fn_n (ev L xs m d nT_append [.ref cT, .int v6, .int a3] g4 r5) fun g7 r8 => (some (.inl (some (.int v6)), g7, r8))))) := by
  refine (fs_r (n := n + 10) 8 (pc' := 12) (L' := [some (.ref cX), some (.int a1), some (.int a2), some (.int a3), none]) (S' := [.int 2, .int a3, .ref cT, .int a2, .int a1, .ref cT]) rfl).trans ?_
  refine (fs_cv (n := n + 9) (N := nm_m17) (as := [.ref cT, .int a3, .int 2]) (rest := [.int a2, .int a1, .ref cT]) rfl rfl (Or.inl rfl) rfl rfl rfl rfl rfl).trans (fs_fv fun v3 g1 r2 => ?_)
  refine (fs_cv (n := n + 8) (N := nm_m45) (as := [.ref cT, .int a1, .int a2, .int v3]) (rest := []) rfl rfl (Or.inl rfl) rfl rfl rfl rfl rfl).trans (fs_fv fun v6 g4 r5 => ?_)
  refine (fs_r (n := n + 3) 5 (pc' := 27) (L' := [some (.ref cX), some (.int a1), some (.int a2), some (.int a3), some (.int v6)]) (S' := [.int a3, .int v6, .ref cT]) rfl).trans ?_
  refine (fs_cn (n := n + 2) (N := nm_m63) (as := [.ref cT, .int v6, .int a3]) (rest := []) rfl rfl (Or.inl rfl) rfl rfl rfl rfl rfl).trans (fs_fn fun g7 r8 => ?_)
  refine (fs_r (n := n + 1) 1 (pc' := 32) (L' := [some (.ref cX), some (.int a1), some (.int a2), some (.int a3), some (.int v6)]) (S' := [.int v6]) rfl).trans ?_
  exact (fs_ri (n := n + 0) rfl rfl).trans rfl
theorem qX_join (L : Nat) (xs : Nat → Int32) (m d : Nat) (a1 a2 a3 : Int32) (g : a2_G) (r : a2_A) : ev L xs (m + 1) (d + 1) nX_join [.ref cX, .int a1, .int a2, .int a3] g r = (fn_v (ev L xs (m + 1) d nT_get [.ref cT, .int a3, .int 2] g r) fun v3 g1 r2 => (fn_v (ev L xs (m + 1) d nT_make [.ref cT, .int a1, .int a2, .int v3] g1 r2) fun v6 g4 r5 => (fn_n (ev L xs (m + 1) d nT_append [.ref cT, .int v6, .int a3] g4 r5) fun g7 r8 => (some (.inl (some (.int v6)), g7, r8))))) := (fs_ev (M := nm_m107) rfl rfl).trans (eX_join L xs (m + 1) d m 882 a1 a2 a3 g r)
/-- CobolParser$Statements.branch(I)I -/
theorem eS_branch (L : Nat) (xs : Nat → Int32) (m d k : Nat) (n : Nat) (a1 : Int32) (g : a2_G) (r : a2_A) : bk L xs nS_branch nm_m108 m d k (n + 24) 0 [some (.ref cS), some (.int a1), none] [] g r = (fn_v (ev L xs m d nR_isReserved [.ref cR, .int 54, .int 0] g r) fun v3 g1 r2 => (if am_c2 .ne v3 0 = true then (fn_v (ev L xs m d nR_place [.ref cR] g1 r2) fun v6 g4 r5 => (fn_v (ev L xs m d nT_make [.ref cT, .int 42, .int 0, .int v6] g4 r5) fun v9 g7 r8 => (fn_n (ev L xs m d nR_advance [.ref cR] g7 r8) fun g10 r11 => (fn_n (ev L xs m d nR_require [.ref cR, .int 55] g10 r11) fun g12 r13 => (some (.inl (some (.int v9)), g12, r13)))))) else (fn_v (ev L xs m d nS_list [.ref cS, .int 40, .int (a1 + 1)] g1 r2) fun v16 g14 r15 => (some (.inl (some (.int v16)), g14, r15))))) := by
  refine (fs_r (n := n + 20) 4 (pc' := 7) (L' := [some (.ref cS), some (.int a1), none]) (S' := [.int 0, .int 54, .ref cR]) rfl).trans ?_
  refine (fs_cv (n := n + 19) (N := nm_m52) (as := [.ref cR, .int 54, .int 0]) (rest := []) rfl rfl (Or.inl rfl) rfl rfl rfl rfl rfl).trans (fs_fv fun v3 g1 r2 => ?_)
  refine (fs_i (n := n + 18) rfl (t := 23) rfl (by decide)).trans (fs_ite ?_ ?_)
  · skip
    refine (fs_r (n := n + 12) 6 (pc' := 34) (L' := [some (.ref cS), some (.int a1), none]) (S' := [.ref cR, .int 0, .int 42, .ref cT]) rfl).trans ?_
    refine (fs_cv (n := n + 11) (N := nm_m58) (as := [.ref cR]) (rest := [.int 0, .int 42, .ref cT]) rfl rfl (Or.inl rfl) rfl rfl rfl rfl rfl).trans (fs_fv fun v6 g4 r5 => ?_)
    refine (fs_cv (n := n + 10) (N := nm_m45) (as := [.ref cT, .int 42, .int 0, .int v6]) (rest := []) rfl rfl (Or.inl rfl) rfl rfl rfl rfl rfl).trans (fs_fv fun v9 g7 r8 => ?_)
    refine (fs_r (n := n + 7) 3 (pc' := 45) (L' := [some (.ref cS), some (.int a1), some (.int v9)]) (S' := [.ref cR]) rfl).trans ?_
    refine (fs_cn (n := n + 6) (N := nm_m61) (as := [.ref cR]) (rest := []) rfl rfl (Or.inl rfl) rfl rfl rfl rfl rfl).trans (fs_fn fun g10 r11 => ?_)
    refine (fs_r (n := n + 3) 3 (pc' := 54) (L' := [some (.ref cS), some (.int a1), some (.int v9)]) (S' := [.int 55, .ref cR]) rfl).trans ?_
    refine (fs_cn (n := n + 2) (N := nm_m83) (as := [.ref cR, .int 55]) (rest := []) rfl rfl (Or.inl rfl) rfl rfl rfl rfl rfl).trans (fs_fn fun g12 r13 => ?_)
    refine (fs_r (n := n + 1) 1 (pc' := 58) (L' := [some (.ref cS), some (.int a1), some (.int v9)]) (S' := [.int v9]) rfl).trans ?_
    exact (fs_ri (n := n + 0) rfl rfl).trans rfl
  · skip
    refine (fs_r (n := n + 13) 5 (pc' := 19) (L' := [some (.ref cS), some (.int a1), none]) (S' := [.int (a1 + 1), .int 40, .ref cS]) rfl).trans ?_
    refine (fs_cv (n := n + 12) (N := nm_m87) (as := [.ref cS, .int 40, .int (a1 + 1)]) (rest := []) rfl rfl (Or.inl rfl) rfl rfl rfl rfl rfl).trans (fs_fv fun v16 g14 r15 => ?_)
    exact (fs_ri (n := n + 11) rfl rfl).trans rfl
theorem qS_branch (L : Nat) (xs : Nat → Int32) (m d : Nat) (a1 : Int32) (g : a2_G) (r : a2_A) : ev L xs (m + 1) (d + 1) nS_branch [.ref cS, .int a1] g r = (fn_v (ev L xs (m + 1) d nR_isReserved [.ref cR, .int 54, .int 0] g r) fun v3 g1 r2 => (if am_c2 .ne v3 0 = true then (fn_v (ev L xs (m + 1) d nR_place [.ref cR] g1 r2) fun v6 g4 r5 => (fn_v (ev L xs (m + 1) d nT_make [.ref cT, .int 42, .int 0, .int v6] g4 r5) fun v9 g7 r8 => (fn_n (ev L xs (m + 1) d nR_advance [.ref cR] g7 r8) fun g10 r11 => (fn_n (ev L xs (m + 1) d nR_require [.ref cR, .int 55] g10 r11) fun g12 r13 => (some (.inl (some (.int v9)), g12, r13)))))) else (fn_v (ev L xs (m + 1) d nS_list [.ref cS, .int 40, .int (a1 + 1)] g1 r2) fun v16 g14 r15 => (some (.inl (some (.int v16)), g14, r15))))) := (fs_ev (M := nm_m108) rfl rfl).trans (eS_branch L xs (m + 1) d m 876 a1 g r)
/-- CobolParser$Statements.perform(I)I -/
def BS_perform_263 (L : Nat) (xs : Nat → Int32) (m d k : Nat) (x1 x2 x3 : Int32) (g : a2_G) (r : a2_A) : Option fn_Z := (some (.inl (some (.int x2)), g, r))
theorem bS_perform_263 (L : Nat) (xs : Nat → Int32) (m d k : Nat) (n : Nat) (x1 x2 x3 : Int32) (g : a2_G) (r : a2_A) : bk L xs nS_perform nm_m109 m d k (n + 2) 263 [some (.ref cS), some (.int x1), some (.int x2), some (.int x3), none] [] g r = BS_perform_263 L xs m d k x1 x2 x3 g r := by
  show _ = ((some (.inl (some (.int x2)), g, r)) : Option fn_Z)
  refine (fs_r (n := n + 1) 1 (pc' := 264) (L' := [some (.ref cS), some (.int x1), some (.int x2), some (.int x3), none]) (S' := [.int x2]) rfl).trans ?_
  exact (fs_ri (n := n + 0) rfl rfl).trans rfl
def BS_perform_213 (L : Nat) (xs : Nat → Int32) (m d k : Nat) (x1 x2 x3 : Int32) (g : a2_G) (r : a2_A) : Option fn_Z := (if am_c2 .ne x3 0 = true then (BS_perform_263 L xs m d k x1 x2 x3 g r) else (fn_v (ev L xs m d nS_list [.ref cS, .int 40, .int (x1 + 1)] g r) fun v14 g12 r13 => (fn_n (ev L xs m d nT_append [.ref cT, .int x2, .int v14] g12 r13) fun g15 r16 => (fn_n (ev L xs m d nR_require [.ref cR, .int 74] g15 r16) fun g17 r18 => (fn_n (ev L xs m d nT_set [.ref cT, .int x2, .int 1, .int 1] g17 r18) fun g19 r20 => (fn_n (ev L xs m d nT_set [.ref cT, .int x2, .int 3, .int 1] g19 r20) fun g21 r22 => (BS_perform_263 L xs m d k x1 x2 x3 g21 r22)))))))
theorem bS_perform_213 (L : Nat) (xs : Nat → Int32) (m d k : Nat) (n : Nat) (x1 x2 x3 : Int32) (g : a2_G) (r : a2_A) : bk L xs nS_perform nm_m109 m d k (n + 30) 213 [some (.ref cS), some (.int x1), some (.int x2), some (.int x3), none] [] g r = BS_perform_213 L xs m d k x1 x2 x3 g r := by
  show _ = ((if am_c2 .ne x3 0 = true then (BS_perform_263 L xs m d k x1 x2 x3 g r) else (fn_v (ev L xs m d nS_list [.ref cS, .int 40, .int (x1 + 1)] g r) fun v14 g12 r13 => (fn_n (ev L xs m d nT_append [.ref cT, .int x2, .int v14] g12 r13) fun g15 r16 => (fn_n (ev L xs m d nR_require [.ref cR, .int 74] g15 r16) fun g17 r18 => (fn_n (ev L xs m d nT_set [.ref cT, .int x2, .int 1, .int 1] g17 r18) fun g19 r20 => (fn_n (ev L xs m d nT_set [.ref cT, .int x2, .int 3, .int 1] g19 r20) fun g21 r22 => (BS_perform_263 L xs m d k x1 x2 x3 g21 r22))))))) : Option fn_Z)
  refine (fs_r (n := n + 29) 1 (pc' := 214) (L' := [some (.ref cS), some (.int x1), some (.int x2), some (.int x3), none]) (S' := [.int x3]) rfl).trans ?_
  refine (fs_i (n := n + 28) rfl (t := 263) rfl (by decide)).trans (fs_ite ?_ ?_)
  · skip
    exact bS_perform_263 L xs m d k (n + 26) x1 x2 x3 g r
  · skip
    refine (fs_r (n := n + 20) 8 (pc' := 228) (L' := [some (.ref cS), some (.int x1), some (.int x2), some (.int x3), none]) (S' := [.int (x1 + 1), .int 40, .ref cS, .int x2, .ref cT]) rfl).trans ?_
    refine (fs_cv (n := n + 19) (N := nm_m87) (as := [.ref cS, .int 40, .int (x1 + 1)]) (rest := [.int x2, .ref cT]) rfl rfl (Or.inl rfl) rfl rfl rfl rfl rfl).trans (fs_fv fun v14 g12 r13 => ?_)
    refine (fs_cn (n := n + 18) (N := nm_m63) (as := [.ref cT, .int x2, .int v14]) (rest := []) rfl rfl (Or.inl rfl) rfl rfl rfl rfl rfl).trans (fs_fn fun g15 r16 => ?_)
    refine (fs_r (n := n + 15) 3 (pc' := 240) (L' := [some (.ref cS), some (.int x1), some (.int x2), some (.int x3), none]) (S' := [.int 74, .ref cR]) rfl).trans ?_
    refine (fs_cn (n := n + 14) (N := nm_m83) (as := [.ref cR, .int 74]) (rest := []) rfl rfl (Or.inl rfl) rfl rfl rfl rfl rfl).trans (fs_fn fun g17 r18 => ?_)
    refine (fs_r (n := n + 9) 5 (pc' := 250) (L' := [some (.ref cS), some (.int x1), some (.int x2), some (.int x3), none]) (S' := [.int 1, .int 1, .int x2, .ref cT]) rfl).trans ?_
    refine (fs_cn (n := n + 8) (N := nm_m69) (as := [.ref cT, .int x2, .int 1, .int 1]) (rest := []) rfl rfl (Or.inl rfl) rfl rfl rfl rfl rfl).trans (fs_fn fun g19 r20 => ?_)
    refine (fs_r (n := n + 3) 5 (pc' := 260) (L' := [some (.ref cS), some (.int x1), some (.int x2), some (.int x3), none]) (S' := [.int 1, .int 3, .int x2, .ref cT]) rfl).trans ?_
    refine (fs_cn (n := n + 2) (N := nm_m69) (as := [.ref cT, .int x2, .int 3, .int 1]) (rest := []) rfl rfl (Or.inl rfl) rfl rfl rfl rfl rfl).trans (fs_fn fun g21 r22 => ?_)
    exact bS_perform_263 L xs m d k (n + 0) x1 x2 x3 g21 r22
def BS_perform_108 (L : Nat) (xs : Nat → Int32) (m d k : Nat) (x1 x2 x3 : Int32) (g : a2_G) (r : a2_A) : Option fn_Z := (fn_n (ev L xs m d nS_times [.ref cS, .int x2] g r) fun g10 r11 => (BS_perform_213 L xs m d k x1 x2 x3 g10 r11))
theorem bS_perform_108 (L : Nat) (xs : Nat → Int32) (m d k : Nat) (n : Nat) (x1 x2 x3 : Int32) (g : a2_G) (r : a2_A) : bk L xs nS_perform nm_m109 m d k (n + 34) 108 [some (.ref cS), some (.int x1), some (.int x2), some (.int x3), none] [] g r = BS_perform_108 L xs m d k x1 x2 x3 g r := by
  show _ = ((fn_n (ev L xs m d nS_times [.ref cS, .int x2] g r) fun g10 r11 => (BS_perform_213 L xs m d k x1 x2 x3 g10 r11)) : Option fn_Z)
  refine (fs_r (n := n + 32) 2 (pc' := 110) (L' := [some (.ref cS), some (.int x1), some (.int x2), some (.int x3), none]) (S' := [.int x2, .ref cS]) rfl).trans ?_
  refine (fs_cn (n := n + 31) (N := nm_m110) (as := [.ref cS, .int x2]) (rest := []) rfl rfl (Or.inl rfl) rfl rfl rfl rfl rfl).trans (fs_fn fun g10 r11 => ?_)
  refine (fs_go (n := n + 30) rfl (t := 213) rfl (by decide)).trans ?_
  exact bS_perform_213 L xs m d k (n + 0) x1 x2 x3 g10 r11
def BS_perform_263_1 (L : Nat) (xs : Nat → Int32) (m d k : Nat) (x1 x2 x3 x4 : Int32) (g : a2_G) (r : a2_A) : Option fn_Z := (some (.inl (some (.int x2)), g, r))
theorem bS_perform_263_1 (L : Nat) (xs : Nat → Int32) (m d k : Nat) (n : Nat) (x1 x2 x3 x4 : Int32) (g : a2_G) (r : a2_A) : bk L xs nS_perform nm_m109 m d k (n + 2) 263 [some (.ref cS), some (.int x1), some (.int x2), some (.int x3), some (.int x4)] [] g r = BS_perform_263_1 L xs m d k x1 x2 x3 x4 g r := by
  show _ = ((some (.inl (some (.int x2)), g, r)) : Option fn_Z)
  refine (fs_r (n := n + 1) 1 (pc' := 264) (L' := [some (.ref cS), some (.int x1), some (.int x2), some (.int x3), some (.int x4)]) (S' := [.int x2]) rfl).trans ?_
  exact (fs_ri (n := n + 0) rfl rfl).trans rfl
def BS_perform_213_1 (L : Nat) (xs : Nat → Int32) (m d k : Nat) (x1 x2 x3 x4 : Int32) (g : a2_G) (r : a2_A) : Option fn_Z := (if am_c2 .ne x3 0 = true then (BS_perform_263_1 L xs m d k x1 x2 x3 x4 g r) else (fn_v (ev L xs m d nS_list [.ref cS, .int 40, .int (x1 + 1)] g r) fun v44 g42 r43 => (fn_n (ev L xs m d nT_append [.ref cT, .int x2, .int v44] g42 r43) fun g45 r46 => (fn_n (ev L xs m d nR_require [.ref cR, .int 74] g45 r46) fun g47 r48 => (fn_n (ev L xs m d nT_set [.ref cT, .int x2, .int 1, .int 1] g47 r48) fun g49 r50 => (fn_n (ev L xs m d nT_set [.ref cT, .int x2, .int 3, .int 1] g49 r50) fun g51 r52 => (BS_perform_263_1 L xs m d k x1 x2 x3 x4 g51 r52)))))))
theorem bS_perform_213_1 (L : Nat) (xs : Nat → Int32) (m d k : Nat) (n : Nat) (x1 x2 x3 x4 : Int32) (g : a2_G) (r : a2_A) : bk L xs nS_perform nm_m109 m d k (n + 30) 213 [some (.ref cS), some (.int x1), some (.int x2), some (.int x3), some (.int x4)] [] g r = BS_perform_213_1 L xs m d k x1 x2 x3 x4 g r := by
  show _ = ((if am_c2 .ne x3 0 = true then (BS_perform_263_1 L xs m d k x1 x2 x3 x4 g r) else (fn_v (ev L xs m d nS_list [.ref cS, .int 40, .int (x1 + 1)] g r) fun v44 g42 r43 => (fn_n (ev L xs m d nT_append [.ref cT, .int x2, .int v44] g42 r43) fun g45 r46 => (fn_n (ev L xs m d nR_require [.ref cR, .int 74] g45 r46) fun g47 r48 => (fn_n (ev L xs m d nT_set [.ref cT, .int x2, .int 1, .int 1] g47 r48) fun g49 r50 => (fn_n (ev L xs m d nT_set [.ref cT, .int x2, .int 3, .int 1] g49 r50) fun g51 r52 => (BS_perform_263_1 L xs m d k x1 x2 x3 x4 g51 r52))))))) : Option fn_Z)
  refine (fs_r (n := n + 29) 1 (pc' := 214) (L' := [some (.ref cS), some (.int x1), some (.int x2), some (.int x3), some (.int x4)]) (S' := [.int x3]) rfl).trans ?_
  refine (fs_i (n := n + 28) rfl (t := 263) rfl (by decide)).trans (fs_ite ?_ ?_)
  · skip
    exact bS_perform_263_1 L xs m d k (n + 26) x1 x2 x3 x4 g r
  · skip
    refine (fs_r (n := n + 20) 8 (pc' := 228) (L' := [some (.ref cS), some (.int x1), some (.int x2), some (.int x3), some (.int x4)]) (S' := [.int (x1 + 1), .int 40, .ref cS, .int x2, .ref cT]) rfl).trans ?_
    refine (fs_cv (n := n + 19) (N := nm_m87) (as := [.ref cS, .int 40, .int (x1 + 1)]) (rest := [.int x2, .ref cT]) rfl rfl (Or.inl rfl) rfl rfl rfl rfl rfl).trans (fs_fv fun v44 g42 r43 => ?_)
    refine (fs_cn (n := n + 18) (N := nm_m63) (as := [.ref cT, .int x2, .int v44]) (rest := []) rfl rfl (Or.inl rfl) rfl rfl rfl rfl rfl).trans (fs_fn fun g45 r46 => ?_)
    refine (fs_r (n := n + 15) 3 (pc' := 240) (L' := [some (.ref cS), some (.int x1), some (.int x2), some (.int x3), some (.int x4)]) (S' := [.int 74, .ref cR]) rfl).trans ?_
    refine (fs_cn (n := n + 14) (N := nm_m83) (as := [.ref cR, .int 74]) (rest := []) rfl rfl (Or.inl rfl) rfl rfl rfl rfl rfl).trans (fs_fn fun g47 r48 => ?_)
    refine (fs_r (n := n + 9) 5 (pc' := 250) (L' := [some (.ref cS), some (.int x1), some (.int x2), some (.int x3), some (.int x4)]) (S' := [.int 1, .int 1, .int x2, .ref cT]) rfl).trans ?_
    refine (fs_cn (n := n + 8) (N := nm_m69) (as := [.ref cT, .int x2, .int 1, .int 1]) (rest := []) rfl rfl (Or.inl rfl) rfl rfl rfl rfl rfl).trans (fs_fn fun g49 r50 => ?_)
    refine (fs_r (n := n + 3) 5 (pc' := 260) (L' := [some (.ref cS), some (.int x1), some (.int x2), some (.int x3), some (.int x4)]) (S' := [.int 1, .int 3, .int x2, .ref cT]) rfl).trans ?_
    refine (fs_cn (n := n + 2) (N := nm_m69) (as := [.ref cT, .int x2, .int 3, .int 1]) (rest := []) rfl rfl (Or.inl rfl) rfl rfl rfl rfl rfl).trans (fs_fn fun g51 r52 => ?_)
    exact bS_perform_263_1 L xs m d k (n + 0) x1 x2 x3 x4 g51 r52
def BS_perform_116 (L : Nat) (xs : Nat → Int32) (m d k : Nat) (x1 x2 x3 : Int32) (g : a2_G) (r : a2_A) : Option fn_Z := (fn_v (ev L xs m d nR_isReserved [.ref cR, .int 56, .int 0] g r) fun v28 g26 r27 => (if am_c2 .eq v28 0 = true then (fn_v (ev L xs m d nR_isReserved [.ref cR, .int 57, .int 0] g26 r27) fun v31 g29 r30 => (if am_c2 .eq v31 0 = true then (BS_perform_213 L xs m d k x1 x2 x3 g29 r30) else (fn_v (ev L xs m d nS_varying [.ref cS, .int x2] g29 r30) fun v34 g32 r33 => (fn_n (ev L xs m d nR_require [.ref cR, .int 56] g32 r33) fun g35 r36 => (fn_v (ev L xs m d nX_condition [.ref cX, .int x1] g35 r36) fun v39 g37 r38 => (fn_n (ev L xs m d nT_append [.ref cT, .int v34, .int v39] g37 r38) fun g40 r41 => (BS_perform_213_1 L xs m d k x1 x2 x3 v34 g40 r41))))))) else (fn_v (ev L xs m d nS_phraseIn [.ref cS, .int x2, .int 44] g26 r27) fun v55 g53 r54 => (fn_n (ev L xs m d nR_require [.ref cR, .int 56] g53 r54) fun g56 r57 => (fn_v (ev L xs m d nX_condition [.ref cX, .int x1] g56 r57) fun v60 g58 r59 => (fn_n (ev L xs m d nT_append [.ref cT, .int v55, .int v60] g58 r59) fun g61 r62 => (BS_perform_213_1 L xs m d k x1 x2 x3 v55 g61 r62)))))))
theorem bS_perform_116 (L : Nat) (xs : Nat → Int32) (m d k : Nat) (n : Nat) (x1 x2 x3 : Int32) (g : a2_G) (r : a2_A) : bk L xs nS_perform nm_m109 m d k (n + 58) 116 [some (.ref cS), some (.int x1), some (.int x2), some (.int x3), none] [] g r = BS_perform_116 L xs m d k x1 x2 x3 g r := by
  show _ = ((fn_v (ev L xs m d nR_isReserved [.ref cR, .int 56, .int 0] g r) fun v28 g26 r27 => (if am_c2 .eq v28 0 = true then (fn_v (ev L xs m d nR_isReserved [.ref cR, .int 57, .int 0] g26 r27) fun v31 g29 r30 => (if am_c2 .eq v31 0 = true then (BS_perform_213 L xs m d k x1 x2 x3 g29 r30) else (fn_v (ev L xs m d nS_varying [.ref cS, .int x2] g29 r30) fun v34 g32 r33 => (fn_n (ev L xs m d nR_require [.ref cR, .int 56] g32 r33) fun g35 r36 => (fn_v (ev L xs m d nX_condition [.ref cX, .int x1] g35 r36) fun v39 g37 r38 => (fn_n (ev L xs m d nT_append [.ref cT, .int v34, .int v39] g37 r38) fun g40 r41 => (BS_perform_213_1 L xs m d k x1 x2 x3 v34 g40 r41))))))) else (fn_v (ev L xs m d nS_phraseIn [.ref cS, .int x2, .int 44] g26 r27) fun v55 g53 r54 => (fn_n (ev L xs m d nR_require [.ref cR, .int 56] g53 r54) fun g56 r57 => (fn_v (ev L xs m d nX_condition [.ref cX, .int x1] g56 r57) fun v60 g58 r59 => (fn_n (ev L xs m d nT_append [.ref cT, .int v55, .int v60] g58 r59) fun g61 r62 => (BS_perform_213_1 L xs m d k x1 x2 x3 v55 g61 r62))))))) : Option fn_Z)
  refine (fs_r (n := n + 54) 4 (pc' := 123) (L' := [some (.ref cS), some (.int x1), some (.int x2), some (.int x3), none]) (S' := [.int 0, .int 56, .ref cR]) rfl).trans ?_
  refine (fs_cv (n := n + 53) (N := nm_m52) (as := [.ref cR, .int 56, .int 0]) (rest := []) rfl rfl (Or.inl rfl) rfl rfl rfl rfl rfl).trans (fs_fv fun v28 g26 r27 => ?_)
  refine (fs_i (n := n + 52) rfl (t := 167) rfl (by decide)).trans (fs_ite ?_ ?_)
  · skip
    refine (fs_r (n := n + 48) 4 (pc' := 174) (L' := [some (.ref cS), some (.int x1), some (.int x2), some (.int x3), none]) (S' := [.int 0, .int 57, .ref cR]) rfl).trans ?_
    refine (fs_cv (n := n + 47) (N := nm_m52) (as := [.ref cR, .int 57, .int 0]) (rest := []) rfl rfl (Or.inl rfl) rfl rfl rfl rfl rfl).trans (fs_fv fun v31 g29 r30 => ?_)
    refine (fs_i (n := n + 46) rfl (t := 213) rfl (by decide)).trans (fs_ite ?_ ?_)
    · skip
      exact bS_perform_213 L xs m d k (n + 16) x1 x2 x3 g29 r30
    · skip
      refine (fs_r (n := n + 44) 2 (pc' := 182) (L' := [some (.ref cS), some (.int x1), some (.int x2), some (.int x3), none]) (S' := [.int x2, .ref cS]) rfl).trans ?_
      refine (fs_cv (n := n + 43) (N := nm_m112) (as := [.ref cS, .int x2]) (rest := []) rfl rfl (Or.inl rfl) rfl rfl rfl rfl rfl).trans (fs_fv fun v34 g32 r33 => ?_)
      refine (fs_r (n := n + 39) 4 (pc' := 193) (L' := [some (.ref cS), some (.int x1), some (.int x2), some (.int x3), some (.int v34)]) (S' := [.int 56, .ref cR]) rfl).trans ?_
      refine (fs_cn (n := n + 38) (N := nm_m83) (as := [.ref cR, .int 56]) (rest := []) rfl rfl (Or.inl rfl) rfl rfl rfl rfl rfl).trans (fs_fn fun g35 r36 => ?_)
      refine (fs_r (n := n + 32) 6 (pc' := 207) (L' := [some (.ref cS), some (.int x1), some (.int x2), some (.int x3), some (.int v34)]) (S' := [.int x1, .ref cX, .int v34, .ref cT]) rfl).trans ?_
      refine (fs_cv (n := n + 31) (N := nm_m96) (as := [.ref cX, .int x1]) (rest := [.int v34, .ref cT]) rfl rfl (Or.inr rfl) rfl rfl rfl rfl rfl).trans (fs_fv fun v39 g37 r38 => ?_)
      refine (fs_cn (n := n + 30) (N := nm_m63) (as := [.ref cT, .int v34, .int v39]) (rest := []) rfl rfl (Or.inl rfl) rfl rfl rfl rfl rfl).trans (fs_fn fun g40 r41 => ?_)
      exact bS_perform_213_1 L xs m d k (n + 0) x1 x2 x3 v34 g40 r41
  · skip
    refine (fs_r (n := n + 49) 3 (pc' := 133) (L' := [some (.ref cS), some (.int x1), some (.int x2), some (.int x3), none]) (S' := [.int 44, .int x2, .ref cS]) rfl).trans ?_
    refine (fs_cv (n := n + 48) (N := nm_m111) (as := [.ref cS, .int x2, .int 44]) (rest := []) rfl rfl (Or.inl rfl) rfl rfl rfl rfl rfl).trans (fs_fv fun v55 g53 r54 => ?_)
    refine (fs_r (n := n + 44) 4 (pc' := 144) (L' := [some (.ref cS), some (.int x1), some (.int x2), some (.int x3), some (.int v55)]) (S' := [.int 56, .ref cR]) rfl).trans ?_
    refine (fs_cn (n := n + 43) (N := nm_m83) (as := [.ref cR, .int 56]) (rest := []) rfl rfl (Or.inl rfl) rfl rfl rfl rfl rfl).trans (fs_fn fun g56 r57 => ?_)
    refine (fs_r (n := n + 37) 6 (pc' := 158) (L' := [some (.ref cS), some (.int x1), some (.int x2), some (.int x3), some (.int v55)]) (S' := [.int x1, .ref cX, .int v55, .ref cT]) rfl).trans ?_
    refine (fs_cv (n := n + 36) (N := nm_m96) (as := [.ref cX, .int x1]) (rest := [.int v55, .ref cT]) rfl rfl (Or.inr rfl) rfl rfl rfl rfl rfl).trans (fs_fv fun v60 g58 r59 => ?_)
    refine (fs_cn (n := n + 35) (N := nm_m63) (as := [.ref cT, .int v55, .int v60]) (rest := []) rfl rfl (Or.inl rfl) rfl rfl rfl rfl rfl).trans (fs_fn fun g61 r62 => ?_)
    refine (fs_go (n := n + 34) rfl (t := 213) rfl (by decide)).trans ?_
    exact bS_perform_213_1 L xs m d k (n + 4) x1 x2 x3 v55 g61 r62
def BS_perform_73 (L : Nat) (xs : Nat → Int32) (m d k : Nat) (x1 x2 x3 : Int32) (g : a2_G) (r : a2_A) : Option fn_Z := (fn_v (ev L xs m d nR_isKind [.ref cR, .int 2] g r) fun v9 g7 r8 => (if am_c2 .ne v9 0 = true then (BS_perform_108 L xs m d k x1 x2 x3 g7 r8) else (fn_v (ev L xs m d nR_isKind [.ref cR, .int 1] g7 r8) fun v25 g23 r24 => (if am_c2 .eq v25 0 = true then (BS_perform_116 L xs m d k x1 x2 x3 g23 r24) else (fn_v (ev L xs m d nR_isReserved [.ref cR, .int 23, .int 1] g23 r24) fun v65 g63 r64 => (if am_c2 .eq v65 0 = true then (BS_perform_116 L xs m d k x1 x2 x3 g63 r64) else (BS_perform_108 L xs m d k x1 x2 x3 g63 r64)))))))
theorem bS_perform_73 (L : Nat) (xs : Nat → Int32) (m d k : Nat) (n : Nat) (x1 x2 x3 : Int32) (g : a2_G) (r : a2_A) : bk L xs nS_perform nm_m109 m d k (n + 74) 73 [some (.ref cS), some (.int x1), some (.int x2), some (.int x3), none] [] g r = BS_perform_73 L xs m d k x1 x2 x3 g r := by
  show _ = ((fn_v (ev L xs m d nR_isKind [.ref cR, .int 2] g r) fun v9 g7 r8 => (if am_c2 .ne v9 0 = true then (BS_perform_108 L xs m d k x1 x2 x3 g7 r8) else (fn_v (ev L xs m d nR_isKind [.ref cR, .int 1] g7 r8) fun v25 g23 r24 => (if am_c2 .eq v25 0 = true then (BS_perform_116 L xs m d k x1 x2 x3 g23 r24) else (fn_v (ev L xs m d nR_isReserved [.ref cR, .int 23, .int 1] g23 r24) fun v65 g63 r64 => (if am_c2 .eq v65 0 = true then (BS_perform_116 L xs m d k x1 x2 x3 g63 r64) else (BS_perform_108 L xs m d k x1 x2 x3 g63 r64))))))) : Option fn_Z)
  refine (fs_r (n := n + 71) 3 (pc' := 78) (L' := [some (.ref cS), some (.int x1), some (.int x2), some (.int x3), none]) (S' := [.int 2, .ref cR]) rfl).trans ?_
  refine (fs_cv (n := n + 70) (N := nm_m50) (as := [.ref cR, .int 2]) (rest := []) rfl rfl (Or.inl rfl) rfl rfl rfl rfl rfl).trans (fs_fv fun v9 g7 r8 => ?_)
  refine (fs_i (n := n + 69) rfl (t := 108) rfl (by decide)).trans (fs_ite ?_ ?_)
  · skip
    exact bS_perform_108 L xs m d k (n + 35) x1 x2 x3 g7 r8
  · skip
    refine (fs_r (n := n + 66) 3 (pc' := 89) (L' := [some (.ref cS), some (.int x1), some (.int x2), some (.int x3), none]) (S' := [.int 1, .ref cR]) rfl).trans ?_
    refine (fs_cv (n := n + 65) (N := nm_m50) (as := [.ref cR, .int 1]) (rest := []) rfl rfl (Or.inl rfl) rfl rfl rfl rfl rfl).trans (fs_fv fun v25 g23 r24 => ?_)
    refine (fs_i (n := n + 64) rfl (t := 116) rfl (by decide)).trans (fs_ite ?_ ?_)
    · skip
      exact bS_perform_116 L xs m d k (n + 6) x1 x2 x3 g23 r24
    · skip
      refine (fs_r (n := n + 60) 4 (pc' := 102) (L' := [some (.ref cS), some (.int x1), some (.int x2), some (.int x3), none]) (S' := [.int 1, .int 23, .ref cR]) rfl).trans ?_
      refine (fs_cv (n := n + 59) (N := nm_m52) (as := [.ref cR, .int 23, .int 1]) (rest := []) rfl rfl (Or.inl rfl) rfl rfl rfl rfl rfl).trans (fs_fv fun v65 g63 r64 => ?_)
      refine (fs_i (n := n + 58) rfl (t := 116) rfl (by decide)).trans (fs_ite ?_ ?_)
      · skip
        exact bS_perform_116 L xs m d k (n + 0) x1 x2 x3 g63 r64
      · skip
        exact bS_perform_108 L xs m d k (n + 24) x1 x2 x3 g63 r64
def BS_perform_36 (L : Nat) (xs : Nat → Int32) (m d k : Nat) (x1 x2 x3 : Int32) (g : a2_G) (r : a2_A) : Option fn_Z := (if am_c2 .eq x3 0 = true then (BS_perform_73 L xs m d k x1 x2 x3 g r) else (fn_n (ev L xs m d nL_nameIn [.ref cL, .int x2, .int 41] g r) fun g66 r67 => (fn_v (ev L xs m d nR_skip [.ref cR, .int 21] g66 r67) fun v70 g68 r69 => (if am_c2 .eq v70 0 = true then (BS_perform_73 L xs m d k x1 x2 x3 g68 r69) else (fn_n (ev L xs m d nL_nameIn [.ref cL, .int x2, .int 41] g68 r69) fun g71 r72 => (BS_perform_73 L xs m d k x1 x2 x3 g71 r72))))))
theorem bS_perform_36 (L : Nat) (xs : Nat → Int32) (m d k : Nat) (n : Nat) (x1 x2 x3 : Int32) (g : a2_G) (r : a2_A) : bk L xs nS_perform nm_m109 m d k (n + 92) 36 [some (.ref cS), some (.int x1), some (.int x2), none, none] [.int x3] g r = BS_perform_36 L xs m d k x1 x2 x3 g r := by
  show _ = ((if am_c2 .eq x3 0 = true then (BS_perform_73 L xs m d k x1 x2 x3 g r) else (fn_n (ev L xs m d nL_nameIn [.ref cL, .int x2, .int 41] g r) fun g66 r67 => (fn_v (ev L xs m d nR_skip [.ref cR, .int 21] g66 r67) fun v70 g68 r69 => (if am_c2 .eq v70 0 = true then (BS_perform_73 L xs m d k x1 x2 x3 g68 r69) else (fn_n (ev L xs m d nL_nameIn [.ref cL, .int x2, .int 41] g68 r69) fun g71 r72 => (BS_perform_73 L xs m d k x1 x2 x3 g71 r72)))))) : Option fn_Z)
  refine (fs_r (n := n + 90) 2 (pc' := 38) (L' := [some (.ref cS), some (.int x1), some (.int x2), some (.int x3), none]) (S' := [.int x3]) rfl).trans ?_
  refine (fs_i (n := n + 89) rfl (t := 73) rfl (by decide)).trans (fs_ite ?_ ?_)
  · skip
    exact bS_perform_73 L xs m d k (n + 15) x1 x2 x3 g r
  · skip
    refine (fs_r (n := n + 85) 4 (pc' := 48) (L' := [some (.ref cS), some (.int x1), some (.int x2), some (.int x3), none]) (S' := [.int 41, .int x2, .ref cL]) rfl).trans ?_
    refine (fs_cn (n := n + 84) (N := nm_m79) (as := [.ref cL, .int x2, .int 41]) (rest := []) rfl rfl (Or.inl rfl) rfl rfl rfl rfl rfl).trans (fs_fn fun g66 r67 => ?_)
    refine (fs_r (n := n + 81) 3 (pc' := 57) (L' := [some (.ref cS), some (.int x1), some (.int x2), some (.int x3), none]) (S' := [.int 21, .ref cR]) rfl).trans ?_
    refine (fs_cv (n := n + 80) (N := nm_m62) (as := [.ref cR, .int 21]) (rest := []) rfl rfl (Or.inl rfl) rfl rfl rfl rfl rfl).trans (fs_fv fun v70 g68 r69 => ?_)
    refine (fs_i (n := n + 79) rfl (t := 73) rfl (by decide)).trans (fs_ite ?_ ?_)
    · skip
      exact bS_perform_73 L xs m d k (n + 5) x1 x2 x3 g68 r69
    · skip
      refine (fs_r (n := n + 75) 4 (pc' := 70) (L' := [some (.ref cS), some (.int x1), some (.int x2), some (.int x3), none]) (S' := [.int 41, .int x2, .ref cL]) rfl).trans ?_
      refine (fs_cn (n := n + 74) (N := nm_m79) (as := [.ref cL, .int x2, .int 41]) (rest := []) rfl rfl (Or.inl rfl) rfl rfl rfl rfl rfl).trans (fs_fn fun g71 r72 => ?_)
      exact bS_perform_73 L xs m d k (n + 0) x1 x2 x3 g71 r72
def BS_perform_35 (L : Nat) (xs : Nat → Int32) (m d k : Nat) (x1 x2 : Int32) (g : a2_G) (r : a2_A) : Option fn_Z := (BS_perform_36 L xs m d k x1 x2 0 g r)
theorem bS_perform_35 (L : Nat) (xs : Nat → Int32) (m d k : Nat) (n : Nat) (x1 x2 : Int32) (g : a2_G) (r : a2_A) : bk L xs nS_perform nm_m109 m d k (n + 93) 35 [some (.ref cS), some (.int x1), some (.int x2), none, none] [] g r = BS_perform_35 L xs m d k x1 x2 g r := by
  show _ = ((BS_perform_36 L xs m d k x1 x2 0 g r) : Option fn_Z)
  refine (fs_r (n := n + 92) 1 (pc' := 36) (L' := [some (.ref cS), some (.int x1), some (.int x2), none, none]) (S' := [.int 0]) rfl).trans ?_
  exact bS_perform_36 L xs m d k (n + 0) x1 x2 0 g r
theorem eS_perform (L : Nat) (xs : Nat → Int32) (m d k : Nat) (n : Nat) (a1 : Int32) (g : a2_G) (r : a2_A) : bk L xs nS_perform nm_m109 m d k (n + 109) 0 [some (.ref cS), some (.int a1), none, none, none] [] g r = (fn_v (ev L xs m d nS_begin [.ref cS, .int 29] g r) fun v3 g1 r2 => (fn_v (ev L xs m d nR_isKind [.ref cR, .int 1] g1 r2) fun v6 g4 r5 => (if am_c2 .eq v6 0 = true then (BS_perform_35 L xs m d k a1 v3 g4 r5) else (fn_v (ev L xs m d nR_isReserved [.ref cR, .int 23, .int 1] g4 r5) fun v75 g73 r74 => (if am_c2 .ne v75 0 = true then (BS_perform_35 L xs m d k a1 v3 g73 r74) else (BS_perform_36 L xs m d k a1 v3 1 g73 r74)))))) := by
  refine (fs_r (n := n + 107) 2 (pc' := 3) (L' := [some (.ref cS), some (.int a1), none, none, none]) (S' := [.int 29, .ref cS]) rfl).trans ?_
  refine (fs_cv (n := n + 106) (N := nm_m90) (as := [.ref cS, .int 29]) (rest := []) rfl rfl (Or.inl rfl) rfl rfl rfl rfl rfl).trans (fs_fv fun v3 g1 r2 => ?_)
  refine (fs_r (n := n + 102) 4 (pc' := 12) (L' := [some (.ref cS), some (.int a1), some (.int v3), none, none]) (S' := [.int 1, .ref cR]) rfl).trans ?_
  refine (fs_cv (n := n + 101) (N := nm_m50) (as := [.ref cR, .int 1]) (rest := []) rfl rfl (Or.inl rfl) rfl rfl rfl rfl rfl).trans (fs_fv fun v6 g4 r5 => ?_)
  refine (fs_i (n := n + 100) rfl (t := 35) rfl (by decide)).trans (fs_ite ?_ ?_)
  · skip
    exact bS_perform_35 L xs m d k (n + 7) a1 v3 g4 r5
  · skip
    refine (fs_r (n := n + 96) 4 (pc' := 25) (L' := [some (.ref cS), some (.int a1), some (.int v3), none, none]) (S' := [.int 1, .int 23, .ref cR]) rfl).trans ?_
    refine (fs_cv (n := n + 95) (N := nm_m52) (as := [.ref cR, .int 23, .int 1]) (rest := []) rfl rfl (Or.inl rfl) rfl rfl rfl rfl rfl).trans (fs_fv fun v75 g73 r74 => ?_)
    refine (fs_i (n := n + 94) rfl (t := 35) rfl (by decide)).trans (fs_ite ?_ ?_)
    · skip
      exact bS_perform_35 L xs m d k (n + 1) a1 v3 g73 r74
    · skip
      refine (fs_r (n := n + 93) 1 (pc' := 32) (L' := [some (.ref cS), some (.int a1), some (.int v3), none, none]) (S' := [.int 1]) rfl).trans ?_
      refine (fs_go (n := n + 92) rfl (t := 36) rfl (by decide)).trans ?_
      exact bS_perform_36 L xs m d k (n + 0) a1 v3 1 g73 r74
theorem qS_perform (L : Nat) (xs : Nat → Int32) (m d : Nat) (a1 : Int32) (g : a2_G) (r : a2_A) : ev L xs (m + 1) (d + 1) nS_perform [.ref cS, .int a1] g r = (fn_v (ev L xs (m + 1) d nS_begin [.ref cS, .int 29] g r) fun v3 g1 r2 => (fn_v (ev L xs (m + 1) d nR_isKind [.ref cR, .int 1] g1 r2) fun v6 g4 r5 => (if am_c2 .eq v6 0 = true then (BS_perform_35 L xs (m + 1) d m a1 v3 g4 r5) else (fn_v (ev L xs (m + 1) d nR_isReserved [.ref cR, .int 23, .int 1] g4 r5) fun v75 g73 r74 => (if am_c2 .ne v75 0 = true then (BS_perform_35 L xs (m + 1) d m a1 v3 g73 r74) else (BS_perform_36 L xs (m + 1) d m a1 v3 1 g73 r74)))))) := (fs_ev (M := nm_m109) rfl rfl).trans (eS_perform L xs (m + 1) d m 791 a1 g r)
/-- CobolParser$Statements.times(I)V -/
theorem eS_times (L : Nat) (xs : Nat → Int32) (m d k : Nat) (n : Nat) (a1 : Int32) (g : a2_G) (r : a2_A) : bk L xs nS_times nm_m110 m d k (n + 14) 0 [some (.ref cS), some (.int a1), none] [] g r = (fn_v (ev L xs m d nS_phraseIn [.ref cS, .int a1, .int 43] g r) fun v3 g1 r2 => (fn_n (ev L xs m d nL_operandIn [.ref cL, .int v3] g1 r2) fun g4 r5 => (fn_n (ev L xs m d nR_require [.ref cR, .int 23] g4 r5) fun g6 r7 => (some (.inl none, g6, r7))))) := by
  refine (fs_r (n := n + 11) 3 (pc' := 4) (L' := [some (.ref cS), some (.int a1), none]) (S' := [.int 43, .int a1, .ref cS]) rfl).trans ?_
  refine (fs_cv (n := n + 10) (N := nm_m111) (as := [.ref cS, .int a1, .int 43]) (rest := []) rfl rfl (Or.inl rfl) rfl rfl rfl rfl rfl).trans (fs_fv fun v3 g1 r2 => ?_)
  refine (fs_r (n := n + 6) 4 (pc' := 13) (L' := [some (.ref cS), some (.int a1), some (.int v3)]) (S' := [.int v3, .ref cL]) rfl).trans ?_
  refine (fs_cn (n := n + 5) (N := nm_m91) (as := [.ref cL, .int v3]) (rest := []) rfl rfl (Or.inl rfl) rfl rfl rfl rfl rfl).trans (fs_fn fun g4 r5 => ?_)
  refine (fs_r (n := n + 2) 3 (pc' := 22) (L' := [some (.ref cS), some (.int a1), some (.int v3)]) (S' := [.int 23, .ref cR]) rfl).trans ?_
  refine (fs_cn (n := n + 1) (N := nm_m83) (as := [.ref cR, .int 23]) (rest := []) rfl rfl (Or.inl rfl) rfl rfl rfl rfl rfl).trans (fs_fn fun g6 r7 => ?_)
  exact (fs_rv (n := n + 0) rfl rfl).trans rfl
theorem qS_times (L : Nat) (xs : Nat → Int32) (m d : Nat) (a1 : Int32) (g : a2_G) (r : a2_A) : ev L xs (m + 1) (d + 1) nS_times [.ref cS, .int a1] g r = (fn_v (ev L xs (m + 1) d nS_phraseIn [.ref cS, .int a1, .int 43] g r) fun v3 g1 r2 => (fn_n (ev L xs (m + 1) d nL_operandIn [.ref cL, .int v3] g1 r2) fun g4 r5 => (fn_n (ev L xs (m + 1) d nR_require [.ref cR, .int 23] g4 r5) fun g6 r7 => (some (.inl none, g6, r7))))) := (fs_ev (M := nm_m110) rfl rfl).trans (eS_times L xs (m + 1) d m 886 a1 g r)
/-- CobolParser$Statements.phraseIn(II)I -/
theorem eS_phraseIn (L : Nat) (xs : Nat → Int32) (m d k : Nat) (n : Nat) (a1 a2 : Int32) (g : a2_G) (r : a2_A) : bk L xs nS_phraseIn nm_m111 m d k (n + 16) 0 [some (.ref cS), some (.int a1), some (.int a2), none] [] g r = (fn_v (ev L xs m d nR_place [.ref cR] g r) fun v3 g1 r2 => (fn_v (ev L xs m d nT_make [.ref cT, .int a2, .int 0, .int v3] g1 r2) fun v6 g4 r5 => (fn_n (ev L xs m d nT_append [.ref cT, .int a1, .int v6] g4 r5) fun g7 r8 => (some (.inl (some (.int v6)), g7, r8))))) := by
  refine (fs_r (n := n + 10) 6 (pc' := 10) (L' := [some (.ref cS), some (.int a1), some (.int a2), none]) (S' := [.ref cR, .int 0, .int a2, .ref cT]) rfl).trans ?_
  refine (fs_cv (n := n + 9) (N := nm_m58) (as := [.ref cR]) (rest := [.int 0, .int a2, .ref cT]) rfl rfl (Or.inl rfl) rfl rfl rfl rfl rfl).trans (fs_fv fun v3 g1 r2 => ?_)
  refine (fs_cv (n := n + 8) (N := nm_m45) (as := [.ref cT, .int a2, .int 0, .int v3]) (rest := []) rfl rfl (Or.inl rfl) rfl rfl rfl rfl rfl).trans (fs_fv fun v6 g4 r5 => ?_)
  refine (fs_r (n := n + 3) 5 (pc' := 23) (L' := [some (.ref cS), some (.int a1), some (.int a2), some (.int v6)]) (S' := [.int v6, .int a1, .ref cT]) rfl).trans ?_
  refine (fs_cn (n := n + 2) (N := nm_m63) (as := [.ref cT, .int a1, .int v6]) (rest := []) rfl rfl (Or.inl rfl) rfl rfl rfl rfl rfl).trans (fs_fn fun g7 r8 => ?_)
  refine (fs_r (n := n + 1) 1 (pc' := 27) (L' := [some (.ref cS), some (.int a1), some (.int a2), some (.int v6)]) (S' := [.int v6]) rfl).trans ?_
  exact (fs_ri (n := n + 0) rfl rfl).trans rfl
theorem qS_phraseIn (L : Nat) (xs : Nat → Int32) (m d : Nat) (a1 a2 : Int32) (g : a2_G) (r : a2_A) : ev L xs (m + 1) (d + 1) nS_phraseIn [.ref cS, .int a1, .int a2] g r = (fn_v (ev L xs (m + 1) d nR_place [.ref cR] g r) fun v3 g1 r2 => (fn_v (ev L xs (m + 1) d nT_make [.ref cT, .int a2, .int 0, .int v3] g1 r2) fun v6 g4 r5 => (fn_n (ev L xs (m + 1) d nT_append [.ref cT, .int a1, .int v6] g4 r5) fun g7 r8 => (some (.inl (some (.int v6)), g7, r8))))) := (fs_ev (M := nm_m111) rfl rfl).trans (eS_phraseIn L xs (m + 1) d m 884 a1 a2 g r)
/-- CobolParser$Statements.varying(I)I -/
theorem eS_varying (L : Nat) (xs : Nat → Int32) (m d k : Nat) (n : Nat) (a1 : Int32) (g : a2_G) (r : a2_A) : bk L xs nS_varying nm_m112 m d k (n + 31) 0 [some (.ref cS), some (.int a1), none] [] g r = (fn_v (ev L xs m d nS_phraseIn [.ref cS, .int a1, .int 45] g r) fun v3 g1 r2 => (fn_n (ev L xs m d nR_advance [.ref cR] g1 r2) fun g4 r5 => (fn_n (ev L xs m d nL_nameIn [.ref cL, .int v3, .int 41] g4 r5) fun g6 r7 => (fn_n (ev L xs m d nR_require [.ref cR, .int 58] g6 r7) fun g8 r9 => (fn_n (ev L xs m d nL_operandIn [.ref cL, .int v3] g8 r9) fun g10 r11 => (fn_n (ev L xs m d nR_require [.ref cR, .int 25] g10 r11) fun g12 r13 => (fn_n (ev L xs m d nL_operandIn [.ref cL, .int v3] g12 r13) fun g14 r15 => (some (.inl (some (.int v3)), g14, r15))))))))) := by
  refine (fs_r (n := n + 28) 3 (pc' := 4) (L' := [some (.ref cS), some (.int a1), none]) (S' := [.int 45, .int a1, .ref cS]) rfl).trans ?_
  refine (fs_cv (n := n + 27) (N := nm_m111) (as := [.ref cS, .int a1, .int 45]) (rest := []) rfl rfl (Or.inl rfl) rfl rfl rfl rfl rfl).trans (fs_fv fun v3 g1 r2 => ?_)
  refine (fs_r (n := n + 24) 3 (pc' := 12) (L' := [some (.ref cS), some (.int a1), some (.int v3)]) (S' := [.ref cR]) rfl).trans ?_
  refine (fs_cn (n := n + 23) (N := nm_m61) (as := [.ref cR]) (rest := []) rfl rfl (Or.inl rfl) rfl rfl rfl rfl rfl).trans (fs_fn fun g4 r5 => ?_)
  refine (fs_r (n := n + 19) 4 (pc' := 22) (L' := [some (.ref cS), some (.int a1), some (.int v3)]) (S' := [.int 41, .int v3, .ref cL]) rfl).trans ?_
  refine (fs_cn (n := n + 18) (N := nm_m79) (as := [.ref cL, .int v3, .int 41]) (rest := []) rfl rfl (Or.inl rfl) rfl rfl rfl rfl rfl).trans (fs_fn fun g6 r7 => ?_)
  refine (fs_r (n := n + 15) 3 (pc' := 31) (L' := [some (.ref cS), some (.int a1), some (.int v3)]) (S' := [.int 58, .ref cR]) rfl).trans ?_
  refine (fs_cn (n := n + 14) (N := nm_m83) (as := [.ref cR, .int 58]) (rest := []) rfl rfl (Or.inl rfl) rfl rfl rfl rfl rfl).trans (fs_fn fun g8 r9 => ?_)
  refine (fs_r (n := n + 11) 3 (pc' := 39) (L' := [some (.ref cS), some (.int a1), some (.int v3)]) (S' := [.int v3, .ref cL]) rfl).trans ?_
  refine (fs_cn (n := n + 10) (N := nm_m91) (as := [.ref cL, .int v3]) (rest := []) rfl rfl (Or.inl rfl) rfl rfl rfl rfl rfl).trans (fs_fn fun g10 r11 => ?_)
  refine (fs_r (n := n + 7) 3 (pc' := 48) (L' := [some (.ref cS), some (.int a1), some (.int v3)]) (S' := [.int 25, .ref cR]) rfl).trans ?_
  refine (fs_cn (n := n + 6) (N := nm_m83) (as := [.ref cR, .int 25]) (rest := []) rfl rfl (Or.inl rfl) rfl rfl rfl rfl rfl).trans (fs_fn fun g12 r13 => ?_)
  refine (fs_r (n := n + 3) 3 (pc' := 56) (L' := [some (.ref cS), some (.int a1), some (.int v3)]) (S' := [.int v3, .ref cL]) rfl).trans ?_
  refine (fs_cn (n := n + 2) (N := nm_m91) (as := [.ref cL, .int v3]) (rest := []) rfl rfl (Or.inl rfl) rfl rfl rfl rfl rfl).trans (fs_fn fun g14 r15 => ?_)
  refine (fs_r (n := n + 1) 1 (pc' := 60) (L' := [some (.ref cS), some (.int a1), some (.int v3)]) (S' := [.int v3]) rfl).trans ?_
  exact (fs_ri (n := n + 0) rfl rfl).trans rfl
theorem qS_varying (L : Nat) (xs : Nat → Int32) (m d : Nat) (a1 : Int32) (g : a2_G) (r : a2_A) : ev L xs (m + 1) (d + 1) nS_varying [.ref cS, .int a1] g r = (fn_v (ev L xs (m + 1) d nS_phraseIn [.ref cS, .int a1, .int 45] g r) fun v3 g1 r2 => (fn_n (ev L xs (m + 1) d nR_advance [.ref cR] g1 r2) fun g4 r5 => (fn_n (ev L xs (m + 1) d nL_nameIn [.ref cL, .int v3, .int 41] g4 r5) fun g6 r7 => (fn_n (ev L xs (m + 1) d nR_require [.ref cR, .int 58] g6 r7) fun g8 r9 => (fn_n (ev L xs (m + 1) d nL_operandIn [.ref cL, .int v3] g8 r9) fun g10 r11 => (fn_n (ev L xs (m + 1) d nR_require [.ref cR, .int 25] g10 r11) fun g12 r13 => (fn_n (ev L xs (m + 1) d nL_operandIn [.ref cL, .int v3] g12 r13) fun g14 r15 => (some (.inl (some (.int v3)), g14, r15))))))))) := (fs_ev (M := nm_m112) rfl rfl).trans (eS_varying L xs (m + 1) d m 869 a1 g r)
/-- CobolParser$Statements.evaluate(I)I -/
def BS_evaluate_77 (L : Nat) (xs : Nat → Int32) (m d k : Nat) (x1 x2 x3 : Int32) (g : a2_G) (r : a2_A) : Option fn_Z := (fn_n (ev L xs m d nS_scopeEnd [.ref cS, .int x2, .int 75] g r) fun g9 r10 => (some (.inl (some (.int x2)), g9, r10)))
theorem bS_evaluate_77 (L : Nat) (xs : Nat → Int32) (m d k : Nat) (n : Nat) (x1 x2 x3 : Int32) (g : a2_G) (r : a2_A) : bk L xs nS_evaluate nm_m113 m d k (n + 6) 77 [some (.ref cS), some (.int x1), some (.int x2), some (.int x3)] [] g r = BS_evaluate_77 L xs m d k x1 x2 x3 g r := by
  show _ = ((fn_n (ev L xs m d nS_scopeEnd [.ref cS, .int x2, .int 75] g r) fun g9 r10 => (some (.inl (some (.int x2)), g9, r10))) : Option fn_Z)
  refine (fs_r (n := n + 3) 3 (pc' := 81) (L' := [some (.ref cS), some (.int x1), some (.int x2), some (.int x3)]) (S' := [.int 75, .int x2, .ref cS]) rfl).trans ?_
  refine (fs_cn (n := n + 2) (N := nm_m94) (as := [.ref cS, .int x2, .int 75]) (rest := []) rfl rfl (Or.inl rfl) rfl rfl rfl rfl rfl).trans (fs_fn fun g9 r10 => ?_)
  refine (fs_r (n := n + 1) 1 (pc' := 85) (L' := [some (.ref cS), some (.int x1), some (.int x2), some (.int x3)]) (S' := [.int x2]) rfl).trans ?_
  exact (fs_ri (n := n + 0) rfl rfl).trans rfl
def BS_evaluate_38 (L : Nat) (xs : Nat → Int32) (m d k : Nat) (x1 x2 x3 : Int32) (g : a2_G) (r : a2_A) : Option fn_Z := (if am_c2 .ge x3 1500 = true then (BS_evaluate_77 L xs m d k x1 x2 x3 g r) else (fn_v (ev L xs m d nR_isReserved [.ref cR, .int 59, .int 0] g r) fun v13 g11 r12 => (if am_c2 .eq v13 0 = true then (BS_evaluate_77 L xs m d k x1 x2 x3 g11 r12) else (fn_v (ev L xs m d nS_when [.ref cS, .int x1] g11 r12) fun v16 g14 r15 => (fn_n (ev L xs m d nT_append [.ref cT, .int x2, .int v16] g14 r15) fun g17 r18 => (lp L xs nS_evaluate nm_m113 m d k 38 [some (.ref cS), some (.int x1), some (.int x2), some (.int (x3 + 1))] g17 r18))))))
theorem bS_evaluate_38 (L : Nat) (xs : Nat → Int32) (m d k : Nat) (n : Nat) (x1 x2 x3 : Int32) (g : a2_G) (r : a2_A) : bk L xs nS_evaluate nm_m113 m d k (n + 18) 38 [some (.ref cS), some (.int x1), some (.int x2), some (.int x3)] [] g r = BS_evaluate_38 L xs m d k x1 x2 x3 g r := by
  show _ = ((if am_c2 .ge x3 1500 = true then (BS_evaluate_77 L xs m d k x1 x2 x3 g r) else (fn_v (ev L xs m d nR_isReserved [.ref cR, .int 59, .int 0] g r) fun v13 g11 r12 => (if am_c2 .eq v13 0 = true then (BS_evaluate_77 L xs m d k x1 x2 x3 g11 r12) else (fn_v (ev L xs m d nS_when [.ref cS, .int x1] g11 r12) fun v16 g14 r15 => (fn_n (ev L xs m d nT_append [.ref cT, .int x2, .int v16] g14 r15) fun g17 r18 => (lp L xs nS_evaluate nm_m113 m d k 38 [some (.ref cS), some (.int x1), some (.int x2), some (.int (x3 + 1))] g17 r18)))))) : Option fn_Z)
  refine (fs_r (n := n + 16) 2 (pc' := 42) (L' := [some (.ref cS), some (.int x1), some (.int x2), some (.int x3)]) (S' := [.int 1500, .int x3]) rfl).trans ?_
  refine (fs_j (n := n + 15) rfl (t := 77) rfl (by decide)).trans (fs_ite ?_ ?_)
  · skip
    exact bS_evaluate_77 L xs m d k (n + 9) x1 x2 x3 g r
  · skip
    refine (fs_r (n := n + 11) 4 (pc' := 52) (L' := [some (.ref cS), some (.int x1), some (.int x2), some (.int x3)]) (S' := [.int 0, .int 59, .ref cR]) rfl).trans ?_
    refine (fs_cv (n := n + 10) (N := nm_m52) (as := [.ref cR, .int 59, .int 0]) (rest := []) rfl rfl (Or.inl rfl) rfl rfl rfl rfl rfl).trans (fs_fv fun v13 g11 r12 => ?_)
    refine (fs_i (n := n + 9) rfl (t := 77) rfl (by decide)).trans (fs_ite ?_ ?_)
    · skip
      exact bS_evaluate_77 L xs m d k (n + 3) x1 x2 x3 g11 r12
    · skip
      refine (fs_r (n := n + 4) 5 (pc' := 65) (L' := [some (.ref cS), some (.int x1), some (.int x2), some (.int x3)]) (S' := [.int x1, .ref cS, .int x2, .ref cT]) rfl).trans ?_
      refine (fs_cv (n := n + 3) (N := nm_m114) (as := [.ref cS, .int x1]) (rest := [.int x2, .ref cT]) rfl rfl (Or.inl rfl) rfl rfl rfl rfl rfl).trans (fs_fv fun v16 g14 r15 => ?_)
      refine (fs_cn (n := n + 2) (N := nm_m63) (as := [.ref cT, .int x2, .int v16]) (rest := []) rfl rfl (Or.inl rfl) rfl rfl rfl rfl rfl).trans (fs_fn fun g17 r18 => ?_)
      refine (fs_r (n := n + 1) 1 (pc' := 74) (L' := [some (.ref cS), some (.int x1), some (.int x2), some (.int (x3 + 1))]) (S' := []) rfl).trans ?_
      exact (fs_gb (n := n + 0) rfl (t := 38) rfl (by decide)).trans rfl
theorem lS_evaluate_38 (L : Nat) (xs : Nat → Int32) (m d k : Nat) (x1 x2 x3 : Int32) (g : a2_G) (r : a2_A) : lp L xs nS_evaluate nm_m113 m d (k + 1) 38 [some (.ref cS), some (.int x1), some (.int x2), some (.int x3)] g r = BS_evaluate_38 L xs m d k x1 x2 x3 g r := fs_lp.trans (bS_evaluate_38 L xs m d k 882 x1 x2 x3 g r)
def BS_evaluate_36 (L : Nat) (xs : Nat → Int32) (m d k : Nat) (x1 x2 : Int32) (g : a2_G) (r : a2_A) : Option fn_Z := (BS_evaluate_38 L xs m d k x1 x2 0 g r)
theorem bS_evaluate_36 (L : Nat) (xs : Nat → Int32) (m d k : Nat) (n : Nat) (x1 x2 : Int32) (g : a2_G) (r : a2_A) : bk L xs nS_evaluate nm_m113 m d k (n + 20) 36 [some (.ref cS), some (.int x1), some (.int x2), none] [] g r = BS_evaluate_36 L xs m d k x1 x2 g r := by
  show _ = ((BS_evaluate_38 L xs m d k x1 x2 0 g r) : Option fn_Z)
  refine (fs_r (n := n + 18) 2 (pc' := 38) (L' := [some (.ref cS), some (.int x1), some (.int x2), some (.int 0)]) (S' := []) rfl).trans ?_
  exact bS_evaluate_38 L xs m d k (n + 0) x1 x2 0 g r
theorem eS_evaluate (L : Nat) (xs : Nat → Int32) (m d k : Nat) (n : Nat) (a1 : Int32) (g : a2_G) (r : a2_A) : bk L xs nS_evaluate nm_m113 m d k (n + 38) 0 [some (.ref cS), some (.int a1), none, none] [] g r = (fn_v (ev L xs m d nS_begin [.ref cS, .int 30] g r) fun v3 g1 r2 => (fn_n (ev L xs m d nL_operandIn [.ref cL, .int v3] g1 r2) fun g4 r5 => (fn_v (ev L xs m d nR_isReserved [.ref cR, .int 59, .int 0] g4 r5) fun v8 g6 r7 => (if am_c2 .ne v8 0 = true then (BS_evaluate_36 L xs m d k a1 v3 g6 r7) else (fn_n (ev L xs m d nR_refuse [.ref cR, .int 1] g6 r7) fun g19 r20 => (BS_evaluate_36 L xs m d k a1 v3 g19 r20)))))) := by
  refine (fs_r (n := n + 36) 2 (pc' := 3) (L' := [some (.ref cS), some (.int a1), none, none]) (S' := [.int 30, .ref cS]) rfl).trans ?_
  refine (fs_cv (n := n + 35) (N := nm_m90) (as := [.ref cS, .int 30]) (rest := []) rfl rfl (Or.inl rfl) rfl rfl rfl rfl rfl).trans (fs_fv fun v3 g1 r2 => ?_)
  refine (fs_r (n := n + 31) 4 (pc' := 12) (L' := [some (.ref cS), some (.int a1), some (.int v3), none]) (S' := [.int v3, .ref cL]) rfl).trans ?_
  refine (fs_cn (n := n + 30) (N := nm_m91) (as := [.ref cL, .int v3]) (rest := []) rfl rfl (Or.inl rfl) rfl rfl rfl rfl rfl).trans (fs_fn fun g4 r5 => ?_)
  refine (fs_r (n := n + 26) 4 (pc' := 22) (L' := [some (.ref cS), some (.int a1), some (.int v3), none]) (S' := [.int 0, .int 59, .ref cR]) rfl).trans ?_
  refine (fs_cv (n := n + 25) (N := nm_m52) (as := [.ref cR, .int 59, .int 0]) (rest := []) rfl rfl (Or.inl rfl) rfl rfl rfl rfl rfl).trans (fs_fv fun v8 g6 r7 => ?_)
  refine (fs_i (n := n + 24) rfl (t := 36) rfl (by decide)).trans (fs_ite ?_ ?_)
  · skip
    exact bS_evaluate_36 L xs m d k (n + 4) a1 v3 g6 r7
  · skip
    refine (fs_r (n := n + 21) 3 (pc' := 33) (L' := [some (.ref cS), some (.int a1), some (.int v3), none]) (S' := [.int 1, .ref cR]) rfl).trans ?_
    refine (fs_cn (n := n + 20) (N := nm_m56) (as := [.ref cR, .int 1]) (rest := []) rfl rfl (Or.inl rfl) rfl rfl rfl rfl rfl).trans (fs_fn fun g19 r20 => ?_)
    exact bS_evaluate_36 L xs m d k (n + 0) a1 v3 g19 r20
theorem qS_evaluate (L : Nat) (xs : Nat → Int32) (m d : Nat) (a1 : Int32) (g : a2_G) (r : a2_A) : ev L xs (m + 1) (d + 1) nS_evaluate [.ref cS, .int a1] g r = (fn_v (ev L xs (m + 1) d nS_begin [.ref cS, .int 30] g r) fun v3 g1 r2 => (fn_n (ev L xs (m + 1) d nL_operandIn [.ref cL, .int v3] g1 r2) fun g4 r5 => (fn_v (ev L xs (m + 1) d nR_isReserved [.ref cR, .int 59, .int 0] g4 r5) fun v8 g6 r7 => (if am_c2 .ne v8 0 = true then (BS_evaluate_36 L xs (m + 1) d m a1 v3 g6 r7) else (fn_n (ev L xs (m + 1) d nR_refuse [.ref cR, .int 1] g6 r7) fun g19 r20 => (BS_evaluate_36 L xs (m + 1) d m a1 v3 g19 r20)))))) := (fs_ev (M := nm_m113) rfl rfl).trans (eS_evaluate L xs (m + 1) d m 862 a1 g r)
/-- CobolParser$Statements.when(I)I -/
def BS_when_101 (L : Nat) (xs : Nat → Int32) (m d k : Nat) (x1 x2 x3 : Int32) (g : a2_G) (r : a2_A) : Option fn_Z := (fn_v (ev L xs m d nS_list [.ref cS, .int 40, .int (x1 + 1)] g r) fun v9 g7 r8 => (fn_n (ev L xs m d nT_append [.ref cT, .int x2, .int v9] g7 r8) fun g10 r11 => (some (.inl (some (.int x2)), g10, r11))))
theorem bS_when_101 (L : Nat) (xs : Nat → Int32) (m d k : Nat) (n : Nat) (x1 x2 x3 : Int32) (g : a2_G) (r : a2_A) : bk L xs nS_when nm_m114 m d k (n + 12) 101 [some (.ref cS), some (.int x1), some (.int x2), some (.int x3)] [] g r = BS_when_101 L xs m d k x1 x2 x3 g r := by
  show _ = ((fn_v (ev L xs m d nS_list [.ref cS, .int 40, .int (x1 + 1)] g r) fun v9 g7 r8 => (fn_n (ev L xs m d nT_append [.ref cT, .int x2, .int v9] g7 r8) fun g10 r11 => (some (.inl (some (.int x2)), g10, r11)))) : Option fn_Z)
  refine (fs_r (n := n + 4) 8 (pc' := 112) (L' := [some (.ref cS), some (.int x1), some (.int x2), some (.int x3)]) (S' := [.int (x1 + 1), .int 40, .ref cS, .int x2, .ref cT]) rfl).trans ?_
  refine (fs_cv (n := n + 3) (N := nm_m87) (as := [.ref cS, .int 40, .int (x1 + 1)]) (rest := [.int x2, .ref cT]) rfl rfl (Or.inl rfl) rfl rfl rfl rfl rfl).trans (fs_fv fun v9 g7 r8 => ?_)
  refine (fs_cn (n := n + 2) (N := nm_m63) (as := [.ref cT, .int x2, .int v9]) (rest := []) rfl rfl (Or.inl rfl) rfl rfl rfl rfl rfl).trans (fs_fn fun g10 r11 => ?_)
  refine (fs_r (n := n + 1) 1 (pc' := 119) (L' := [some (.ref cS), some (.int x1), some (.int x2), some (.int x3)]) (S' := [.int x2]) rfl).trans ?_
  exact (fs_ri (n := n + 0) rfl rfl).trans rfl
def BS_when_95 (L : Nat) (xs : Nat → Int32) (m d k : Nat) (x1 x2 x3 : Int32) (g : a2_G) (r : a2_A) : Option fn_Z := (lp L xs nS_when nm_m114 m d k 20 [some (.ref cS), some (.int x1), some (.int x2), some (.int (x3 + 1))] g r)
theorem bS_when_95 (L : Nat) (xs : Nat → Int32) (m d k : Nat) (n : Nat) (x1 x2 x3 : Int32) (g : a2_G) (r : a2_A) : bk L xs nS_when nm_m114 m d k (n + 2) 95 [some (.ref cS), some (.int x1), some (.int x2), some (.int x3)] [] g r = BS_when_95 L xs m d k x1 x2 x3 g r := by
  show _ = ((lp L xs nS_when nm_m114 m d k 20 [some (.ref cS), some (.int x1), some (.int x2), some (.int (x3 + 1))] g r) : Option fn_Z)
  refine (fs_r (n := n + 1) 1 (pc' := 98) (L' := [some (.ref cS), some (.int x1), some (.int x2), some (.int (x3 + 1))]) (S' := []) rfl).trans ?_
  exact (fs_gb (n := n + 0) rfl (t := 20) rfl (by decide)).trans rfl
def BS_when_20 (L : Nat) (xs : Nat → Int32) (m d k : Nat) (x1 x2 x3 : Int32) (g : a2_G) (r : a2_A) : Option fn_Z := (if am_c2 .ge x3 1500 = true then (BS_when_101 L xs m d k x1 x2 x3 g r) else (fn_v (ev L xs m d nR_skip [.ref cR, .int 59] g r) fun v14 g12 r13 => (if am_c2 .eq v14 0 = true then (BS_when_101 L xs m d k x1 x2 x3 g12 r13) else (fn_v (ev L xs m d nR_isReserved [.ref cR, .int 60, .int 0] g12 r13) fun v17 g15 r16 => (if am_c2 .eq v17 0 = true then (fn_n (ev L xs m d nL_operandIn [.ref cL, .int x2] g15 r16) fun g18 r19 => (BS_when_95 L xs m d k x1 x2 x3 g18 r19)) else (fn_v (ev L xs m d nR_place [.ref cR] g15 r16) fun v22 g20 r21 => (fn_v (ev L xs m d nT_make [.ref cT, .int 47, .int 0, .int v22] g20 r21) fun v25 g23 r24 => (fn_n (ev L xs m d nT_append [.ref cT, .int x2, .int v25] g23 r24) fun g26 r27 => (fn_n (ev L xs m d nR_advance [.ref cR] g26 r27) fun g28 r29 => (BS_when_95 L xs m d k x1 x2 x3 g28 r29))))))))))
theorem bS_when_20 (L : Nat) (xs : Nat → Int32) (m d k : Nat) (n : Nat) (x1 x2 x3 : Int32) (g : a2_G) (r : a2_A) : bk L xs nS_when nm_m114 m d k (n + 32) 20 [some (.ref cS), some (.int x1), some (.int x2), some (.int x3)] [] g r = BS_when_20 L xs m d k x1 x2 x3 g r := by
  show _ = ((if am_c2 .ge x3 1500 = true then (BS_when_101 L xs m d k x1 x2 x3 g r) else (fn_v (ev L xs m d nR_skip [.ref cR, .int 59] g r) fun v14 g12 r13 => (if am_c2 .eq v14 0 = true then (BS_when_101 L xs m d k x1 x2 x3 g12 r13) else (fn_v (ev L xs m d nR_isReserved [.ref cR, .int 60, .int 0] g12 r13) fun v17 g15 r16 => (if am_c2 .eq v17 0 = true then (fn_n (ev L xs m d nL_operandIn [.ref cL, .int x2] g15 r16) fun g18 r19 => (BS_when_95 L xs m d k x1 x2 x3 g18 r19)) else (fn_v (ev L xs m d nR_place [.ref cR] g15 r16) fun v22 g20 r21 => (fn_v (ev L xs m d nT_make [.ref cT, .int 47, .int 0, .int v22] g20 r21) fun v25 g23 r24 => (fn_n (ev L xs m d nT_append [.ref cT, .int x2, .int v25] g23 r24) fun g26 r27 => (fn_n (ev L xs m d nR_advance [.ref cR] g26 r27) fun g28 r29 => (BS_when_95 L xs m d k x1 x2 x3 g28 r29)))))))))) : Option fn_Z)
  refine (fs_r (n := n + 30) 2 (pc' := 24) (L' := [some (.ref cS), some (.int x1), some (.int x2), some (.int x3)]) (S' := [.int 1500, .int x3]) rfl).trans ?_
  refine (fs_j (n := n + 29) rfl (t := 101) rfl (by decide)).trans (fs_ite ?_ ?_)
  · skip
    exact bS_when_101 L xs m d k (n + 17) x1 x2 x3 g r
  · skip
    refine (fs_r (n := n + 26) 3 (pc' := 33) (L' := [some (.ref cS), some (.int x1), some (.int x2), some (.int x3)]) (S' := [.int 59, .ref cR]) rfl).trans ?_
    refine (fs_cv (n := n + 25) (N := nm_m62) (as := [.ref cR, .int 59]) (rest := []) rfl rfl (Or.inl rfl) rfl rfl rfl rfl rfl).trans (fs_fv fun v14 g12 r13 => ?_)
    refine (fs_i (n := n + 24) rfl (t := 101) rfl (by decide)).trans (fs_ite ?_ ?_)
    · skip
      exact bS_when_101 L xs m d k (n + 12) x1 x2 x3 g12 r13
    · skip
      refine (fs_r (n := n + 20) 4 (pc' := 46) (L' := [some (.ref cS), some (.int x1), some (.int x2), some (.int x3)]) (S' := [.int 0, .int 60, .ref cR]) rfl).trans ?_
      refine (fs_cv (n := n + 19) (N := nm_m52) (as := [.ref cR, .int 60, .int 0]) (rest := []) rfl rfl (Or.inl rfl) rfl rfl rfl rfl rfl).trans (fs_fv fun v17 g15 r16 => ?_)
      refine (fs_i (n := n + 18) rfl (t := 87) rfl (by decide)).trans (fs_ite ?_ ?_)
      · skip
        refine (fs_r (n := n + 15) 3 (pc' := 92) (L' := [some (.ref cS), some (.int x1), some (.int x2), some (.int x3)]) (S' := [.int x2, .ref cL]) rfl).trans ?_
        refine (fs_cn (n := n + 14) (N := nm_m91) (as := [.ref cL, .int x2]) (rest := []) rfl rfl (Or.inl rfl) rfl rfl rfl rfl rfl).trans (fs_fn fun g18 r19 => ?_)
        exact bS_when_95 L xs m d k (n + 12) x1 x2 x3 g18 r19
      · skip
        refine (fs_r (n := n + 9) 9 (pc' := 68) (L' := [some (.ref cS), some (.int x1), some (.int x2), some (.int x3)]) (S' := [.ref cR, .int 0, .int 47, .ref cT, .int x2, .ref cT]) rfl).trans ?_
        refine (fs_cv (n := n + 8) (N := nm_m58) (as := [.ref cR]) (rest := [.int 0, .int 47, .ref cT, .int x2, .ref cT]) rfl rfl (Or.inl rfl) rfl rfl rfl rfl rfl).trans (fs_fv fun v22 g20 r21 => ?_)
        refine (fs_cv (n := n + 7) (N := nm_m45) (as := [.ref cT, .int 47, .int 0, .int v22]) (rest := [.int x2, .ref cT]) rfl rfl (Or.inl rfl) rfl rfl rfl rfl rfl).trans (fs_fv fun v25 g23 r24 => ?_)
        refine (fs_cn (n := n + 6) (N := nm_m63) (as := [.ref cT, .int x2, .int v25]) (rest := []) rfl rfl (Or.inl rfl) rfl rfl rfl rfl rfl).trans (fs_fn fun g26 r27 => ?_)
        refine (fs_r (n := n + 4) 2 (pc' := 81) (L' := [some (.ref cS), some (.int x1), some (.int x2), some (.int x3)]) (S' := [.ref cR]) rfl).trans ?_
        refine (fs_cn (n := n + 3) (N := nm_m61) (as := [.ref cR]) (rest := []) rfl rfl (Or.inl rfl) rfl rfl rfl rfl rfl).trans (fs_fn fun g28 r29 => ?_)
        refine (fs_go (n := n + 2) rfl (t := 95) rfl (by decide)).trans ?_
        exact bS_when_95 L xs m d k (n + 0) x1 x2 x3 g28 r29
theorem lS_when_20 (L : Nat) (xs : Nat → Int32) (m d k : Nat) (x1 x2 x3 : Int32) (g : a2_G) (r : a2_A) : lp L xs nS_when nm_m114 m d (k + 1) 20 [some (.ref cS), some (.int x1), some (.int x2), some (.int x3)] g r = BS_when_20 L xs m d k x1 x2 x3 g r := fs_lp.trans (bS_when_20 L xs m d k 868 x1 x2 x3 g r)
theorem eS_when (L : Nat) (xs : Nat → Int32) (m d k : Nat) (n : Nat) (a1 : Int32) (g : a2_G) (r : a2_A) : bk L xs nS_when nm_m114 m d k (n + 43) 0 [some (.ref cS), some (.int a1), none, none] [] g r = (fn_v (ev L xs m d nR_place [.ref cR] g r) fun v3 g1 r2 => (fn_v (ev L xs m d nT_make [.ref cT, .int 46, .int 0, .int v3] g1 r2) fun v6 g4 r5 => (BS_when_20 L xs m d k a1 v6 0 g4 r5))) := by
  refine (fs_r (n := n + 37) 6 (pc' := 11) (L' := [some (.ref cS), some (.int a1), none, none]) (S' := [.ref cR, .int 0, .int 46, .ref cT]) rfl).trans ?_
  refine (fs_cv (n := n + 36) (N := nm_m58) (as := [.ref cR]) (rest := [.int 0, .int 46, .ref cT]) rfl rfl (Or.inl rfl) rfl rfl rfl rfl rfl).trans (fs_fv fun v3 g1 r2 => ?_)
  refine (fs_cv (n := n + 35) (N := nm_m45) (as := [.ref cT, .int 46, .int 0, .int v3]) (rest := []) rfl rfl (Or.inl rfl) rfl rfl rfl rfl rfl).trans (fs_fv fun v6 g4 r5 => ?_)
  refine (fs_r (n := n + 32) 3 (pc' := 20) (L' := [some (.ref cS), some (.int a1), some (.int v6), some (.int 0)]) (S' := []) rfl).trans ?_
  exact bS_when_20 L xs m d k (n + 0) a1 v6 0 g4 r5
theorem qS_when (L : Nat) (xs : Nat → Int32) (m d : Nat) (a1 : Int32) (g : a2_G) (r : a2_A) : ev L xs (m + 1) (d + 1) nS_when [.ref cS, .int a1] g r = (fn_v (ev L xs (m + 1) d nR_place [.ref cR] g r) fun v3 g1 r2 => (fn_v (ev L xs (m + 1) d nT_make [.ref cT, .int 46, .int 0, .int v3] g1 r2) fun v6 g4 r5 => (BS_when_20 L xs (m + 1) d m a1 v6 0 g4 r5))) := (fs_ev (M := nm_m114) rfl rfl).trans (eS_when L xs (m + 1) d m 857 a1 g r)
/-- CobolParser$Statements.read(I)I -/
def BS_read_62 (L : Nat) (xs : Nat → Int32) (m d k : Nat) (x1 x2 : Int32) (g : a2_G) (r : a2_A) : Option fn_Z := (fn_n (ev L xs m d nS_scopeEnd [.ref cS, .int x2, .int 76] g r) fun g12 r13 => (some (.inl (some (.int x2)), g12, r13)))
theorem bS_read_62 (L : Nat) (xs : Nat → Int32) (m d k : Nat) (n : Nat) (x1 x2 : Int32) (g : a2_G) (r : a2_A) : bk L xs nS_read nm_m115 m d k (n + 6) 62 [some (.ref cS), some (.int x1), some (.int x2)] [] g r = BS_read_62 L xs m d k x1 x2 g r := by
  show _ = ((fn_n (ev L xs m d nS_scopeEnd [.ref cS, .int x2, .int 76] g r) fun g12 r13 => (some (.inl (some (.int x2)), g12, r13))) : Option fn_Z)
  refine (fs_r (n := n + 3) 3 (pc' := 66) (L' := [some (.ref cS), some (.int x1), some (.int x2)]) (S' := [.int 76, .int x2, .ref cS]) rfl).trans ?_
  refine (fs_cn (n := n + 2) (N := nm_m94) (as := [.ref cS, .int x2, .int 76]) (rest := []) rfl rfl (Or.inl rfl) rfl rfl rfl rfl rfl).trans (fs_fn fun g12 r13 => ?_)
  refine (fs_r (n := n + 1) 1 (pc' := 70) (L' := [some (.ref cS), some (.int x1), some (.int x2)]) (S' := [.int x2]) rfl).trans ?_
  exact (fs_ri (n := n + 0) rfl rfl).trans rfl
theorem eS_read (L : Nat) (xs : Nat → Int32) (m d k : Nat) (n : Nat) (a1 : Int32) (g : a2_G) (r : a2_A) : bk L xs nS_read nm_m115 m d k (n + 38) 0 [some (.ref cS), some (.int a1), none] [] g r = (fn_v (ev L xs m d nS_begin [.ref cS, .int 31] g r) fun v3 g1 r2 => (fn_v (ev L xs m d nR_requireKind [.ref cR, .int 1] g1 r2) fun v6 g4 r5 => (fn_n (ev L xs m d nT_set [.ref cT, .int v3, .int 1, .int v6] g4 r5) fun g7 r8 => (fn_v (ev L xs m d nR_skip [.ref cR, .int 61] g7 r8) fun v11 g9 r10 => (if am_c2 .eq v11 0 = true then (BS_read_62 L xs m d k a1 v3 g9 r10) else (fn_n (ev L xs m d nR_require [.ref cR, .int 33] g9 r10) fun g14 r15 => (fn_v (ev L xs m d nS_list [.ref cS, .int 40, .int (a1 + 1)] g14 r15) fun v18 g16 r17 => (fn_n (ev L xs m d nT_append [.ref cT, .int v3, .int v18] g16 r17) fun g19 r20 => (BS_read_62 L xs m d k a1 v3 g19 r20))))))))) := by
  refine (fs_r (n := n + 36) 2 (pc' := 3) (L' := [some (.ref cS), some (.int a1), none]) (S' := [.int 31, .ref cS]) rfl).trans ?_
  refine (fs_cv (n := n + 35) (N := nm_m90) (as := [.ref cS, .int 31]) (rest := []) rfl rfl (Or.inl rfl) rfl rfl rfl rfl rfl).trans (fs_fv fun v3 g1 r2 => ?_)
  refine (fs_r (n := n + 27) 8 (pc' := 18) (L' := [some (.ref cS), some (.int a1), some (.int v3)]) (S' := [.int 1, .ref cR, .int 1, .int v3, .ref cT]) rfl).trans ?_
  refine (fs_cv (n := n + 26) (N := nm_m59) (as := [.ref cR, .int 1]) (rest := [.int 1, .int v3, .ref cT]) rfl rfl (Or.inl rfl) rfl rfl rfl rfl rfl).trans (fs_fv fun v6 g4 r5 => ?_)
  refine (fs_cn (n := n + 25) (N := nm_m69) (as := [.ref cT, .int v3, .int 1, .int v6]) (rest := []) rfl rfl (Or.inl rfl) rfl rfl rfl rfl rfl).trans (fs_fn fun g7 r8 => ?_)
  refine (fs_r (n := n + 22) 3 (pc' := 30) (L' := [some (.ref cS), some (.int a1), some (.int v3)]) (S' := [.int 61, .ref cR]) rfl).trans ?_
  refine (fs_cv (n := n + 21) (N := nm_m62) (as := [.ref cR, .int 61]) (rest := []) rfl rfl (Or.inl rfl) rfl rfl rfl rfl rfl).trans (fs_fv fun v11 g9 r10 => ?_)
  refine (fs_i (n := n + 20) rfl (t := 62) rfl (by decide)).trans (fs_ite ?_ ?_)
  · skip
    exact bS_read_62 L xs m d k (n + 14) a1 v3 g9 r10
  · skip
    refine (fs_r (n := n + 17) 3 (pc' := 42) (L' := [some (.ref cS), some (.int a1), some (.int v3)]) (S' := [.int 33, .ref cR]) rfl).trans ?_
    refine (fs_cn (n := n + 16) (N := nm_m83) (as := [.ref cR, .int 33]) (rest := []) rfl rfl (Or.inl rfl) rfl rfl rfl rfl rfl).trans (fs_fn fun g14 r15 => ?_)
    refine (fs_r (n := n + 8) 8 (pc' := 56) (L' := [some (.ref cS), some (.int a1), some (.int v3)]) (S' := [.int (a1 + 1), .int 40, .ref cS, .int v3, .ref cT]) rfl).trans ?_
    refine (fs_cv (n := n + 7) (N := nm_m87) (as := [.ref cS, .int 40, .int (a1 + 1)]) (rest := [.int v3, .ref cT]) rfl rfl (Or.inl rfl) rfl rfl rfl rfl rfl).trans (fs_fv fun v18 g16 r17 => ?_)
    refine (fs_cn (n := n + 6) (N := nm_m63) (as := [.ref cT, .int v3, .int v18]) (rest := []) rfl rfl (Or.inl rfl) rfl rfl rfl rfl rfl).trans (fs_fn fun g19 r20 => ?_)
    exact bS_read_62 L xs m d k (n + 0) a1 v3 g19 r20
theorem qS_read (L : Nat) (xs : Nat → Int32) (m d : Nat) (a1 : Int32) (g : a2_G) (r : a2_A) : ev L xs (m + 1) (d + 1) nS_read [.ref cS, .int a1] g r = (fn_v (ev L xs (m + 1) d nS_begin [.ref cS, .int 31] g r) fun v3 g1 r2 => (fn_v (ev L xs (m + 1) d nR_requireKind [.ref cR, .int 1] g1 r2) fun v6 g4 r5 => (fn_n (ev L xs (m + 1) d nT_set [.ref cT, .int v3, .int 1, .int v6] g4 r5) fun g7 r8 => (fn_v (ev L xs (m + 1) d nR_skip [.ref cR, .int 61] g7 r8) fun v11 g9 r10 => (if am_c2 .eq v11 0 = true then (BS_read_62 L xs (m + 1) d m a1 v3 g9 r10) else (fn_n (ev L xs (m + 1) d nR_require [.ref cR, .int 33] g9 r10) fun g14 r15 => (fn_v (ev L xs (m + 1) d nS_list [.ref cS, .int 40, .int (a1 + 1)] g14 r15) fun v18 g16 r17 => (fn_n (ev L xs (m + 1) d nT_append [.ref cT, .int v3, .int v18] g16 r17) fun g19 r20 => (BS_read_62 L xs (m + 1) d m a1 v3 g19 r20))))))))) := (fs_ev (M := nm_m115) rfl rfl).trans (eS_read L xs (m + 1) d m 862 a1 g r)
/-- CobolParser$Statements.call(I)I -/
def BS_call_85 (L : Nat) (xs : Nat → Int32) (m d k : Nat) (x1 x2 : Int32) (g : a2_G) (r : a2_A) : Option fn_Z := (fn_n (ev L xs m d nS_scopeEnd [.ref cS, .int x2, .int 77] g r) fun g15 r16 => (some (.inl (some (.int x2)), g15, r16)))
theorem bS_call_85 (L : Nat) (xs : Nat → Int32) (m d k : Nat) (n : Nat) (x1 x2 : Int32) (g : a2_G) (r : a2_A) : bk L xs nS_call nm_m116 m d k (n + 6) 85 [some (.ref cS), some (.int x1), some (.int x2)] [] g r = BS_call_85 L xs m d k x1 x2 g r := by
  show _ = ((fn_n (ev L xs m d nS_scopeEnd [.ref cS, .int x2, .int 77] g r) fun g15 r16 => (some (.inl (some (.int x2)), g15, r16))) : Option fn_Z)
  refine (fs_r (n := n + 3) 3 (pc' := 89) (L' := [some (.ref cS), some (.int x1), some (.int x2)]) (S' := [.int 77, .int x2, .ref cS]) rfl).trans ?_
  refine (fs_cn (n := n + 2) (N := nm_m94) (as := [.ref cS, .int x2, .int 77]) (rest := []) rfl rfl (Or.inl rfl) rfl rfl rfl rfl rfl).trans (fs_fn fun g15 r16 => ?_)
  refine (fs_r (n := n + 1) 1 (pc' := 93) (L' := [some (.ref cS), some (.int x1), some (.int x2)]) (S' := [.int x2]) rfl).trans ?_
  exact (fs_ri (n := n + 0) rfl rfl).trans rfl
def BS_call_56 (L : Nat) (xs : Nat → Int32) (m d k : Nat) (x1 x2 : Int32) (g : a2_G) (r : a2_A) : Option fn_Z := (fn_v (ev L xs m d nR_skip [.ref cR, .int 62] g r) fun v14 g12 r13 => (if am_c2 .eq v14 0 = true then (BS_call_85 L xs m d k x1 x2 g12 r13) else (fn_v (ev L xs m d nS_list [.ref cS, .int 40, .int (x1 + 1)] g12 r13) fun v19 g17 r18 => (fn_n (ev L xs m d nT_append [.ref cT, .int x2, .int v19] g17 r18) fun g20 r21 => (BS_call_85 L xs m d k x1 x2 g20 r21)))))
theorem bS_call_56 (L : Nat) (xs : Nat → Int32) (m d k : Nat) (n : Nat) (x1 x2 : Int32) (g : a2_G) (r : a2_A) : bk L xs nS_call nm_m116 m d k (n + 21) 56 [some (.ref cS), some (.int x1), some (.int x2)] [] g r = BS_call_56 L xs m d k x1 x2 g r := by
  show _ = ((fn_v (ev L xs m d nR_skip [.ref cR, .int 62] g r) fun v14 g12 r13 => (if am_c2 .eq v14 0 = true then (BS_call_85 L xs m d k x1 x2 g12 r13) else (fn_v (ev L xs m d nS_list [.ref cS, .int 40, .int (x1 + 1)] g12 r13) fun v19 g17 r18 => (fn_n (ev L xs m d nT_append [.ref cT, .int x2, .int v19] g17 r18) fun g20 r21 => (BS_call_85 L xs m d k x1 x2 g20 r21))))) : Option fn_Z)
  refine (fs_r (n := n + 18) 3 (pc' := 62) (L' := [some (.ref cS), some (.int x1), some (.int x2)]) (S' := [.int 62, .ref cR]) rfl).trans ?_
  refine (fs_cv (n := n + 17) (N := nm_m62) (as := [.ref cR, .int 62]) (rest := []) rfl rfl (Or.inl rfl) rfl rfl rfl rfl rfl).trans (fs_fv fun v14 g12 r13 => ?_)
  refine (fs_i (n := n + 16) rfl (t := 85) rfl (by decide)).trans (fs_ite ?_ ?_)
  · skip
    exact bS_call_85 L xs m d k (n + 10) x1 x2 g12 r13
  · skip
    refine (fs_r (n := n + 8) 8 (pc' := 79) (L' := [some (.ref cS), some (.int x1), some (.int x2)]) (S' := [.int (x1 + 1), .int 40, .ref cS, .int x2, .ref cT]) rfl).trans ?_
    refine (fs_cv (n := n + 7) (N := nm_m87) (as := [.ref cS, .int 40, .int (x1 + 1)]) (rest := [.int x2, .ref cT]) rfl rfl (Or.inl rfl) rfl rfl rfl rfl rfl).trans (fs_fv fun v19 g17 r18 => ?_)
    refine (fs_cn (n := n + 6) (N := nm_m63) (as := [.ref cT, .int x2, .int v19]) (rest := []) rfl rfl (Or.inl rfl) rfl rfl rfl rfl rfl).trans (fs_fn fun g20 r21 => ?_)
    exact bS_call_85 L xs m d k (n + 0) x1 x2 g20 r21
def BS_call_26 (L : Nat) (xs : Nat → Int32) (m d k : Nat) (x1 x2 : Int32) (g : a2_G) (r : a2_A) : Option fn_Z := (fn_n (ev L xs m d nL_operandIn [.ref cL, .int x2] g r) fun g7 r8 => (fn_v (ev L xs m d nR_skip [.ref cR, .int 31] g7 r8) fun v11 g9 r10 => (if am_c2 .eq v11 0 = true then (BS_call_56 L xs m d k x1 x2 g9 r10) else (fn_n (ev L xs m d nL_namesIn [.ref cL, .int x2, .int 21] g9 r10) fun g22 r23 => (BS_call_56 L xs m d k x1 x2 g22 r23)))))
theorem bS_call_26 (L : Nat) (xs : Nat → Int32) (m d k : Nat) (n : Nat) (x1 x2 : Int32) (g : a2_G) (r : a2_A) : bk L xs nS_call nm_m116 m d k (n + 35) 26 [some (.ref cS), some (.int x1), some (.int x2)] [] g r = BS_call_26 L xs m d k x1 x2 g r := by
  show _ = ((fn_n (ev L xs m d nL_operandIn [.ref cL, .int x2] g r) fun g7 r8 => (fn_v (ev L xs m d nR_skip [.ref cR, .int 31] g7 r8) fun v11 g9 r10 => (if am_c2 .eq v11 0 = true then (BS_call_56 L xs m d k x1 x2 g9 r10) else (fn_n (ev L xs m d nL_namesIn [.ref cL, .int x2, .int 21] g9 r10) fun g22 r23 => (BS_call_56 L xs m d k x1 x2 g22 r23))))) : Option fn_Z)
  refine (fs_r (n := n + 32) 3 (pc' := 31) (L' := [some (.ref cS), some (.int x1), some (.int x2)]) (S' := [.int x2, .ref cL]) rfl).trans ?_
  refine (fs_cn (n := n + 31) (N := nm_m91) (as := [.ref cL, .int x2]) (rest := []) rfl rfl (Or.inl rfl) rfl rfl rfl rfl rfl).trans (fs_fn fun g7 r8 => ?_)
  refine (fs_r (n := n + 28) 3 (pc' := 40) (L' := [some (.ref cS), some (.int x1), some (.int x2)]) (S' := [.int 31, .ref cR]) rfl).trans ?_
  refine (fs_cv (n := n + 27) (N := nm_m62) (as := [.ref cR, .int 31]) (rest := []) rfl rfl (Or.inl rfl) rfl rfl rfl rfl rfl).trans (fs_fv fun v11 g9 r10 => ?_)
  refine (fs_i (n := n + 26) rfl (t := 56) rfl (by decide)).trans (fs_ite ?_ ?_)
  · skip
    exact bS_call_56 L xs m d k (n + 5) x1 x2 g9 r10
  · skip
    refine (fs_r (n := n + 22) 4 (pc' := 53) (L' := [some (.ref cS), some (.int x1), some (.int x2)]) (S' := [.int 21, .int x2, .ref cL]) rfl).trans ?_
    refine (fs_cn (n := n + 21) (N := nm_m80) (as := [.ref cL, .int x2, .int 21]) (rest := []) rfl rfl (Or.inl rfl) rfl rfl rfl rfl rfl).trans (fs_fn fun g22 r23 => ?_)
    exact bS_call_56 L xs m d k (n + 0) x1 x2 g22 r23
theorem eS_call (L : Nat) (xs : Nat → Int32) (m d k : Nat) (n : Nat) (a1 : Int32) (g : a2_G) (r : a2_A) : bk L xs nS_call nm_m116 m d k (n + 48) 0 [some (.ref cS), some (.int a1), none] [] g r = (fn_v (ev L xs m d nS_begin [.ref cS, .int 32] g r) fun v3 g1 r2 => (fn_v (ev L xs m d nR_isKind [.ref cR, .int 2] g1 r2) fun v6 g4 r5 => (if am_c2 .eq v6 0 = true then (BS_call_26 L xs m d k a1 v3 g4 r5) else (fn_n (ev L xs m d nR_refuse [.ref cR, .int 1] g4 r5) fun g24 r25 => (BS_call_26 L xs m d k a1 v3 g24 r25))))) := by
  refine (fs_r (n := n + 46) 2 (pc' := 3) (L' := [some (.ref cS), some (.int a1), none]) (S' := [.int 32, .ref cS]) rfl).trans ?_
  refine (fs_cv (n := n + 45) (N := nm_m90) (as := [.ref cS, .int 32]) (rest := []) rfl rfl (Or.inl rfl) rfl rfl rfl rfl rfl).trans (fs_fv fun v3 g1 r2 => ?_)
  refine (fs_r (n := n + 41) 4 (pc' := 12) (L' := [some (.ref cS), some (.int a1), some (.int v3)]) (S' := [.int 2, .ref cR]) rfl).trans ?_
  refine (fs_cv (n := n + 40) (N := nm_m50) (as := [.ref cR, .int 2]) (rest := []) rfl rfl (Or.inl rfl) rfl rfl rfl rfl rfl).trans (fs_fv fun v6 g4 r5 => ?_)
  refine (fs_i (n := n + 39) rfl (t := 26) rfl (by decide)).trans (fs_ite ?_ ?_)
  · skip
    exact bS_call_26 L xs m d k (n + 4) a1 v3 g4 r5
  · skip
    refine (fs_r (n := n + 36) 3 (pc' := 23) (L' := [some (.ref cS), some (.int a1), some (.int v3)]) (S' := [.int 1, .ref cR]) rfl).trans ?_
    refine (fs_cn (n := n + 35) (N := nm_m56) (as := [.ref cR, .int 1]) (rest := []) rfl rfl (Or.inl rfl) rfl rfl rfl rfl rfl).trans (fs_fn fun g24 r25 => ?_)
    exact bS_call_26 L xs m d k (n + 0) a1 v3 g24 r25
theorem qS_call (L : Nat) (xs : Nat → Int32) (m d : Nat) (a1 : Int32) (g : a2_G) (r : a2_A) : ev L xs (m + 1) (d + 1) nS_call [.ref cS, .int a1] g r = (fn_v (ev L xs (m + 1) d nS_begin [.ref cS, .int 32] g r) fun v3 g1 r2 => (fn_v (ev L xs (m + 1) d nR_isKind [.ref cR, .int 2] g1 r2) fun v6 g4 r5 => (if am_c2 .eq v6 0 = true then (BS_call_26 L xs (m + 1) d m a1 v3 g4 r5) else (fn_n (ev L xs (m + 1) d nR_refuse [.ref cR, .int 1] g4 r5) fun g24 r25 => (BS_call_26 L xs (m + 1) d m a1 v3 g24 r25))))) := (fs_ev (M := nm_m116) rfl rfl).trans (eS_call L xs (m + 1) d m 852 a1 g r)
/-- CobolParser$Statements.display()I -/
theorem eS_display (L : Nat) (xs : Nat → Int32) (m d k : Nat) (n : Nat) (g : a2_G) (r : a2_A) : bk L xs nS_display nm_m117 m d k (n + 9) 0 [some (.ref cS), none] [] g r = (fn_v (ev L xs m d nS_begin [.ref cS, .int 33] g r) fun v3 g1 r2 => (fn_n (ev L xs m d nS_operandsIn [.ref cS, .int v3] g1 r2) fun g4 r5 => (some (.inl (some (.int v3)), g4, r5)))) := by
  refine (fs_r (n := n + 7) 2 (pc' := 3) (L' := [some (.ref cS), none]) (S' := [.int 33, .ref cS]) rfl).trans ?_
  refine (fs_cv (n := n + 6) (N := nm_m90) (as := [.ref cS, .int 33]) (rest := []) rfl rfl (Or.inl rfl) rfl rfl rfl rfl rfl).trans (fs_fv fun v3 g1 r2 => ?_)
  refine (fs_r (n := n + 3) 3 (pc' := 9) (L' := [some (.ref cS), some (.int v3)]) (S' := [.int v3, .ref cS]) rfl).trans ?_
  refine (fs_cn (n := n + 2) (N := nm_m93) (as := [.ref cS, .int v3]) (rest := []) rfl rfl (Or.inl rfl) rfl rfl rfl rfl rfl).trans (fs_fn fun g4 r5 => ?_)
  refine (fs_r (n := n + 1) 1 (pc' := 13) (L' := [some (.ref cS), some (.int v3)]) (S' := [.int v3]) rfl).trans ?_
  exact (fs_ri (n := n + 0) rfl rfl).trans rfl
theorem qS_display (L : Nat) (xs : Nat → Int32) (m d : Nat) (g : a2_G) (r : a2_A) : ev L xs (m + 1) (d + 1) nS_display [.ref cS] g r = (fn_v (ev L xs (m + 1) d nS_begin [.ref cS, .int 33] g r) fun v3 g1 r2 => (fn_n (ev L xs (m + 1) d nS_operandsIn [.ref cS, .int v3] g1 r2) fun g4 r5 => (some (.inl (some (.int v3)), g4, r5)))) := (fs_ev (M := nm_m117) rfl rfl).trans (eS_display L xs (m + 1) d m 891 g r)
/-- CobolParser$Statements.goTo()I -/
theorem eS_goTo (L : Nat) (xs : Nat → Int32) (m d k : Nat) (n : Nat) (g : a2_G) (r : a2_A) : bk L xs nS_goTo nm_m118 m d k (n + 20) 0 [some (.ref cS), none] [] g r = (fn_v (ev L xs m d nS_begin [.ref cS, .int 34] g r) fun v3 g1 r2 => (fn_v (ev L xs m d nR_skip [.ref cR, .int 48] g1 r2) fun v6 g4 r5 => (fn_v (ev L xs m d nR_requireKind [.ref cR, .int 1] g4 r5) fun v9 g7 r8 => (fn_n (ev L xs m d nT_set [.ref cT, .int v3, .int 1, .int v9] g7 r8) fun g10 r11 => (some (.inl (some (.int v3)), g10, r11)))))) := by
  refine (fs_r (n := n + 18) 2 (pc' := 3) (L' := [some (.ref cS), none]) (S' := [.int 34, .ref cS]) rfl).trans ?_
  refine (fs_cv (n := n + 17) (N := nm_m90) (as := [.ref cS, .int 34]) (rest := []) rfl rfl (Or.inl rfl) rfl rfl rfl rfl rfl).trans (fs_fv fun v3 g1 r2 => ?_)
  refine (fs_r (n := n + 13) 4 (pc' := 13) (L' := [some (.ref cS), some (.int v3)]) (S' := [.int 48, .ref cR]) rfl).trans ?_
  refine (fs_cv (n := n + 12) (N := nm_m62) (as := [.ref cR, .int 48]) (rest := []) rfl rfl (Or.inl rfl) rfl rfl rfl rfl rfl).trans (fs_fv fun v6 g4 r5 => ?_)
  refine (fs_r (n := n + 4) 8 (pc' := 28) (L' := [some (.ref cS), some (.int v3)]) (S' := [.int 1, .ref cR, .int 1, .int v3, .ref cT]) rfl).trans ?_
  refine (fs_cv (n := n + 3) (N := nm_m59) (as := [.ref cR, .int 1]) (rest := [.int 1, .int v3, .ref cT]) rfl rfl (Or.inl rfl) rfl rfl rfl rfl rfl).trans (fs_fv fun v9 g7 r8 => ?_)
  refine (fs_cn (n := n + 2) (N := nm_m69) (as := [.ref cT, .int v3, .int 1, .int v9]) (rest := []) rfl rfl (Or.inl rfl) rfl rfl rfl rfl rfl).trans (fs_fn fun g10 r11 => ?_)
  refine (fs_r (n := n + 1) 1 (pc' := 35) (L' := [some (.ref cS), some (.int v3)]) (S' := [.int v3]) rfl).trans ?_
  exact (fs_ri (n := n + 0) rfl rfl).trans rfl
theorem qS_goTo (L : Nat) (xs : Nat → Int32) (m d : Nat) (g : a2_G) (r : a2_A) : ev L xs (m + 1) (d + 1) nS_goTo [.ref cS] g r = (fn_v (ev L xs (m + 1) d nS_begin [.ref cS, .int 34] g r) fun v3 g1 r2 => (fn_v (ev L xs (m + 1) d nR_skip [.ref cR, .int 48] g1 r2) fun v6 g4 r5 => (fn_v (ev L xs (m + 1) d nR_requireKind [.ref cR, .int 1] g4 r5) fun v9 g7 r8 => (fn_n (ev L xs (m + 1) d nT_set [.ref cT, .int v3, .int 1, .int v9] g7 r8) fun g10 r11 => (some (.inl (some (.int v3)), g10, r11)))))) := (fs_ev (M := nm_m118) rfl rfl).trans (eS_goTo L xs (m + 1) d m 880 g r)
/-- CobolParser$Statements.stop()I -/
theorem eS_stop (L : Nat) (xs : Nat → Int32) (m d k : Nat) (n : Nat) (g : a2_G) (r : a2_A) : bk L xs nS_stop nm_m119 m d k (n + 10) 0 [some (.ref cS), none] [] g r = (fn_v (ev L xs m d nS_begin [.ref cS, .int 35] g r) fun v3 g1 r2 => (fn_n (ev L xs m d nR_require [.ref cR, .int 63] g1 r2) fun g4 r5 => (some (.inl (some (.int v3)), g4, r5)))) := by
  refine (fs_r (n := n + 8) 2 (pc' := 3) (L' := [some (.ref cS), none]) (S' := [.int 35, .ref cS]) rfl).trans ?_
  refine (fs_cv (n := n + 7) (N := nm_m90) (as := [.ref cS, .int 35]) (rest := []) rfl rfl (Or.inl rfl) rfl rfl rfl rfl rfl).trans (fs_fv fun v3 g1 r2 => ?_)
  refine (fs_r (n := n + 3) 4 (pc' := 13) (L' := [some (.ref cS), some (.int v3)]) (S' := [.int 63, .ref cR]) rfl).trans ?_
  refine (fs_cn (n := n + 2) (N := nm_m83) (as := [.ref cR, .int 63]) (rest := []) rfl rfl (Or.inl rfl) rfl rfl rfl rfl rfl).trans (fs_fn fun g4 r5 => ?_)
  refine (fs_r (n := n + 1) 1 (pc' := 17) (L' := [some (.ref cS), some (.int v3)]) (S' := [.int v3]) rfl).trans ?_
  exact (fs_ri (n := n + 0) rfl rfl).trans rfl
theorem qS_stop (L : Nat) (xs : Nat → Int32) (m d : Nat) (g : a2_G) (r : a2_A) : ev L xs (m + 1) (d + 1) nS_stop [.ref cS] g r = (fn_v (ev L xs (m + 1) d nS_begin [.ref cS, .int 35] g r) fun v3 g1 r2 => (fn_n (ev L xs (m + 1) d nR_require [.ref cR, .int 63] g1 r2) fun g4 r5 => (some (.inl (some (.int v3)), g4, r5)))) := (fs_ev (M := nm_m119) rfl rfl).trans (eS_stop L xs (m + 1) d m 890 g r)
/-- CobolParser$Statements.compute(I)I -/
theorem eS_compute (L : Nat) (xs : Nat → Int32) (m d k : Nat) (n : Nat) (a1 : Int32) (g : a2_G) (r : a2_A) : bk L xs nS_compute nm_m120 m d k (n + 31) 0 [some (.ref cS), some (.int a1), none] [] g r = (fn_v (ev L xs m d nS_begin [.ref cS, .int 38] g r) fun v3 g1 r2 => (fn_v (ev L xs m d nR_requireKind [.ref cR, .int 1] g1 r2) fun v6 g4 r5 => (fn_n (ev L xs m d nT_set [.ref cT, .int v3, .int 1, .int v6] g4 r5) fun g7 r8 => (fn_n (ev L xs m d nR_requireSign [.ref cR, .int 2] g7 r8) fun g9 r10 => (fn_v (ev L xs m d nX_sum [.ref cX, .int a1] g9 r10) fun v13 g11 r12 => (fn_n (ev L xs m d nT_append [.ref cT, .int v3, .int v13] g11 r12) fun g14 r15 => (fn_n (ev L xs m d nS_scopeEnd [.ref cS, .int v3, .int 78] g14 r15) fun g16 r17 => (some (.inl (some (.int v3)), g16, r17))))))))) := by
  refine (fs_r (n := n + 29) 2 (pc' := 3) (L' := [some (.ref cS), some (.int a1), none]) (S' := [.int 38, .ref cS]) rfl).trans ?_
  refine (fs_cv (n := n + 28) (N := nm_m90) (as := [.ref cS, .int 38]) (rest := []) rfl rfl (Or.inl rfl) rfl rfl rfl rfl rfl).trans (fs_fv fun v3 g1 r2 => ?_)
  refine (fs_r (n := n + 20) 8 (pc' := 18) (L' := [some (.ref cS), some (.int a1), some (.int v3)]) (S' := [.int 1, .ref cR, .int 1, .int v3, .ref cT]) rfl).trans ?_
  refine (fs_cv (n := n + 19) (N := nm_m59) (as := [.ref cR, .int 1]) (rest := [.int 1, .int v3, .ref cT]) rfl rfl (Or.inl rfl) rfl rfl rfl rfl rfl).trans (fs_fv fun v6 g4 r5 => ?_)
  refine (fs_cn (n := n + 18) (N := nm_m69) (as := [.ref cT, .int v3, .int 1, .int v6]) (rest := []) rfl rfl (Or.inl rfl) rfl rfl rfl rfl rfl).trans (fs_fn fun g7 r8 => ?_)
  refine (fs_r (n := n + 15) 3 (pc' := 29) (L' := [some (.ref cS), some (.int a1), some (.int v3)]) (S' := [.int 2, .ref cR]) rfl).trans ?_
  refine (fs_cn (n := n + 14) (N := nm_m102) (as := [.ref cR, .int 2]) (rest := []) rfl rfl (Or.inl rfl) rfl rfl rfl rfl rfl).trans (fs_fn fun g9 r10 => ?_)
  refine (fs_r (n := n + 8) 6 (pc' := 42) (L' := [some (.ref cS), some (.int a1), some (.int v3)]) (S' := [.int a1, .ref cX, .int v3, .ref cT]) rfl).trans ?_
  refine (fs_cv (n := n + 7) (N := nm_m121) (as := [.ref cX, .int a1]) (rest := [.int v3, .ref cT]) rfl rfl (Or.inr rfl) rfl rfl rfl rfl rfl).trans (fs_fv fun v13 g11 r12 => ?_)
  refine (fs_cn (n := n + 6) (N := nm_m63) (as := [.ref cT, .int v3, .int v13]) (rest := []) rfl rfl (Or.inl rfl) rfl rfl rfl rfl rfl).trans (fs_fn fun g14 r15 => ?_)
  refine (fs_r (n := n + 3) 3 (pc' := 52) (L' := [some (.ref cS), some (.int a1), some (.int v3)]) (S' := [.int 78, .int v3, .ref cS]) rfl).trans ?_
  refine (fs_cn (n := n + 2) (N := nm_m94) (as := [.ref cS, .int v3, .int 78]) (rest := []) rfl rfl (Or.inl rfl) rfl rfl rfl rfl rfl).trans (fs_fn fun g16 r17 => ?_)
  refine (fs_r (n := n + 1) 1 (pc' := 56) (L' := [some (.ref cS), some (.int a1), some (.int v3)]) (S' := [.int v3]) rfl).trans ?_
  exact (fs_ri (n := n + 0) rfl rfl).trans rfl
theorem qS_compute (L : Nat) (xs : Nat → Int32) (m d : Nat) (a1 : Int32) (g : a2_G) (r : a2_A) : ev L xs (m + 1) (d + 1) nS_compute [.ref cS, .int a1] g r = (fn_v (ev L xs (m + 1) d nS_begin [.ref cS, .int 38] g r) fun v3 g1 r2 => (fn_v (ev L xs (m + 1) d nR_requireKind [.ref cR, .int 1] g1 r2) fun v6 g4 r5 => (fn_n (ev L xs (m + 1) d nT_set [.ref cT, .int v3, .int 1, .int v6] g4 r5) fun g7 r8 => (fn_n (ev L xs (m + 1) d nR_requireSign [.ref cR, .int 2] g7 r8) fun g9 r10 => (fn_v (ev L xs (m + 1) d nX_sum [.ref cX, .int a1] g9 r10) fun v13 g11 r12 => (fn_n (ev L xs (m + 1) d nT_append [.ref cT, .int v3, .int v13] g11 r12) fun g14 r15 => (fn_n (ev L xs (m + 1) d nS_scopeEnd [.ref cS, .int v3, .int 78] g14 r15) fun g16 r17 => (some (.inl (some (.int v3)), g16, r17))))))))) := (fs_ev (M := nm_m120) rfl rfl).trans (eS_compute L xs (m + 1) d m 869 a1 g r)
/-- CobolParser$Expressions.sum(I)I -/
def BX_sum_86 (L : Nat) (xs : Nat → Int32) (m d k : Nat) (x1 x2 x3 : Int32) (g : a2_G) (r : a2_A) : Option fn_Z := (some (.inl (some (.int x2)), g, r))
theorem bX_sum_86 (L : Nat) (xs : Nat → Int32) (m d k : Nat) (n : Nat) (x1 x2 x3 : Int32) (g : a2_G) (r : a2_A) : bk L xs nX_sum nm_m121 m d k (n + 2) 86 [some (.ref cX), some (.int x1), some (.int x2), some (.int x3), none] [] g r = BX_sum_86 L xs m d k x1 x2 x3 g r := by
  show _ = ((some (.inl (some (.int x2)), g, r)) : Option fn_Z)
  refine (fs_r (n := n + 1) 1 (pc' := 87) (L' := [some (.ref cX), some (.int x1), some (.int x2), some (.int x3), none]) (S' := [.int x2]) rfl).trans ?_
  exact (fs_ri (n := n + 0) rfl rfl).trans rfl
def BX_sum_40 (L : Nat) (xs : Nat → Int32) (m d k : Nat) (x1 x2 x3 : Int32) (g : a2_G) (r : a2_A) : Option fn_Z := (fn_v (ev L xs m d nR_value [.ref cR] g r) fun v9 g7 r8 => (fn_v (ev L xs m d nX_join [.ref cX, .int 55, .int v9, .int x2] g7 r8) fun v12 g10 r11 => (fn_n (ev L xs m d nR_advance [.ref cR] g10 r11) fun g13 r14 => (fn_v (ev L xs m d nX_product [.ref cX, .int x1] g13 r14) fun v17 g15 r16 => (fn_n (ev L xs m d nT_append [.ref cT, .int v12, .int v17] g15 r16) fun g18 r19 => (lp L xs nX_sum nm_m121 m d k 8 [some (.ref cX), some (.int x1), some (.int v12), some (.int (x3 + 1)), some (.int v12)] g18 r19))))))
theorem bX_sum_40 (L : Nat) (xs : Nat → Int32) (m d k : Nat) (n : Nat) (x1 x2 x3 : Int32) (g : a2_G) (r : a2_A) : bk L xs nX_sum nm_m121 m d k (n + 22) 40 [some (.ref cX), some (.int x1), some (.int x2), some (.int x3), none] [] g r = BX_sum_40 L xs m d k x1 x2 x3 g r := by
  show _ = ((fn_v (ev L xs m d nR_value [.ref cR] g r) fun v9 g7 r8 => (fn_v (ev L xs m d nX_join [.ref cX, .int 55, .int v9, .int x2] g7 r8) fun v12 g10 r11 => (fn_n (ev L xs m d nR_advance [.ref cR] g10 r11) fun g13 r14 => (fn_v (ev L xs m d nX_product [.ref cX, .int x1] g13 r14) fun v17 g15 r16 => (fn_n (ev L xs m d nT_append [.ref cT, .int v12, .int v17] g15 r16) fun g18 r19 => (lp L xs nX_sum nm_m121 m d k 8 [some (.ref cX), some (.int x1), some (.int v12), some (.int (x3 + 1)), some (.int v12)] g18 r19)))))) : Option fn_Z)
  refine (fs_r (n := n + 18) 4 (pc' := 47) (L' := [some (.ref cX), some (.int x1), some (.int x2), some (.int x3), none]) (S' := [.ref cR, .int 55, .ref cX]) rfl).trans ?_
  refine (fs_cv (n := n + 17) (N := nm_m60) (as := [.ref cR]) (rest := [.int 55, .ref cX]) rfl rfl (Or.inl rfl) rfl rfl rfl rfl rfl).trans (fs_fv fun v9 g7 r8 => ?_)
  refine (fs_r (n := n + 16) 1 (pc' := 51) (L' := [some (.ref cX), some (.int x1), some (.int x2), some (.int x3), none]) (S' := [.int x2, .int v9, .int 55, .ref cX]) rfl).trans ?_
  refine (fs_cv (n := n + 15) (N := nm_m107) (as := [.ref cX, .int 55, .int v9, .int x2]) (rest := []) rfl rfl (Or.inl rfl) rfl rfl rfl rfl rfl).trans (fs_fv fun v12 g10 r11 => ?_)
  refine (fs_r (n := n + 12) 3 (pc' := 60) (L' := [some (.ref cX), some (.int x1), some (.int x2), some (.int x3), some (.int v12)]) (S' := [.ref cR]) rfl).trans ?_
  refine (fs_cn (n := n + 11) (N := nm_m61) (as := [.ref cR]) (rest := []) rfl rfl (Or.inl rfl) rfl rfl rfl rfl rfl).trans (fs_fn fun g13 r14 => ?_)
  refine (fs_r (n := n + 6) 5 (pc' := 71) (L' := [some (.ref cX), some (.int x1), some (.int x2), some (.int x3), some (.int v12)]) (S' := [.int x1, .ref cX, .int v12, .ref cT]) rfl).trans ?_
  refine (fs_cv (n := n + 5) (N := nm_m122) (as := [.ref cX, .int x1]) (rest := [.int v12, .ref cT]) rfl rfl (Or.inl rfl) rfl rfl rfl rfl rfl).trans (fs_fv fun v17 g15 r16 => ?_)
  refine (fs_cn (n := n + 4) (N := nm_m63) (as := [.ref cT, .int v12, .int v17]) (rest := []) rfl rfl (Or.inl rfl) rfl rfl rfl rfl rfl).trans (fs_fn fun g18 r19 => ?_)
  refine (fs_r (n := n + 1) 3 (pc' := 83) (L' := [some (.ref cX), some (.int x1), some (.int v12), some (.int (x3 + 1)), some (.int v12)]) (S' := []) rfl).trans ?_
  exact (fs_gb (n := n + 0) rfl (t := 8) rfl (by decide)).trans rfl
def BX_sum_8 (L : Nat) (xs : Nat → Int32) (m d k : Nat) (x1 x2 x3 : Int32) (g : a2_G) (r : a2_A) : Option fn_Z := (if am_c2 .ge x3 1500 = true then (BX_sum_86 L xs m d k x1 x2 x3 g r) else (fn_v (ev L xs m d nR_isSign [.ref cR, .int 5, .int 0] g r) fun v6 g4 r5 => (if am_c2 .ne v6 0 = true then (BX_sum_40 L xs m d k x1 x2 x3 g4 r5) else (fn_v (ev L xs m d nR_isSign [.ref cR, .int 6, .int 0] g4 r5) fun v22 g20 r21 => (if am_c2 .eq v22 0 = true then (BX_sum_86 L xs m d k x1 x2 x3 g20 r21) else (BX_sum_40 L xs m d k x1 x2 x3 g20 r21))))))
theorem bX_sum_8 (L : Nat) (xs : Nat → Int32) (m d k : Nat) (n : Nat) (x1 x2 x3 : Int32) (g : a2_G) (r : a2_A) : bk L xs nX_sum nm_m121 m d k (n + 37) 8 [some (.ref cX), some (.int x1), some (.int x2), some (.int x3), none] [] g r = BX_sum_8 L xs m d k x1 x2 x3 g r := by
  show _ = ((if am_c2 .ge x3 1500 = true then (BX_sum_86 L xs m d k x1 x2 x3 g r) else (fn_v (ev L xs m d nR_isSign [.ref cR, .int 5, .int 0] g r) fun v6 g4 r5 => (if am_c2 .ne v6 0 = true then (BX_sum_40 L xs m d k x1 x2 x3 g4 r5) else (fn_v (ev L xs m d nR_isSign [.ref cR, .int 6, .int 0] g4 r5) fun v22 g20 r21 => (if am_c2 .eq v22 0 = true then (BX_sum_86 L xs m d k x1 x2 x3 g20 r21) else (BX_sum_40 L xs m d k x1 x2 x3 g20 r21)))))) : Option fn_Z)
  refine (fs_r (n := n + 35) 2 (pc' := 12) (L' := [some (.ref cX), some (.int x1), some (.int x2), some (.int x3), none]) (S' := [.int 1500, .int x3]) rfl).trans ?_
  refine (fs_j (n := n + 34) rfl (t := 86) rfl (by decide)).trans (fs_ite ?_ ?_)
  · skip
    exact bX_sum_86 L xs m d k (n + 32) x1 x2 x3 g r
  · skip
    refine (fs_r (n := n + 30) 4 (pc' := 21) (L' := [some (.ref cX), some (.int x1), some (.int x2), some (.int x3), none]) (S' := [.int 0, .int 5, .ref cR]) rfl).trans ?_
    refine (fs_cv (n := n + 29) (N := nm_m101) (as := [.ref cR, .int 5, .int 0]) (rest := []) rfl rfl (Or.inl rfl) rfl rfl rfl rfl rfl).trans (fs_fv fun v6 g4 r5 => ?_)
    refine (fs_i (n := n + 28) rfl (t := 40) rfl (by decide)).trans (fs_ite ?_ ?_)
    · skip
      exact bX_sum_40 L xs m d k (n + 6) x1 x2 x3 g4 r5
    · skip
      refine (fs_r (n := n + 24) 4 (pc' := 34) (L' := [some (.ref cX), some (.int x1), some (.int x2), some (.int x3), none]) (S' := [.int 0, .int 6, .ref cR]) rfl).trans ?_
      refine (fs_cv (n := n + 23) (N := nm_m101) (as := [.ref cR, .int 6, .int 0]) (rest := []) rfl rfl (Or.inl rfl) rfl rfl rfl rfl rfl).trans (fs_fv fun v22 g20 r21 => ?_)
      refine (fs_i (n := n + 22) rfl (t := 86) rfl (by decide)).trans (fs_ite ?_ ?_)
      · skip
        exact bX_sum_86 L xs m d k (n + 20) x1 x2 x3 g20 r21
      · skip
        exact bX_sum_40 L xs m d k (n + 0) x1 x2 x3 g20 r21
theorem lX_sum_8 (L : Nat) (xs : Nat → Int32) (m d k : Nat) (x1 x2 x3 : Int32) (g : a2_G) (r : a2_A) : lp L xs nX_sum nm_m121 m d (k + 1) 8 [some (.ref cX), some (.int x1), some (.int x2), some (.int x3), none] g r = BX_sum_8 L xs m d k x1 x2 x3 g r := fs_lp.trans (bX_sum_8 L xs m d k 863 x1 x2 x3 g r)
def BX_sum_86_1 (L : Nat) (xs : Nat → Int32) (m d k : Nat) (x1 x2 x3 x4 : Int32) (g : a2_G) (r : a2_A) : Option fn_Z := (some (.inl (some (.int x2)), g, r))
theorem bX_sum_86_1 (L : Nat) (xs : Nat → Int32) (m d k : Nat) (n : Nat) (x1 x2 x3 x4 : Int32) (g : a2_G) (r : a2_A) : bk L xs nX_sum nm_m121 m d k (n + 2) 86 [some (.ref cX), some (.int x1), some (.int x2), some (.int x3), some (.int x4)] [] g r = BX_sum_86_1 L xs m d k x1 x2 x3 x4 g r := by
  show _ = ((some (.inl (some (.int x2)), g, r)) : Option fn_Z)
  refine (fs_r (n := n + 1) 1 (pc' := 87) (L' := [some (.ref cX), some (.int x1), some (.int x2), some (.int x3), some (.int x4)]) (S' := [.int x2]) rfl).trans ?_
  exact (fs_ri (n := n + 0) rfl rfl).trans rfl
def BX_sum_40_1 (L : Nat) (xs : Nat → Int32) (m d k : Nat) (x1 x2 x3 x4 : Int32) (g : a2_G) (r : a2_A) : Option fn_Z := (fn_v (ev L xs m d nR_value [.ref cR] g r) fun v28 g26 r27 => (fn_v (ev L xs m d nX_join [.ref cX, .int 55, .int v28, .int x2] g26 r27) fun v31 g29 r30 => (fn_n (ev L xs m d nR_advance [.ref cR] g29 r30) fun g32 r33 => (fn_v (ev L xs m d nX_product [.ref cX, .int x1] g32 r33) fun v36 g34 r35 => (fn_n (ev L xs m d nT_append [.ref cT, .int v31, .int v36] g34 r35) fun g37 r38 => (lp L xs nX_sum nm_m121 m d k 8 [some (.ref cX), some (.int x1), some (.int v31), some (.int (x3 + 1)), some (.int v31)] g37 r38))))))
theorem bX_sum_40_1 (L : Nat) (xs : Nat → Int32) (m d k : Nat) (n : Nat) (x1 x2 x3 x4 : Int32) (g : a2_G) (r : a2_A) : bk L xs nX_sum nm_m121 m d k (n + 22) 40 [some (.ref cX), some (.int x1), some (.int x2), some (.int x3), some (.int x4)] [] g r = BX_sum_40_1 L xs m d k x1 x2 x3 x4 g r := by
  show _ = ((fn_v (ev L xs m d nR_value [.ref cR] g r) fun v28 g26 r27 => (fn_v (ev L xs m d nX_join [.ref cX, .int 55, .int v28, .int x2] g26 r27) fun v31 g29 r30 => (fn_n (ev L xs m d nR_advance [.ref cR] g29 r30) fun g32 r33 => (fn_v (ev L xs m d nX_product [.ref cX, .int x1] g32 r33) fun v36 g34 r35 => (fn_n (ev L xs m d nT_append [.ref cT, .int v31, .int v36] g34 r35) fun g37 r38 => (lp L xs nX_sum nm_m121 m d k 8 [some (.ref cX), some (.int x1), some (.int v31), some (.int (x3 + 1)), some (.int v31)] g37 r38)))))) : Option fn_Z)
  refine (fs_r (n := n + 18) 4 (pc' := 47) (L' := [some (.ref cX), some (.int x1), some (.int x2), some (.int x3), some (.int x4)]) (S' := [.ref cR, .int 55, .ref cX]) rfl).trans ?_
  refine (fs_cv (n := n + 17) (N := nm_m60) (as := [.ref cR]) (rest := [.int 55, .ref cX]) rfl rfl (Or.inl rfl) rfl rfl rfl rfl rfl).trans (fs_fv fun v28 g26 r27 => ?_)
  refine (fs_r (n := n + 16) 1 (pc' := 51) (L' := [some (.ref cX), some (.int x1), some (.int x2), some (.int x3), some (.int x4)]) (S' := [.int x2, .int v28, .int 55, .ref cX]) rfl).trans ?_
  refine (fs_cv (n := n + 15) (N := nm_m107) (as := [.ref cX, .int 55, .int v28, .int x2]) (rest := []) rfl rfl (Or.inl rfl) rfl rfl rfl rfl rfl).trans (fs_fv fun v31 g29 r30 => ?_)
  refine (fs_r (n := n + 12) 3 (pc' := 60) (L' := [some (.ref cX), some (.int x1), some (.int x2), some (.int x3), some (.int v31)]) (S' := [.ref cR]) rfl).trans ?_
  refine (fs_cn (n := n + 11) (N := nm_m61) (as := [.ref cR]) (rest := []) rfl rfl (Or.inl rfl) rfl rfl rfl rfl rfl).trans (fs_fn fun g32 r33 => ?_)
  refine (fs_r (n := n + 6) 5 (pc' := 71) (L' := [some (.ref cX), some (.int x1), some (.int x2), some (.int x3), some (.int v31)]) (S' := [.int x1, .ref cX, .int v31, .ref cT]) rfl).trans ?_
  refine (fs_cv (n := n + 5) (N := nm_m122) (as := [.ref cX, .int x1]) (rest := [.int v31, .ref cT]) rfl rfl (Or.inl rfl) rfl rfl rfl rfl rfl).trans (fs_fv fun v36 g34 r35 => ?_)
  refine (fs_cn (n := n + 4) (N := nm_m63) (as := [.ref cT, .int v31, .int v36]) (rest := []) rfl rfl (Or.inl rfl) rfl rfl rfl rfl rfl).trans (fs_fn fun g37 r38 => ?_)
  refine (fs_r (n := n + 1) 3 (pc' := 83) (L' := [some (.ref cX), some (.int x1), some (.int v31), some (.int (x3 + 1)), some (.int v31)]) (S' := []) rfl).trans ?_
  exact (fs_gb (n := n + 0) rfl (t := 8) rfl (by decide)).trans rfl
def BX_sum_8_1 (L : Nat) (xs : Nat → Int32) (m d k : Nat) (x1 x2 x3 x4 : Int32) (g : a2_G) (r : a2_A) : Option fn_Z := (if am_c2 .ge x3 1500 = true then (BX_sum_86_1 L xs m d k x1 x2 x3 x4 g r) else (fn_v (ev L xs m d nR_isSign [.ref cR, .int 5, .int 0] g r) fun v25 g23 r24 => (if am_c2 .ne v25 0 = true then (BX_sum_40_1 L xs m d k x1 x2 x3 x4 g23 r24) else (fn_v (ev L xs m d nR_isSign [.ref cR, .int 6, .int 0] g23 r24) fun v41 g39 r40 => (if am_c2 .eq v41 0 = true then (BX_sum_86_1 L xs m d k x1 x2 x3 x4 g39 r40) else (BX_sum_40_1 L xs m d k x1 x2 x3 x4 g39 r40))))))
theorem bX_sum_8_1 (L : Nat) (xs : Nat → Int32) (m d k : Nat) (n : Nat) (x1 x2 x3 x4 : Int32) (g : a2_G) (r : a2_A) : bk L xs nX_sum nm_m121 m d k (n + 37) 8 [some (.ref cX), some (.int x1), some (.int x2), some (.int x3), some (.int x4)] [] g r = BX_sum_8_1 L xs m d k x1 x2 x3 x4 g r := by
  show _ = ((if am_c2 .ge x3 1500 = true then (BX_sum_86_1 L xs m d k x1 x2 x3 x4 g r) else (fn_v (ev L xs m d nR_isSign [.ref cR, .int 5, .int 0] g r) fun v25 g23 r24 => (if am_c2 .ne v25 0 = true then (BX_sum_40_1 L xs m d k x1 x2 x3 x4 g23 r24) else (fn_v (ev L xs m d nR_isSign [.ref cR, .int 6, .int 0] g23 r24) fun v41 g39 r40 => (if am_c2 .eq v41 0 = true then (BX_sum_86_1 L xs m d k x1 x2 x3 x4 g39 r40) else (BX_sum_40_1 L xs m d k x1 x2 x3 x4 g39 r40)))))) : Option fn_Z)
  refine (fs_r (n := n + 35) 2 (pc' := 12) (L' := [some (.ref cX), some (.int x1), some (.int x2), some (.int x3), some (.int x4)]) (S' := [.int 1500, .int x3]) rfl).trans ?_
  refine (fs_j (n := n + 34) rfl (t := 86) rfl (by decide)).trans (fs_ite ?_ ?_)
  · skip
    exact bX_sum_86_1 L xs m d k (n + 32) x1 x2 x3 x4 g r
  · skip
    refine (fs_r (n := n + 30) 4 (pc' := 21) (L' := [some (.ref cX), some (.int x1), some (.int x2), some (.int x3), some (.int x4)]) (S' := [.int 0, .int 5, .ref cR]) rfl).trans ?_
    refine (fs_cv (n := n + 29) (N := nm_m101) (as := [.ref cR, .int 5, .int 0]) (rest := []) rfl rfl (Or.inl rfl) rfl rfl rfl rfl rfl).trans (fs_fv fun v25 g23 r24 => ?_)
    refine (fs_i (n := n + 28) rfl (t := 40) rfl (by decide)).trans (fs_ite ?_ ?_)
    · skip
      exact bX_sum_40_1 L xs m d k (n + 6) x1 x2 x3 x4 g23 r24
    · skip
      refine (fs_r (n := n + 24) 4 (pc' := 34) (L' := [some (.ref cX), some (.int x1), some (.int x2), some (.int x3), some (.int x4)]) (S' := [.int 0, .int 6, .ref cR]) rfl).trans ?_
      refine (fs_cv (n := n + 23) (N := nm_m101) (as := [.ref cR, .int 6, .int 0]) (rest := []) rfl rfl (Or.inl rfl) rfl rfl rfl rfl rfl).trans (fs_fv fun v41 g39 r40 => ?_)
      refine (fs_i (n := n + 22) rfl (t := 86) rfl (by decide)).trans (fs_ite ?_ ?_)
      · skip
        exact bX_sum_86_1 L xs m d k (n + 20) x1 x2 x3 x4 g39 r40
      · skip
        exact bX_sum_40_1 L xs m d k (n + 0) x1 x2 x3 x4 g39 r40
theorem lX_sum_8_1 (L : Nat) (xs : Nat → Int32) (m d k : Nat) (x1 x2 x3 x4 : Int32) (g : a2_G) (r : a2_A) : lp L xs nX_sum nm_m121 m d (k + 1) 8 [some (.ref cX), some (.int x1), some (.int x2), some (.int x3), some (.int x4)] g r = BX_sum_8_1 L xs m d k x1 x2 x3 x4 g r := fs_lp.trans (bX_sum_8_1 L xs m d k 863 x1 x2 x3 x4 g r)
theorem eX_sum (L : Nat) (xs : Nat → Int32) (m d k : Nat) (n : Nat) (a1 : Int32) (g : a2_G) (r : a2_A) : bk L xs nX_sum nm_m121 m d k (n + 43) 0 [some (.ref cX), some (.int a1), none, none, none] [] g r = (fn_v (ev L xs m d nX_product [.ref cX, .int a1] g r) fun v3 g1 r2 => (BX_sum_8 L xs m d k a1 v3 0 g1 r2)) := by
  refine (fs_r (n := n + 41) 2 (pc' := 2) (L' := [some (.ref cX), some (.int a1), none, none, none]) (S' := [.int a1, .ref cX]) rfl).trans ?_
  refine (fs_cv (n := n + 40) (N := nm_m122) (as := [.ref cX, .int a1]) (rest := []) rfl rfl (Or.inl rfl) rfl rfl rfl rfl rfl).trans (fs_fv fun v3 g1 r2 => ?_)
  refine (fs_r (n := n + 37) 3 (pc' := 8) (L' := [some (.ref cX), some (.int a1), some (.int v3), some (.int 0), none]) (S' := []) rfl).trans ?_
  exact bX_sum_8 L xs m d k (n + 0) a1 v3 0 g1 r2
theorem qX_sum (L : Nat) (xs : Nat → Int32) (m d : Nat) (a1 : Int32) (g : a2_G) (r : a2_A) : ev L xs (m + 1) (d + 1) nX_sum [.ref cX, .int a1] g r = (fn_v (ev L xs (m + 1) d nX_product [.ref cX, .int a1] g r) fun v3 g1 r2 => (BX_sum_8 L xs (m + 1) d m a1 v3 0 g1 r2)) := (fs_ev (M := nm_m121) rfl rfl).trans (eX_sum L xs (m + 1) d m 857 a1 g r)
/-- CobolParser$Expressions.product(I)I -/
def BX_product_87 (L : Nat) (xs : Nat → Int32) (m d k : Nat) (x1 x2 x3 : Int32) (g : a2_G) (r : a2_A) : Option fn_Z := (some (.inl (some (.int x2)), g, r))
theorem bX_product_87 (L : Nat) (xs : Nat → Int32) (m d k : Nat) (n : Nat) (x1 x2 x3 : Int32) (g : a2_G) (r : a2_A) : bk L xs nX_product nm_m122 m d k (n + 2) 87 [some (.ref cX), some (.int x1), some (.int x2), some (.int x3), none] [] g r = BX_product_87 L xs m d k x1 x2 x3 g r := by
  show _ = ((some (.inl (some (.int x2)), g, r)) : Option fn_Z)
  refine (fs_r (n := n + 1) 1 (pc' := 88) (L' := [some (.ref cX), some (.int x1), some (.int x2), some (.int x3), none]) (S' := [.int x2]) rfl).trans ?_
  exact (fs_ri (n := n + 0) rfl rfl).trans rfl
def BX_product_41 (L : Nat) (xs : Nat → Int32) (m d k : Nat) (x1 x2 x3 : Int32) (g : a2_G) (r : a2_A) : Option fn_Z := (fn_v (ev L xs m d nR_value [.ref cR] g r) fun v9 g7 r8 => (fn_v (ev L xs m d nX_join [.ref cX, .int 55, .int v9, .int x2] g7 r8) fun v12 g10 r11 => (fn_n (ev L xs m d nR_advance [.ref cR] g10 r11) fun g13 r14 => (fn_v (ev L xs m d nX_sumUnit [.ref cX, .int x1] g13 r14) fun v17 g15 r16 => (fn_n (ev L xs m d nT_append [.ref cT, .int v12, .int v17] g15 r16) fun g18 r19 => (lp L xs nX_product nm_m122 m d k 8 [some (.ref cX), some (.int x1), some (.int v12), some (.int (x3 + 1)), some (.int v12)] g18 r19))))))
theorem bX_product_41 (L : Nat) (xs : Nat → Int32) (m d k : Nat) (n : Nat) (x1 x2 x3 : Int32) (g : a2_G) (r : a2_A) : bk L xs nX_product nm_m122 m d k (n + 22) 41 [some (.ref cX), some (.int x1), some (.int x2), some (.int x3), none] [] g r = BX_product_41 L xs m d k x1 x2 x3 g r := by
  show _ = ((fn_v (ev L xs m d nR_value [.ref cR] g r) fun v9 g7 r8 => (fn_v (ev L xs m d nX_join [.ref cX, .int 55, .int v9, .int x2] g7 r8) fun v12 g10 r11 => (fn_n (ev L xs m d nR_advance [.ref cR] g10 r11) fun g13 r14 => (fn_v (ev L xs m d nX_sumUnit [.ref cX, .int x1] g13 r14) fun v17 g15 r16 => (fn_n (ev L xs m d nT_append [.ref cT, .int v12, .int v17] g15 r16) fun g18 r19 => (lp L xs nX_product nm_m122 m d k 8 [some (.ref cX), some (.int x1), some (.int v12), some (.int (x3 + 1)), some (.int v12)] g18 r19)))))) : Option fn_Z)
  refine (fs_r (n := n + 18) 4 (pc' := 48) (L' := [some (.ref cX), some (.int x1), some (.int x2), some (.int x3), none]) (S' := [.ref cR, .int 55, .ref cX]) rfl).trans ?_
  refine (fs_cv (n := n + 17) (N := nm_m60) (as := [.ref cR]) (rest := [.int 55, .ref cX]) rfl rfl (Or.inl rfl) rfl rfl rfl rfl rfl).trans (fs_fv fun v9 g7 r8 => ?_)
  refine (fs_r (n := n + 16) 1 (pc' := 52) (L' := [some (.ref cX), some (.int x1), some (.int x2), some (.int x3), none]) (S' := [.int x2, .int v9, .int 55, .ref cX]) rfl).trans ?_
  refine (fs_cv (n := n + 15) (N := nm_m107) (as := [.ref cX, .int 55, .int v9, .int x2]) (rest := []) rfl rfl (Or.inl rfl) rfl rfl rfl rfl rfl).trans (fs_fv fun v12 g10 r11 => ?_)
  refine (fs_r (n := n + 12) 3 (pc' := 61) (L' := [some (.ref cX), some (.int x1), some (.int x2), some (.int x3), some (.int v12)]) (S' := [.ref cR]) rfl).trans ?_
  refine (fs_cn (n := n + 11) (N := nm_m61) (as := [.ref cR]) (rest := []) rfl rfl (Or.inl rfl) rfl rfl rfl rfl rfl).trans (fs_fn fun g13 r14 => ?_)
  refine (fs_r (n := n + 6) 5 (pc' := 72) (L' := [some (.ref cX), some (.int x1), some (.int x2), some (.int x3), some (.int v12)]) (S' := [.int x1, .ref cX, .int v12, .ref cT]) rfl).trans ?_
  refine (fs_cv (n := n + 5) (N := nm_m123) (as := [.ref cX, .int x1]) (rest := [.int v12, .ref cT]) rfl rfl (Or.inl rfl) rfl rfl rfl rfl rfl).trans (fs_fv fun v17 g15 r16 => ?_)
  refine (fs_cn (n := n + 4) (N := nm_m63) (as := [.ref cT, .int v12, .int v17]) (rest := []) rfl rfl (Or.inl rfl) rfl rfl rfl rfl rfl).trans (fs_fn fun g18 r19 => ?_)
  refine (fs_r (n := n + 1) 3 (pc' := 84) (L' := [some (.ref cX), some (.int x1), some (.int v12), some (.int (x3 + 1)), some (.int v12)]) (S' := []) rfl).trans ?_
  exact (fs_gb (n := n + 0) rfl (t := 8) rfl (by decide)).trans rfl
def BX_product_8 (L : Nat) (xs : Nat → Int32) (m d k : Nat) (x1 x2 x3 : Int32) (g : a2_G) (r : a2_A) : Option fn_Z := (if am_c2 .ge x3 1500 = true then (BX_product_87 L xs m d k x1 x2 x3 g r) else (fn_v (ev L xs m d nR_isSign [.ref cR, .int 7, .int 0] g r) fun v6 g4 r5 => (if am_c2 .ne v6 0 = true then (BX_product_41 L xs m d k x1 x2 x3 g4 r5) else (fn_v (ev L xs m d nR_isSign [.ref cR, .int 8, .int 0] g4 r5) fun v22 g20 r21 => (if am_c2 .eq v22 0 = true then (BX_product_87 L xs m d k x1 x2 x3 g20 r21) else (BX_product_41 L xs m d k x1 x2 x3 g20 r21))))))
theorem bX_product_8 (L : Nat) (xs : Nat → Int32) (m d k : Nat) (n : Nat) (x1 x2 x3 : Int32) (g : a2_G) (r : a2_A) : bk L xs nX_product nm_m122 m d k (n + 37) 8 [some (.ref cX), some (.int x1), some (.int x2), some (.int x3), none] [] g r = BX_product_8 L xs m d k x1 x2 x3 g r := by
  show _ = ((if am_c2 .ge x3 1500 = true then (BX_product_87 L xs m d k x1 x2 x3 g r) else (fn_v (ev L xs m d nR_isSign [.ref cR, .int 7, .int 0] g r) fun v6 g4 r5 => (if am_c2 .ne v6 0 = true then (BX_product_41 L xs m d k x1 x2 x3 g4 r5) else (fn_v (ev L xs m d nR_isSign [.ref cR, .int 8, .int 0] g4 r5) fun v22 g20 r21 => (if am_c2 .eq v22 0 = true then (BX_product_87 L xs m d k x1 x2 x3 g20 r21) else (BX_product_41 L xs m d k x1 x2 x3 g20 r21)))))) : Option fn_Z)
  refine (fs_r (n := n + 35) 2 (pc' := 12) (L' := [some (.ref cX), some (.int x1), some (.int x2), some (.int x3), none]) (S' := [.int 1500, .int x3]) rfl).trans ?_
  refine (fs_j (n := n + 34) rfl (t := 87) rfl (by decide)).trans (fs_ite ?_ ?_)
  · skip
    exact bX_product_87 L xs m d k (n + 32) x1 x2 x3 g r
  · skip
    refine (fs_r (n := n + 30) 4 (pc' := 22) (L' := [some (.ref cX), some (.int x1), some (.int x2), some (.int x3), none]) (S' := [.int 0, .int 7, .ref cR]) rfl).trans ?_
    refine (fs_cv (n := n + 29) (N := nm_m101) (as := [.ref cR, .int 7, .int 0]) (rest := []) rfl rfl (Or.inl rfl) rfl rfl rfl rfl rfl).trans (fs_fv fun v6 g4 r5 => ?_)
    refine (fs_i (n := n + 28) rfl (t := 41) rfl (by decide)).trans (fs_ite ?_ ?_)
    · skip
      exact bX_product_41 L xs m d k (n + 6) x1 x2 x3 g4 r5
    · skip
      refine (fs_r (n := n + 24) 4 (pc' := 35) (L' := [some (.ref cX), some (.int x1), some (.int x2), some (.int x3), none]) (S' := [.int 0, .int 8, .ref cR]) rfl).trans ?_
      refine (fs_cv (n := n + 23) (N := nm_m101) (as := [.ref cR, .int 8, .int 0]) (rest := []) rfl rfl (Or.inl rfl) rfl rfl rfl rfl rfl).trans (fs_fv fun v22 g20 r21 => ?_)
      refine (fs_i (n := n + 22) rfl (t := 87) rfl (by decide)).trans (fs_ite ?_ ?_)
      · skip
        exact bX_product_87 L xs m d k (n + 20) x1 x2 x3 g20 r21
      · skip
        exact bX_product_41 L xs m d k (n + 0) x1 x2 x3 g20 r21
theorem lX_product_8 (L : Nat) (xs : Nat → Int32) (m d k : Nat) (x1 x2 x3 : Int32) (g : a2_G) (r : a2_A) : lp L xs nX_product nm_m122 m d (k + 1) 8 [some (.ref cX), some (.int x1), some (.int x2), some (.int x3), none] g r = BX_product_8 L xs m d k x1 x2 x3 g r := fs_lp.trans (bX_product_8 L xs m d k 863 x1 x2 x3 g r)
def BX_product_87_1 (L : Nat) (xs : Nat → Int32) (m d k : Nat) (x1 x2 x3 x4 : Int32) (g : a2_G) (r : a2_A) : Option fn_Z := (some (.inl (some (.int x2)), g, r))
theorem bX_product_87_1 (L : Nat) (xs : Nat → Int32) (m d k : Nat) (n : Nat) (x1 x2 x3 x4 : Int32) (g : a2_G) (r : a2_A) : bk L xs nX_product nm_m122 m d k (n + 2) 87 [some (.ref cX), some (.int x1), some (.int x2), some (.int x3), some (.int x4)] [] g r = BX_product_87_1 L xs m d k x1 x2 x3 x4 g r := by
  show _ = ((some (.inl (some (.int x2)), g, r)) : Option fn_Z)
  refine (fs_r (n := n + 1) 1 (pc' := 88) (L' := [some (.ref cX), some (.int x1), some (.int x2), some (.int x3), some (.int x4)]) (S' := [.int x2]) rfl).trans ?_
  exact (fs_ri (n := n + 0) rfl rfl).trans rfl
def BX_product_41_1 (L : Nat) (xs : Nat → Int32) (m d k : Nat) (x1 x2 x3 x4 : Int32) (g : a2_G) (r : a2_A) : Option fn_Z := (fn_v (ev L xs m d nR_value [.ref cR] g r) fun v28 g26 r27 => (fn_v (ev L xs m d nX_join [.ref cX, .int 55, .int v28, .int x2] g26 r27) fun v31 g29 r30 => (fn_n (ev L xs m d nR_advance [.ref cR] g29 r30) fun g32 r33 => (fn_v (ev L xs m d nX_sumUnit [.ref cX, .int x1] g32 r33) fun v36 g34 r35 => (fn_n (ev L xs m d nT_append [.ref cT, .int v31, .int v36] g34 r35) fun g37 r38 => (lp L xs nX_product nm_m122 m d k 8 [some (.ref cX), some (.int x1), some (.int v31), some (.int (x3 + 1)), some (.int v31)] g37 r38))))))
theorem bX_product_41_1 (L : Nat) (xs : Nat → Int32) (m d k : Nat) (n : Nat) (x1 x2 x3 x4 : Int32) (g : a2_G) (r : a2_A) : bk L xs nX_product nm_m122 m d k (n + 22) 41 [some (.ref cX), some (.int x1), some (.int x2), some (.int x3), some (.int x4)] [] g r = BX_product_41_1 L xs m d k x1 x2 x3 x4 g r := by
  show _ = ((fn_v (ev L xs m d nR_value [.ref cR] g r) fun v28 g26 r27 => (fn_v (ev L xs m d nX_join [.ref cX, .int 55, .int v28, .int x2] g26 r27) fun v31 g29 r30 => (fn_n (ev L xs m d nR_advance [.ref cR] g29 r30) fun g32 r33 => (fn_v (ev L xs m d nX_sumUnit [.ref cX, .int x1] g32 r33) fun v36 g34 r35 => (fn_n (ev L xs m d nT_append [.ref cT, .int v31, .int v36] g34 r35) fun g37 r38 => (lp L xs nX_product nm_m122 m d k 8 [some (.ref cX), some (.int x1), some (.int v31), some (.int (x3 + 1)), some (.int v31)] g37 r38)))))) : Option fn_Z)
  refine (fs_r (n := n + 18) 4 (pc' := 48) (L' := [some (.ref cX), some (.int x1), some (.int x2), some (.int x3), some (.int x4)]) (S' := [.ref cR, .int 55, .ref cX]) rfl).trans ?_
  refine (fs_cv (n := n + 17) (N := nm_m60) (as := [.ref cR]) (rest := [.int 55, .ref cX]) rfl rfl (Or.inl rfl) rfl rfl rfl rfl rfl).trans (fs_fv fun v28 g26 r27 => ?_)
  refine (fs_r (n := n + 16) 1 (pc' := 52) (L' := [some (.ref cX), some (.int x1), some (.int x2), some (.int x3), some (.int x4)]) (S' := [.int x2, .int v28, .int 55, .ref cX]) rfl).trans ?_
  refine (fs_cv (n := n + 15) (N := nm_m107) (as := [.ref cX, .int 55, .int v28, .int x2]) (rest := []) rfl rfl (Or.inl rfl) rfl rfl rfl rfl rfl).trans (fs_fv fun v31 g29 r30 => ?_)
  refine (fs_r (n := n + 12) 3 (pc' := 61) (L' := [some (.ref cX), some (.int x1), some (.int x2), some (.int x3), some (.int v31)]) (S' := [.ref cR]) rfl).trans ?_
  refine (fs_cn (n := n + 11) (N := nm_m61) (as := [.ref cR]) (rest := []) rfl rfl (Or.inl rfl) rfl rfl rfl rfl rfl).trans (fs_fn fun g32 r33 => ?_)
  refine (fs_r (n := n + 6) 5 (pc' := 72) (L' := [some (.ref cX), some (.int x1), some (.int x2), some (.int x3), some (.int v31)]) (S' := [.int x1, .ref cX, .int v31, .ref cT]) rfl).trans ?_
  refine (fs_cv (n := n + 5) (N := nm_m123) (as := [.ref cX, .int x1]) (rest := [.int v31, .ref cT]) rfl rfl (Or.inl rfl) rfl rfl rfl rfl rfl).trans (fs_fv fun v36 g34 r35 => ?_)
  refine (fs_cn (n := n + 4) (N := nm_m63) (as := [.ref cT, .int v31, .int v36]) (rest := []) rfl rfl (Or.inl rfl) rfl rfl rfl rfl rfl).trans (fs_fn fun g37 r38 => ?_)
  refine (fs_r (n := n + 1) 3 (pc' := 84) (L' := [some (.ref cX), some (.int x1), some (.int v31), some (.int (x3 + 1)), some (.int v31)]) (S' := []) rfl).trans ?_
  exact (fs_gb (n := n + 0) rfl (t := 8) rfl (by decide)).trans rfl
def BX_product_8_1 (L : Nat) (xs : Nat → Int32) (m d k : Nat) (x1 x2 x3 x4 : Int32) (g : a2_G) (r : a2_A) : Option fn_Z := (if am_c2 .ge x3 1500 = true then (BX_product_87_1 L xs m d k x1 x2 x3 x4 g r) else (fn_v (ev L xs m d nR_isSign [.ref cR, .int 7, .int 0] g r) fun v25 g23 r24 => (if am_c2 .ne v25 0 = true then (BX_product_41_1 L xs m d k x1 x2 x3 x4 g23 r24) else (fn_v (ev L xs m d nR_isSign [.ref cR, .int 8, .int 0] g23 r24) fun v41 g39 r40 => (if am_c2 .eq v41 0 = true then (BX_product_87_1 L xs m d k x1 x2 x3 x4 g39 r40) else (BX_product_41_1 L xs m d k x1 x2 x3 x4 g39 r40))))))
theorem bX_product_8_1 (L : Nat) (xs : Nat → Int32) (m d k : Nat) (n : Nat) (x1 x2 x3 x4 : Int32) (g : a2_G) (r : a2_A) : bk L xs nX_product nm_m122 m d k (n + 37) 8 [some (.ref cX), some (.int x1), some (.int x2), some (.int x3), some (.int x4)] [] g r = BX_product_8_1 L xs m d k x1 x2 x3 x4 g r := by
  show _ = ((if am_c2 .ge x3 1500 = true then (BX_product_87_1 L xs m d k x1 x2 x3 x4 g r) else (fn_v (ev L xs m d nR_isSign [.ref cR, .int 7, .int 0] g r) fun v25 g23 r24 => (if am_c2 .ne v25 0 = true then (BX_product_41_1 L xs m d k x1 x2 x3 x4 g23 r24) else (fn_v (ev L xs m d nR_isSign [.ref cR, .int 8, .int 0] g23 r24) fun v41 g39 r40 => (if am_c2 .eq v41 0 = true then (BX_product_87_1 L xs m d k x1 x2 x3 x4 g39 r40) else (BX_product_41_1 L xs m d k x1 x2 x3 x4 g39 r40)))))) : Option fn_Z)
  refine (fs_r (n := n + 35) 2 (pc' := 12) (L' := [some (.ref cX), some (.int x1), some (.int x2), some (.int x3), some (.int x4)]) (S' := [.int 1500, .int x3]) rfl).trans ?_
  refine (fs_j (n := n + 34) rfl (t := 87) rfl (by decide)).trans (fs_ite ?_ ?_)
  · skip
    exact bX_product_87_1 L xs m d k (n + 32) x1 x2 x3 x4 g r
  · skip
    refine (fs_r (n := n + 30) 4 (pc' := 22) (L' := [some (.ref cX), some (.int x1), some (.int x2), some (.int x3), some (.int x4)]) (S' := [.int 0, .int 7, .ref cR]) rfl).trans ?_
    refine (fs_cv (n := n + 29) (N := nm_m101) (as := [.ref cR, .int 7, .int 0]) (rest := []) rfl rfl (Or.inl rfl) rfl rfl rfl rfl rfl).trans (fs_fv fun v25 g23 r24 => ?_)
    refine (fs_i (n := n + 28) rfl (t := 41) rfl (by decide)).trans (fs_ite ?_ ?_)
    · skip
      exact bX_product_41_1 L xs m d k (n + 6) x1 x2 x3 x4 g23 r24
    · skip
      refine (fs_r (n := n + 24) 4 (pc' := 35) (L' := [some (.ref cX), some (.int x1), some (.int x2), some (.int x3), some (.int x4)]) (S' := [.int 0, .int 8, .ref cR]) rfl).trans ?_
      refine (fs_cv (n := n + 23) (N := nm_m101) (as := [.ref cR, .int 8, .int 0]) (rest := []) rfl rfl (Or.inl rfl) rfl rfl rfl rfl rfl).trans (fs_fv fun v41 g39 r40 => ?_)
      refine (fs_i (n := n + 22) rfl (t := 87) rfl (by decide)).trans (fs_ite ?_ ?_)
      · skip
        exact bX_product_87_1 L xs m d k (n + 20) x1 x2 x3 x4 g39 r40
      · skip
        exact bX_product_41_1 L xs m d k (n + 0) x1 x2 x3 x4 g39 r40
theorem lX_product_8_1 (L : Nat) (xs : Nat → Int32) (m d k : Nat) (x1 x2 x3 x4 : Int32) (g : a2_G) (r : a2_A) : lp L xs nX_product nm_m122 m d (k + 1) 8 [some (.ref cX), some (.int x1), some (.int x2), some (.int x3), some (.int x4)] g r = BX_product_8_1 L xs m d k x1 x2 x3 x4 g r := fs_lp.trans (bX_product_8_1 L xs m d k 863 x1 x2 x3 x4 g r)
theorem eX_product (L : Nat) (xs : Nat → Int32) (m d k : Nat) (n : Nat) (a1 : Int32) (g : a2_G) (r : a2_A) : bk L xs nX_product nm_m122 m d k (n + 43) 0 [some (.ref cX), some (.int a1), none, none, none] [] g r = (fn_v (ev L xs m d nX_sumUnit [.ref cX, .int a1] g r) fun v3 g1 r2 => (BX_product_8 L xs m d k a1 v3 0 g1 r2)) := by
  refine (fs_r (n := n + 41) 2 (pc' := 2) (L' := [some (.ref cX), some (.int a1), none, none, none]) (S' := [.int a1, .ref cX]) rfl).trans ?_
  refine (fs_cv (n := n + 40) (N := nm_m123) (as := [.ref cX, .int a1]) (rest := []) rfl rfl (Or.inl rfl) rfl rfl rfl rfl rfl).trans (fs_fv fun v3 g1 r2 => ?_)
  refine (fs_r (n := n + 37) 3 (pc' := 8) (L' := [some (.ref cX), some (.int a1), some (.int v3), some (.int 0), none]) (S' := []) rfl).trans ?_
  exact bX_product_8 L xs m d k (n + 0) a1 v3 0 g1 r2
theorem qX_product (L : Nat) (xs : Nat → Int32) (m d : Nat) (a1 : Int32) (g : a2_G) (r : a2_A) : ev L xs (m + 1) (d + 1) nX_product [.ref cX, .int a1] g r = (fn_v (ev L xs (m + 1) d nX_sumUnit [.ref cX, .int a1] g r) fun v3 g1 r2 => (BX_product_8 L xs (m + 1) d m a1 v3 0 g1 r2)) := (fs_ev (M := nm_m122) rfl rfl).trans (eX_product L xs (m + 1) d m 857 a1 g r)
/-- CobolParser$Expressions.sumUnit(I)I -/
def BX_sumUnit_56 (L : Nat) (xs : Nat → Int32) (m d k : Nat) (x1 : Int32) (g : a2_G) (r : a2_A) : Option fn_Z := (fn_v (ev L xs m d nL_operand [.ref cL] g r) fun v9 g7 r8 => (some (.inl (some (.int v9)), g7, r8)))
theorem bX_sumUnit_56 (L : Nat) (xs : Nat → Int32) (m d k : Nat) (n : Nat) (x1 : Int32) (g : a2_G) (r : a2_A) : bk L xs nX_sumUnit nm_m123 m d k (n + 4) 56 [some (.ref cX), some (.int x1), none] [] g r = BX_sumUnit_56 L xs m d k x1 g r := by
  show _ = ((fn_v (ev L xs m d nL_operand [.ref cL] g r) fun v9 g7 r8 => (some (.inl (some (.int v9)), g7, r8))) : Option fn_Z)
  refine (fs_r (n := n + 2) 2 (pc' := 60) (L' := [some (.ref cX), some (.int x1), none]) (S' := [.ref cL]) rfl).trans ?_
  refine (fs_cv (n := n + 1) (N := nm_m75) (as := [.ref cL]) (rest := []) rfl rfl (Or.inl rfl) rfl rfl rfl rfl rfl).trans (fs_fv fun v9 g7 r8 => ?_)
  exact (fs_ri (n := n + 0) rfl rfl).trans rfl
theorem eX_sumUnit (L : Nat) (xs : Nat → Int32) (m d k : Nat) (n : Nat) (a1 : Int32) (g : a2_G) (r : a2_A) : bk L xs nX_sumUnit nm_m123 m d k (n + 23) 0 [some (.ref cX), some (.int a1), none] [] g r = (fn_v (ev L xs m d nR_isSign [.ref cR, .int 0, .int 0] g r) fun v3 g1 r2 => (if am_c2 .eq v3 0 = true then (fn_v (ev L xs m d nR_isKind [.ref cR, .int 3] g1 r2) fun v6 g4 r5 => (if am_c2 .eq v6 0 = true then (BX_sumUnit_56 L xs m d k a1 g4 r5) else (fn_n (ev L xs m d nR_refuse [.ref cR, .int 1] g4 r5) fun g10 r11 => (BX_sumUnit_56 L xs m d k a1 g10 r11)))) else (fn_n (ev L xs m d nX_goDeeper [.ref cX, .int (a1 + 1)] g1 r2) fun g12 r13 => (fn_v (ev L xs m d nX_sum [.ref cX, .int (a1 + 1)] g12 r13) fun v16 g14 r15 => (fn_n (ev L xs m d nR_requireSign [.ref cR, .int 1] g14 r15) fun g17 r18 => (some (.inl (some (.int v16)), g17, r18))))))) := by
  refine (fs_r (n := n + 19) 4 (pc' := 6) (L' := [some (.ref cX), some (.int a1), none]) (S' := [.int 0, .int 0, .ref cR]) rfl).trans ?_
  refine (fs_cv (n := n + 18) (N := nm_m101) (as := [.ref cR, .int 0, .int 0]) (rest := []) rfl rfl (Or.inl rfl) rfl rfl rfl rfl rfl).trans (fs_fv fun v3 g1 r2 => ?_)
  refine (fs_i (n := n + 17) rfl (t := 37) rfl (by decide)).trans (fs_ite ?_ ?_)
  · skip
    refine (fs_r (n := n + 14) 3 (pc' := 42) (L' := [some (.ref cX), some (.int a1), none]) (S' := [.int 3, .ref cR]) rfl).trans ?_
    refine (fs_cv (n := n + 13) (N := nm_m50) (as := [.ref cR, .int 3]) (rest := []) rfl rfl (Or.inl rfl) rfl rfl rfl rfl rfl).trans (fs_fv fun v6 g4 r5 => ?_)
    refine (fs_i (n := n + 12) rfl (t := 56) rfl (by decide)).trans (fs_ite ?_ ?_)
    · skip
      exact bX_sumUnit_56 L xs m d k (n + 8) a1 g4 r5
    · skip
      refine (fs_r (n := n + 9) 3 (pc' := 53) (L' := [some (.ref cX), some (.int a1), none]) (S' := [.int 1, .ref cR]) rfl).trans ?_
      refine (fs_cn (n := n + 8) (N := nm_m56) (as := [.ref cR, .int 1]) (rest := []) rfl rfl (Or.inl rfl) rfl rfl rfl rfl rfl).trans (fs_fn fun g10 r11 => ?_)
      exact bX_sumUnit_56 L xs m d k (n + 4) a1 g10 r11
  · skip
    refine (fs_r (n := n + 13) 4 (pc' := 16) (L' := [some (.ref cX), some (.int a1), none]) (S' := [.int (a1 + 1), .ref cX]) rfl).trans ?_
    refine (fs_cn (n := n + 12) (N := nm_m100) (as := [.ref cX, .int (a1 + 1)]) (rest := []) rfl rfl (Or.inl rfl) rfl rfl rfl rfl rfl).trans (fs_fn fun g12 r13 => ?_)
    refine (fs_r (n := n + 8) 4 (pc' := 23) (L' := [some (.ref cX), some (.int a1), none]) (S' := [.int (a1 + 1), .ref cX]) rfl).trans ?_
    refine (fs_cv (n := n + 7) (N := nm_m121) (as := [.ref cX, .int (a1 + 1)]) (rest := []) rfl rfl (Or.inl rfl) rfl rfl rfl rfl rfl).trans (fs_fv fun v16 g14 r15 => ?_)
    refine (fs_r (n := n + 3) 4 (pc' := 32) (L' := [some (.ref cX), some (.int a1), some (.int v16)]) (S' := [.int 1, .ref cR]) rfl).trans ?_
    refine (fs_cn (n := n + 2) (N := nm_m102) (as := [.ref cR, .int 1]) (rest := []) rfl rfl (Or.inl rfl) rfl rfl rfl rfl rfl).trans (fs_fn fun g17 r18 => ?_)
    refine (fs_r (n := n + 1) 1 (pc' := 36) (L' := [some (.ref cX), some (.int a1), some (.int v16)]) (S' := [.int v16]) rfl).trans ?_
    exact (fs_ri (n := n + 0) rfl rfl).trans rfl
theorem qX_sumUnit (L : Nat) (xs : Nat → Int32) (m d : Nat) (a1 : Int32) (g : a2_G) (r : a2_A) : ev L xs (m + 1) (d + 1) nX_sumUnit [.ref cX, .int a1] g r = (fn_v (ev L xs (m + 1) d nR_isSign [.ref cR, .int 0, .int 0] g r) fun v3 g1 r2 => (if am_c2 .eq v3 0 = true then (fn_v (ev L xs (m + 1) d nR_isKind [.ref cR, .int 3] g1 r2) fun v6 g4 r5 => (if am_c2 .eq v6 0 = true then (BX_sumUnit_56 L xs (m + 1) d m a1 g4 r5) else (fn_n (ev L xs (m + 1) d nR_refuse [.ref cR, .int 1] g4 r5) fun g10 r11 => (BX_sumUnit_56 L xs (m + 1) d m a1 g10 r11)))) else (fn_n (ev L xs (m + 1) d nX_goDeeper [.ref cX, .int (a1 + 1)] g1 r2) fun g12 r13 => (fn_v (ev L xs (m + 1) d nX_sum [.ref cX, .int (a1 + 1)] g12 r13) fun v16 g14 r15 => (fn_n (ev L xs (m + 1) d nR_requireSign [.ref cR, .int 1] g14 r15) fun g17 r18 => (some (.inl (some (.int v16)), g17, r18))))))) := (fs_ev (M := nm_m123) rfl rfl).trans (eX_sumUnit L xs (m + 1) d m 877 a1 g r)
/-- CobolParser$Clauses.reservedClause()V -/
def BC_reservedClause_222 (L : Nat) (xs : Nat → Int32) (m d k : Nat) (g : a2_G) (r : a2_A) : Option fn_Z := (some (.inl none, g, r))
theorem bC_reservedClause_222 (L : Nat) (xs : Nat → Int32) (m d k : Nat) (n : Nat) (g : a2_G) (r : a2_A) : bk L xs nC_reservedClause nm_m124 m d k (n + 1) 222 [some (.ref cC)] [] g r = BC_reservedClause_222 L xs m d k g r := by
  show _ = ((some (.inl none, g, r)) : Option fn_Z)
  exact (fs_rv (n := n + 0) rfl rfl).trans rfl
def BC_reservedClause_124 (L : Nat) (xs : Nat → Int32) (m d k : Nat) (x1 : Int32) (g : a2_G) (r : a2_A) : Option fn_Z := (fn_n (ev L xs m d nC_requireThat [.ref cC, .int x1] g r) fun g15 r16 => (fn_n (ev L xs m d nC_unitName [.ref cC, .int 2] g15 r16) fun g17 r18 => (BC_reservedClause_222 L xs m d k g17 r18)))
theorem bC_reservedClause_124 (L : Nat) (xs : Nat → Int32) (m d k : Nat) (n : Nat) (x1 : Int32) (g : a2_G) (r : a2_A) : bk L xs nC_reservedClause nm_m124 m d k (n + 6) 124 [some (.ref cC)] [.int x1, .ref cC] g r = BC_reservedClause_124 L xs m d k x1 g r := by
  show _ = ((fn_n (ev L xs m d nC_requireThat [.ref cC, .int x1] g r) fun g15 r16 => (fn_n (ev L xs m d nC_unitName [.ref cC, .int 2] g15 r16) fun g17 r18 => (BC_reservedClause_222 L xs m d k g17 r18))) : Option fn_Z)
  refine (fs_cn (n := n + 5) (N := nm_m55) (as := [.ref cC, .int x1]) (rest := []) rfl rfl (Or.inl rfl) rfl rfl rfl rfl rfl).trans (fs_fn fun g15 r16 => ?_)
  refine (fs_r (n := n + 3) 2 (pc' := 129) (L' := [some (.ref cC)]) (S' := [.int 2, .ref cC]) rfl).trans ?_
  refine (fs_cn (n := n + 2) (N := nm_m133) (as := [.ref cC, .int 2]) (rest := []) rfl rfl (Or.inl rfl) rfl rfl rfl rfl rfl).trans (fs_fn fun g17 r18 => ?_)
  refine (fs_go (n := n + 1) rfl (t := 222) rfl (by decide)).trans ?_
  exact bC_reservedClause_222 L xs m d k (n + 0) g17 r18
theorem eC_reservedClause (L : Nat) (xs : Nat → Int32) (m d k : Nat) (n : Nat) (g : a2_G) (r : a2_A) : bk L xs nC_reservedClause nm_m124 m d k (n + 23) 0 [some (.ref cC)] [] g r = (fn_v (ev L xs m d nR_value [.ref cR] g r) fun v3 g1 r2 => (if (v3 : Int32).toInt = 0 then (fn_n (ev L xs m d nC_identification [.ref cC] g1 r2) fun g4 r5 => (BC_reservedClause_222 L xs m d k g4 r5)) else (if (v3 : Int32).toInt = 2 then (fn_n (ev L xs m d nC_requireState [.ref cC, .int 0, .int 0] g1 r2) fun g6 r7 => (fn_n (ev L xs m d nC_unitName [.ref cC, .int 1] g6 r7) fun g8 r9 => (BC_reservedClause_222 L xs m d k g8 r9))) else (if (v3 : Int32).toInt = 3 then (fn_n (ev L xs m d nC_requireState [.ref cC, .int 0, .int 0] g1 r2) fun g10 r11 => (fn_v (ev L xs m d nU_openCount [.ref cU] g10 r11) fun v14 g12 r13 => (if am_c2 .ne v14 1 = true then (BC_reservedClause_124 L xs m d k 0 g12 r13) else (BC_reservedClause_124 L xs m d k 1 g12 r13)))) else (if (v3 : Int32).toInt = 4 then (fn_n (ev L xs m d nC_requireState [.ref cC, .int 1, .int 1] g1 r2) fun g19 r20 => (fn_v (ev L xs m d nU_handle [.ref cU] g19 r20) fun v23 g21 r22 => (fn_v (ev L xs m d nC_heading [.ref cC, .int 3, .int 1, .int v23] g21 r22) fun v26 g24 r25 => (fn_n (ev L xs m d nU_setState [.ref cU, .int 2] (upd g24 fC_openDivision v26) r25) fun g27 r28 => (BC_reservedClause_222 L xs m d k g27 r28))))) else (if (v3 : Int32).toInt = 5 then (fn_n (ev L xs m d nC_requireState [.ref cC, .int 2, .int 2] g1 r2) fun g29 r30 => (fn_n (ev L xs m d nC_select [.ref cC] g29 r30) fun g31 r32 => (BC_reservedClause_222 L xs m d k g31 r32))) else (if (v3 : Int32).toInt = 30 then (fn_n (ev L xs m d nC_requireState [.ref cC, .int 1, .int 7] g1 r2) fun g33 r34 => (fn_n (ev L xs m d nC_procedure [.ref cC] g33 r34) fun g35 r36 => (BC_reservedClause_222 L xs m d k g35 r36))) else (if (v3 : Int32).toInt = 32 then (fn_n (ev L xs m d nC_requireState [.ref cC, .int 8, .int 8] g1 r2) fun g37 r38 => (fn_n (ev L xs m d nC_beginDeclaratives [.ref cC] g37 r38) fun g39 r40 => (BC_reservedClause_222 L xs m d k g39 r40))) else (if (v3 : Int32).toInt = 33 then (fn_n (ev L xs m d nC_endSomething [.ref cC] g1 r2) fun g41 r42 => (BC_reservedClause_222 L xs m d k g41 r42)) else (fn_n (ev L xs m d nC_dataClause [.ref cC] g1 r2) fun g43 r44 => (BC_reservedClause_222 L xs m d k g43 r44))))))))))) := by
  refine (fs_r (n := n + 21) 2 (pc' := 4) (L' := [some (.ref cC)]) (S' := [.ref cR]) rfl).trans ?_
  refine (fs_cv (n := n + 20) (N := nm_m60) (as := [.ref cR]) (rest := []) rfl rfl (Or.inl rfl) rfl rfl rfl rfl rfl).trans (fs_fv fun v3 g1 r2 => ?_)
  refine (fs_ls (n := n + 19) (l := [(0, 73), (2, 80), (3, 94), (4, 128), (5, 162), (30, 175), (32, 189), (33, 204)]) rfl rfl rfl).trans ?_
  refine fs_lc ?_ (fs_lc ?_ (fs_lc ?_ (fs_lc ?_ (fs_lc ?_ (fs_lc ?_ (fs_lc ?_ (fs_lc ?_ (fs_ln ?_))))))))
  · refine (fs_J1 (n := n + 19) (t := 80) rfl (by decide)).trans ?_
    refine (fs_r (n := n + 18) 1 (pc' := 81) (L' := [some (.ref cC)]) (S' := [.ref cC]) rfl).trans ?_
    refine (fs_cn (n := n + 17) (N := nm_m125) (as := [.ref cC]) (rest := []) rfl rfl (Or.inl rfl) rfl rfl rfl rfl rfl).trans (fs_fn fun g4 r5 => ?_)
    refine (fs_go (n := n + 16) rfl (t := 222) rfl (by decide)).trans ?_
    exact bC_reservedClause_222 L xs m d k (n + 15) g4 r5
  · refine (fs_J1 (n := n + 19) (t := 87) rfl (by decide)).trans ?_
    refine (fs_r (n := n + 16) 3 (pc' := 90) (L' := [some (.ref cC)]) (S' := [.int 0, .int 0, .ref cC]) rfl).trans ?_
    refine (fs_cn (n := n + 15) (N := nm_m53) (as := [.ref cC, .int 0, .int 0]) (rest := []) rfl rfl (Or.inl rfl) rfl rfl rfl rfl rfl).trans (fs_fn fun g6 r7 => ?_)
    refine (fs_r (n := n + 13) 2 (pc' := 95) (L' := [some (.ref cC)]) (S' := [.int 1, .ref cC]) rfl).trans ?_
    refine (fs_cn (n := n + 12) (N := nm_m133) (as := [.ref cC, .int 1]) (rest := []) rfl rfl (Or.inl rfl) rfl rfl rfl rfl rfl).trans (fs_fn fun g8 r9 => ?_)
    refine (fs_go (n := n + 11) rfl (t := 222) rfl (by decide)).trans ?_
    exact bC_reservedClause_222 L xs m d k (n + 10) g8 r9
  · refine (fs_J1 (n := n + 19) (t := 101) rfl (by decide)).trans ?_
    refine (fs_r (n := n + 16) 3 (pc' := 104) (L' := [some (.ref cC)]) (S' := [.int 0, .int 0, .ref cC]) rfl).trans ?_
    refine (fs_cn (n := n + 15) (N := nm_m53) (as := [.ref cC, .int 0, .int 0]) (rest := []) rfl rfl (Or.inl rfl) rfl rfl rfl rfl rfl).trans (fs_fn fun g10 r11 => ?_)
    refine (fs_r (n := n + 12) 3 (pc' := 112) (L' := [some (.ref cC)]) (S' := [.ref cU, .ref cC]) rfl).trans ?_
    refine (fs_cv (n := n + 11) (N := nm_m126) (as := [.ref cU]) (rest := [.ref cC]) rfl rfl (Or.inl rfl) rfl rfl rfl rfl rfl).trans (fs_fv fun v14 g12 r13 => ?_)
    refine (fs_r (n := n + 10) 1 (pc' := 116) (L' := [some (.ref cC)]) (S' := [.int 1, .int v14, .ref cC]) rfl).trans ?_
    refine (fs_j (n := n + 9) rfl (t := 123) rfl (by decide)).trans (fs_ite ?_ ?_)
    · skip
      refine (fs_r (n := n + 8) 1 (pc' := 124) (L' := [some (.ref cC)]) (S' := [.int 0, .ref cC]) rfl).trans ?_
      exact bC_reservedClause_124 L xs m d k (n + 2) 0 g12 r13
    · skip
      refine (fs_r (n := n + 8) 1 (pc' := 120) (L' := [some (.ref cC)]) (S' := [.int 1, .ref cC]) rfl).trans ?_
      refine (fs_go (n := n + 7) rfl (t := 124) rfl (by decide)).trans ?_
      exact bC_reservedClause_124 L xs m d k (n + 1) 1 g12 r13
  · refine (fs_J1 (n := n + 19) (t := 135) rfl (by decide)).trans ?_
    refine (fs_r (n := n + 16) 3 (pc' := 138) (L' := [some (.ref cC)]) (S' := [.int 1, .int 1, .ref cC]) rfl).trans ?_
    refine (fs_cn (n := n + 15) (N := nm_m53) (as := [.ref cC, .int 1, .int 1]) (rest := []) rfl rfl (Or.inl rfl) rfl rfl rfl rfl rfl).trans (fs_fn fun g19 r20 => ?_)
    refine (fs_r (n := n + 9) 6 (pc' := 149) (L' := [some (.ref cC)]) (S' := [.ref cU, .int 1, .int 3, .ref cC, .ref cC]) rfl).trans ?_
    refine (fs_cv (n := n + 8) (N := nm_m130) (as := [.ref cU]) (rest := [.int 1, .int 3, .ref cC, .ref cC]) rfl rfl (Or.inl rfl) rfl rfl rfl rfl rfl).trans (fs_fv fun v23 g21 r22 => ?_)
    refine (fs_cv (n := n + 7) (N := nm_m131) (as := [.ref cC, .int 3, .int 1, .int v23]) (rest := [.ref cC]) rfl rfl (Or.inl rfl) rfl rfl rfl rfl rfl).trans (fs_fv fun v26 g24 r25 => ?_)
    refine (fs_pf (n := n + 6) (ci := 6) (j := 6) rfl rfl rfl rfl).trans ?_
    refine (fs_r (n := n + 3) 3 (pc' := 163) (L' := [some (.ref cC)]) (S' := [.int 2, .ref cU]) rfl).trans ?_
    refine (fs_cn (n := n + 2) (N := nm_m65) (as := [.ref cU, .int 2]) (rest := []) rfl rfl (Or.inl rfl) rfl rfl rfl rfl rfl).trans (fs_fn fun g27 r28 => ?_)
    refine (fs_go (n := n + 1) rfl (t := 222) rfl (by decide)).trans ?_
    exact bC_reservedClause_222 L xs m d k (n + 0) g27 r28
  · refine (fs_J1 (n := n + 19) (t := 169) rfl (by decide)).trans ?_
    refine (fs_r (n := n + 16) 3 (pc' := 172) (L' := [some (.ref cC)]) (S' := [.int 2, .int 2, .ref cC]) rfl).trans ?_
    refine (fs_cn (n := n + 15) (N := nm_m53) (as := [.ref cC, .int 2, .int 2]) (rest := []) rfl rfl (Or.inl rfl) rfl rfl rfl rfl rfl).trans (fs_fn fun g29 r30 => ?_)
    refine (fs_r (n := n + 14) 1 (pc' := 176) (L' := [some (.ref cC)]) (S' := [.ref cC]) rfl).trans ?_
    refine (fs_cn (n := n + 13) (N := nm_m135) (as := [.ref cC]) (rest := []) rfl rfl (Or.inl rfl) rfl rfl rfl rfl rfl).trans (fs_fn fun g31 r32 => ?_)
    refine (fs_go (n := n + 12) rfl (t := 222) rfl (by decide)).trans ?_
    exact bC_reservedClause_222 L xs m d k (n + 11) g31 r32
  · refine (fs_J1 (n := n + 19) (t := 182) rfl (by decide)).trans ?_
    refine (fs_r (n := n + 16) 3 (pc' := 186) (L' := [some (.ref cC)]) (S' := [.int 7, .int 1, .ref cC]) rfl).trans ?_
    refine (fs_cn (n := n + 15) (N := nm_m53) (as := [.ref cC, .int 1, .int 7]) (rest := []) rfl rfl (Or.inl rfl) rfl rfl rfl rfl rfl).trans (fs_fn fun g33 r34 => ?_)
    refine (fs_r (n := n + 14) 1 (pc' := 190) (L' := [some (.ref cC)]) (S' := [.ref cC]) rfl).trans ?_
    refine (fs_cn (n := n + 13) (N := nm_m138) (as := [.ref cC]) (rest := []) rfl rfl (Or.inl rfl) rfl rfl rfl rfl rfl).trans (fs_fn fun g35 r36 => ?_)
    refine (fs_go (n := n + 12) rfl (t := 222) rfl (by decide)).trans ?_
    exact bC_reservedClause_222 L xs m d k (n + 11) g35 r36
  · refine (fs_J1 (n := n + 19) (t := 196) rfl (by decide)).trans ?_
    refine (fs_r (n := n + 16) 3 (pc' := 201) (L' := [some (.ref cC)]) (S' := [.int 8, .int 8, .ref cC]) rfl).trans ?_
    refine (fs_cn (n := n + 15) (N := nm_m53) (as := [.ref cC, .int 8, .int 8]) (rest := []) rfl rfl (Or.inl rfl) rfl rfl rfl rfl rfl).trans (fs_fn fun g37 r38 => ?_)
    refine (fs_r (n := n + 14) 1 (pc' := 205) (L' := [some (.ref cC)]) (S' := [.ref cC]) rfl).trans ?_
    refine (fs_cn (n := n + 13) (N := nm_m139) (as := [.ref cC]) (rest := []) rfl rfl (Or.inl rfl) rfl rfl rfl rfl rfl).trans (fs_fn fun g39 r40 => ?_)
    refine (fs_go (n := n + 12) rfl (t := 222) rfl (by decide)).trans ?_
    exact bC_reservedClause_222 L xs m d k (n + 11) g39 r40
  · refine (fs_J1 (n := n + 19) (t := 211) rfl (by decide)).trans ?_
    refine (fs_r (n := n + 18) 1 (pc' := 212) (L' := [some (.ref cC)]) (S' := [.ref cC]) rfl).trans ?_
    refine (fs_cn (n := n + 17) (N := nm_m140) (as := [.ref cC]) (rest := []) rfl rfl (Or.inl rfl) rfl rfl rfl rfl rfl).trans (fs_fn fun g41 r42 => ?_)
    refine (fs_go (n := n + 16) rfl (t := 222) rfl (by decide)).trans ?_
    exact bC_reservedClause_222 L xs m d k (n + 15) g41 r42
  · refine (fs_J1 (n := n + 19) (t := 218) rfl (by decide)).trans ?_
    refine (fs_r (n := n + 18) 1 (pc' := 219) (L' := [some (.ref cC)]) (S' := [.ref cC]) rfl).trans ?_
    refine (fs_cn (n := n + 17) (N := nm_m146) (as := [.ref cC]) (rest := []) rfl rfl (Or.inl rfl) rfl rfl rfl rfl rfl).trans (fs_fn fun g43 r44 => ?_)
    exact bC_reservedClause_222 L xs m d k (n + 16) g43 r44
theorem qC_reservedClause (L : Nat) (xs : Nat → Int32) (m d : Nat) (g : a2_G) (r : a2_A) : ev L xs (m + 1) (d + 1) nC_reservedClause [.ref cC] g r = (fn_v (ev L xs (m + 1) d nR_value [.ref cR] g r) fun v3 g1 r2 => (if (v3 : Int32).toInt = 0 then (fn_n (ev L xs (m + 1) d nC_identification [.ref cC] g1 r2) fun g4 r5 => (BC_reservedClause_222 L xs (m + 1) d m g4 r5)) else (if (v3 : Int32).toInt = 2 then (fn_n (ev L xs (m + 1) d nC_requireState [.ref cC, .int 0, .int 0] g1 r2) fun g6 r7 => (fn_n (ev L xs (m + 1) d nC_unitName [.ref cC, .int 1] g6 r7) fun g8 r9 => (BC_reservedClause_222 L xs (m + 1) d m g8 r9))) else (if (v3 : Int32).toInt = 3 then (fn_n (ev L xs (m + 1) d nC_requireState [.ref cC, .int 0, .int 0] g1 r2) fun g10 r11 => (fn_v (ev L xs (m + 1) d nU_openCount [.ref cU] g10 r11) fun v14 g12 r13 => (if am_c2 .ne v14 1 = true then (BC_reservedClause_124 L xs (m + 1) d m 0 g12 r13) else (BC_reservedClause_124 L xs (m + 1) d m 1 g12 r13)))) else (if (v3 : Int32).toInt = 4 then (fn_n (ev L xs (m + 1) d nC_requireState [.ref cC, .int 1, .int 1] g1 r2) fun g19 r20 => (fn_v (ev L xs (m + 1) d nU_handle [.ref cU] g19 r20) fun v23 g21 r22 => (fn_v (ev L xs (m + 1) d nC_heading [.ref cC, .int 3, .int 1, .int v23] g21 r22) fun v26 g24 r25 => (fn_n (ev L xs (m + 1) d nU_setState [.ref cU, .int 2] (upd g24 fC_openDivision v26) r25) fun g27 r28 => (BC_reservedClause_222 L xs (m + 1) d m g27 r28))))) else (if (v3 : Int32).toInt = 5 then (fn_n (ev L xs (m + 1) d nC_requireState [.ref cC, .int 2, .int 2] g1 r2) fun g29 r30 => (fn_n (ev L xs (m + 1) d nC_select [.ref cC] g29 r30) fun g31 r32 => (BC_reservedClause_222 L xs (m + 1) d m g31 r32))) else (if (v3 : Int32).toInt = 30 then (fn_n (ev L xs (m + 1) d nC_requireState [.ref cC, .int 1, .int 7] g1 r2) fun g33 r34 => (fn_n (ev L xs (m + 1) d nC_procedure [.ref cC] g33 r34) fun g35 r36 => (BC_reservedClause_222 L xs (m + 1) d m g35 r36))) else (if (v3 : Int32).toInt = 32 then (fn_n (ev L xs (m + 1) d nC_requireState [.ref cC, .int 8, .int 8] g1 r2) fun g37 r38 => (fn_n (ev L xs (m + 1) d nC_beginDeclaratives [.ref cC] g37 r38) fun g39 r40 => (BC_reservedClause_222 L xs (m + 1) d m g39 r40))) else (if (v3 : Int32).toInt = 33 then (fn_n (ev L xs (m + 1) d nC_endSomething [.ref cC] g1 r2) fun g41 r42 => (BC_reservedClause_222 L xs (m + 1) d m g41 r42)) else (fn_n (ev L xs (m + 1) d nC_dataClause [.ref cC] g1 r2) fun g43 r44 => (BC_reservedClause_222 L xs (m + 1) d m g43 r44))))))))))) := (fs_ev (M := nm_m124) rfl rfl).trans (eC_reservedClause L xs (m + 1) d m 877 g r)
/-- CobolParser$Clauses.identification()V -/
def BC_identification_55 (L : Nat) (xs : Nat → Int32) (m d k : Nat) (g : a2_G) (r : a2_A) : Option fn_Z := (fn_v (ev L xs m d nU_handle [.ref cU] g r) fun v11 g9 r10 => (fn_v (ev L xs m d nC_heading [.ref cC, .int 0, .int 1, .int v11] g9 r10) fun v14 g12 r13 => (fn_n (ev L xs m d nU_setState [.ref cU, .int 12] g12 r13) fun g15 r16 => (fn_n (ev L xs m d nU_open [.ref cU, .int v14] g15 r16) fun g17 r18 => (some (.inl none, g17, r18))))))
theorem bC_identification_55 (L : Nat) (xs : Nat → Int32) (m d k : Nat) (n : Nat) (g : a2_G) (r : a2_A) : bk L xs nC_identification nm_m125 m d k (n + 17) 55 [some (.ref cC), none] [] g r = BC_identification_55 L xs m d k g r := by
  show _ = ((fn_v (ev L xs m d nU_handle [.ref cU] g r) fun v11 g9 r10 => (fn_v (ev L xs m d nC_heading [.ref cC, .int 0, .int 1, .int v11] g9 r10) fun v14 g12 r13 => (fn_n (ev L xs m d nU_setState [.ref cU, .int 12] g12 r13) fun g15 r16 => (fn_n (ev L xs m d nU_open [.ref cU, .int v14] g15 r16) fun g17 r18 => (some (.inl none, g17, r18)))))) : Option fn_Z)
  refine (fs_r (n := n + 12) 5 (pc' := 62) (L' := [some (.ref cC), none]) (S' := [.ref cU, .int 1, .int 0, .ref cC]) rfl).trans ?_
  refine (fs_cv (n := n + 11) (N := nm_m130) (as := [.ref cU]) (rest := [.int 1, .int 0, .ref cC]) rfl rfl (Or.inl rfl) rfl rfl rfl rfl rfl).trans (fs_fv fun v11 g9 r10 => ?_)
  refine (fs_cv (n := n + 10) (N := nm_m131) (as := [.ref cC, .int 0, .int 1, .int v11]) (rest := []) rfl rfl (Or.inl rfl) rfl rfl rfl rfl rfl).trans (fs_fv fun v14 g12 r13 => ?_)
  refine (fs_r (n := n + 6) 4 (pc' := 75) (L' := [some (.ref cC), some (.int v14)]) (S' := [.int 12, .ref cU]) rfl).trans ?_
  refine (fs_cn (n := n + 5) (N := nm_m65) (as := [.ref cU, .int 12]) (rest := []) rfl rfl (Or.inl rfl) rfl rfl rfl rfl rfl).trans (fs_fn fun g15 r16 => ?_)
  refine (fs_r (n := n + 2) 3 (pc' := 83) (L' := [some (.ref cC), some (.int v14)]) (S' := [.int v14, .ref cU]) rfl).trans ?_
  refine (fs_cn (n := n + 1) (N := nm_m132) (as := [.ref cU, .int v14]) (rest := []) rfl rfl (Or.inl rfl) rfl rfl rfl rfl rfl).trans (fs_fn fun g17 r18 => ?_)
  exact (fs_rv (n := n + 0) rfl rfl).trans rfl
def BC_identification_34 (L : Nat) (xs : Nat → Int32) (m d k : Nat) (x1 : Int32) (g : a2_G) (r : a2_A) : Option fn_Z := (fn_n (ev L xs m d nC_requireThat [.ref cC, .int x1] g r) fun g4 r5 => (fn_v (ev L xs m d nU_isFull [.ref cU] g4 r5) fun v8 g6 r7 => (if am_c2 .eq v8 0 = true then (BC_identification_55 L xs m d k g6 r7) else (fn_n (ev L xs m d nR_refuse [.ref cR, .int 3] g6 r7) fun g19 r20 => (BC_identification_55 L xs m d k g19 r20)))))
theorem bC_identification_34 (L : Nat) (xs : Nat → Int32) (m d k : Nat) (n : Nat) (x1 : Int32) (g : a2_G) (r : a2_A) : bk L xs nC_identification nm_m125 m d k (n + 26) 34 [some (.ref cC), none] [.int x1, .ref cC] g r = BC_identification_34 L xs m d k x1 g r := by
  show _ = ((fn_n (ev L xs m d nC_requireThat [.ref cC, .int x1] g r) fun g4 r5 => (fn_v (ev L xs m d nU_isFull [.ref cU] g4 r5) fun v8 g6 r7 => (if am_c2 .eq v8 0 = true then (BC_identification_55 L xs m d k g6 r7) else (fn_n (ev L xs m d nR_refuse [.ref cR, .int 3] g6 r7) fun g19 r20 => (BC_identification_55 L xs m d k g19 r20))))) : Option fn_Z)
  refine (fs_cn (n := n + 25) (N := nm_m55) (as := [.ref cC, .int x1]) (rest := []) rfl rfl (Or.inl rfl) rfl rfl rfl rfl rfl).trans (fs_fn fun g4 r5 => ?_)
  refine (fs_r (n := n + 23) 2 (pc' := 41) (L' := [some (.ref cC), none]) (S' := [.ref cU]) rfl).trans ?_
  refine (fs_cv (n := n + 22) (N := nm_m129) (as := [.ref cU]) (rest := []) rfl rfl (Or.inl rfl) rfl rfl rfl rfl rfl).trans (fs_fv fun v8 g6 r7 => ?_)
  refine (fs_i (n := n + 21) rfl (t := 55) rfl (by decide)).trans (fs_ite ?_ ?_)
  · skip
    exact bC_identification_55 L xs m d k (n + 4) g6 r7
  · skip
    refine (fs_r (n := n + 18) 3 (pc' := 52) (L' := [some (.ref cC), none]) (S' := [.int 3, .ref cR]) rfl).trans ?_
    refine (fs_cn (n := n + 17) (N := nm_m56) (as := [.ref cR, .int 3]) (rest := []) rfl rfl (Or.inl rfl) rfl rfl rfl rfl rfl).trans (fs_fn fun g19 r20 => ?_)
    exact bC_identification_55 L xs m d k (n + 0) g19 r20
def BC_identification_29 (L : Nat) (xs : Nat → Int32) (m d k : Nat) (g : a2_G) (r : a2_A) : Option fn_Z := (BC_identification_34 L xs m d k 1 g r)
theorem bC_identification_29 (L : Nat) (xs : Nat → Int32) (m d k : Nat) (n : Nat) (g : a2_G) (r : a2_A) : bk L xs nC_identification nm_m125 m d k (n + 28) 29 [some (.ref cC), none] [.ref cC] g r = BC_identification_29 L xs m d k g r := by
  show _ = ((BC_identification_34 L xs m d k 1 g r) : Option fn_Z)
  refine (fs_r (n := n + 27) 1 (pc' := 30) (L' := [some (.ref cC), none]) (S' := [.int 1, .ref cC]) rfl).trans ?_
  refine (fs_go (n := n + 26) rfl (t := 34) rfl (by decide)).trans ?_
  exact bC_identification_34 L xs m d k (n + 0) 1 g r
def BC_identification_33 (L : Nat) (xs : Nat → Int32) (m d k : Nat) (g : a2_G) (r : a2_A) : Option fn_Z := (BC_identification_34 L xs m d k 0 g r)
theorem bC_identification_33 (L : Nat) (xs : Nat → Int32) (m d k : Nat) (n : Nat) (g : a2_G) (r : a2_A) : bk L xs nC_identification nm_m125 m d k (n + 27) 33 [some (.ref cC), none] [.ref cC] g r = BC_identification_33 L xs m d k g r := by
  show _ = ((BC_identification_34 L xs m d k 0 g r) : Option fn_Z)
  refine (fs_r (n := n + 26) 1 (pc' := 34) (L' := [some (.ref cC), none]) (S' := [.int 0, .ref cC]) rfl).trans ?_
  exact bC_identification_34 L xs m d k (n + 0) 0 g r
theorem eC_identification (L : Nat) (xs : Nat → Int32) (m d k : Nat) (n : Nat) (g : a2_G) (r : a2_A) : bk L xs nC_identification nm_m125 m d k (n + 41) 0 [some (.ref cC), none] [] g r = (fn_v (ev L xs m d nU_openCount [.ref cU] g r) fun v3 g1 r2 => (if am_c2 .eq v3 0 = true then (BC_identification_29 L xs m d k g1 r2) else (fn_v (ev L xs m d nU_kind [.ref cU] g1 r2) fun v23 g21 r22 => (if am_c2 .ne v23 1 = true then (BC_identification_33 L xs m d k g21 r22) else (fn_v (ev L xs m d nC_mayEndOrContain [.ref cC] g21 r22) fun v26 g24 r25 => (if am_c2 .eq v26 0 = true then (BC_identification_33 L xs m d k g24 r25) else (BC_identification_29 L xs m d k g24 r25))))))) := by
  refine (fs_r (n := n + 38) 3 (pc' := 5) (L' := [some (.ref cC), none]) (S' := [.ref cU, .ref cC]) rfl).trans ?_
  refine (fs_cv (n := n + 37) (N := nm_m126) (as := [.ref cU]) (rest := [.ref cC]) rfl rfl (Or.inl rfl) rfl rfl rfl rfl rfl).trans (fs_fv fun v3 g1 r2 => ?_)
  refine (fs_i (n := n + 36) rfl (t := 29) rfl (by decide)).trans (fs_ite ?_ ?_)
  · skip
    exact bC_identification_29 L xs m d k (n + 8) g1 r2
  · skip
    refine (fs_r (n := n + 34) 2 (pc' := 15) (L' := [some (.ref cC), none]) (S' := [.ref cU, .ref cC]) rfl).trans ?_
    refine (fs_cv (n := n + 33) (N := nm_m127) (as := [.ref cU]) (rest := [.ref cC]) rfl rfl (Or.inl rfl) rfl rfl rfl rfl rfl).trans (fs_fv fun v23 g21 r22 => ?_)
    refine (fs_r (n := n + 32) 1 (pc' := 19) (L' := [some (.ref cC), none]) (S' := [.int 1, .int v23, .ref cC]) rfl).trans ?_
    refine (fs_j (n := n + 31) rfl (t := 33) rfl (by decide)).trans (fs_ite ?_ ?_)
    · skip
      exact bC_identification_33 L xs m d k (n + 4) g21 r22
    · skip
      refine (fs_r (n := n + 30) 1 (pc' := 23) (L' := [some (.ref cC), none]) (S' := [.ref cC, .ref cC]) rfl).trans ?_
      refine (fs_cv (n := n + 29) (N := nm_m128) (as := [.ref cC]) (rest := [.ref cC]) rfl rfl (Or.inl rfl) rfl rfl rfl rfl rfl).trans (fs_fv fun v26 g24 r25 => ?_)
      refine (fs_i (n := n + 28) rfl (t := 33) rfl (by decide)).trans (fs_ite ?_ ?_)
      · skip
        exact bC_identification_33 L xs m d k (n + 1) g24 r25
      · skip
        exact bC_identification_29 L xs m d k (n + 0) g24 r25
theorem qC_identification (L : Nat) (xs : Nat → Int32) (m d : Nat) (g : a2_G) (r : a2_A) : ev L xs (m + 1) (d + 1) nC_identification [.ref cC] g r = (fn_v (ev L xs (m + 1) d nU_openCount [.ref cU] g r) fun v3 g1 r2 => (if am_c2 .eq v3 0 = true then (BC_identification_29 L xs (m + 1) d m g1 r2) else (fn_v (ev L xs (m + 1) d nU_kind [.ref cU] g1 r2) fun v23 g21 r22 => (if am_c2 .ne v23 1 = true then (BC_identification_33 L xs (m + 1) d m g21 r22) else (fn_v (ev L xs (m + 1) d nC_mayEndOrContain [.ref cC] g21 r22) fun v26 g24 r25 => (if am_c2 .eq v26 0 = true then (BC_identification_33 L xs (m + 1) d m g24 r25) else (BC_identification_29 L xs (m + 1) d m g24 r25))))))) := (fs_ev (M := nm_m125) rfl rfl).trans (eC_identification L xs (m + 1) d m 859 g r)
/-- CobolParser$Units.openCount()I -/
theorem eU_openCount (L : Nat) (xs : Nat → Int32) (m d k : Nat) (n : Nat) (g : a2_G) (r : a2_A) : bk L xs nU_openCount nm_m126 m d k (n + 3) 0 [some (.ref cU)] [] g r = (some (.inl (some (.int (g fU_size))), g, r)) := by
  refine (fs_r (n := n + 1) 2 (pc' := 4) (L' := [some (.ref cU)]) (S' := [.int (g fU_size)]) rfl).trans ?_
  exact (fs_ri (n := n + 0) rfl rfl).trans rfl
theorem qU_openCount (L : Nat) (xs : Nat → Int32) (m d : Nat) (g : a2_G) (r : a2_A) : ev L xs (m + 1) (d + 1) nU_openCount [.ref cU] g r = (some (.inl (some (.int (g fU_size))), g, r)) := (fs_ev (M := nm_m126) rfl rfl).trans (eU_openCount L xs (m + 1) d m 897 g r)
/-- CobolParser$Units.kind()I -/
def BU_kind_22 (L : Nat) (xs : Nat → Int32) (m d k : Nat) (x1 : Int32) (g : a2_G) (r : a2_A) : Option fn_Z := (some (.inl (some (.int x1)), g, r))
theorem bU_kind_22 (L : Nat) (xs : Nat → Int32) (m d k : Nat) (n : Nat) (x1 : Int32) (g : a2_G) (r : a2_A) : bk L xs nU_kind nm_m127 m d k (n + 1) 22 [some (.ref cU)] [.int x1] g r = BU_kind_22 L xs m d k x1 g r := by
  show _ = ((some (.inl (some (.int x1)), g, r)) : Option fn_Z)
  exact (fs_ri (n := n + 0) rfl rfl).trans rfl
theorem eU_kind (L : Nat) (xs : Nat → Int32) (m d k : Nat) (n : Nat) (g : a2_G) (r : a2_A) : bk L xs nU_kind nm_m127 m d k (n + 12) 0 [some (.ref cU)] [] g r = (if am_c2 .le (g fU_size) 0 = true then (BU_kind_22 L xs m d k (-1) g r) else (if am_inr ((g fU_size) - 1) (r fU_kinds).1 = true then (BU_kind_22 L xs m d k ((r fU_kinds).2 (((g fU_size) - 1) : Int32).toNatClampNeg) g r) else none)) := by
  refine (fs_r (n := n + 10) 2 (pc' := 4) (L' := [some (.ref cU)]) (S' := [.int (g fU_size)]) rfl).trans ?_
  refine (fs_i (n := n + 9) rfl (t := 21) rfl (by decide)).trans (fs_ite ?_ ?_)
  · skip
    refine (fs_r (n := n + 8) 1 (pc' := 22) (L' := [some (.ref cU)]) (S' := [.int (-1)]) rfl).trans ?_
    exact bU_kind_22 L xs m d k (n + 7) (-1) g r
  · skip
    refine (fs_r (n := n + 3) 6 (pc' := 17) (L' := [some (.ref cU)]) (S' := [.int ((g fU_size) - 1), .ref 10801]) rfl).trans ?_
    refine (fs_il (n := n + 2) (k := 801) rfl rfl).trans (fs_ite ?_ rfl)
    refine (fs_go (n := n + 1) rfl (t := 22) rfl (by decide)).trans ?_
    exact bU_kind_22 L xs m d k (n + 0) ((r fU_kinds).2 (((g fU_size) - 1) : Int32).toNatClampNeg) g r
theorem qU_kind (L : Nat) (xs : Nat → Int32) (m d : Nat) (g : a2_G) (r : a2_A) : ev L xs (m + 1) (d + 1) nU_kind [.ref cU] g r = (if am_c2 .le (g fU_size) 0 = true then (BU_kind_22 L xs (m + 1) d m (-1) g r) else (if am_inr ((g fU_size) - 1) (r fU_kinds).1 = true then (BU_kind_22 L xs (m + 1) d m ((r fU_kinds).2 (((g fU_size) - 1) : Int32).toNatClampNeg) g r) else none)) := (fs_ev (M := nm_m127) rfl rfl).trans (eU_kind L xs (m + 1) d m 888 g r)
/-- CobolParser$Clauses.mayEndOrContain()Z -/
def BC_mayEndOrContain_28 (L : Nat) (xs : Nat → Int32) (m d k : Nat) (x1 : Int32) (g : a2_G) (r : a2_A) : Option fn_Z := (if x1 = 0 ∨ x1 = 1 then some (.inl (some (.int x1)), g, r) else none)
theorem bC_mayEndOrContain_28 (L : Nat) (xs : Nat → Int32) (m d k : Nat) (n : Nat) (x1 : Int32) (g : a2_G) (r : a2_A) : bk L xs nC_mayEndOrContain nm_m128 m d k (n + 1) 28 [some (.ref cC)] [.int x1] g r = BC_mayEndOrContain_28 L xs m d k x1 g r := by
  show _ = ((if x1 = 0 ∨ x1 = 1 then some (.inl (some (.int x1)), g, r) else none) : Option fn_Z)
  exact (fs_rb (n := n + 0) rfl rfl).trans rfl
def BC_mayEndOrContain_27 (L : Nat) (xs : Nat → Int32) (m d k : Nat) (g : a2_G) (r : a2_A) : Option fn_Z := (BC_mayEndOrContain_28 L xs m d k 0 g r)
theorem bC_mayEndOrContain_27 (L : Nat) (xs : Nat → Int32) (m d k : Nat) (n : Nat) (g : a2_G) (r : a2_A) : bk L xs nC_mayEndOrContain nm_m128 m d k (n + 2) 27 [some (.ref cC)] [] g r = BC_mayEndOrContain_27 L xs m d k g r := by
  show _ = ((BC_mayEndOrContain_28 L xs m d k 0 g r) : Option fn_Z)
  refine (fs_r (n := n + 1) 1 (pc' := 28) (L' := [some (.ref cC)]) (S' := [.int 0]) rfl).trans ?_
  exact bC_mayEndOrContain_28 L xs m d k (n + 0) 0 g r
theorem eC_mayEndOrContain (L : Nat) (xs : Nat → Int32) (m d k : Nat) (n : Nat) (g : a2_G) (r : a2_A) : bk L xs nC_mayEndOrContain nm_m128 m d k (n + 13) 0 [some (.ref cC)] [] g r = (fn_v (ev L xs m d nU_state [.ref cU] g r) fun v3 g1 r2 => (if am_c2 .lt v3 1 = true then (BC_mayEndOrContain_27 L xs m d k g1 r2) else (fn_v (ev L xs m d nU_state [.ref cU] g1 r2) fun v6 g4 r5 => (if am_c2 .eq v6 9 = true then (BC_mayEndOrContain_27 L xs m d k g4 r5) else (BC_mayEndOrContain_28 L xs m d k 1 g4 r5))))) := by
  refine (fs_r (n := n + 11) 2 (pc' := 4) (L' := [some (.ref cC)]) (S' := [.ref cU]) rfl).trans ?_
  refine (fs_cv (n := n + 10) (N := nm_m54) (as := [.ref cU]) (rest := []) rfl rfl (Or.inl rfl) rfl rfl rfl rfl rfl).trans (fs_fv fun v3 g1 r2 => ?_)
  refine (fs_r (n := n + 9) 1 (pc' := 8) (L' := [some (.ref cC)]) (S' := [.int 1, .int v3]) rfl).trans ?_
  refine (fs_j (n := n + 8) rfl (t := 27) rfl (by decide)).trans (fs_ite ?_ ?_)
  · skip
    exact bC_mayEndOrContain_27 L xs m d k (n + 6) g1 r2
  · skip
    refine (fs_r (n := n + 6) 2 (pc' := 15) (L' := [some (.ref cC)]) (S' := [.ref cU]) rfl).trans ?_
    refine (fs_cv (n := n + 5) (N := nm_m54) (as := [.ref cU]) (rest := []) rfl rfl (Or.inl rfl) rfl rfl rfl rfl rfl).trans (fs_fv fun v6 g4 r5 => ?_)
    refine (fs_r (n := n + 4) 1 (pc' := 20) (L' := [some (.ref cC)]) (S' := [.int 9, .int v6]) rfl).trans ?_
    refine (fs_j (n := n + 3) rfl (t := 27) rfl (by decide)).trans (fs_ite ?_ ?_)
    · skip
      exact bC_mayEndOrContain_27 L xs m d k (n + 1) g4 r5
    · skip
      refine (fs_r (n := n + 2) 1 (pc' := 24) (L' := [some (.ref cC)]) (S' := [.int 1]) rfl).trans ?_
      refine (fs_go (n := n + 1) rfl (t := 28) rfl (by decide)).trans ?_
      exact bC_mayEndOrContain_28 L xs m d k (n + 0) 1 g4 r5
theorem qC_mayEndOrContain (L : Nat) (xs : Nat → Int32) (m d : Nat) (g : a2_G) (r : a2_A) : ev L xs (m + 1) (d + 1) nC_mayEndOrContain [.ref cC] g r = (fn_v (ev L xs (m + 1) d nU_state [.ref cU] g r) fun v3 g1 r2 => (if am_c2 .lt v3 1 = true then (BC_mayEndOrContain_27 L xs (m + 1) d m g1 r2) else (fn_v (ev L xs (m + 1) d nU_state [.ref cU] g1 r2) fun v6 g4 r5 => (if am_c2 .eq v6 9 = true then (BC_mayEndOrContain_27 L xs (m + 1) d m g4 r5) else (BC_mayEndOrContain_28 L xs (m + 1) d m 1 g4 r5))))) := (fs_ev (M := nm_m128) rfl rfl).trans (eC_mayEndOrContain L xs (m + 1) d m 887 g r)
/-- CobolParser$Units.isFull()Z -/
def BU_isFull_14 (L : Nat) (xs : Nat → Int32) (m d k : Nat) (x1 : Int32) (g : a2_G) (r : a2_A) : Option fn_Z := (if x1 = 0 ∨ x1 = 1 then some (.inl (some (.int x1)), g, r) else none)
theorem bU_isFull_14 (L : Nat) (xs : Nat → Int32) (m d k : Nat) (n : Nat) (x1 : Int32) (g : a2_G) (r : a2_A) : bk L xs nU_isFull nm_m129 m d k (n + 1) 14 [some (.ref cU)] [.int x1] g r = BU_isFull_14 L xs m d k x1 g r := by
  show _ = ((if x1 = 0 ∨ x1 = 1 then some (.inl (some (.int x1)), g, r) else none) : Option fn_Z)
  exact (fs_rb (n := n + 0) rfl rfl).trans rfl
theorem eU_isFull (L : Nat) (xs : Nat → Int32) (m d k : Nat) (n : Nat) (g : a2_G) (r : a2_A) : bk L xs nU_isFull nm_m129 m d k (n + 7) 0 [some (.ref cU)] [] g r = (if am_c2 .lt (g fU_size) 10 = true then (BU_isFull_14 L xs m d k 0 g r) else (BU_isFull_14 L xs m d k 1 g r)) := by
  refine (fs_r (n := n + 4) 3 (pc' := 6) (L' := [some (.ref cU)]) (S' := [.int 10, .int (g fU_size)]) rfl).trans ?_
  refine (fs_j (n := n + 3) rfl (t := 13) rfl (by decide)).trans (fs_ite ?_ ?_)
  · skip
    refine (fs_r (n := n + 2) 1 (pc' := 14) (L' := [some (.ref cU)]) (S' := [.int 0]) rfl).trans ?_
    exact bU_isFull_14 L xs m d k (n + 1) 0 g r
  · skip
    refine (fs_r (n := n + 2) 1 (pc' := 10) (L' := [some (.ref cU)]) (S' := [.int 1]) rfl).trans ?_
    refine (fs_go (n := n + 1) rfl (t := 14) rfl (by decide)).trans ?_
    exact bU_isFull_14 L xs m d k (n + 0) 1 g r
theorem qU_isFull (L : Nat) (xs : Nat → Int32) (m d : Nat) (g : a2_G) (r : a2_A) : ev L xs (m + 1) (d + 1) nU_isFull [.ref cU] g r = (if am_c2 .lt (g fU_size) 10 = true then (BU_isFull_14 L xs (m + 1) d m 0 g r) else (BU_isFull_14 L xs (m + 1) d m 1 g r)) := (fs_ev (M := nm_m129) rfl rfl).trans (eU_isFull L xs (m + 1) d m 893 g r)
/-- CobolParser$Units.handle()I -/
def BU_handle_22 (L : Nat) (xs : Nat → Int32) (m d k : Nat) (x1 : Int32) (g : a2_G) (r : a2_A) : Option fn_Z := (some (.inl (some (.int x1)), g, r))
theorem bU_handle_22 (L : Nat) (xs : Nat → Int32) (m d k : Nat) (n : Nat) (x1 : Int32) (g : a2_G) (r : a2_A) : bk L xs nU_handle nm_m130 m d k (n + 1) 22 [some (.ref cU)] [.int x1] g r = BU_handle_22 L xs m d k x1 g r := by
  show _ = ((some (.inl (some (.int x1)), g, r)) : Option fn_Z)
  exact (fs_ri (n := n + 0) rfl rfl).trans rfl
theorem eU_handle (L : Nat) (xs : Nat → Int32) (m d k : Nat) (n : Nat) (g : a2_G) (r : a2_A) : bk L xs nU_handle nm_m130 m d k (n + 12) 0 [some (.ref cU)] [] g r = (if am_c2 .le (g fU_size) 0 = true then (BU_handle_22 L xs m d k 0 g r) else (if am_inr ((g fU_size) - 1) (r fU_handles).1 = true then (BU_handle_22 L xs m d k ((r fU_handles).2 (((g fU_size) - 1) : Int32).toNatClampNeg) g r) else none)) := by
  refine (fs_r (n := n + 10) 2 (pc' := 4) (L' := [some (.ref cU)]) (S' := [.int (g fU_size)]) rfl).trans ?_
  refine (fs_i (n := n + 9) rfl (t := 21) rfl (by decide)).trans (fs_ite ?_ ?_)
  · skip
    refine (fs_r (n := n + 8) 1 (pc' := 22) (L' := [some (.ref cU)]) (S' := [.int 0]) rfl).trans ?_
    exact bU_handle_22 L xs m d k (n + 7) 0 g r
  · skip
    refine (fs_r (n := n + 3) 6 (pc' := 17) (L' := [some (.ref cU)]) (S' := [.int ((g fU_size) - 1), .ref 10803]) rfl).trans ?_
    refine (fs_il (n := n + 2) (k := 803) rfl rfl).trans (fs_ite ?_ rfl)
    refine (fs_go (n := n + 1) rfl (t := 22) rfl (by decide)).trans ?_
    exact bU_handle_22 L xs m d k (n + 0) ((r fU_handles).2 (((g fU_size) - 1) : Int32).toNatClampNeg) g r
theorem qU_handle (L : Nat) (xs : Nat → Int32) (m d : Nat) (g : a2_G) (r : a2_A) : ev L xs (m + 1) (d + 1) nU_handle [.ref cU] g r = (if am_c2 .le (g fU_size) 0 = true then (BU_handle_22 L xs (m + 1) d m 0 g r) else (if am_inr ((g fU_size) - 1) (r fU_handles).1 = true then (BU_handle_22 L xs (m + 1) d m ((r fU_handles).2 (((g fU_size) - 1) : Int32).toNatClampNeg) g r) else none)) := (fs_ev (M := nm_m130) rfl rfl).trans (eU_handle L xs (m + 1) d m 888 g r)
/-- CobolParser$Clauses.heading(III)I -/
theorem eC_heading (L : Nat) (xs : Nat → Int32) (m d k : Nat) (n : Nat) (a1 a2 a3 : Int32) (g : a2_G) (r : a2_A) : bk L xs nC_heading nm_m131 m d k (n + 28) 0 [some (.ref cC), some (.int a1), some (.int a2), some (.int a3), none] [] g r = (fn_v (ev L xs m d nR_place [.ref cR] g r) fun v3 g1 r2 => (fn_v (ev L xs m d nT_make [.ref cT, .int a1, .int 0, .int v3] g1 r2) fun v6 g4 r5 => (fn_n (ev L xs m d nR_advance [.ref cR] g4 r5) fun g7 r8 => (fn_n (ev L xs m d nR_require [.ref cR, .int a2] g7 r8) fun g9 r10 => (fn_v (ev L xs m d nR_requireKind [.ref cR, .int 4] g9 r10) fun v13 g11 r12 => (fn_n (ev L xs m d nT_append [.ref cT, .int a3, .int v6] g11 r12) fun g14 r15 => (some (.inl (some (.int v6)), g14, r15)))))))) := by
  refine (fs_r (n := n + 22) 6 (pc' := 10) (L' := [some (.ref cC), some (.int a1), some (.int a2), some (.int a3), none]) (S' := [.ref cR, .int 0, .int a1, .ref cT]) rfl).trans ?_
  refine (fs_cv (n := n + 21) (N := nm_m58) (as := [.ref cR]) (rest := [.int 0, .int a1, .ref cT]) rfl rfl (Or.inl rfl) rfl rfl rfl rfl rfl).trans (fs_fv fun v3 g1 r2 => ?_)
  refine (fs_cv (n := n + 20) (N := nm_m45) (as := [.ref cT, .int a1, .int 0, .int v3]) (rest := []) rfl rfl (Or.inl rfl) rfl rfl rfl rfl rfl).trans (fs_fv fun v6 g4 r5 => ?_)
  refine (fs_r (n := n + 17) 3 (pc' := 22) (L' := [some (.ref cC), some (.int a1), some (.int a2), some (.int a3), some (.int v6)]) (S' := [.ref cR]) rfl).trans ?_
  refine (fs_cn (n := n + 16) (N := nm_m61) (as := [.ref cR]) (rest := []) rfl rfl (Or.inl rfl) rfl rfl rfl rfl rfl).trans (fs_fn fun g7 r8 => ?_)
  refine (fs_r (n := n + 13) 3 (pc' := 30) (L' := [some (.ref cC), some (.int a1), some (.int a2), some (.int a3), some (.int v6)]) (S' := [.int a2, .ref cR]) rfl).trans ?_
  refine (fs_cn (n := n + 12) (N := nm_m83) (as := [.ref cR, .int a2]) (rest := []) rfl rfl (Or.inl rfl) rfl rfl rfl rfl rfl).trans (fs_fn fun g9 r10 => ?_)
  refine (fs_r (n := n + 9) 3 (pc' := 38) (L' := [some (.ref cC), some (.int a1), some (.int a2), some (.int a3), some (.int v6)]) (S' := [.int 4, .ref cR]) rfl).trans ?_
  refine (fs_cv (n := n + 8) (N := nm_m59) (as := [.ref cR, .int 4]) (rest := []) rfl rfl (Or.inl rfl) rfl rfl rfl rfl rfl).trans (fs_fv fun v13 g11 r12 => ?_)
  refine (fs_r (n := n + 3) 5 (pc' := 49) (L' := [some (.ref cC), some (.int a1), some (.int a2), some (.int a3), some (.int v6)]) (S' := [.int v6, .int a3, .ref cT]) rfl).trans ?_
  refine (fs_cn (n := n + 2) (N := nm_m63) (as := [.ref cT, .int a3, .int v6]) (rest := []) rfl rfl (Or.inl rfl) rfl rfl rfl rfl rfl).trans (fs_fn fun g14 r15 => ?_)
  refine (fs_r (n := n + 1) 1 (pc' := 54) (L' := [some (.ref cC), some (.int a1), some (.int a2), some (.int a3), some (.int v6)]) (S' := [.int v6]) rfl).trans ?_
  exact (fs_ri (n := n + 0) rfl rfl).trans rfl
theorem qC_heading (L : Nat) (xs : Nat → Int32) (m d : Nat) (a1 a2 a3 : Int32) (g : a2_G) (r : a2_A) : ev L xs (m + 1) (d + 1) nC_heading [.ref cC, .int a1, .int a2, .int a3] g r = (fn_v (ev L xs (m + 1) d nR_place [.ref cR] g r) fun v3 g1 r2 => (fn_v (ev L xs (m + 1) d nT_make [.ref cT, .int a1, .int 0, .int v3] g1 r2) fun v6 g4 r5 => (fn_n (ev L xs (m + 1) d nR_advance [.ref cR] g4 r5) fun g7 r8 => (fn_n (ev L xs (m + 1) d nR_require [.ref cR, .int a2] g7 r8) fun g9 r10 => (fn_v (ev L xs (m + 1) d nR_requireKind [.ref cR, .int 4] g9 r10) fun v13 g11 r12 => (fn_n (ev L xs (m + 1) d nT_append [.ref cT, .int a3, .int v6] g11 r12) fun g14 r15 => (some (.inl (some (.int v6)), g14, r15)))))))) := (fs_ev (M := nm_m131) rfl rfl).trans (eC_heading L xs (m + 1) d m 872 a1 a2 a3 g r)
