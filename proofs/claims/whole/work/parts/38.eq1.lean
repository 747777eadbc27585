/-! The equations of the methods, by wip/whole/gensh2.py -/
/-- CobolParser$Items.beginIn(II)I -/
theorem e72 (L : Nat) (xs : Nat → Int32) (m d k : Nat) (n : Nat) (a1 a2 : Int32) (g : a2_G) (r : a2_A) : bk L xs 72 nm_m72 m d k (n + 19) 0 [some (.ref 7), some (.int a1), some (.int a2), none] [] g r = (fn_v (ev L xs m d 58 [.ref 1] g r) fun v3 g1 r2 => (fn_v (ev L xs m d 45 [.ref 2, .int a2, .int 0, .int v3] g1 r2) fun v6 g4 r5 => (fn_n (ev L xs m d 63 [.ref 2, .int a1, .int v6] g4 r5) fun g7 r8 => (fn_n (ev L xs m d 61 [.ref 1] g7 r8) fun g9 r10 => (some (.inl (some (.int v6)), g9, r10)))))) := by
  refine (fs_r (n := n + 13) 6 (pc' := 10) (L' := [some (.ref 7), some (.int a1), some (.int a2), none]) (S' := [.ref 1, .int 0, .int a2, .ref 2]) rfl).trans ?_
  refine (fs_cv (n := n + 12) (N := nm_m58) (as := [.ref 1]) (rest := [.int 0, .int a2, .ref 2]) rfl rfl (Or.inl rfl) rfl rfl rfl rfl rfl).trans (fs_fv fun v3 g1 r2 => ?_)
  refine (fs_cv (n := n + 11) (N := nm_m45) (as := [.ref 2, .int a2, .int 0, .int v3]) (rest := []) rfl rfl (Or.inl rfl) rfl rfl rfl rfl rfl).trans (fs_fv fun v6 g4 r5 => ?_)
  refine (fs_r (n := n + 6) 5 (pc' := 23) (L' := [some (.ref 7), some (.int a1), some (.int a2), some (.int v6)]) (S' := [.int v6, .int a1, .ref 2]) rfl).trans ?_
  refine (fs_cn (n := n + 5) (N := nm_m63) (as := [.ref 2, .int a1, .int v6]) (rest := []) rfl rfl (Or.inl rfl) rfl rfl rfl rfl rfl).trans (fs_fn fun g7 r8 => ?_)
  refine (fs_r (n := n + 3) 2 (pc' := 30) (L' := [some (.ref 7), some (.int a1), some (.int a2), some (.int v6)]) (S' := [.ref 1]) rfl).trans ?_
  refine (fs_cn (n := n + 2) (N := nm_m61) (as := [.ref 1]) (rest := []) rfl rfl (Or.inl rfl) rfl rfl rfl rfl rfl).trans (fs_fn fun g9 r10 => ?_)
  refine (fs_r (n := n + 1) 1 (pc' := 34) (L' := [some (.ref 7), some (.int a1), some (.int a2), some (.int v6)]) (S' := [.int v6]) rfl).trans ?_
  exact (fs_ri (n := n + 0) rfl rfl).trans rfl
theorem q72 (L : Nat) (xs : Nat → Int32) (m d : Nat) (a1 a2 : Int32) (g : a2_G) (r : a2_A) : ev L xs (m + 1) (d + 1) 72 [.ref 7, .int a1, .int a2] g r = (fn_v (ev L xs (m + 1) d 58 [.ref 1] g r) fun v3 g1 r2 => (fn_v (ev L xs (m + 1) d 45 [.ref 2, .int a2, .int 0, .int v3] g1 r2) fun v6 g4 r5 => (fn_n (ev L xs (m + 1) d 63 [.ref 2, .int a1, .int v6] g4 r5) fun g7 r8 => (fn_n (ev L xs (m + 1) d 61 [.ref 1] g7 r8) fun g9 r10 => (some (.inl (some (.int v6)), g9, r10)))))) := (fs_ev (M := nm_m72) rfl rfl).trans (e72 L xs (m + 1) d m 881 a1 a2 g r)
/-- CobolParser$Items.literals(I)V -/
def B73_40 (L : Nat) (xs : Nat → Int32) (m d k : Nat) (x1 x2 : Int32) (g : a2_G) (r : a2_A) : Option fn_Z := (some (.inl none, g, r))
theorem b73_40 (L : Nat) (xs : Nat → Int32) (m d k : Nat) (n : Nat) (x1 x2 : Int32) (g : a2_G) (r : a2_A) : bk L xs 73 nm_m73 m d k (n + 1) 40 [some (.ref 7), some (.int x1), some (.int x2)] [] g r = B73_40 L xs m d k x1 x2 g r := by
  show _ = ((some (.inl none, g, r)) : Option fn_Z)
  exact (fs_rv (n := n + 0) rfl rfl).trans rfl
theorem e73 (L : Nat) (xs : Nat → Int32) (m d k : Nat) (n : Nat) (a1 : Int32) (g : a2_G) (r : a2_A) : bk L xs 73 nm_m73 m d k (n + 22) 0 [some (.ref 7), some (.int a1), none] [] g r = (fn_v (ev L xs m d 72 [.ref 7, .int a1, .int 14] g r) fun v3 g1 r2 => (fn_v (ev L xs m d 62 [.ref 1, .int 67] g1 r2) fun v6 g4 r5 => (fn_n (ev L xs m d 74 [.ref 7, .int v3] g4 r5) fun g7 r8 => (fn_v (ev L xs m d 62 [.ref 1, .int 21] g7 r8) fun v11 g9 r10 => (if am_c2 .eq v11 0 = true then (B73_40 L xs m d k a1 v3 g9 r10) else (fn_n (ev L xs m d 74 [.ref 7, .int v3] g9 r10) fun g12 r13 => (B73_40 L xs m d k a1 v3 g12 r13))))))) := by
  refine (fs_r (n := n + 19) 3 (pc' := 4) (L' := [some (.ref 7), some (.int a1), none]) (S' := [.int 14, .int a1, .ref 7]) rfl).trans ?_
  refine (fs_cv (n := n + 18) (N := nm_m72) (as := [.ref 7, .int a1, .int 14]) (rest := []) rfl rfl (Or.inl rfl) rfl rfl rfl rfl rfl).trans (fs_fv fun v3 g1 r2 => ?_)
  refine (fs_r (n := n + 14) 4 (pc' := 14) (L' := [some (.ref 7), some (.int a1), some (.int v3)]) (S' := [.int 67, .ref 1]) rfl).trans ?_
  refine (fs_cv (n := n + 13) (N := nm_m62) (as := [.ref 1, .int 67]) (rest := []) rfl rfl (Or.inl rfl) rfl rfl rfl rfl rfl).trans (fs_fv fun v6 g4 r5 => ?_)
  refine (fs_r (n := n + 10) 3 (pc' := 20) (L' := [some (.ref 7), some (.int a1), some (.int v3)]) (S' := [.int v3, .ref 7]) rfl).trans ?_
  refine (fs_cn (n := n + 9) (N := nm_m74) (as := [.ref 7, .int v3]) (rest := []) rfl rfl (Or.inl rfl) rfl rfl rfl rfl rfl).trans (fs_fn fun g7 r8 => ?_)
  refine (fs_r (n := n + 6) 3 (pc' := 29) (L' := [some (.ref 7), some (.int a1), some (.int v3)]) (S' := [.int 21, .ref 1]) rfl).trans ?_
  refine (fs_cv (n := n + 5) (N := nm_m62) (as := [.ref 1, .int 21]) (rest := []) rfl rfl (Or.inl rfl) rfl rfl rfl rfl rfl).trans (fs_fv fun v11 g9 r10 => ?_)
  refine (fs_i (n := n + 4) rfl (t := 40) rfl (by decide)).trans (fs_ite ?_ ?_)
  · skip
    exact b73_40 L xs m d k (n + 3) a1 v3 g9 r10
  · skip
    refine (fs_r (n := n + 2) 2 (pc' := 37) (L' := [some (.ref 7), some (.int a1), some (.int v3)]) (S' := [.int v3, .ref 7]) rfl).trans ?_
    refine (fs_cn (n := n + 1) (N := nm_m74) (as := [.ref 7, .int v3]) (rest := []) rfl rfl (Or.inl rfl) rfl rfl rfl rfl rfl).trans (fs_fn fun g12 r13 => ?_)
    exact b73_40 L xs m d k (n + 0) a1 v3 g12 r13
theorem q73 (L : Nat) (xs : Nat → Int32) (m d : Nat) (a1 : Int32) (g : a2_G) (r : a2_A) : ev L xs (m + 1) (d + 1) 73 [.ref 7, .int a1] g r = (fn_v (ev L xs (m + 1) d 72 [.ref 7, .int a1, .int 14] g r) fun v3 g1 r2 => (fn_v (ev L xs (m + 1) d 62 [.ref 1, .int 67] g1 r2) fun v6 g4 r5 => (fn_n (ev L xs (m + 1) d 74 [.ref 7, .int v3] g4 r5) fun g7 r8 => (fn_v (ev L xs (m + 1) d 62 [.ref 1, .int 21] g7 r8) fun v11 g9 r10 => (if am_c2 .eq v11 0 = true then (B73_40 L xs (m + 1) d m a1 v3 g9 r10) else (fn_n (ev L xs (m + 1) d 74 [.ref 7, .int v3] g9 r10) fun g12 r13 => (B73_40 L xs (m + 1) d m a1 v3 g12 r13))))))) := (fs_ev (M := nm_m73) rfl rfl).trans (e73 L xs (m + 1) d m 878 a1 g r)
/-- CobolParser$Items.literal(I)V -/
def B74_19 (L : Nat) (xs : Nat → Int32) (m d k : Nat) (x1 : Int32) (g : a2_G) (r : a2_A) : Option fn_Z := (fn_v (ev L xs m d 75 [.ref 3] g r) fun v6 g4 r5 => (fn_n (ev L xs m d 63 [.ref 2, .int x1, .int v6] g4 r5) fun g7 r8 => (some (.inl none, g7, r8))))
theorem b74_19 (L : Nat) (xs : Nat → Int32) (m d k : Nat) (n : Nat) (x1 : Int32) (g : a2_G) (r : a2_A) : bk L xs 74 nm_m74 m d k (n + 8) 19 [some (.ref 7), some (.int x1)] [] g r = B74_19 L xs m d k x1 g r := by
  show _ = ((fn_v (ev L xs m d 75 [.ref 3] g r) fun v6 g4 r5 => (fn_n (ev L xs m d 63 [.ref 2, .int x1, .int v6] g4 r5) fun g7 r8 => (some (.inl none, g7, r8)))) : Option fn_Z)
  refine (fs_r (n := n + 3) 5 (pc' := 28) (L' := [some (.ref 7), some (.int x1)]) (S' := [.ref 3, .int x1, .ref 2]) rfl).trans ?_
  refine (fs_cv (n := n + 2) (N := nm_m75) (as := [.ref 3]) (rest := [.int x1, .ref 2]) rfl rfl (Or.inl rfl) rfl rfl rfl rfl rfl).trans (fs_fv fun v6 g4 r5 => ?_)
  refine (fs_cn (n := n + 1) (N := nm_m63) (as := [.ref 2, .int x1, .int v6]) (rest := []) rfl rfl (Or.inl rfl) rfl rfl rfl rfl rfl).trans (fs_fn fun g7 r8 => ?_)
  exact (fs_rv (n := n + 0) rfl rfl).trans rfl
theorem e74 (L : Nat) (xs : Nat → Int32) (m d k : Nat) (n : Nat) (a1 : Int32) (g : a2_G) (r : a2_A) : bk L xs 74 nm_m74 m d k (n + 17) 0 [some (.ref 7), some (.int a1)] [] g r = (fn_v (ev L xs m d 50 [.ref 1, .int 1] g r) fun v3 g1 r2 => (if am_c2 .eq v3 0 = true then (B74_19 L xs m d k a1 g1 r2) else (fn_n (ev L xs m d 56 [.ref 1, .int 1] g1 r2) fun g9 r10 => (B74_19 L xs m d k a1 g9 r10)))) := by
  refine (fs_r (n := n + 14) 3 (pc' := 5) (L' := [some (.ref 7), some (.int a1)]) (S' := [.int 1, .ref 1]) rfl).trans ?_
  refine (fs_cv (n := n + 13) (N := nm_m50) (as := [.ref 1, .int 1]) (rest := []) rfl rfl (Or.inl rfl) rfl rfl rfl rfl rfl).trans (fs_fv fun v3 g1 r2 => ?_)
  refine (fs_i (n := n + 12) rfl (t := 19) rfl (by decide)).trans (fs_ite ?_ ?_)
  · skip
    exact b74_19 L xs m d k (n + 4) a1 g1 r2
  · skip
    refine (fs_r (n := n + 9) 3 (pc' := 16) (L' := [some (.ref 7), some (.int a1)]) (S' := [.int 1, .ref 1]) rfl).trans ?_
    refine (fs_cn (n := n + 8) (N := nm_m56) (as := [.ref 1, .int 1]) (rest := []) rfl rfl (Or.inl rfl) rfl rfl rfl rfl rfl).trans (fs_fn fun g9 r10 => ?_)
    exact b74_19 L xs m d k (n + 0) a1 g9 r10
theorem q74 (L : Nat) (xs : Nat → Int32) (m d : Nat) (a1 : Int32) (g : a2_G) (r : a2_A) : ev L xs (m + 1) (d + 1) 74 [.ref 7, .int a1] g r = (fn_v (ev L xs (m + 1) d 50 [.ref 1, .int 1] g r) fun v3 g1 r2 => (if am_c2 .eq v3 0 = true then (B74_19 L xs (m + 1) d m a1 g1 r2) else (fn_n (ev L xs (m + 1) d 56 [.ref 1, .int 1] g1 r2) fun g9 r10 => (B74_19 L xs (m + 1) d m a1 g9 r10)))) := (fs_ev (M := nm_m74) rfl rfl).trans (e74 L xs (m + 1) d m 883 a1 g r)
/-- CobolParser$Leaves.operand()I -/
def B75_18 (L : Nat) (xs : Nat → Int32) (m d k : Nat) (g : a2_G) (r : a2_A) : Option fn_Z := (fn_v (ev L xs m d 77 [.ref 1] g r) fun v6 g4 r5 => (fn_v (ev L xs m d 60 [.ref 1] g4 r5) fun v9 g7 r8 => (fn_v (ev L xs m d 58 [.ref 1] g7 r8) fun v12 g10 r11 => (fn_v (ev L xs m d 45 [.ref 2, .int 41, .int ((100000 * v6) + v9), .int v12] g10 r11) fun v15 g13 r14 => (fn_n (ev L xs m d 61 [.ref 1] g13 r14) fun g16 r17 => (some (.inl (some (.int v15)), g16, r17)))))))
theorem b75_18 (L : Nat) (xs : Nat → Int32) (m d k : Nat) (n : Nat) (g : a2_G) (r : a2_A) : bk L xs 75 nm_m75 m d k (n + 22) 18 [some (.ref 3), none] [] g r = B75_18 L xs m d k g r := by
  show _ = ((fn_v (ev L xs m d 77 [.ref 1] g r) fun v6 g4 r5 => (fn_v (ev L xs m d 60 [.ref 1] g4 r5) fun v9 g7 r8 => (fn_v (ev L xs m d 58 [.ref 1] g7 r8) fun v12 g10 r11 => (fn_v (ev L xs m d 45 [.ref 2, .int 41, .int ((100000 * v6) + v9), .int v12] g10 r11) fun v15 g13 r14 => (fn_n (ev L xs m d 61 [.ref 1] g13 r14) fun g16 r17 => (some (.inl (some (.int v15)), g16, r17))))))) : Option fn_Z)
  refine (fs_r (n := n + 16) 6 (pc' := 30) (L' := [some (.ref 3), none]) (S' := [.ref 1, .int 100000, .int 41, .ref 2]) rfl).trans ?_
  refine (fs_cv (n := n + 15) (N := nm_m77) (as := [.ref 1]) (rest := [.int 100000, .int 41, .ref 2]) rfl rfl (Or.inl rfl) rfl rfl rfl rfl rfl).trans (fs_fv fun v6 g4 r5 => ?_)
  refine (fs_r (n := n + 12) 3 (pc' := 38) (L' := [some (.ref 3), none]) (S' := [.ref 1, .int (100000 * v6), .int 41, .ref 2]) rfl).trans ?_
  refine (fs_cv (n := n + 11) (N := nm_m60) (as := [.ref 1]) (rest := [.int (100000 * v6), .int 41, .ref 2]) rfl rfl (Or.inl rfl) rfl rfl rfl rfl rfl).trans (fs_fv fun v9 g7 r8 => ?_)
  refine (fs_r (n := n + 8) 3 (pc' := 46) (L' := [some (.ref 3), none]) (S' := [.ref 1, .int ((100000 * v6) + v9), .int 41, .ref 2]) rfl).trans ?_
  refine (fs_cv (n := n + 7) (N := nm_m58) (as := [.ref 1]) (rest := [.int ((100000 * v6) + v9), .int 41, .ref 2]) rfl rfl (Or.inl rfl) rfl rfl rfl rfl rfl).trans (fs_fv fun v12 g10 r11 => ?_)
  refine (fs_cv (n := n + 6) (N := nm_m45) (as := [.ref 2, .int 41, .int ((100000 * v6) + v9), .int v12]) (rest := []) rfl rfl (Or.inl rfl) rfl rfl rfl rfl rfl).trans (fs_fv fun v15 g13 r14 => ?_)
  refine (fs_r (n := n + 3) 3 (pc' := 57) (L' := [some (.ref 3), some (.int v15)]) (S' := [.ref 1]) rfl).trans ?_
  refine (fs_cn (n := n + 2) (N := nm_m61) (as := [.ref 1]) (rest := []) rfl rfl (Or.inl rfl) rfl rfl rfl rfl rfl).trans (fs_fn fun g16 r17 => ?_)
  refine (fs_r (n := n + 1) 1 (pc' := 61) (L' := [some (.ref 3), some (.int v15)]) (S' := [.int v15]) rfl).trans ?_
  exact (fs_ri (n := n + 0) rfl rfl).trans rfl
theorem e75 (L : Nat) (xs : Nat → Int32) (m d k : Nat) (n : Nat) (g : a2_G) (r : a2_A) : bk L xs 75 nm_m75 m d k (n + 30) 0 [some (.ref 3), none] [] g r = (fn_v (ev L xs m d 76 [.ref 1] g r) fun v3 g1 r2 => (if am_c2 .ne v3 0 = true then (B75_18 L xs m d k g1 r2) else (fn_n (ev L xs m d 56 [.ref 1, .int 1] g1 r2) fun g18 r19 => (B75_18 L xs m d k g18 r19)))) := by
  refine (fs_r (n := n + 28) 2 (pc' := 4) (L' := [some (.ref 3), none]) (S' := [.ref 1]) rfl).trans ?_
  refine (fs_cv (n := n + 27) (N := nm_m76) (as := [.ref 1]) (rest := []) rfl rfl (Or.inl rfl) rfl rfl rfl rfl rfl).trans (fs_fv fun v3 g1 r2 => ?_)
  refine (fs_i (n := n + 26) rfl (t := 18) rfl (by decide)).trans (fs_ite ?_ ?_)
  · skip
    exact b75_18 L xs m d k (n + 4) g1 r2
  · skip
    refine (fs_r (n := n + 23) 3 (pc' := 15) (L' := [some (.ref 3), none]) (S' := [.int 1, .ref 1]) rfl).trans ?_
    refine (fs_cn (n := n + 22) (N := nm_m56) (as := [.ref 1, .int 1]) (rest := []) rfl rfl (Or.inl rfl) rfl rfl rfl rfl rfl).trans (fs_fn fun g18 r19 => ?_)
    exact b75_18 L xs m d k (n + 0) g18 r19
theorem q75 (L : Nat) (xs : Nat → Int32) (m d : Nat) (g : a2_G) (r : a2_A) : ev L xs (m + 1) (d + 1) 75 [.ref 3] g r = (fn_v (ev L xs (m + 1) d 76 [.ref 1] g r) fun v3 g1 r2 => (if am_c2 .ne v3 0 = true then (B75_18 L xs (m + 1) d m g1 r2) else (fn_n (ev L xs (m + 1) d 56 [.ref 1, .int 1] g1 r2) fun g18 r19 => (B75_18 L xs (m + 1) d m g18 r19)))) := (fs_ev (M := nm_m75) rfl rfl).trans (e75 L xs (m + 1) d m 870 g r)
/-- CobolParser$Row.isOperand()Z -/
def B76_55 (L : Nat) (xs : Nat → Int32) (m d k : Nat) (x1 : Int32) (g : a2_G) (r : a2_A) : Option fn_Z := (if x1 = 0 ∨ x1 = 1 then some (.inl (some (.int x1)), g, r) else none)
theorem b76_55 (L : Nat) (xs : Nat → Int32) (m d k : Nat) (n : Nat) (x1 : Int32) (g : a2_G) (r : a2_A) : bk L xs 76 nm_m76 m d k (n + 1) 55 [some (.ref 1)] [.int x1] g r = B76_55 L xs m d k x1 g r := by
  show _ = ((if x1 = 0 ∨ x1 = 1 then some (.inl (some (.int x1)), g, r) else none) : Option fn_Z)
  exact (fs_rb (n := n + 0) rfl rfl).trans rfl
def B76_54 (L : Nat) (xs : Nat → Int32) (m d k : Nat) (g : a2_G) (r : a2_A) : Option fn_Z := (B76_55 L xs m d k 0 g r)
theorem b76_54 (L : Nat) (xs : Nat → Int32) (m d k : Nat) (n : Nat) (g : a2_G) (r : a2_A) : bk L xs 76 nm_m76 m d k (n + 2) 54 [some (.ref 1)] [] g r = B76_54 L xs m d k g r := by
  show _ = ((B76_55 L xs m d k 0 g r) : Option fn_Z)
  refine (fs_r (n := n + 1) 1 (pc' := 55) (L' := [some (.ref 1)]) (S' := [.int 0]) rfl).trans ?_
  exact b76_55 L xs m d k (n + 0) 0 g r
def B76_50 (L : Nat) (xs : Nat → Int32) (m d k : Nat) (g : a2_G) (r : a2_A) : Option fn_Z := (B76_55 L xs m d k 1 g r)
theorem b76_50 (L : Nat) (xs : Nat → Int32) (m d k : Nat) (n : Nat) (g : a2_G) (r : a2_A) : bk L xs 76 nm_m76 m d k (n + 3) 50 [some (.ref 1)] [] g r = B76_50 L xs m d k g r := by
  show _ = ((B76_55 L xs m d k 1 g r) : Option fn_Z)
  refine (fs_r (n := n + 2) 1 (pc' := 51) (L' := [some (.ref 1)]) (S' := [.int 1]) rfl).trans ?_
  refine (fs_go (n := n + 1) rfl (t := 55) rfl (by decide)).trans ?_
  exact b76_55 L xs m d k (n + 0) 1 g r
theorem e76 (L : Nat) (xs : Nat → Int32) (m d k : Nat) (n : Nat) (g : a2_G) (r : a2_A) : bk L xs 76 nm_m76 m d k (n + 29) 0 [some (.ref 1)] [] g r = (if am_c2 .ge (g 103) (g 102) = true then (B76_54 L xs m d k g r) else (if am_inr (g 103) (r 100).1 = true then (if am_c2 .eq ((r 100).2 ((g 103) : Int32).toNatClampNeg) 1 = true then (B76_50 L xs m d k g r) else (if am_inr (g 103) (r 100).1 = true then (if am_c2 .eq ((r 100).2 ((g 103) : Int32).toNatClampNeg) 2 = true then (B76_50 L xs m d k g r) else (if am_inr (g 103) (r 100).1 = true then (if am_c2 .ne ((r 100).2 ((g 103) : Int32).toNatClampNeg) 3 = true then (B76_54 L xs m d k g r) else (B76_50 L xs m d k g r)) else none)) else none)) else none)) := by
  refine (fs_r (n := n + 25) 4 (pc' := 8) (L' := [some (.ref 1)]) (S' := [.int (g 102), .int (g 103)]) rfl).trans ?_
  refine (fs_j (n := n + 24) rfl (t := 54) rfl (by decide)).trans (fs_ite ?_ ?_)
  · skip
    exact b76_54 L xs m d k (n + 22) g r
  · skip
    refine (fs_r (n := n + 20) 4 (pc' := 19) (L' := [some (.ref 1)]) (S' := [.int (g 103), .ref 10100]) rfl).trans ?_
    refine (fs_il (n := n + 19) (k := 100) rfl rfl).trans (fs_ite ?_ rfl)
    refine (fs_r (n := n + 18) 1 (pc' := 21) (L' := [some (.ref 1)]) (S' := [.int 1, .int ((r 100).2 ((g 103) : Int32).toNatClampNeg)]) rfl).trans ?_
    refine (fs_j (n := n + 17) rfl (t := 50) rfl (by decide)).trans (fs_ite ?_ ?_)
    · skip
      exact b76_50 L xs m d k (n + 14) g r
    · skip
      refine (fs_r (n := n + 13) 4 (pc' := 32) (L' := [some (.ref 1)]) (S' := [.int (g 103), .ref 10100]) rfl).trans ?_
      refine (fs_il (n := n + 12) (k := 100) rfl rfl).trans (fs_ite ?_ rfl)
      refine (fs_r (n := n + 11) 1 (pc' := 34) (L' := [some (.ref 1)]) (S' := [.int 2, .int ((r 100).2 ((g 103) : Int32).toNatClampNeg)]) rfl).trans ?_
      refine (fs_j (n := n + 10) rfl (t := 50) rfl (by decide)).trans (fs_ite ?_ ?_)
      · skip
        exact b76_50 L xs m d k (n + 7) g r
      · skip
        refine (fs_r (n := n + 6) 4 (pc' := 45) (L' := [some (.ref 1)]) (S' := [.int (g 103), .ref 10100]) rfl).trans ?_
        refine (fs_il (n := n + 5) (k := 100) rfl rfl).trans (fs_ite ?_ rfl)
        refine (fs_r (n := n + 4) 1 (pc' := 47) (L' := [some (.ref 1)]) (S' := [.int 3, .int ((r 100).2 ((g 103) : Int32).toNatClampNeg)]) rfl).trans ?_
        refine (fs_j (n := n + 3) rfl (t := 54) rfl (by decide)).trans (fs_ite ?_ ?_)
        · skip
          exact b76_54 L xs m d k (n + 1) g r
        · skip
          exact b76_50 L xs m d k (n + 0) g r
theorem q76 (L : Nat) (xs : Nat → Int32) (m d : Nat) (g : a2_G) (r : a2_A) : ev L xs (m + 1) (d + 1) 76 [.ref 1] g r = (if am_c2 .ge (g 103) (g 102) = true then (B76_54 L xs (m + 1) d m g r) else (if am_inr (g 103) (r 100).1 = true then (if am_c2 .eq ((r 100).2 ((g 103) : Int32).toNatClampNeg) 1 = true then (B76_50 L xs (m + 1) d m g r) else (if am_inr (g 103) (r 100).1 = true then (if am_c2 .eq ((r 100).2 ((g 103) : Int32).toNatClampNeg) 2 = true then (B76_50 L xs (m + 1) d m g r) else (if am_inr (g 103) (r 100).1 = true then (if am_c2 .ne ((r 100).2 ((g 103) : Int32).toNatClampNeg) 3 = true then (B76_54 L xs (m + 1) d m g r) else (B76_50 L xs (m + 1) d m g r)) else none)) else none)) else none)) := (fs_ev (M := nm_m76) rfl rfl).trans (e76 L xs (m + 1) d m 871 g r)
/-- CobolParser$Row.kind()I -/
def B77_24 (L : Nat) (xs : Nat → Int32) (m d k : Nat) (x1 : Int32) (g : a2_G) (r : a2_A) : Option fn_Z := (some (.inl (some (.int x1)), g, r))
theorem b77_24 (L : Nat) (xs : Nat → Int32) (m d k : Nat) (n : Nat) (x1 : Int32) (g : a2_G) (r : a2_A) : bk L xs 77 nm_m77 m d k (n + 1) 24 [some (.ref 1)] [.int x1] g r = B77_24 L xs m d k x1 g r := by
  show _ = ((some (.inl (some (.int x1)), g, r)) : Option fn_Z)
  exact (fs_ri (n := n + 0) rfl rfl).trans rfl
theorem e77 (L : Nat) (xs : Nat → Int32) (m d k : Nat) (n : Nat) (g : a2_G) (r : a2_A) : bk L xs 77 nm_m77 m d k (n + 12) 0 [some (.ref 1)] [] g r = (if am_c2 .ge (g 103) (g 102) = true then (B77_24 L xs m d k (-1) g r) else (if am_inr (g 103) (r 100).1 = true then (B77_24 L xs m d k ((r 100).2 ((g 103) : Int32).toNatClampNeg) g r) else none)) := by
  refine (fs_r (n := n + 8) 4 (pc' := 8) (L' := [some (.ref 1)]) (S' := [.int (g 102), .int (g 103)]) rfl).trans ?_
  refine (fs_j (n := n + 7) rfl (t := 23) rfl (by decide)).trans (fs_ite ?_ ?_)
  · skip
    refine (fs_r (n := n + 6) 1 (pc' := 24) (L' := [some (.ref 1)]) (S' := [.int (-1)]) rfl).trans ?_
    exact b77_24 L xs m d k (n + 5) (-1) g r
  · skip
    refine (fs_r (n := n + 3) 4 (pc' := 19) (L' := [some (.ref 1)]) (S' := [.int (g 103), .ref 10100]) rfl).trans ?_
    refine (fs_il (n := n + 2) (k := 100) rfl rfl).trans (fs_ite ?_ rfl)
    refine (fs_go (n := n + 1) rfl (t := 24) rfl (by decide)).trans ?_
    exact b77_24 L xs m d k (n + 0) ((r 100).2 ((g 103) : Int32).toNatClampNeg) g r
theorem q77 (L : Nat) (xs : Nat → Int32) (m d : Nat) (g : a2_G) (r : a2_A) : ev L xs (m + 1) (d + 1) 77 [.ref 1] g r = (if am_c2 .ge (g 103) (g 102) = true then (B77_24 L xs (m + 1) d m (-1) g r) else (if am_inr (g 103) (r 100).1 = true then (B77_24 L xs (m + 1) d m ((r 100).2 ((g 103) : Int32).toNatClampNeg) g r) else none)) := (fs_ev (M := nm_m77) rfl rfl).trans (e77 L xs (m + 1) d m 888 g r)
/-- CobolParser$Items.occurs(I)V -/
def B78_89 (L : Nat) (xs : Nat → Int32) (m d k : Nat) (x1 x2 : Int32) (g : a2_G) (r : a2_A) : Option fn_Z := (some (.inl none, g, r))
theorem b78_89 (L : Nat) (xs : Nat → Int32) (m d k : Nat) (n : Nat) (x1 x2 : Int32) (g : a2_G) (r : a2_A) : bk L xs 78 nm_m78 m d k (n + 1) 89 [some (.ref 7), some (.int x1), some (.int x2)] [] g r = B78_89 L xs m d k x1 x2 g r := by
  show _ = ((some (.inl none, g, r)) : Option fn_Z)
  exact (fs_rv (n := n + 0) rfl rfl).trans rfl
def B78_57 (L : Nat) (xs : Nat → Int32) (m d k : Nat) (x1 x2 : Int32) (g : a2_G) (r : a2_A) : Option fn_Z := (fn_v (ev L xs m d 62 [.ref 1, .int 10] g r) fun v17 g15 r16 => (if am_c2 .eq v17 0 = true then (B78_89 L xs m d k x1 x2 g15 r16) else (fn_v (ev L xs m d 62 [.ref 1, .int 25] g15 r16) fun v20 g18 r19 => (fn_n (ev L xs m d 80 [.ref 3, .int x2, .int 17] g18 r19) fun g21 r22 => (B78_89 L xs m d k x1 x2 g21 r22)))))
theorem b78_57 (L : Nat) (xs : Nat → Int32) (m d k : Nat) (n : Nat) (x1 x2 : Int32) (g : a2_G) (r : a2_A) : bk L xs 78 nm_m78 m d k (n + 16) 57 [some (.ref 7), some (.int x1), some (.int x2)] [] g r = B78_57 L xs m d k x1 x2 g r := by
  show _ = ((fn_v (ev L xs m d 62 [.ref 1, .int 10] g r) fun v17 g15 r16 => (if am_c2 .eq v17 0 = true then (B78_89 L xs m d k x1 x2 g15 r16) else (fn_v (ev L xs m d 62 [.ref 1, .int 25] g15 r16) fun v20 g18 r19 => (fn_n (ev L xs m d 80 [.ref 3, .int x2, .int 17] g18 r19) fun g21 r22 => (B78_89 L xs m d k x1 x2 g21 r22))))) : Option fn_Z)
  refine (fs_r (n := n + 13) 3 (pc' := 63) (L' := [some (.ref 7), some (.int x1), some (.int x2)]) (S' := [.int 10, .ref 1]) rfl).trans ?_
  refine (fs_cv (n := n + 12) (N := nm_m62) (as := [.ref 1, .int 10]) (rest := []) rfl rfl (Or.inl rfl) rfl rfl rfl rfl rfl).trans (fs_fv fun v17 g15 r16 => ?_)
  refine (fs_i (n := n + 11) rfl (t := 89) rfl (by decide)).trans (fs_ite ?_ ?_)
  · skip
    exact b78_89 L xs m d k (n + 10) x1 x2 g15 r16
  · skip
    refine (fs_r (n := n + 8) 3 (pc' := 75) (L' := [some (.ref 7), some (.int x1), some (.int x2)]) (S' := [.int 25, .ref 1]) rfl).trans ?_
    refine (fs_cv (n := n + 7) (N := nm_m62) (as := [.ref 1, .int 25]) (rest := []) rfl rfl (Or.inl rfl) rfl rfl rfl rfl rfl).trans (fs_fv fun v20 g18 r19 => ?_)
    refine (fs_r (n := n + 2) 5 (pc' := 86) (L' := [some (.ref 7), some (.int x1), some (.int x2)]) (S' := [.int 17, .int x2, .ref 3]) rfl).trans ?_
    refine (fs_cn (n := n + 1) (N := nm_m80) (as := [.ref 3, .int x2, .int 17]) (rest := []) rfl rfl (Or.inl rfl) rfl rfl rfl rfl rfl).trans (fs_fn fun g21 r22 => ?_)
    exact b78_89 L xs m d k (n + 0) x1 x2 g21 r22
theorem e78 (L : Nat) (xs : Nat → Int32) (m d k : Nat) (n : Nat) (a1 : Int32) (g : a2_G) (r : a2_A) : bk L xs 78 nm_m78 m d k (n + 45) 0 [some (.ref 7), some (.int a1), none] [] g r = (fn_v (ev L xs m d 72 [.ref 7, .int a1, .int 15] g r) fun v3 g1 r2 => (fn_v (ev L xs m d 59 [.ref 1, .int 2] g1 r2) fun v6 g4 r5 => (fn_n (ev L xs m d 69 [.ref 2, .int v3, .int 1, .int v6] g4 r5) fun g7 r8 => (fn_v (ev L xs m d 62 [.ref 1, .int 23] g7 r8) fun v11 g9 r10 => (fn_v (ev L xs m d 62 [.ref 1, .int 24] g9 r10) fun v14 g12 r13 => (if am_c2 .eq v14 0 = true then (B78_57 L xs m d k a1 v3 g12 r13) else (fn_n (ev L xs m d 79 [.ref 3, .int v3, .int 16] g12 r13) fun g23 r24 => (B78_57 L xs m d k a1 v3 g23 r24)))))))) := by
  refine (fs_r (n := n + 42) 3 (pc' := 4) (L' := [some (.ref 7), some (.int a1), none]) (S' := [.int 15, .int a1, .ref 7]) rfl).trans ?_
  refine (fs_cv (n := n + 41) (N := nm_m72) (as := [.ref 7, .int a1, .int 15]) (rest := []) rfl rfl (Or.inl rfl) rfl rfl rfl rfl rfl).trans (fs_fv fun v3 g1 r2 => ?_)
  refine (fs_r (n := n + 33) 8 (pc' := 19) (L' := [some (.ref 7), some (.int a1), some (.int v3)]) (S' := [.int 2, .ref 1, .int 1, .int v3, .ref 2]) rfl).trans ?_
  refine (fs_cv (n := n + 32) (N := nm_m59) (as := [.ref 1, .int 2]) (rest := [.int 1, .int v3, .ref 2]) rfl rfl (Or.inl rfl) rfl rfl rfl rfl rfl).trans (fs_fv fun v6 g4 r5 => ?_)
  refine (fs_cn (n := n + 31) (N := nm_m69) (as := [.ref 2, .int v3, .int 1, .int v6]) (rest := []) rfl rfl (Or.inl rfl) rfl rfl rfl rfl rfl).trans (fs_fn fun g7 r8 => ?_)
  refine (fs_r (n := n + 28) 3 (pc' := 31) (L' := [some (.ref 7), some (.int a1), some (.int v3)]) (S' := [.int 23, .ref 1]) rfl).trans ?_
  refine (fs_cv (n := n + 27) (N := nm_m62) (as := [.ref 1, .int 23]) (rest := []) rfl rfl (Or.inl rfl) rfl rfl rfl rfl rfl).trans (fs_fv fun v11 g9 r10 => ?_)
  refine (fs_r (n := n + 23) 4 (pc' := 41) (L' := [some (.ref 7), some (.int a1), some (.int v3)]) (S' := [.int 24, .ref 1]) rfl).trans ?_
  refine (fs_cv (n := n + 22) (N := nm_m62) (as := [.ref 1, .int 24]) (rest := []) rfl rfl (Or.inl rfl) rfl rfl rfl rfl rfl).trans (fs_fv fun v14 g12 r13 => ?_)
  refine (fs_i (n := n + 21) rfl (t := 57) rfl (by decide)).trans (fs_ite ?_ ?_)
  · skip
    exact b78_57 L xs m d k (n + 5) a1 v3 g12 r13
  · skip
    refine (fs_r (n := n + 17) 4 (pc' := 54) (L' := [some (.ref 7), some (.int a1), some (.int v3)]) (S' := [.int 16, .int v3, .ref 3]) rfl).trans ?_
    refine (fs_cn (n := n + 16) (N := nm_m79) (as := [.ref 3, .int v3, .int 16]) (rest := []) rfl rfl (Or.inl rfl) rfl rfl rfl rfl rfl).trans (fs_fn fun g23 r24 => ?_)
    exact b78_57 L xs m d k (n + 0) a1 v3 g23 r24
theorem q78 (L : Nat) (xs : Nat → Int32) (m d : Nat) (a1 : Int32) (g : a2_G) (r : a2_A) : ev L xs (m + 1) (d + 1) 78 [.ref 7, .int a1] g r = (fn_v (ev L xs (m + 1) d 72 [.ref 7, .int a1, .int 15] g r) fun v3 g1 r2 => (fn_v (ev L xs (m + 1) d 59 [.ref 1, .int 2] g1 r2) fun v6 g4 r5 => (fn_n (ev L xs (m + 1) d 69 [.ref 2, .int v3, .int 1, .int v6] g4 r5) fun g7 r8 => (fn_v (ev L xs (m + 1) d 62 [.ref 1, .int 23] g7 r8) fun v11 g9 r10 => (fn_v (ev L xs (m + 1) d 62 [.ref 1, .int 24] g9 r10) fun v14 g12 r13 => (if am_c2 .eq v14 0 = true then (B78_57 L xs (m + 1) d m a1 v3 g12 r13) else (fn_n (ev L xs (m + 1) d 79 [.ref 3, .int v3, .int 16] g12 r13) fun g23 r24 => (B78_57 L xs (m + 1) d m a1 v3 g23 r24)))))))) := (fs_ev (M := nm_m78) rfl rfl).trans (e78 L xs (m + 1) d m 855 a1 g r)
/-- CobolParser$Leaves.nameIn(II)V -/
def B79_31 (L : Nat) (xs : Nat → Int32) (m d k : Nat) (x1 x2 x3 : Int32) (g : a2_G) (r : a2_A) : Option fn_Z := (fn_v (ev L xs m d 60 [.ref 1] g r) fun v6 g4 r5 => (fn_v (ev L xs m d 58 [.ref 1] g4 r5) fun v9 g7 r8 => (fn_v (ev L xs m d 45 [.ref 2, .int x2, .int (x3 + v6), .int v9] g7 r8) fun v12 g10 r11 => (fn_n (ev L xs m d 63 [.ref 2, .int x1, .int v12] g10 r11) fun g13 r14 => (fn_n (ev L xs m d 61 [.ref 1] g13 r14) fun g15 r16 => (some (.inl none, g15, r16)))))))
theorem b79_31 (L : Nat) (xs : Nat → Int32) (m d k : Nat) (n : Nat) (x1 x2 x3 : Int32) (g : a2_G) (r : a2_A) : bk L xs 79 nm_m79 m d k (n + 21) 31 [some (.ref 3), some (.int x1), some (.int x2), none] [.int x3] g r = B79_31 L xs m d k x1 x2 x3 g r := by
  show _ = ((fn_v (ev L xs m d 60 [.ref 1] g r) fun v6 g4 r5 => (fn_v (ev L xs m d 58 [.ref 1] g4 r5) fun v9 g7 r8 => (fn_v (ev L xs m d 45 [.ref 2, .int x2, .int (x3 + v6), .int v9] g7 r8) fun v12 g10 r11 => (fn_n (ev L xs m d 63 [.ref 2, .int x1, .int v12] g10 r11) fun g13 r14 => (fn_n (ev L xs m d 61 [.ref 1] g13 r14) fun g15 r16 => (some (.inl none, g15, r16))))))) : Option fn_Z)
  refine (fs_r (n := n + 11) 10 (pc' := 47) (L' := [some (.ref 3), some (.int x1), some (.int x2), some (.int x3)]) (S' := [.ref 1, .int x3, .int x2, .ref 2, .int x1, .ref 2]) rfl).trans ?_
  refine (fs_cv (n := n + 10) (N := nm_m60) (as := [.ref 1]) (rest := [.int x3, .int x2, .ref 2, .int x1, .ref 2]) rfl rfl (Or.inl rfl) rfl rfl rfl rfl rfl).trans (fs_fv fun v6 g4 r5 => ?_)
  refine (fs_r (n := n + 7) 3 (pc' := 55) (L' := [some (.ref 3), some (.int x1), some (.int x2), some (.int x3)]) (S' := [.ref 1, .int (x3 + v6), .int x2, .ref 2, .int x1, .ref 2]) rfl).trans ?_
  refine (fs_cv (n := n + 6) (N := nm_m58) (as := [.ref 1]) (rest := [.int (x3 + v6), .int x2, .ref 2, .int x1, .ref 2]) rfl rfl (Or.inl rfl) rfl rfl rfl rfl rfl).trans (fs_fv fun v9 g7 r8 => ?_)
  refine (fs_cv (n := n + 5) (N := nm_m45) (as := [.ref 2, .int x2, .int (x3 + v6), .int v9]) (rest := [.int x1, .ref 2]) rfl rfl (Or.inl rfl) rfl rfl rfl rfl rfl).trans (fs_fv fun v12 g10 r11 => ?_)
  refine (fs_cn (n := n + 4) (N := nm_m63) (as := [.ref 2, .int x1, .int v12]) (rest := []) rfl rfl (Or.inl rfl) rfl rfl rfl rfl rfl).trans (fs_fn fun g13 r14 => ?_)
  refine (fs_r (n := n + 2) 2 (pc' := 68) (L' := [some (.ref 3), some (.int x1), some (.int x2), some (.int x3)]) (S' := [.ref 1]) rfl).trans ?_
  refine (fs_cn (n := n + 1) (N := nm_m61) (as := [.ref 1]) (rest := []) rfl rfl (Or.inl rfl) rfl rfl rfl rfl rfl).trans (fs_fn fun g15 r16 => ?_)
  exact (fs_rv (n := n + 0) rfl rfl).trans rfl
def B79_19 (L : Nat) (xs : Nat → Int32) (m d k : Nat) (x1 x2 : Int32) (g : a2_G) (r : a2_A) : Option fn_Z := (if am_c2 .ne x2 41 = true then (B79_31 L xs m d k x1 x2 0 g r) else (B79_31 L xs m d k x1 x2 100000 g r))
theorem b79_19 (L : Nat) (xs : Nat → Int32) (m d k : Nat) (n : Nat) (x1 x2 : Int32) (g : a2_G) (r : a2_A) : bk L xs 79 nm_m79 m d k (n + 26) 19 [some (.ref 3), some (.int x1), some (.int x2), none] [] g r = B79_19 L xs m d k x1 x2 g r := by
  show _ = ((if am_c2 .ne x2 41 = true then (B79_31 L xs m d k x1 x2 0 g r) else (B79_31 L xs m d k x1 x2 100000 g r)) : Option fn_Z)
  refine (fs_r (n := n + 24) 2 (pc' := 22) (L' := [some (.ref 3), some (.int x1), some (.int x2), none]) (S' := [.int 41, .int x2]) rfl).trans ?_
  refine (fs_j (n := n + 23) rfl (t := 30) rfl (by decide)).trans (fs_ite ?_ ?_)
  · skip
    refine (fs_r (n := n + 22) 1 (pc' := 31) (L' := [some (.ref 3), some (.int x1), some (.int x2), none]) (S' := [.int 0]) rfl).trans ?_
    exact b79_31 L xs m d k (n + 1) x1 x2 0 g r
  · skip
    refine (fs_r (n := n + 22) 1 (pc' := 27) (L' := [some (.ref 3), some (.int x1), some (.int x2), none]) (S' := [.int 100000]) rfl).trans ?_
    refine (fs_go (n := n + 21) rfl (t := 31) rfl (by decide)).trans ?_
    exact b79_31 L xs m d k (n + 0) x1 x2 100000 g r
theorem e79 (L : Nat) (xs : Nat → Int32) (m d k : Nat) (n : Nat) (a1 a2 : Int32) (g : a2_G) (r : a2_A) : bk L xs 79 nm_m79 m d k (n + 35) 0 [some (.ref 3), some (.int a1), some (.int a2), none] [] g r = (fn_v (ev L xs m d 50 [.ref 1, .int 1] g r) fun v3 g1 r2 => (if am_c2 .ne v3 0 = true then (B79_19 L xs m d k a1 a2 g1 r2) else (fn_n (ev L xs m d 56 [.ref 1, .int 1] g1 r2) fun g17 r18 => (B79_19 L xs m d k a1 a2 g17 r18)))) := by
  refine (fs_r (n := n + 32) 3 (pc' := 5) (L' := [some (.ref 3), some (.int a1), some (.int a2), none]) (S' := [.int 1, .ref 1]) rfl).trans ?_
  refine (fs_cv (n := n + 31) (N := nm_m50) (as := [.ref 1, .int 1]) (rest := []) rfl rfl (Or.inl rfl) rfl rfl rfl rfl rfl).trans (fs_fv fun v3 g1 r2 => ?_)
  refine (fs_i (n := n + 30) rfl (t := 19) rfl (by decide)).trans (fs_ite ?_ ?_)
  · skip
    exact b79_19 L xs m d k (n + 4) a1 a2 g1 r2
  · skip
    refine (fs_r (n := n + 27) 3 (pc' := 16) (L' := [some (.ref 3), some (.int a1), some (.int a2), none]) (S' := [.int 1, .ref 1]) rfl).trans ?_
    refine (fs_cn (n := n + 26) (N := nm_m56) (as := [.ref 1, .int 1]) (rest := []) rfl rfl (Or.inl rfl) rfl rfl rfl rfl rfl).trans (fs_fn fun g17 r18 => ?_)
    exact b79_19 L xs m d k (n + 0) a1 a2 g17 r18
theorem q79 (L : Nat) (xs : Nat → Int32) (m d : Nat) (a1 a2 : Int32) (g : a2_G) (r : a2_A) : ev L xs (m + 1) (d + 1) 79 [.ref 3, .int a1, .int a2] g r = (fn_v (ev L xs (m + 1) d 50 [.ref 1, .int 1] g r) fun v3 g1 r2 => (if am_c2 .ne v3 0 = true then (B79_19 L xs (m + 1) d m a1 a2 g1 r2) else (fn_n (ev L xs (m + 1) d 56 [.ref 1, .int 1] g1 r2) fun g17 r18 => (B79_19 L xs (m + 1) d m a1 a2 g17 r18)))) := (fs_ev (M := nm_m79) rfl rfl).trans (e79 L xs (m + 1) d m 865 a1 a2 g r)
/-- CobolParser$Leaves.namesIn(II)V -/
def B80_38 (L : Nat) (xs : Nat → Int32) (m d k : Nat) (x1 x2 x3 : Int32) (g : a2_G) (r : a2_A) : Option fn_Z := (some (.inl none, g, r))
theorem b80_38 (L : Nat) (xs : Nat → Int32) (m d k : Nat) (n : Nat) (x1 x2 x3 : Int32) (g : a2_G) (r : a2_A) : bk L xs 80 nm_m80 m d k (n + 1) 38 [some (.ref 3), some (.int x1), some (.int x2), some (.int x3)] [] g r = B80_38 L xs m d k x1 x2 x3 g r := by
  show _ = ((some (.inl none, g, r)) : Option fn_Z)
  exact (fs_rv (n := n + 0) rfl rfl).trans rfl
def B80_8 (L : Nat) (xs : Nat → Int32) (m d k : Nat) (x1 x2 x3 : Int32) (g : a2_G) (r : a2_A) : Option fn_Z := (if am_c2 .ge x3 1500 = true then (B80_38 L xs m d k x1 x2 x3 g r) else (fn_v (ev L xs m d 50 [.ref 1, .int 1] g r) fun v5 g3 r4 => (if am_c2 .eq v5 0 = true then (B80_38 L xs m d k x1 x2 x3 g3 r4) else (fn_n (ev L xs m d 79 [.ref 3, .int x1, .int x2] g3 r4) fun g6 r7 => (lp L xs 80 nm_m80 m d k 8 [some (.ref 3), some (.int x1), some (.int x2), some (.int (x3 + 1))] g6 r7)))))
theorem b80_8 (L : Nat) (xs : Nat → Int32) (m d k : Nat) (n : Nat) (x1 x2 x3 : Int32) (g : a2_G) (r : a2_A) : bk L xs 80 nm_m80 m d k (n + 14) 8 [some (.ref 3), some (.int x1), some (.int x2), some (.int x3)] [] g r = B80_8 L xs m d k x1 x2 x3 g r := by
  show _ = ((if am_c2 .ge x3 1500 = true then (B80_38 L xs m d k x1 x2 x3 g r) else (fn_v (ev L xs m d 50 [.ref 1, .int 1] g r) fun v5 g3 r4 => (if am_c2 .eq v5 0 = true then (B80_38 L xs m d k x1 x2 x3 g3 r4) else (fn_n (ev L xs m d 79 [.ref 3, .int x1, .int x2] g3 r4) fun g6 r7 => (lp L xs 80 nm_m80 m d k 8 [some (.ref 3), some (.int x1), some (.int x2), some (.int (x3 + 1))] g6 r7))))) : Option fn_Z)
  refine (fs_r (n := n + 12) 2 (pc' := 12) (L' := [some (.ref 3), some (.int x1), some (.int x2), some (.int x3)]) (S' := [.int 1500, .int x3]) rfl).trans ?_
  refine (fs_j (n := n + 11) rfl (t := 38) rfl (by decide)).trans (fs_ite ?_ ?_)
  · skip
    exact b80_38 L xs m d k (n + 10) x1 x2 x3 g r
  · skip
    refine (fs_r (n := n + 8) 3 (pc' := 20) (L' := [some (.ref 3), some (.int x1), some (.int x2), some (.int x3)]) (S' := [.int 1, .ref 1]) rfl).trans ?_
    refine (fs_cv (n := n + 7) (N := nm_m50) (as := [.ref 1, .int 1]) (rest := []) rfl rfl (Or.inl rfl) rfl rfl rfl rfl rfl).trans (fs_fv fun v5 g3 r4 => ?_)
    refine (fs_i (n := n + 6) rfl (t := 38) rfl (by decide)).trans (fs_ite ?_ ?_)
    · skip
      exact b80_38 L xs m d k (n + 5) x1 x2 x3 g3 r4
    · skip
      refine (fs_r (n := n + 3) 3 (pc' := 29) (L' := [some (.ref 3), some (.int x1), some (.int x2), some (.int x3)]) (S' := [.int x2, .int x1, .ref 3]) rfl).trans ?_
      refine (fs_cn (n := n + 2) (N := nm_m79) (as := [.ref 3, .int x1, .int x2]) (rest := []) rfl rfl (Or.inl rfl) rfl rfl rfl rfl rfl).trans (fs_fn fun g6 r7 => ?_)
      refine (fs_r (n := n + 1) 1 (pc' := 35) (L' := [some (.ref 3), some (.int x1), some (.int x2), some (.int (x3 + 1))]) (S' := []) rfl).trans ?_
      exact (fs_gb (n := n + 0) rfl (t := 8) rfl (by decide)).trans rfl
theorem l80_8 (L : Nat) (xs : Nat → Int32) (m d k : Nat) (x1 x2 x3 : Int32) (g : a2_G) (r : a2_A) : lp L xs 80 nm_m80 m d (k + 1) 8 [some (.ref 3), some (.int x1), some (.int x2), some (.int x3)] g r = B80_8 L xs m d k x1 x2 x3 g r := fs_lp.trans (b80_8 L xs m d k 886 x1 x2 x3 g r)
theorem e80 (L : Nat) (xs : Nat → Int32) (m d k : Nat) (n : Nat) (a1 a2 : Int32) (g : a2_G) (r : a2_A) : bk L xs 80 nm_m80 m d k (n + 20) 0 [some (.ref 3), some (.int a1), some (.int a2), none] [] g r = (fn_n (ev L xs m d 79 [.ref 3, .int a1, .int a2] g r) fun g1 r2 => (B80_8 L xs m d k a1 a2 0 g1 r2)) := by
  refine (fs_r (n := n + 17) 3 (pc' := 3) (L' := [some (.ref 3), some (.int a1), some (.int a2), none]) (S' := [.int a2, .int a1, .ref 3]) rfl).trans ?_
  refine (fs_cn (n := n + 16) (N := nm_m79) (as := [.ref 3, .int a1, .int a2]) (rest := []) rfl rfl (Or.inl rfl) rfl rfl rfl rfl rfl).trans (fs_fn fun g1 r2 => ?_)
  refine (fs_r (n := n + 14) 2 (pc' := 8) (L' := [some (.ref 3), some (.int a1), some (.int a2), some (.int 0)]) (S' := []) rfl).trans ?_
  exact b80_8 L xs m d k (n + 0) a1 a2 0 g1 r2
theorem q80 (L : Nat) (xs : Nat → Int32) (m d : Nat) (a1 a2 : Int32) (g : a2_G) (r : a2_A) : ev L xs (m + 1) (d + 1) 80 [.ref 3, .int a1, .int a2] g r = (fn_n (ev L xs (m + 1) d 79 [.ref 3, .int a1, .int a2] g r) fun g1 r2 => (B80_8 L xs (m + 1) d m a1 a2 0 g1 r2)) := (fs_ev (M := nm_m80) rfl rfl).trans (e80 L xs (m + 1) d m 880 a1 a2 g r)
/-- CobolParser$Items.redefines(I)V -/
theorem e81 (L : Nat) (xs : Nat → Int32) (m d k : Nat) (n : Nat) (a1 : Int32) (g : a2_G) (r : a2_A) : bk L xs 81 nm_m81 m d k (n + 15) 0 [some (.ref 7), some (.int a1), none] [] g r = (fn_v (ev L xs m d 72 [.ref 7, .int a1, .int 18] g r) fun v3 g1 r2 => (fn_v (ev L xs m d 59 [.ref 1, .int 1] g1 r2) fun v6 g4 r5 => (fn_n (ev L xs m d 69 [.ref 2, .int v3, .int 1, .int v6] g4 r5) fun g7 r8 => (some (.inl none, g7, r8))))) := by
  refine (fs_r (n := n + 12) 3 (pc' := 4) (L' := [some (.ref 7), some (.int a1), none]) (S' := [.int 18, .int a1, .ref 7]) rfl).trans ?_
  refine (fs_cv (n := n + 11) (N := nm_m72) (as := [.ref 7, .int a1, .int 18]) (rest := []) rfl rfl (Or.inl rfl) rfl rfl rfl rfl rfl).trans (fs_fv fun v3 g1 r2 => ?_)
  refine (fs_r (n := n + 3) 8 (pc' := 19) (L' := [some (.ref 7), some (.int a1), some (.int v3)]) (S' := [.int 1, .ref 1, .int 1, .int v3, .ref 2]) rfl).trans ?_
  refine (fs_cv (n := n + 2) (N := nm_m59) (as := [.ref 1, .int 1]) (rest := [.int 1, .int v3, .ref 2]) rfl rfl (Or.inl rfl) rfl rfl rfl rfl rfl).trans (fs_fv fun v6 g4 r5 => ?_)
  refine (fs_cn (n := n + 1) (N := nm_m69) (as := [.ref 2, .int v3, .int 1, .int v6]) (rest := []) rfl rfl (Or.inl rfl) rfl rfl rfl rfl rfl).trans (fs_fn fun g7 r8 => ?_)
  exact (fs_rv (n := n + 0) rfl rfl).trans rfl
theorem q81 (L : Nat) (xs : Nat → Int32) (m d : Nat) (a1 : Int32) (g : a2_G) (r : a2_A) : ev L xs (m + 1) (d + 1) 81 [.ref 7, .int a1] g r = (fn_v (ev L xs (m + 1) d 72 [.ref 7, .int a1, .int 18] g r) fun v3 g1 r2 => (fn_v (ev L xs (m + 1) d 59 [.ref 1, .int 1] g1 r2) fun v6 g4 r5 => (fn_n (ev L xs (m + 1) d 69 [.ref 2, .int v3, .int 1, .int v6] g4 r5) fun g7 r8 => (some (.inl none, g7, r8))))) := (fs_ev (M := nm_m81) rfl rfl).trans (e81 L xs (m + 1) d m 885 a1 g r)
/-- CobolParser$Items.usage(I)V -/
def B82_52 (L : Nat) (xs : Nat → Int32) (m d k : Nat) (x1 x2 : Int32) (g : a2_G) (r : a2_A) : Option fn_Z := (some (.inl none, g, r))
theorem b82_52 (L : Nat) (xs : Nat → Int32) (m d k : Nat) (n : Nat) (x1 x2 : Int32) (g : a2_G) (r : a2_A) : bk L xs 82 nm_m82 m d k (n + 1) 52 [some (.ref 7), some (.int x1), some (.int x2)] [] g r = B82_52 L xs m d k x1 x2 g r := by
  show _ = ((some (.inl none, g, r)) : Option fn_Z)
  exact (fs_rv (n := n + 0) rfl rfl).trans rfl
theorem e82 (L : Nat) (xs : Nat → Int32) (m d k : Nat) (n : Nat) (a1 : Int32) (g : a2_G) (r : a2_A) : bk L xs 82 nm_m82 m d k (n + 23) 0 [some (.ref 7), some (.int a1), none] [] g r = (fn_v (ev L xs m d 72 [.ref 7, .int a1, .int 19] g r) fun v3 g1 r2 => (fn_v (ev L xs m d 62 [.ref 1, .int 67] g1 r2) fun v6 g4 r5 => (fn_v (ev L xs m d 62 [.ref 1, .int 29] g4 r5) fun v9 g7 r8 => (if am_c2 .eq v9 0 = true then (fn_n (ev L xs m d 83 [.ref 1, .int 28] g7 r8) fun g10 r11 => (B82_52 L xs m d k a1 v3 g10 r11)) else (fn_n (ev L xs m d 69 [.ref 2, .int v3, .int 1, .int 1] g7 r8) fun g12 r13 => (B82_52 L xs m d k a1 v3 g12 r13)))))) := by
  refine (fs_r (n := n + 20) 3 (pc' := 4) (L' := [some (.ref 7), some (.int a1), none]) (S' := [.int 19, .int a1, .ref 7]) rfl).trans ?_
  refine (fs_cv (n := n + 19) (N := nm_m72) (as := [.ref 7, .int a1, .int 19]) (rest := []) rfl rfl (Or.inl rfl) rfl rfl rfl rfl rfl).trans (fs_fv fun v3 g1 r2 => ?_)
  refine (fs_r (n := n + 15) 4 (pc' := 14) (L' := [some (.ref 7), some (.int a1), some (.int v3)]) (S' := [.int 67, .ref 1]) rfl).trans ?_
  refine (fs_cv (n := n + 14) (N := nm_m62) (as := [.ref 1, .int 67]) (rest := []) rfl rfl (Or.inl rfl) rfl rfl rfl rfl rfl).trans (fs_fv fun v6 g4 r5 => ?_)
  refine (fs_r (n := n + 10) 4 (pc' := 24) (L' := [some (.ref 7), some (.int a1), some (.int v3)]) (S' := [.int 29, .ref 1]) rfl).trans ?_
  refine (fs_cv (n := n + 9) (N := nm_m62) (as := [.ref 1, .int 29]) (rest := []) rfl rfl (Or.inl rfl) rfl rfl rfl rfl rfl).trans (fs_fv fun v9 g7 r8 => ?_)
  refine (fs_i (n := n + 8) rfl (t := 43) rfl (by decide)).trans (fs_ite ?_ ?_)
  · skip
    refine (fs_r (n := n + 5) 3 (pc' := 49) (L' := [some (.ref 7), some (.int a1), some (.int v3)]) (S' := [.int 28, .ref 1]) rfl).trans ?_
    refine (fs_cn (n := n + 4) (N := nm_m83) (as := [.ref 1, .int 28]) (rest := []) rfl rfl (Or.inl rfl) rfl rfl rfl rfl rfl).trans (fs_fn fun g10 r11 => ?_)
    exact b82_52 L xs m d k (n + 3) a1 v3 g10 r11
  · skip
    refine (fs_r (n := n + 3) 5 (pc' := 37) (L' := [some (.ref 7), some (.int a1), some (.int v3)]) (S' := [.int 1, .int 1, .int v3, .ref 2]) rfl).trans ?_
    refine (fs_cn (n := n + 2) (N := nm_m69) (as := [.ref 2, .int v3, .int 1, .int 1]) (rest := []) rfl rfl (Or.inl rfl) rfl rfl rfl rfl rfl).trans (fs_fn fun g12 r13 => ?_)
    refine (fs_go (n := n + 1) rfl (t := 52) rfl (by decide)).trans ?_
    exact b82_52 L xs m d k (n + 0) a1 v3 g12 r13
theorem q82 (L : Nat) (xs : Nat → Int32) (m d : Nat) (a1 : Int32) (g : a2_G) (r : a2_A) : ev L xs (m + 1) (d + 1) 82 [.ref 7, .int a1] g r = (fn_v (ev L xs (m + 1) d 72 [.ref 7, .int a1, .int 19] g r) fun v3 g1 r2 => (fn_v (ev L xs (m + 1) d 62 [.ref 1, .int 67] g1 r2) fun v6 g4 r5 => (fn_v (ev L xs (m + 1) d 62 [.ref 1, .int 29] g4 r5) fun v9 g7 r8 => (if am_c2 .eq v9 0 = true then (fn_n (ev L xs (m + 1) d 83 [.ref 1, .int 28] g7 r8) fun g10 r11 => (B82_52 L xs (m + 1) d m a1 v3 g10 r11)) else (fn_n (ev L xs (m + 1) d 69 [.ref 2, .int v3, .int 1, .int 1] g7 r8) fun g12 r13 => (B82_52 L xs (m + 1) d m a1 v3 g12 r13)))))) := (fs_ev (M := nm_m82) rfl rfl).trans (e82 L xs (m + 1) d m 877 a1 g r)
/-- CobolParser$Row.require(I)V -/
def B83_13 (L : Nat) (xs : Nat → Int32) (m d k : Nat) (x1 : Int32) (g : a2_G) (r : a2_A) : Option fn_Z := (some (.inl none, g, r))
theorem b83_13 (L : Nat) (xs : Nat → Int32) (m d k : Nat) (n : Nat) (x1 : Int32) (g : a2_G) (r : a2_A) : bk L xs 83 nm_m83 m d k (n + 1) 13 [some (.ref 1), some (.int x1)] [] g r = B83_13 L xs m d k x1 g r := by
  show _ = ((some (.inl none, g, r)) : Option fn_Z)
  exact (fs_rv (n := n + 0) rfl rfl).trans rfl
theorem e83 (L : Nat) (xs : Nat → Int32) (m d k : Nat) (n : Nat) (a1 : Int32) (g : a2_G) (r : a2_A) : bk L xs 83 nm_m83 m d k (n + 8) 0 [some (.ref 1), some (.int a1)] [] g r = (fn_v (ev L xs m d 62 [.ref 1, .int a1] g r) fun v3 g1 r2 => (if am_c2 .ne v3 0 = true then (B83_13 L xs m d k a1 g1 r2) else (fn_n (ev L xs m d 56 [.ref 1, .int 1] g1 r2) fun g4 r5 => (B83_13 L xs m d k a1 g4 r5)))) := by
  refine (fs_r (n := n + 6) 2 (pc' := 2) (L' := [some (.ref 1), some (.int a1)]) (S' := [.int a1, .ref 1]) rfl).trans ?_
  refine (fs_cv (n := n + 5) (N := nm_m62) (as := [.ref 1, .int a1]) (rest := []) rfl rfl (Or.inl rfl) rfl rfl rfl rfl rfl).trans (fs_fv fun v3 g1 r2 => ?_)
  refine (fs_i (n := n + 4) rfl (t := 13) rfl (by decide)).trans (fs_ite ?_ ?_)
  · skip
    exact b83_13 L xs m d k (n + 3) a1 g1 r2
  · skip
    refine (fs_r (n := n + 2) 2 (pc' := 10) (L' := [some (.ref 1), some (.int a1)]) (S' := [.int 1, .ref 1]) rfl).trans ?_
    refine (fs_cn (n := n + 1) (N := nm_m56) (as := [.ref 1, .int 1]) (rest := []) rfl rfl (Or.inl rfl) rfl rfl rfl rfl rfl).trans (fs_fn fun g4 r5 => ?_)
    exact b83_13 L xs m d k (n + 0) a1 g4 r5
theorem q83 (L : Nat) (xs : Nat → Int32) (m d : Nat) (a1 : Int32) (g : a2_G) (r : a2_A) : ev L xs (m + 1) (d + 1) 83 [.ref 1, .int a1] g r = (fn_v (ev L xs (m + 1) d 62 [.ref 1, .int a1] g r) fun v3 g1 r2 => (if am_c2 .ne v3 0 = true then (B83_13 L xs (m + 1) d m a1 g1 r2) else (fn_n (ev L xs (m + 1) d 56 [.ref 1, .int 1] g1 r2) fun g4 r5 => (B83_13 L xs (m + 1) d m a1 g4 r5)))) := (fs_ev (M := nm_m83) rfl rfl).trans (e83 L xs (m + 1) d m 892 a1 g r)
/-- CobolParser$Items.place(III)V -/
def B84_82 (L : Nat) (xs : Nat → Int32) (m d k : Nat) (x1 x2 x3 x4 : Int32) (g : a2_G) (r : a2_A) : Option fn_Z := (some (.inl none, g, r))
theorem b84_82 (L : Nat) (xs : Nat → Int32) (m d k : Nat) (n : Nat) (x1 x2 x3 x4 : Int32) (g : a2_G) (r : a2_A) : bk L xs 84 nm_m84 m d k (n + 1) 82 [some (.ref 7), some (.int x1), some (.int x2), some (.int x3), some (.int x4)] [] g r = B84_82 L xs m d k x1 x2 x3 x4 g r := by
  show _ = ((some (.inl none, g, r)) : Option fn_Z)
  exact (fs_rv (n := n + 0) rfl rfl).trans rfl
def B84_41 (L : Nat) (xs : Nat → Int32) (m d k : Nat) (x1 x2 x3 x4 x5 : Int32) (g : a2_G) (r : a2_A) : Option fn_Z := (fn_n (ev L xs m d 63 [.ref 2, .int x5, .int x1] g r) fun g1 r2 => (if am_c2 .eq x2 88 = true then (B84_82 L xs m d k x1 x2 x3 x4 g1 r2) else (if am_c2 .lt x3 0 = true then (B84_82 L xs m d k x1 x2 x3 x4 g1 r2) else (if am_c2 .ge x3 49 = true then (B84_82 L xs m d k x1 x2 x3 x4 g1 r2) else (if am_inr x3 (r2 703).1 = true then (if am_inr x3 (r2 704).1 = true then (B84_82 L xs m d k x1 x2 x3 x4 (upd g1 705 (x3 + 1)) (a2_ua (a2_ua r2 703 ((r2 703).1, (upd (r2 703).2 (x3 : Int32).toNatClampNeg x2))) 704 ((r2 704).1, (upd (r2 704).2 (x3 : Int32).toNatClampNeg x1)))) else none) else none)))))
theorem b84_41 (L : Nat) (xs : Nat → Int32) (m d k : Nat) (n : Nat) (x1 x2 x3 x4 x5 : Int32) (g : a2_G) (r : a2_A) : bk L xs 84 nm_m84 m d k (n + 26) 41 [some (.ref 7), some (.int x1), some (.int x2), some (.int x3), some (.int x4)] [.int x5, .ref 2] g r = B84_41 L xs m d k x1 x2 x3 x4 x5 g r := by
  show _ = ((fn_n (ev L xs m d 63 [.ref 2, .int x5, .int x1] g r) fun g1 r2 => (if am_c2 .eq x2 88 = true then (B84_82 L xs m d k x1 x2 x3 x4 g1 r2) else (if am_c2 .lt x3 0 = true then (B84_82 L xs m d k x1 x2 x3 x4 g1 r2) else (if am_c2 .ge x3 49 = true then (B84_82 L xs m d k x1 x2 x3 x4 g1 r2) else (if am_inr x3 (r2 703).1 = true then (if am_inr x3 (r2 704).1 = true then (B84_82 L xs m d k x1 x2 x3 x4 (upd g1 705 (x3 + 1)) (a2_ua (a2_ua r2 703 ((r2 703).1, (upd (r2 703).2 (x3 : Int32).toNatClampNeg x2))) 704 ((r2 704).1, (upd (r2 704).2 (x3 : Int32).toNatClampNeg x1)))) else none) else none))))) : Option fn_Z)
  refine (fs_r (n := n + 25) 1 (pc' := 42) (L' := [some (.ref 7), some (.int x1), some (.int x2), some (.int x3), some (.int x4)]) (S' := [.int x1, .int x5, .ref 2]) rfl).trans ?_
  refine (fs_cn (n := n + 24) (N := nm_m63) (as := [.ref 2, .int x5, .int x1]) (rest := []) rfl rfl (Or.inl rfl) rfl rfl rfl rfl rfl).trans (fs_fn fun g1 r2 => ?_)
  refine (fs_r (n := n + 22) 2 (pc' := 48) (L' := [some (.ref 7), some (.int x1), some (.int x2), some (.int x3), some (.int x4)]) (S' := [.int 88, .int x2]) rfl).trans ?_
  refine (fs_j (n := n + 21) rfl (t := 82) rfl (by decide)).trans (fs_ite ?_ ?_)
  · skip
    exact b84_82 L xs m d k (n + 20) x1 x2 x3 x4 g1 r2
  · skip
    refine (fs_r (n := n + 20) 1 (pc' := 52) (L' := [some (.ref 7), some (.int x1), some (.int x2), some (.int x3), some (.int x4)]) (S' := [.int x3]) rfl).trans ?_
    refine (fs_i (n := n + 19) rfl (t := 82) rfl (by decide)).trans (fs_ite ?_ ?_)
    · skip
      exact b84_82 L xs m d k (n + 18) x1 x2 x3 x4 g1 r2
    · skip
      refine (fs_r (n := n + 17) 2 (pc' := 58) (L' := [some (.ref 7), some (.int x1), some (.int x2), some (.int x3), some (.int x4)]) (S' := [.int 49, .int x3]) rfl).trans ?_
      refine (fs_j (n := n + 16) rfl (t := 82) rfl (by decide)).trans (fs_ite ?_ ?_)
      · skip
        exact b84_82 L xs m d k (n + 15) x1 x2 x3 x4 g1 r2
      · skip
        refine (fs_r (n := n + 12) 4 (pc' := 67) (L' := [some (.ref 7), some (.int x1), some (.int x2), some (.int x3), some (.int x4)]) (S' := [.int x2, .int x3, .ref 10703]) rfl).trans ?_
        refine (fs_is (n := n + 11) (k := 703) rfl rfl).trans (fs_ite ?_ rfl)
        refine (fs_r (n := n + 7) 4 (pc' := 74) (L' := [some (.ref 7), some (.int x1), some (.int x2), some (.int x3), some (.int x4)]) (S' := [.int x1, .int x3, .ref 10704]) rfl).trans ?_
        refine (fs_is (n := n + 6) (k := 704) rfl rfl).trans (fs_ite ?_ rfl)
        refine (fs_r (n := n + 2) 4 (pc' := 79) (L' := [some (.ref 7), some (.int x1), some (.int x2), some (.int x3), some (.int x4)]) (S' := [.int (x3 + 1), .ref 7]) rfl).trans ?_
        refine (fs_pf (n := n + 1) (ci := 7) (j := 5) rfl rfl rfl rfl).trans ?_
        exact b84_82 L xs m d k (n + 0) x1 x2 x3 x4 (upd g1 705 (x3 + 1)) (a2_ua (a2_ua r2 703 ((r2 703).1, (upd (r2 703).2 (x3 : Int32).toNatClampNeg x2))) 704 ((r2 704).1, (upd (r2 704).2 (x3 : Int32).toNatClampNeg x1)))
def B84_15 (L : Nat) (xs : Nat → Int32) (m d k : Nat) (x1 x2 x3 x4 : Int32) (g : a2_G) (r : a2_A) : Option fn_Z := (if am_c2 .eq x4 0 = true then (B84_41 L xs m d k x1 x2 x3 x4 (g 706) g r) else (if am_inr (x3 - 1) (r 704).1 = true then (B84_41 L xs m d k x1 x2 x3 x4 ((r 704).2 ((x3 - 1) : Int32).toNatClampNeg) g r) else none))
theorem b84_15 (L : Nat) (xs : Nat → Int32) (m d k : Nat) (n : Nat) (x1 x2 x3 x4 : Int32) (g : a2_G) (r : a2_A) : bk L xs 84 nm_m84 m d k (n + 38) 15 [some (.ref 7), some (.int x1), some (.int x2), some (.int x3), none] [.int x4] g r = B84_15 L xs m d k x1 x2 x3 x4 g r := by
  show _ = ((if am_c2 .eq x4 0 = true then (B84_41 L xs m d k x1 x2 x3 x4 (g 706) g r) else (if am_inr (x3 - 1) (r 704).1 = true then (B84_41 L xs m d k x1 x2 x3 x4 ((r 704).2 ((x3 - 1) : Int32).toNatClampNeg) g r) else none)) : Option fn_Z)
  refine (fs_r (n := n + 34) 4 (pc' := 23) (L' := [some (.ref 7), some (.int x1), some (.int x2), some (.int x3), some (.int x4)]) (S' := [.int x4, .ref 2]) rfl).trans ?_
  refine (fs_i (n := n + 33) rfl (t := 37) rfl (by decide)).trans (fs_ite ?_ ?_)
  · skip
    refine (fs_r (n := n + 31) 2 (pc' := 41) (L' := [some (.ref 7), some (.int x1), some (.int x2), some (.int x3), some (.int x4)]) (S' := [.int (g 706), .ref 2]) rfl).trans ?_
    exact b84_41 L xs m d k (n + 5) x1 x2 x3 x4 (g 706) g r
  · skip
    refine (fs_r (n := n + 28) 5 (pc' := 33) (L' := [some (.ref 7), some (.int x1), some (.int x2), some (.int x3), some (.int x4)]) (S' := [.int (x3 - 1), .ref 10704, .ref 2]) rfl).trans ?_
    refine (fs_il (n := n + 27) (k := 704) rfl rfl).trans (fs_ite ?_ rfl)
    refine (fs_go (n := n + 26) rfl (t := 41) rfl (by decide)).trans ?_
    exact b84_41 L xs m d k (n + 0) x1 x2 x3 x4 ((r 704).2 ((x3 - 1) : Int32).toNatClampNeg) g r
def B84_14 (L : Nat) (xs : Nat → Int32) (m d k : Nat) (x1 x2 x3 : Int32) (g : a2_G) (r : a2_A) : Option fn_Z := (B84_15 L xs m d k x1 x2 x3 0 g r)
theorem b84_14 (L : Nat) (xs : Nat → Int32) (m d k : Nat) (n : Nat) (x1 x2 x3 : Int32) (g : a2_G) (r : a2_A) : bk L xs 84 nm_m84 m d k (n + 39) 14 [some (.ref 7), some (.int x1), some (.int x2), some (.int x3), none] [] g r = B84_14 L xs m d k x1 x2 x3 g r := by
  show _ = ((B84_15 L xs m d k x1 x2 x3 0 g r) : Option fn_Z)
  refine (fs_r (n := n + 38) 1 (pc' := 15) (L' := [some (.ref 7), some (.int x1), some (.int x2), some (.int x3), none]) (S' := [.int 0]) rfl).trans ?_
  exact b84_15 L xs m d k (n + 0) x1 x2 x3 0 g r
theorem e84 (L : Nat) (xs : Nat → Int32) (m d k : Nat) (n : Nat) (a1 a2 a3 : Int32) (g : a2_G) (r : a2_A) : bk L xs 84 nm_m84 m d k (n + 45) 0 [some (.ref 7), some (.int a1), some (.int a2), some (.int a3), none] [] g r = (if am_c2 .le a3 0 = true then (B84_14 L xs m d k a1 a2 a3 g r) else (if am_c2 .gt a3 49 = true then (B84_14 L xs m d k a1 a2 a3 g r) else (B84_15 L xs m d k a1 a2 a3 1 g r))) := by
  refine (fs_r (n := n + 44) 1 (pc' := 1) (L' := [some (.ref 7), some (.int a1), some (.int a2), some (.int a3), none]) (S' := [.int a3]) rfl).trans ?_
  refine (fs_i (n := n + 43) rfl (t := 14) rfl (by decide)).trans (fs_ite ?_ ?_)
  · skip
    exact b84_14 L xs m d k (n + 4) a1 a2 a3 g r
  · skip
    refine (fs_r (n := n + 41) 2 (pc' := 7) (L' := [some (.ref 7), some (.int a1), some (.int a2), some (.int a3), none]) (S' := [.int 49, .int a3]) rfl).trans ?_
    refine (fs_j (n := n + 40) rfl (t := 14) rfl (by decide)).trans (fs_ite ?_ ?_)
    · skip
      exact b84_14 L xs m d k (n + 1) a1 a2 a3 g r
    · skip
      refine (fs_r (n := n + 39) 1 (pc' := 11) (L' := [some (.ref 7), some (.int a1), some (.int a2), some (.int a3), none]) (S' := [.int 1]) rfl).trans ?_
      refine (fs_go (n := n + 38) rfl (t := 15) rfl (by decide)).trans ?_
      exact b84_15 L xs m d k (n + 0) a1 a2 a3 1 g r
theorem q84 (L : Nat) (xs : Nat → Int32) (m d : Nat) (a1 a2 a3 : Int32) (g : a2_G) (r : a2_A) : ev L xs (m + 1) (d + 1) 84 [.ref 7, .int a1, .int a2, .int a3] g r = (if am_c2 .le a3 0 = true then (B84_14 L xs (m + 1) d m a1 a2 a3 g r) else (if am_c2 .gt a3 49 = true then (B84_14 L xs (m + 1) d m a1 a2 a3 g r) else (B84_15 L xs (m + 1) d m a1 a2 a3 1 g r))) := (fs_ev (M := nm_m84) rfl rfl).trans (e84 L xs (m + 1) d m 855 a1 a2 a3 g r)
/-- CobolParser$Statements.isNext()Z -/
def B85_52 (L : Nat) (xs : Nat → Int32) (m d k : Nat) (x1 x2 x3 : Int32) (g : a2_G) (r : a2_A) : Option fn_Z := (if x3 = 0 ∨ x3 = 1 then some (.inl (some (.int x3)), g, r) else none)
theorem b85_52 (L : Nat) (xs : Nat → Int32) (m d k : Nat) (n : Nat) (x1 x2 x3 : Int32) (g : a2_G) (r : a2_A) : bk L xs 85 nm_m85 m d k (n + 1) 52 [some (.ref 4), some (.int x1), some (.int x2)] [.int x3] g r = B85_52 L xs m d k x1 x2 x3 g r := by
  show _ = ((if x3 = 0 ∨ x3 = 1 then some (.inl (some (.int x3)), g, r) else none) : Option fn_Z)
  exact (fs_rb (n := n + 0) rfl rfl).trans rfl
def B85_51 (L : Nat) (xs : Nat → Int32) (m d k : Nat) (x1 x2 : Int32) (g : a2_G) (r : a2_A) : Option fn_Z := (B85_52 L xs m d k x1 x2 0 g r)
theorem b85_51 (L : Nat) (xs : Nat → Int32) (m d k : Nat) (n : Nat) (x1 x2 : Int32) (g : a2_G) (r : a2_A) : bk L xs 85 nm_m85 m d k (n + 2) 51 [some (.ref 4), some (.int x1), some (.int x2)] [] g r = B85_51 L xs m d k x1 x2 g r := by
  show _ = ((B85_52 L xs m d k x1 x2 0 g r) : Option fn_Z)
  refine (fs_r (n := n + 1) 1 (pc' := 52) (L' := [some (.ref 4), some (.int x1), some (.int x2)]) (S' := [.int 0]) rfl).trans ?_
  exact b85_52 L xs m d k (n + 0) x1 x2 0 g r
def B85_31 (L : Nat) (xs : Nat → Int32) (m d k : Nat) (x1 x2 : Int32) (g : a2_G) (r : a2_A) : Option fn_Z := (fn_v (ev L xs m d 50 [.ref 1, .int 0] g r) fun v6 g4 r5 => (if am_c2 .eq v6 0 = true then (B85_51 L xs m d k x1 x2 g4 r5) else (if am_c2 .eq x2 0 = true then (B85_51 L xs m d k x1 x2 g4 r5) else (B85_52 L xs m d k x1 x2 1 g4 r5))))
theorem b85_31 (L : Nat) (xs : Nat → Int32) (m d k : Nat) (n : Nat) (x1 x2 : Int32) (g : a2_G) (r : a2_A) : bk L xs 85 nm_m85 m d k (n + 11) 31 [some (.ref 4), some (.int x1), none] [.int x2] g r = B85_31 L xs m d k x1 x2 g r := by
  show _ = ((fn_v (ev L xs m d 50 [.ref 1, .int 0] g r) fun v6 g4 r5 => (if am_c2 .eq v6 0 = true then (B85_51 L xs m d k x1 x2 g4 r5) else (if am_c2 .eq x2 0 = true then (B85_51 L xs m d k x1 x2 g4 r5) else (B85_52 L xs m d k x1 x2 1 g4 r5)))) : Option fn_Z)
  refine (fs_r (n := n + 7) 4 (pc' := 37) (L' := [some (.ref 4), some (.int x1), some (.int x2)]) (S' := [.int 0, .ref 1]) rfl).trans ?_
  refine (fs_cv (n := n + 6) (N := nm_m50) (as := [.ref 1, .int 0]) (rest := []) rfl rfl (Or.inl rfl) rfl rfl rfl rfl rfl).trans (fs_fv fun v6 g4 r5 => ?_)
  refine (fs_i (n := n + 5) rfl (t := 51) rfl (by decide)).trans (fs_ite ?_ ?_)
  · skip
    exact b85_51 L xs m d k (n + 3) x1 x2 g4 r5
  · skip
    refine (fs_r (n := n + 4) 1 (pc' := 44) (L' := [some (.ref 4), some (.int x1), some (.int x2)]) (S' := [.int x2]) rfl).trans ?_
    refine (fs_i (n := n + 3) rfl (t := 51) rfl (by decide)).trans (fs_ite ?_ ?_)
    · skip
      exact b85_51 L xs m d k (n + 1) x1 x2 g4 r5
    · skip
      refine (fs_r (n := n + 2) 1 (pc' := 48) (L' := [some (.ref 4), some (.int x1), some (.int x2)]) (S' := [.int 1]) rfl).trans ?_
      refine (fs_go (n := n + 1) rfl (t := 52) rfl (by decide)).trans ?_
      exact b85_52 L xs m d k (n + 0) x1 x2 1 g4 r5
def B85_26 (L : Nat) (xs : Nat → Int32) (m d k : Nat) (x1 : Int32) (g : a2_G) (r : a2_A) : Option fn_Z := (B85_31 L xs m d k x1 1 g r)
theorem b85_26 (L : Nat) (xs : Nat → Int32) (m d k : Nat) (n : Nat) (x1 : Int32) (g : a2_G) (r : a2_A) : bk L xs 85 nm_m85 m d k (n + 13) 26 [some (.ref 4), some (.int x1), none] [] g r = B85_26 L xs m d k x1 g r := by
  show _ = ((B85_31 L xs m d k x1 1 g r) : Option fn_Z)
  refine (fs_r (n := n + 12) 1 (pc' := 27) (L' := [some (.ref 4), some (.int x1), none]) (S' := [.int 1]) rfl).trans ?_
  refine (fs_go (n := n + 11) rfl (t := 31) rfl (by decide)).trans ?_
  exact b85_31 L xs m d k (n + 0) x1 1 g r
def B85_20 (L : Nat) (xs : Nat → Int32) (m d k : Nat) (x1 : Int32) (g : a2_G) (r : a2_A) : Option fn_Z := (if am_c2 .ne x1 29 = true then (B85_31 L xs m d k x1 0 g r) else (B85_26 L xs m d k x1 g r))
theorem b85_20 (L : Nat) (xs : Nat → Int32) (m d k : Nat) (n : Nat) (x1 : Int32) (g : a2_G) (r : a2_A) : bk L xs 85 nm_m85 m d k (n + 16) 20 [some (.ref 4), some (.int x1), none] [] g r = B85_20 L xs m d k x1 g r := by
  show _ = ((if am_c2 .ne x1 29 = true then (B85_31 L xs m d k x1 0 g r) else (B85_26 L xs m d k x1 g r)) : Option fn_Z)
  refine (fs_r (n := n + 14) 2 (pc' := 23) (L' := [some (.ref 4), some (.int x1), none]) (S' := [.int 29, .int x1]) rfl).trans ?_
  refine (fs_j (n := n + 13) rfl (t := 30) rfl (by decide)).trans (fs_ite ?_ ?_)
  · skip
    refine (fs_r (n := n + 12) 1 (pc' := 31) (L' := [some (.ref 4), some (.int x1), none]) (S' := [.int 0]) rfl).trans ?_
    exact b85_31 L xs m d k (n + 1) x1 0 g r
  · skip
    exact b85_26 L xs m d k (n + 0) x1 g r
theorem e85 (L : Nat) (xs : Nat → Int32) (m d k : Nat) (n : Nat) (g : a2_G) (r : a2_A) : bk L xs 85 nm_m85 m d k (n + 26) 0 [some (.ref 4), none, none] [] g r = (fn_v (ev L xs m d 60 [.ref 1] g r) fun v3 g1 r2 => (if am_c2 .lt v3 36 = true then (B85_20 L xs m d k v3 g1 r2) else (if am_c2 .le v3 47 = true then (B85_26 L xs m d k v3 g1 r2) else (B85_20 L xs m d k v3 g1 r2)))) := by
  refine (fs_r (n := n + 24) 2 (pc' := 4) (L' := [some (.ref 4), none, none]) (S' := [.ref 1]) rfl).trans ?_
  refine (fs_cv (n := n + 23) (N := nm_m60) (as := [.ref 1]) (rest := []) rfl rfl (Or.inl rfl) rfl rfl rfl rfl rfl).trans (fs_fv fun v3 g1 r2 => ?_)
  refine (fs_r (n := n + 20) 3 (pc' := 11) (L' := [some (.ref 4), some (.int v3), none]) (S' := [.int 36, .int v3]) rfl).trans ?_
  refine (fs_j (n := n + 19) rfl (t := 20) rfl (by decide)).trans (fs_ite ?_ ?_)
  · skip
    exact b85_20 L xs m d k (n + 3) v3 g1 r2
  · skip
    refine (fs_r (n := n + 17) 2 (pc' := 17) (L' := [some (.ref 4), some (.int v3), none]) (S' := [.int 47, .int v3]) rfl).trans ?_
    refine (fs_j (n := n + 16) rfl (t := 26) rfl (by decide)).trans (fs_ite ?_ ?_)
    · skip
      exact b85_26 L xs m d k (n + 3) v3 g1 r2
    · skip
      exact b85_20 L xs m d k (n + 0) v3 g1 r2
theorem q85 (L : Nat) (xs : Nat → Int32) (m d : Nat) (g : a2_G) (r : a2_A) : ev L xs (m + 1) (d + 1) 85 [.ref 4] g r = (fn_v (ev L xs (m + 1) d 60 [.ref 1] g r) fun v3 g1 r2 => (if am_c2 .lt v3 36 = true then (B85_20 L xs (m + 1) d m v3 g1 r2) else (if am_c2 .le v3 47 = true then (B85_26 L xs (m + 1) d m v3 g1 r2) else (B85_20 L xs (m + 1) d m v3 g1 r2)))) := (fs_ev (M := nm_m85) rfl rfl).trans (e85 L xs (m + 1) d m 874 g r)
/-- CobolParser$Clauses.sentence()V -/
def B86_76 (L : Nat) (xs : Nat → Int32) (m d k : Nat) (x1 x2 x3 : Int32) (g : a2_G) (r : a2_A) : Option fn_Z := (fn_n (ev L xs m d 63 [.ref 2, .int x3, .int x1] g r) fun g14 r15 => (fn_n (ev L xs m d 64 [.ref 6] g14 r15) fun g16 r17 => (some (.inl none, g16, r17))))
theorem b86_76 (L : Nat) (xs : Nat → Int32) (m d k : Nat) (n : Nat) (x1 x2 x3 : Int32) (g : a2_G) (r : a2_A) : bk L xs 86 nm_m86 m d k (n + 5) 76 [some (.ref 6), some (.int x1), some (.int x2)] [.int x3, .ref 2] g r = B86_76 L xs m d k x1 x2 x3 g r := by
  show _ = ((fn_n (ev L xs m d 63 [.ref 2, .int x3, .int x1] g r) fun g14 r15 => (fn_n (ev L xs m d 64 [.ref 6] g14 r15) fun g16 r17 => (some (.inl none, g16, r17)))) : Option fn_Z)
  refine (fs_r (n := n + 4) 1 (pc' := 77) (L' := [some (.ref 6), some (.int x1), some (.int x2)]) (S' := [.int x1, .int x3, .ref 2]) rfl).trans ?_
  refine (fs_cn (n := n + 3) (N := nm_m63) (as := [.ref 2, .int x3, .int x1]) (rest := []) rfl rfl (Or.inl rfl) rfl rfl rfl rfl rfl).trans (fs_fn fun g14 r15 => ?_)
  refine (fs_r (n := n + 2) 1 (pc' := 81) (L' := [some (.ref 6), some (.int x1), some (.int x2)]) (S' := [.ref 6]) rfl).trans ?_
  refine (fs_cn (n := n + 1) (N := nm_m64) (as := [.ref 6]) (rest := []) rfl rfl (Or.inl rfl) rfl rfl rfl rfl rfl).trans (fs_fn fun g16 r17 => ?_)
  exact (fs_rv (n := n + 0) rfl rfl).trans rfl
def B86_55 (L : Nat) (xs : Nat → Int32) (m d k : Nat) (x1 x2 : Int32) (g : a2_G) (r : a2_A) : Option fn_Z := (if am_c2 .ne (g 609) (-1) = true then (B86_76 L xs m d k x1 x2 (g 609) g r) else (B86_76 L xs m d k x1 x2 x2 g r))
theorem b86_55 (L : Nat) (xs : Nat → Int32) (m d k : Nat) (n : Nat) (x1 x2 : Int32) (g : a2_G) (r : a2_A) : bk L xs 86 nm_m86 m d k (n + 14) 55 [some (.ref 6), some (.int x1), none] [.int x2] g r = B86_55 L xs m d k x1 x2 g r := by
  show _ = ((if am_c2 .ne (g 609) (-1) = true then (B86_76 L xs m d k x1 x2 (g 609) g r) else (B86_76 L xs m d k x1 x2 x2 g r)) : Option fn_Z)
  refine (fs_r (n := n + 8) 6 (pc' := 65) (L' := [some (.ref 6), some (.int x1), some (.int x2)]) (S' := [.int (-1), .int (g 609), .ref 2]) rfl).trans ?_
  refine (fs_j (n := n + 7) rfl (t := 72) rfl (by decide)).trans (fs_ite ?_ ?_)
  · skip
    refine (fs_r (n := n + 5) 2 (pc' := 76) (L' := [some (.ref 6), some (.int x1), some (.int x2)]) (S' := [.int (g 609), .ref 2]) rfl).trans ?_
    exact b86_76 L xs m d k (n + 0) x1 x2 (g 609) g r
  · skip
    refine (fs_r (n := n + 6) 1 (pc' := 69) (L' := [some (.ref 6), some (.int x1), some (.int x2)]) (S' := [.int x2, .ref 2]) rfl).trans ?_
    refine (fs_go (n := n + 5) rfl (t := 76) rfl (by decide)).trans ?_
    exact b86_76 L xs m d k (n + 0) x1 x2 x2 g r
theorem e86 (L : Nat) (xs : Nat → Int32) (m d k : Nat) (n : Nat) (g : a2_G) (r : a2_A) : bk L xs 86 nm_m86 m d k (n + 40) 0 [some (.ref 6), none, none] [] g r = (fn_n (ev L xs m d 53 [.ref 6, .int 8, .int 11] g r) fun g1 r2 => (fn_v (ev L xs m d 57 [.ref 6] g1 r2) fun v5 g3 r4 => (fn_n (ev L xs m d 55 [.ref 6, .int v5] g3 r4) fun g6 r7 => (fn_v (ev L xs m d 87 [.ref 4, .int 25, .int 0] g6 r7) fun v10 g8 r9 => (fn_v (ev L xs m d 59 [.ref 1, .int 4] g8 r9) fun v13 g11 r12 => (if am_c2 .ne (g11 608) (-1) = true then (B86_55 L xs m d k v10 (g11 608) g11 r12) else (B86_55 L xs m d k v10 (g11 606) g11 r12))))))) := by
  refine (fs_r (n := n + 37) 3 (pc' := 5) (L' := [some (.ref 6), none, none]) (S' := [.int 11, .int 8, .ref 6]) rfl).trans ?_
  refine (fs_cn (n := n + 36) (N := nm_m53) (as := [.ref 6, .int 8, .int 11]) (rest := []) rfl rfl (Or.inl rfl) rfl rfl rfl rfl rfl).trans (fs_fn fun g1 r2 => ?_)
  refine (fs_r (n := n + 34) 2 (pc' := 10) (L' := [some (.ref 6), none, none]) (S' := [.ref 6, .ref 6]) rfl).trans ?_
  refine (fs_cv (n := n + 33) (N := nm_m57) (as := [.ref 6]) (rest := [.ref 6]) rfl rfl (Or.inl rfl) rfl rfl rfl rfl rfl).trans (fs_fv fun v5 g3 r4 => ?_)
  refine (fs_cn (n := n + 32) (N := nm_m55) (as := [.ref 6, .int v5]) (rest := []) rfl rfl (Or.inl rfl) rfl rfl rfl rfl rfl).trans (fs_fn fun g6 r7 => ?_)
  refine (fs_r (n := n + 28) 4 (pc' := 23) (L' := [some (.ref 6), none, none]) (S' := [.int 0, .int 25, .ref 4]) rfl).trans ?_
  refine (fs_cv (n := n + 27) (N := nm_m87) (as := [.ref 4, .int 25, .int 0]) (rest := []) rfl rfl (Or.inr rfl) rfl rfl rfl rfl rfl).trans (fs_fv fun v10 g8 r9 => ?_)
  refine (fs_r (n := n + 23) 4 (pc' := 32) (L' := [some (.ref 6), some (.int v10), none]) (S' := [.int 4, .ref 1]) rfl).trans ?_
  refine (fs_cv (n := n + 22) (N := nm_m59) (as := [.ref 1, .int 4]) (rest := []) rfl rfl (Or.inl rfl) rfl rfl rfl rfl rfl).trans (fs_fv fun v13 g11 r12 => ?_)
  refine (fs_r (n := n + 18) 4 (pc' := 41) (L' := [some (.ref 6), some (.int v10), none]) (S' := [.int (-1), .int (g11 608)]) rfl).trans ?_
  refine (fs_j (n := n + 17) rfl (t := 51) rfl (by decide)).trans (fs_ite ?_ ?_)
  · skip
    refine (fs_r (n := n + 15) 2 (pc' := 55) (L' := [some (.ref 6), some (.int v10), none]) (S' := [.int (g11 608)]) rfl).trans ?_
    exact b86_55 L xs m d k (n + 1) v10 (g11 608) g11 r12
  · skip
    refine (fs_r (n := n + 15) 2 (pc' := 48) (L' := [some (.ref 6), some (.int v10), none]) (S' := [.int (g11 606)]) rfl).trans ?_
    refine (fs_go (n := n + 14) rfl (t := 55) rfl (by decide)).trans ?_
    exact b86_55 L xs m d k (n + 0) v10 (g11 606) g11 r12
theorem q86 (L : Nat) (xs : Nat → Int32) (m d : Nat) (g : a2_G) (r : a2_A) : ev L xs (m + 1) (d + 1) 86 [.ref 6] g r = (fn_n (ev L xs (m + 1) d 53 [.ref 6, .int 8, .int 11] g r) fun g1 r2 => (fn_v (ev L xs (m + 1) d 57 [.ref 6] g1 r2) fun v5 g3 r4 => (fn_n (ev L xs (m + 1) d 55 [.ref 6, .int v5] g3 r4) fun g6 r7 => (fn_v (ev L xs (m + 1) d 87 [.ref 4, .int 25, .int 0] g6 r7) fun v10 g8 r9 => (fn_v (ev L xs (m + 1) d 59 [.ref 1, .int 4] g8 r9) fun v13 g11 r12 => (if am_c2 .ne (g11 608) (-1) = true then (B86_55 L xs (m + 1) d m v10 (g11 608) g11 r12) else (B86_55 L xs (m + 1) d m v10 (g11 606) g11 r12))))))) := (fs_ev (M := nm_m86) rfl rfl).trans (e86 L xs (m + 1) d m 860 g r)
/-- CobolParser$Statements.list(II)I -/
def B87_83 (L : Nat) (xs : Nat → Int32) (m d k : Nat) (x1 x2 x3 x4 : Int32) (g : a2_G) (r : a2_A) : Option fn_Z := (some (.inl (some (.int x3)), g, r))
theorem b87_83 (L : Nat) (xs : Nat → Int32) (m d k : Nat) (n : Nat) (x1 x2 x3 x4 : Int32) (g : a2_G) (r : a2_A) : bk L xs 87 nm_m87 m d k (n + 2) 83 [some (.ref 4), some (.int x1), some (.int x2), some (.int x3), some (.int x4)] [] g r = B87_83 L xs m d k x1 x2 x3 x4 g r := by
  show _ = ((some (.inl (some (.int x3)), g, r)) : Option fn_Z)
  refine (fs_r (n := n + 1) 1 (pc' := 84) (L' := [some (.ref 4), some (.int x1), some (.int x2), some (.int x3), some (.int x4)]) (S' := [.int x3]) rfl).trans ?_
  exact (fs_ri (n := n + 0) rfl rfl).trans rfl
def B87_49 (L : Nat) (xs : Nat → Int32) (m d k : Nat) (x1 x2 x3 x4 : Int32) (g : a2_G) (r : a2_A) : Option fn_Z := (if am_c2 .ge x4 1500 = true then (B87_83 L xs m d k x1 x2 x3 x4 g r) else (fn_v (ev L xs m d 85 [.ref 4] g r) fun v12 g10 r11 => (if am_c2 .eq v12 0 = true then (B87_83 L xs m d k x1 x2 x3 x4 g10 r11) else (fn_v (ev L xs m d 88 [.ref 4, .int x2] g10 r11) fun v15 g13 r14 => (fn_n (ev L xs m d 63 [.ref 2, .int x3, .int v15] g13 r14) fun g16 r17 => (lp L xs 87 nm_m87 m d k 49 [some (.ref 4), some (.int x1), some (.int x2), some (.int x3), some (.int (x4 + 1))] g16 r17))))))
theorem b87_49 (L : Nat) (xs : Nat → Int32) (m d k : Nat) (n : Nat) (x1 x2 x3 x4 : Int32) (g : a2_G) (r : a2_A) : bk L xs 87 nm_m87 m d k (n + 15) 49 [some (.ref 4), some (.int x1), some (.int x2), some (.int x3), some (.int x4)] [] g r = B87_49 L xs m d k x1 x2 x3 x4 g r := by
  show _ = ((if am_c2 .ge x4 1500 = true then (B87_83 L xs m d k x1 x2 x3 x4 g r) else (fn_v (ev L xs m d 85 [.ref 4] g r) fun v12 g10 r11 => (if am_c2 .eq v12 0 = true then (B87_83 L xs m d k x1 x2 x3 x4 g10 r11) else (fn_v (ev L xs m d 88 [.ref 4, .int x2] g10 r11) fun v15 g13 r14 => (fn_n (ev L xs m d 63 [.ref 2, .int x3, .int v15] g13 r14) fun g16 r17 => (lp L xs 87 nm_m87 m d k 49 [some (.ref 4), some (.int x1), some (.int x2), some (.int x3), some (.int (x4 + 1))] g16 r17)))))) : Option fn_Z)
  refine (fs_r (n := n + 13) 2 (pc' := 54) (L' := [some (.ref 4), some (.int x1), some (.int x2), some (.int x3), some (.int x4)]) (S' := [.int 1500, .int x4]) rfl).trans ?_
  refine (fs_j (n := n + 12) rfl (t := 83) rfl (by decide)).trans (fs_ite ?_ ?_)
  · skip
    exact b87_83 L xs m d k (n + 10) x1 x2 x3 x4 g r
  · skip
    refine (fs_r (n := n + 11) 1 (pc' := 58) (L' := [some (.ref 4), some (.int x1), some (.int x2), some (.int x3), some (.int x4)]) (S' := [.ref 4]) rfl).trans ?_
    refine (fs_cv (n := n + 10) (N := nm_m85) (as := [.ref 4]) (rest := []) rfl rfl (Or.inl rfl) rfl rfl rfl rfl rfl).trans (fs_fv fun v12 g10 r11 => ?_)
    refine (fs_i (n := n + 9) rfl (t := 83) rfl (by decide)).trans (fs_ite ?_ ?_)
    · skip
      exact b87_83 L xs m d k (n + 7) x1 x2 x3 x4 g10 r11
    · skip
      refine (fs_r (n := n + 4) 5 (pc' := 71) (L' := [some (.ref 4), some (.int x1), some (.int x2), some (.int x3), some (.int x4)]) (S' := [.int x2, .ref 4, .int x3, .ref 2]) rfl).trans ?_
      refine (fs_cv (n := n + 3) (N := nm_m88) (as := [.ref 4, .int x2]) (rest := [.int x3, .ref 2]) rfl rfl (Or.inl rfl) rfl rfl rfl rfl rfl).trans (fs_fv fun v15 g13 r14 => ?_)
      refine (fs_cn (n := n + 2) (N := nm_m63) (as := [.ref 2, .int x3, .int v15]) (rest := []) rfl rfl (Or.inl rfl) rfl rfl rfl rfl rfl).trans (fs_fn fun g16 r17 => ?_)
      refine (fs_r (n := n + 1) 1 (pc' := 80) (L' := [some (.ref 4), some (.int x1), some (.int x2), some (.int x3), some (.int (x4 + 1))]) (S' := []) rfl).trans ?_
      exact (fs_gb (n := n + 0) rfl (t := 49) rfl (by decide)).trans rfl
theorem l87_49 (L : Nat) (xs : Nat → Int32) (m d k : Nat) (x1 x2 x3 x4 : Int32) (g : a2_G) (r : a2_A) : lp L xs 87 nm_m87 m d (k + 1) 49 [some (.ref 4), some (.int x1), some (.int x2), some (.int x3), some (.int x4)] g r = B87_49 L xs m d k x1 x2 x3 x4 g r := fs_lp.trans (b87_49 L xs m d k 885 x1 x2 x3 x4 g r)
def B87_29 (L : Nat) (xs : Nat → Int32) (m d k : Nat) (x1 x2 : Int32) (g : a2_G) (r : a2_A) : Option fn_Z := (fn_v (ev L xs m d 58 [.ref 1] g r) fun v6 g4 r5 => (fn_v (ev L xs m d 45 [.ref 2, .int x1, .int 0, .int v6] g4 r5) fun v9 g7 r8 => (B87_49 L xs m d k x1 x2 v9 0 g7 r8)))
theorem b87_29 (L : Nat) (xs : Nat → Int32) (m d k : Nat) (n : Nat) (x1 x2 : Int32) (g : a2_G) (r : a2_A) : bk L xs 87 nm_m87 m d k (n + 26) 29 [some (.ref 4), some (.int x1), some (.int x2), none, none] [] g r = B87_29 L xs m d k x1 x2 g r := by
  show _ = ((fn_v (ev L xs m d 58 [.ref 1] g r) fun v6 g4 r5 => (fn_v (ev L xs m d 45 [.ref 2, .int x1, .int 0, .int v6] g4 r5) fun v9 g7 r8 => (B87_49 L xs m d k x1 x2 v9 0 g7 r8))) : Option fn_Z)
  refine (fs_r (n := n + 20) 6 (pc' := 39) (L' := [some (.ref 4), some (.int x1), some (.int x2), none, none]) (S' := [.ref 1, .int 0, .int x1, .ref 2]) rfl).trans ?_
  refine (fs_cv (n := n + 19) (N := nm_m58) (as := [.ref 1]) (rest := [.int 0, .int x1, .ref 2]) rfl rfl (Or.inl rfl) rfl rfl rfl rfl rfl).trans (fs_fv fun v6 g4 r5 => ?_)
  refine (fs_cv (n := n + 18) (N := nm_m45) (as := [.ref 2, .int x1, .int 0, .int v6]) (rest := []) rfl rfl (Or.inl rfl) rfl rfl rfl rfl rfl).trans (fs_fv fun v9 g7 r8 => ?_)
  refine (fs_r (n := n + 15) 3 (pc' := 49) (L' := [some (.ref 4), some (.int x1), some (.int x2), some (.int v9), some (.int 0)]) (S' := []) rfl).trans ?_
  exact b87_49 L xs m d k (n + 0) x1 x2 v9 0 g7 r8
def B87_15 (L : Nat) (xs : Nat → Int32) (m d k : Nat) (x1 x2 : Int32) (g : a2_G) (r : a2_A) : Option fn_Z := (if am_c2 .le x2 40 = true then (B87_29 L xs m d k x1 x2 g r) else (fn_n (ev L xs m d 56 [.ref 1, .int 3] g r) fun g18 r19 => (B87_29 L xs m d k x1 x2 g18 r19)))
theorem b87_15 (L : Nat) (xs : Nat → Int32) (m d k : Nat) (n : Nat) (x1 x2 : Int32) (g : a2_G) (r : a2_A) : bk L xs 87 nm_m87 m d k (n + 33) 15 [some (.ref 4), some (.int x1), some (.int x2), none, none] [] g r = B87_15 L xs m d k x1 x2 g r := by
  show _ = ((if am_c2 .le x2 40 = true then (B87_29 L xs m d k x1 x2 g r) else (fn_n (ev L xs m d 56 [.ref 1, .int 3] g r) fun g18 r19 => (B87_29 L xs m d k x1 x2 g18 r19))) : Option fn_Z)
  refine (fs_r (n := n + 31) 2 (pc' := 18) (L' := [some (.ref 4), some (.int x1), some (.int x2), none, none]) (S' := [.int 40, .int x2]) rfl).trans ?_
  refine (fs_j (n := n + 30) rfl (t := 29) rfl (by decide)).trans (fs_ite ?_ ?_)
  · skip
    exact b87_29 L xs m d k (n + 4) x1 x2 g r
  · skip
    refine (fs_r (n := n + 27) 3 (pc' := 26) (L' := [some (.ref 4), some (.int x1), some (.int x2), none, none]) (S' := [.int 3, .ref 1]) rfl).trans ?_
    refine (fs_cn (n := n + 26) (N := nm_m56) (as := [.ref 1, .int 3]) (rest := []) rfl rfl (Or.inl rfl) rfl rfl rfl rfl rfl).trans (fs_fn fun g18 r19 => ?_)
    exact b87_29 L xs m d k (n + 0) x1 x2 g18 r19
theorem e87 (L : Nat) (xs : Nat → Int32) (m d k : Nat) (n : Nat) (a1 a2 : Int32) (g : a2_G) (r : a2_A) : bk L xs 87 nm_m87 m d k (n + 40) 0 [some (.ref 4), some (.int a1), some (.int a2), none, none] [] g r = (fn_v (ev L xs m d 85 [.ref 4] g r) fun v3 g1 r2 => (if am_c2 .ne v3 0 = true then (B87_15 L xs m d k a1 a2 g1 r2) else (fn_n (ev L xs m d 56 [.ref 1, .int 1] g1 r2) fun g20 r21 => (B87_15 L xs m d k a1 a2 g20 r21)))) := by
  refine (fs_r (n := n + 39) 1 (pc' := 1) (L' := [some (.ref 4), some (.int a1), some (.int a2), none, none]) (S' := [.ref 4]) rfl).trans ?_
  refine (fs_cv (n := n + 38) (N := nm_m85) (as := [.ref 4]) (rest := []) rfl rfl (Or.inl rfl) rfl rfl rfl rfl rfl).trans (fs_fv fun v3 g1 r2 => ?_)
  refine (fs_i (n := n + 37) rfl (t := 15) rfl (by decide)).trans (fs_ite ?_ ?_)
  · skip
    exact b87_15 L xs m d k (n + 4) a1 a2 g1 r2
  · skip
    refine (fs_r (n := n + 34) 3 (pc' := 12) (L' := [some (.ref 4), some (.int a1), some (.int a2), none, none]) (S' := [.int 1, .ref 1]) rfl).trans ?_
    refine (fs_cn (n := n + 33) (N := nm_m56) (as := [.ref 1, .int 1]) (rest := []) rfl rfl (Or.inl rfl) rfl rfl rfl rfl rfl).trans (fs_fn fun g20 r21 => ?_)
    exact b87_15 L xs m d k (n + 0) a1 a2 g20 r21
theorem q87 (L : Nat) (xs : Nat → Int32) (m d : Nat) (a1 a2 : Int32) (g : a2_G) (r : a2_A) : ev L xs (m + 1) (d + 1) 87 [.ref 4, .int a1, .int a2] g r = (fn_v (ev L xs (m + 1) d 85 [.ref 4] g r) fun v3 g1 r2 => (if am_c2 .ne v3 0 = true then (B87_15 L xs (m + 1) d m a1 a2 g1 r2) else (fn_n (ev L xs (m + 1) d 56 [.ref 1, .int 1] g1 r2) fun g20 r21 => (B87_15 L xs (m + 1) d m a1 a2 g20 r21)))) := (fs_ev (M := nm_m87) rfl rfl).trans (e87 L xs (m + 1) d m 860 a1 a2 g r)
/-- CobolParser$Statements.statement(I)I -/
def B88_162 (L : Nat) (xs : Nat → Int32) (m d k : Nat) (x1 : Int32) (g : a2_G) (r : a2_A) : Option fn_Z := (fn_v (ev L xs m d 120 [.ref 4, .int x1] g r) fun v9 g7 r8 => (some (.inl (some (.int v9)), g7, r8)))
theorem b88_162 (L : Nat) (xs : Nat → Int32) (m d k : Nat) (n : Nat) (x1 : Int32) (g : a2_G) (r : a2_A) : bk L xs 88 nm_m88 m d k (n + 4) 162 [some (.ref 4), some (.int x1)] [] g r = B88_162 L xs m d k x1 g r := by
  show _ = ((fn_v (ev L xs m d 120 [.ref 4, .int x1] g r) fun v9 g7 r8 => (some (.inl (some (.int v9)), g7, r8))) : Option fn_Z)
  refine (fs_r (n := n + 2) 2 (pc' := 164) (L' := [some (.ref 4), some (.int x1)]) (S' := [.int x1, .ref 4]) rfl).trans ?_
  refine (fs_cv (n := n + 1) (N := nm_m120) (as := [.ref 4, .int x1]) (rest := []) rfl rfl (Or.inl rfl) rfl rfl rfl rfl rfl).trans (fs_fv fun v9 g7 r8 => ?_)
  exact (fs_ri (n := n + 0) rfl rfl).trans rfl
theorem e88 (L : Nat) (xs : Nat → Int32) (m d k : Nat) (n : Nat) (a1 : Int32) (g : a2_G) (r : a2_A) : bk L xs 88 nm_m88 m d k (n + 8) 0 [some (.ref 4), some (.int a1)] [] g r = (fn_v (ev L xs m d 60 [.ref 1] g r) fun v3 g1 r2 => (if (v3 : Int32).toInt = 29 then (fn_v (ev L xs m d 117 [.ref 4] g1 r2) fun v6 g4 r5 => (some (.inl (some (.int v6)), g4, r5))) else (if (v3 : Int32).toInt = 30 then (B88_162 L xs m d k a1 g1 r2) else (if (v3 : Int32).toInt = 31 then (B88_162 L xs m d k a1 g1 r2) else (if (v3 : Int32).toInt = 32 then (B88_162 L xs m d k a1 g1 r2) else (if (v3 : Int32).toInt = 33 then (B88_162 L xs m d k a1 g1 r2) else (if (v3 : Int32).toInt = 34 then (B88_162 L xs m d k a1 g1 r2) else (if (v3 : Int32).toInt = 35 then (B88_162 L xs m d k a1 g1 r2) else (if (v3 : Int32).toInt = 36 then (fn_v (ev L xs m d 89 [.ref 4] g1 r2) fun v12 g10 r11 => (some (.inl (some (.int v12)), g10, r11))) else (if (v3 : Int32).toInt = 37 then (fn_v (ev L xs m d 92 [.ref 4, .int a1] g1 r2) fun v15 g13 r14 => (some (.inl (some (.int v15)), g13, r14))) else (if (v3 : Int32).toInt = 38 then (fn_v (ev L xs m d 95 [.ref 4, .int a1] g1 r2) fun v18 g16 r17 => (some (.inl (some (.int v18)), g16, r17))) else (if (v3 : Int32).toInt = 39 then (fn_v (ev L xs m d 109 [.ref 4, .int a1] g1 r2) fun v21 g19 r20 => (some (.inl (some (.int v21)), g19, r20))) else (if (v3 : Int32).toInt = 40 then (fn_v (ev L xs m d 113 [.ref 4, .int a1] g1 r2) fun v24 g22 r23 => (some (.inl (some (.int v24)), g22, r23))) else (if (v3 : Int32).toInt = 41 then (fn_v (ev L xs m d 115 [.ref 4, .int a1] g1 r2) fun v27 g25 r26 => (some (.inl (some (.int v27)), g25, r26))) else (if (v3 : Int32).toInt = 42 then (fn_v (ev L xs m d 116 [.ref 4, .int a1] g1 r2) fun v30 g28 r29 => (some (.inl (some (.int v30)), g28, r29))) else (if (v3 : Int32).toInt = 43 then (fn_v (ev L xs m d 118 [.ref 4] g1 r2) fun v33 g31 r32 => (some (.inl (some (.int v33)), g31, r32))) else (if (v3 : Int32).toInt = 44 then (fn_v (ev L xs m d 119 [.ref 4] g1 r2) fun v36 g34 r35 => (some (.inl (some (.int v36)), g34, r35))) else (if (v3 : Int32).toInt = 45 then (fn_v (ev L xs m d 90 [.ref 4, .int 36] g1 r2) fun v39 g37 r38 => (some (.inl (some (.int v39)), g37, r38))) else (if (v3 : Int32).toInt = 46 then (fn_v (ev L xs m d 90 [.ref 4, .int 37] g1 r2) fun v42 g40 r41 => (some (.inl (some (.int v42)), g40, r41))) else (B88_162 L xs m d k a1 g1 r2)))))))))))))))))))) := by
  refine (fs_r (n := n + 6) 2 (pc' := 4) (L' := [some (.ref 4), some (.int a1)]) (S' := [.ref 1]) rfl).trans ?_
  refine (fs_cv (n := n + 5) (N := nm_m60) (as := [.ref 1]) (rest := []) rfl rfl (Or.inl rfl) rfl rfl rfl rfl rfl).trans (fs_fv fun v3 g1 r2 => ?_)
  refine (fs_ts (n := n + 4) (l := [126, 155, 155, 155, 155, 155, 155, 85, 90, 96, 102, 108, 114, 120, 131, 136, 141, 148]) rfl rfl rfl).trans ?_
  refine fs_tc (v' := 30) rfl ?_ (fs_tc (v' := 31) rfl ?_ (fs_tc (v' := 32) rfl ?_ (fs_tc (v' := 33) rfl ?_ (fs_tc (v' := 34) rfl ?_ (fs_tc (v' := 35) rfl ?_ (fs_tc (v' := 36) rfl ?_ (fs_tc (v' := 37) rfl ?_ (fs_tc (v' := 38) rfl ?_ (fs_tc (v' := 39) rfl ?_ (fs_tc (v' := 40) rfl ?_ (fs_tc (v' := 41) rfl ?_ (fs_tc (v' := 42) rfl ?_ (fs_tc (v' := 43) rfl ?_ (fs_tc (v' := 44) rfl ?_ (fs_tc (v' := 45) rfl ?_ (fs_tc (v' := 46) rfl ?_ (fs_tc (v' := 47) rfl ?_ (fs_tn ?_))))))))))))))))))
  · refine (fs_J1 (n := n + 4) (t := 133) rfl (by decide)).trans ?_
    refine (fs_r (n := n + 3) 1 (pc' := 134) (L' := [some (.ref 4), some (.int a1)]) (S' := [.ref 4]) rfl).trans ?_
    refine (fs_cv (n := n + 2) (N := nm_m117) (as := [.ref 4]) (rest := []) rfl rfl (Or.inl rfl) rfl rfl rfl rfl rfl).trans (fs_fv fun v6 g4 r5 => ?_)
    exact (fs_ri (n := n + 1) rfl rfl).trans rfl
  · refine (fs_J1 (n := n + 4) (t := 162) rfl (by decide)).trans ?_
    exact b88_162 L xs m d k (n + 0) a1 g1 r2
  · refine (fs_J1 (n := n + 4) (t := 162) rfl (by decide)).trans ?_
    exact b88_162 L xs m d k (n + 0) a1 g1 r2
  · refine (fs_J1 (n := n + 4) (t := 162) rfl (by decide)).trans ?_
    exact b88_162 L xs m d k (n + 0) a1 g1 r2
  · refine (fs_J1 (n := n + 4) (t := 162) rfl (by decide)).trans ?_
    exact b88_162 L xs m d k (n + 0) a1 g1 r2
  · refine (fs_J1 (n := n + 4) (t := 162) rfl (by decide)).trans ?_
    exact b88_162 L xs m d k (n + 0) a1 g1 r2
  · refine (fs_J1 (n := n + 4) (t := 162) rfl (by decide)).trans ?_
    exact b88_162 L xs m d k (n + 0) a1 g1 r2
  · refine (fs_J1 (n := n + 4) (t := 92) rfl (by decide)).trans ?_
    refine (fs_r (n := n + 3) 1 (pc' := 93) (L' := [some (.ref 4), some (.int a1)]) (S' := [.ref 4]) rfl).trans ?_
    refine (fs_cv (n := n + 2) (N := nm_m89) (as := [.ref 4]) (rest := []) rfl rfl (Or.inl rfl) rfl rfl rfl rfl rfl).trans (fs_fv fun v12 g10 r11 => ?_)
    exact (fs_ri (n := n + 1) rfl rfl).trans rfl
  · refine (fs_J1 (n := n + 4) (t := 97) rfl (by decide)).trans ?_
    refine (fs_r (n := n + 2) 2 (pc' := 99) (L' := [some (.ref 4), some (.int a1)]) (S' := [.int a1, .ref 4]) rfl).trans ?_
    refine (fs_cv (n := n + 1) (N := nm_m92) (as := [.ref 4, .int a1]) (rest := []) rfl rfl (Or.inl rfl) rfl rfl rfl rfl rfl).trans (fs_fv fun v15 g13 r14 => ?_)
    exact (fs_ri (n := n + 0) rfl rfl).trans rfl
  · refine (fs_J1 (n := n + 4) (t := 103) rfl (by decide)).trans ?_
    refine (fs_r (n := n + 2) 2 (pc' := 105) (L' := [some (.ref 4), some (.int a1)]) (S' := [.int a1, .ref 4]) rfl).trans ?_
    refine (fs_cv (n := n + 1) (N := nm_m95) (as := [.ref 4, .int a1]) (rest := []) rfl rfl (Or.inl rfl) rfl rfl rfl rfl rfl).trans (fs_fv fun v18 g16 r17 => ?_)
    exact (fs_ri (n := n + 0) rfl rfl).trans rfl
  · refine (fs_J1 (n := n + 4) (t := 109) rfl (by decide)).trans ?_
    refine (fs_r (n := n + 2) 2 (pc' := 111) (L' := [some (.ref 4), some (.int a1)]) (S' := [.int a1, .ref 4]) rfl).trans ?_
    refine (fs_cv (n := n + 1) (N := nm_m109) (as := [.ref 4, .int a1]) (rest := []) rfl rfl (Or.inl rfl) rfl rfl rfl rfl rfl).trans (fs_fv fun v21 g19 r20 => ?_)
    exact (fs_ri (n := n + 0) rfl rfl).trans rfl
  · refine (fs_J1 (n := n + 4) (t := 115) rfl (by decide)).trans ?_
    refine (fs_r (n := n + 2) 2 (pc' := 117) (L' := [some (.ref 4), some (.int a1)]) (S' := [.int a1, .ref 4]) rfl).trans ?_
    refine (fs_cv (n := n + 1) (N := nm_m113) (as := [.ref 4, .int a1]) (rest := []) rfl rfl (Or.inl rfl) rfl rfl rfl rfl rfl).trans (fs_fv fun v24 g22 r23 => ?_)
    exact (fs_ri (n := n + 0) rfl rfl).trans rfl
  · refine (fs_J1 (n := n + 4) (t := 121) rfl (by decide)).trans ?_
    refine (fs_r (n := n + 2) 2 (pc' := 123) (L' := [some (.ref 4), some (.int a1)]) (S' := [.int a1, .ref 4]) rfl).trans ?_
    refine (fs_cv (n := n + 1) (N := nm_m115) (as := [.ref 4, .int a1]) (rest := []) rfl rfl (Or.inl rfl) rfl rfl rfl rfl rfl).trans (fs_fv fun v27 g25 r26 => ?_)
    exact (fs_ri (n := n + 0) rfl rfl).trans rfl
  · refine (fs_J1 (n := n + 4) (t := 127) rfl (by decide)).trans ?_
    refine (fs_r (n := n + 2) 2 (pc' := 129) (L' := [some (.ref 4), some (.int a1)]) (S' := [.int a1, .ref 4]) rfl).trans ?_
    refine (fs_cv (n := n + 1) (N := nm_m116) (as := [.ref 4, .int a1]) (rest := []) rfl rfl (Or.inl rfl) rfl rfl rfl rfl rfl).trans (fs_fv fun v30 g28 r29 => ?_)
    exact (fs_ri (n := n + 0) rfl rfl).trans rfl
  · refine (fs_J1 (n := n + 4) (t := 138) rfl (by decide)).trans ?_
    refine (fs_r (n := n + 3) 1 (pc' := 139) (L' := [some (.ref 4), some (.int a1)]) (S' := [.ref 4]) rfl).trans ?_
    refine (fs_cv (n := n + 2) (N := nm_m118) (as := [.ref 4]) (rest := []) rfl rfl (Or.inl rfl) rfl rfl rfl rfl rfl).trans (fs_fv fun v33 g31 r32 => ?_)
    exact (fs_ri (n := n + 1) rfl rfl).trans rfl
  · refine (fs_J1 (n := n + 4) (t := 143) rfl (by decide)).trans ?_
    refine (fs_r (n := n + 3) 1 (pc' := 144) (L' := [some (.ref 4), some (.int a1)]) (S' := [.ref 4]) rfl).trans ?_
    refine (fs_cv (n := n + 2) (N := nm_m119) (as := [.ref 4]) (rest := []) rfl rfl (Or.inl rfl) rfl rfl rfl rfl rfl).trans (fs_fv fun v36 g34 r35 => ?_)
    exact (fs_ri (n := n + 1) rfl rfl).trans rfl
  · refine (fs_J1 (n := n + 4) (t := 148) rfl (by decide)).trans ?_
    refine (fs_r (n := n + 2) 2 (pc' := 151) (L' := [some (.ref 4), some (.int a1)]) (S' := [.int 36, .ref 4]) rfl).trans ?_
    refine (fs_cv (n := n + 1) (N := nm_m90) (as := [.ref 4, .int 36]) (rest := []) rfl rfl (Or.inl rfl) rfl rfl rfl rfl rfl).trans (fs_fv fun v39 g37 r38 => ?_)
    exact (fs_ri (n := n + 0) rfl rfl).trans rfl
  · refine (fs_J1 (n := n + 4) (t := 155) rfl (by decide)).trans ?_
    refine (fs_r (n := n + 2) 2 (pc' := 158) (L' := [some (.ref 4), some (.int a1)]) (S' := [.int 37, .ref 4]) rfl).trans ?_
    refine (fs_cv (n := n + 1) (N := nm_m90) (as := [.ref 4, .int 37]) (rest := []) rfl rfl (Or.inl rfl) rfl rfl rfl rfl rfl).trans (fs_fv fun v42 g40 r41 => ?_)
    exact (fs_ri (n := n + 0) rfl rfl).trans rfl
  · refine (fs_J1 (n := n + 4) (t := 162) rfl (by decide)).trans ?_
    exact b88_162 L xs m d k (n + 0) a1 g1 r2
theorem q88 (L : Nat) (xs : Nat → Int32) (m d : Nat) (a1 : Int32) (g : a2_G) (r : a2_A) : ev L xs (m + 1) (d + 1) 88 [.ref 4, .int a1] g r = (fn_v (ev L xs (m + 1) d 60 [.ref 1] g r) fun v3 g1 r2 => (if (v3 : Int32).toInt = 29 then (fn_v (ev L xs (m + 1) d 117 [.ref 4] g1 r2) fun v6 g4 r5 => (some (.inl (some (.int v6)), g4, r5))) else (if (v3 : Int32).toInt = 30 then (B88_162 L xs (m + 1) d m a1 g1 r2) else (if (v3 : Int32).toInt = 31 then (B88_162 L xs (m + 1) d m a1 g1 r2) else (if (v3 : Int32).toInt = 32 then (B88_162 L xs (m + 1) d m a1 g1 r2) else (if (v3 : Int32).toInt = 33 then (B88_162 L xs (m + 1) d m a1 g1 r2) else (if (v3 : Int32).toInt = 34 then (B88_162 L xs (m + 1) d m a1 g1 r2) else (if (v3 : Int32).toInt = 35 then (B88_162 L xs (m + 1) d m a1 g1 r2) else (if (v3 : Int32).toInt = 36 then (fn_v (ev L xs (m + 1) d 89 [.ref 4] g1 r2) fun v12 g10 r11 => (some (.inl (some (.int v12)), g10, r11))) else (if (v3 : Int32).toInt = 37 then (fn_v (ev L xs (m + 1) d 92 [.ref 4, .int a1] g1 r2) fun v15 g13 r14 => (some (.inl (some (.int v15)), g13, r14))) else (if (v3 : Int32).toInt = 38 then (fn_v (ev L xs (m + 1) d 95 [.ref 4, .int a1] g1 r2) fun v18 g16 r17 => (some (.inl (some (.int v18)), g16, r17))) else (if (v3 : Int32).toInt = 39 then (fn_v (ev L xs (m + 1) d 109 [.ref 4, .int a1] g1 r2) fun v21 g19 r20 => (some (.inl (some (.int v21)), g19, r20))) else (if (v3 : Int32).toInt = 40 then (fn_v (ev L xs (m + 1) d 113 [.ref 4, .int a1] g1 r2) fun v24 g22 r23 => (some (.inl (some (.int v24)), g22, r23))) else (if (v3 : Int32).toInt = 41 then (fn_v (ev L xs (m + 1) d 115 [.ref 4, .int a1] g1 r2) fun v27 g25 r26 => (some (.inl (some (.int v27)), g25, r26))) else (if (v3 : Int32).toInt = 42 then (fn_v (ev L xs (m + 1) d 116 [.ref 4, .int a1] g1 r2) fun v30 g28 r29 => (some (.inl (some (.int v30)), g28, r29))) else (if (v3 : Int32).toInt = 43 then (fn_v (ev L xs (m + 1) d 118 [.ref 4] g1 r2) fun v33 g31 r32 => (some (.inl (some (.int v33)), g31, r32))) else (if (v3 : Int32).toInt = 44 then (fn_v (ev L xs (m + 1) d 119 [.ref 4] g1 r2) fun v36 g34 r35 => (some (.inl (some (.int v36)), g34, r35))) else (if (v3 : Int32).toInt = 45 then (fn_v (ev L xs (m + 1) d 90 [.ref 4, .int 36] g1 r2) fun v39 g37 r38 => (some (.inl (some (.int v39)), g37, r38))) else (if (v3 : Int32).toInt = 46 then (fn_v (ev L xs (m + 1) d 90 [.ref 4, .int 37] g1 r2) fun v42 g40 r41 => (some (.inl (some (.int v42)), g40, r41))) else (B88_162 L xs (m + 1) d m a1 g1 r2)))))))))))))))))))) := (fs_ev (M := nm_m88) rfl rfl).trans (e88 L xs (m + 1) d m 892 a1 g r)
/-- CobolParser$Statements.move()I -/
theorem e89 (L : Nat) (xs : Nat → Int32) (m d k : Nat) (n : Nat) (g : a2_G) (r : a2_A) : bk L xs 89 nm_m89 m d k (n + 19) 0 [some (.ref 4), none] [] g r = (fn_v (ev L xs m d 90 [.ref 4, .int 26] g r) fun v3 g1 r2 => (fn_n (ev L xs m d 91 [.ref 3, .int v3] g1 r2) fun g4 r5 => (fn_n (ev L xs m d 83 [.ref 1, .int 48] g4 r5) fun g6 r7 => (fn_n (ev L xs m d 80 [.ref 3, .int v3, .int 41] g6 r7) fun g8 r9 => (some (.inl (some (.int v3)), g8, r9)))))) := by
  refine (fs_r (n := n + 17) 2 (pc' := 3) (L' := [some (.ref 4), none]) (S' := [.int 26, .ref 4]) rfl).trans ?_
  refine (fs_cv (n := n + 16) (N := nm_m90) (as := [.ref 4, .int 26]) (rest := []) rfl rfl (Or.inl rfl) rfl rfl rfl rfl rfl).trans (fs_fv fun v3 g1 r2 => ?_)
  refine (fs_r (n := n + 12) 4 (pc' := 12) (L' := [some (.ref 4), some (.int v3)]) (S' := [.int v3, .ref 3]) rfl).trans ?_
  refine (fs_cn (n := n + 11) (N := nm_m91) (as := [.ref 3, .int v3]) (rest := []) rfl rfl (Or.inl rfl) rfl rfl rfl rfl rfl).trans (fs_fn fun g4 r5 => ?_)
  refine (fs_r (n := n + 8) 3 (pc' := 21) (L' := [some (.ref 4), some (.int v3)]) (S' := [.int 48, .ref 1]) rfl).trans ?_
  refine (fs_cn (n := n + 7) (N := nm_m83) (as := [.ref 1, .int 48]) (rest := []) rfl rfl (Or.inl rfl) rfl rfl rfl rfl rfl).trans (fs_fn fun g6 r7 => ?_)
  refine (fs_r (n := n + 3) 4 (pc' := 31) (L' := [some (.ref 4), some (.int v3)]) (S' := [.int 41, .int v3, .ref 3]) rfl).trans ?_
  refine (fs_cn (n := n + 2) (N := nm_m80) (as := [.ref 3, .int v3, .int 41]) (rest := []) rfl rfl (Or.inl rfl) rfl rfl rfl rfl rfl).trans (fs_fn fun g8 r9 => ?_)
  refine (fs_r (n := n + 1) 1 (pc' := 35) (L' := [some (.ref 4), some (.int v3)]) (S' := [.int v3]) rfl).trans ?_
  exact (fs_ri (n := n + 0) rfl rfl).trans rfl
theorem q89 (L : Nat) (xs : Nat → Int32) (m d : Nat) (g : a2_G) (r : a2_A) : ev L xs (m + 1) (d + 1) 89 [.ref 4] g r = (fn_v (ev L xs (m + 1) d 90 [.ref 4, .int 26] g r) fun v3 g1 r2 => (fn_n (ev L xs (m + 1) d 91 [.ref 3, .int v3] g1 r2) fun g4 r5 => (fn_n (ev L xs (m + 1) d 83 [.ref 1, .int 48] g4 r5) fun g6 r7 => (fn_n (ev L xs (m + 1) d 80 [.ref 3, .int v3, .int 41] g6 r7) fun g8 r9 => (some (.inl (some (.int v3)), g8, r9)))))) := (fs_ev (M := nm_m89) rfl rfl).trans (e89 L xs (m + 1) d m 881 g r)
/-- CobolParser$Statements.begin(I)I -/
theorem e90 (L : Nat) (xs : Nat → Int32) (m d k : Nat) (n : Nat) (a1 : Int32) (g : a2_G) (r : a2_A) : bk L xs 90 nm_m90 m d k (n + 20) 0 [some (.ref 4), some (.int a1), none] [] g r = (fn_v (ev L xs m d 58 [.ref 1] g r) fun v3 g1 r2 => (fn_v (ev L xs m d 45 [.ref 2, .int a1, .int 0, .int v3] g1 r2) fun v6 g4 r5 => (fn_n (ev L xs m d 69 [.ref 2, .int v6, .int 3, .int 0] g4 r5) fun g7 r8 => (fn_n (ev L xs m d 61 [.ref 1] g7 r8) fun g9 r10 => (some (.inl (some (.int v6)), g9, r10)))))) := by
  refine (fs_r (n := n + 14) 6 (pc' := 10) (L' := [some (.ref 4), some (.int a1), none]) (S' := [.ref 1, .int 0, .int a1, .ref 2]) rfl).trans ?_
  refine (fs_cv (n := n + 13) (N := nm_m58) (as := [.ref 1]) (rest := [.int 0, .int a1, .ref 2]) rfl rfl (Or.inl rfl) rfl rfl rfl rfl rfl).trans (fs_fv fun v3 g1 r2 => ?_)
  refine (fs_cv (n := n + 12) (N := nm_m45) (as := [.ref 2, .int a1, .int 0, .int v3]) (rest := []) rfl rfl (Or.inl rfl) rfl rfl rfl rfl rfl).trans (fs_fv fun v6 g4 r5 => ?_)
  refine (fs_r (n := n + 6) 6 (pc' := 24) (L' := [some (.ref 4), some (.int a1), some (.int v6)]) (S' := [.int 0, .int 3, .int v6, .ref 2]) rfl).trans ?_
  refine (fs_cn (n := n + 5) (N := nm_m69) (as := [.ref 2, .int v6, .int 3, .int 0]) (rest := []) rfl rfl (Or.inl rfl) rfl rfl rfl rfl rfl).trans (fs_fn fun g7 r8 => ?_)
  refine (fs_r (n := n + 3) 2 (pc' := 31) (L' := [some (.ref 4), some (.int a1), some (.int v6)]) (S' := [.ref 1]) rfl).trans ?_
  refine (fs_cn (n := n + 2) (N := nm_m61) (as := [.ref 1]) (rest := []) rfl rfl (Or.inl rfl) rfl rfl rfl rfl rfl).trans (fs_fn fun g9 r10 => ?_)
  refine (fs_r (n := n + 1) 1 (pc' := 35) (L' := [some (.ref 4), some (.int a1), some (.int v6)]) (S' := [.int v6]) rfl).trans ?_
  exact (fs_ri (n := n + 0) rfl rfl).trans rfl
theorem q90 (L : Nat) (xs : Nat → Int32) (m d : Nat) (a1 : Int32) (g : a2_G) (r : a2_A) : ev L xs (m + 1) (d + 1) 90 [.ref 4, .int a1] g r = (fn_v (ev L xs (m + 1) d 58 [.ref 1] g r) fun v3 g1 r2 => (fn_v (ev L xs (m + 1) d 45 [.ref 2, .int a1, .int 0, .int v3] g1 r2) fun v6 g4 r5 => (fn_n (ev L xs (m + 1) d 69 [.ref 2, .int v6, .int 3, .int 0] g4 r5) fun g7 r8 => (fn_n (ev L xs (m + 1) d 61 [.ref 1] g7 r8) fun g9 r10 => (some (.inl (some (.int v6)), g9, r10)))))) := (fs_ev (M := nm_m90) rfl rfl).trans (e90 L xs (m + 1) d m 880 a1 g r)
/-- CobolParser$Leaves.operandIn(I)V -/
theorem e91 (L : Nat) (xs : Nat → Int32) (m d k : Nat) (n : Nat) (a1 : Int32) (g : a2_G) (r : a2_A) : bk L xs 91 nm_m91 m d k (n + 7) 0 [some (.ref 3), some (.int a1)] [] g r = (fn_v (ev L xs m d 75 [.ref 3] g r) fun v3 g1 r2 => (fn_n (ev L xs m d 63 [.ref 2, .int a1, .int v3] g1 r2) fun g4 r5 => (some (.inl none, g4, r5)))) := by
  refine (fs_r (n := n + 3) 4 (pc' := 6) (L' := [some (.ref 3), some (.int a1)]) (S' := [.ref 3, .int a1, .ref 2]) rfl).trans ?_
  refine (fs_cv (n := n + 2) (N := nm_m75) (as := [.ref 3]) (rest := [.int a1, .ref 2]) rfl rfl (Or.inl rfl) rfl rfl rfl rfl rfl).trans (fs_fv fun v3 g1 r2 => ?_)
  refine (fs_cn (n := n + 1) (N := nm_m63) (as := [.ref 2, .int a1, .int v3]) (rest := []) rfl rfl (Or.inl rfl) rfl rfl rfl rfl rfl).trans (fs_fn fun g4 r5 => ?_)
  exact (fs_rv (n := n + 0) rfl rfl).trans rfl
theorem q91 (L : Nat) (xs : Nat → Int32) (m d : Nat) (a1 : Int32) (g : a2_G) (r : a2_A) : ev L xs (m + 1) (d + 1) 91 [.ref 3, .int a1] g r = (fn_v (ev L xs (m + 1) d 75 [.ref 3] g r) fun v3 g1 r2 => (fn_n (ev L xs (m + 1) d 63 [.ref 2, .int a1, .int v3] g1 r2) fun g4 r5 => (some (.inl none, g4, r5)))) := (fs_ev (M := nm_m91) rfl rfl).trans (e91 L xs (m + 1) d m 893 a1 g r)
/-- CobolParser$Statements.add(I)I -/
def B92_104 (L : Nat) (xs : Nat → Int32) (m d k : Nat) (x1 x2 : Int32) (g : a2_G) (r : a2_A) : Option fn_Z := (fn_n (ev L xs m d 94 [.ref 4, .int x2, .int 72] g r) fun g16 r17 => (some (.inl (some (.int x2)), g16, r17)))
theorem b92_104 (L : Nat) (xs : Nat → Int32) (m d k : Nat) (n : Nat) (x1 x2 : Int32) (g : a2_G) (r : a2_A) : bk L xs 92 nm_m92 m d k (n + 6) 104 [some (.ref 4), some (.int x1), some (.int x2)] [] g r = B92_104 L xs m d k x1 x2 g r := by
  show _ = ((fn_n (ev L xs m d 94 [.ref 4, .int x2, .int 72] g r) fun g16 r17 => (some (.inl (some (.int x2)), g16, r17))) : Option fn_Z)
  refine (fs_r (n := n + 3) 3 (pc' := 108) (L' := [some (.ref 4), some (.int x1), some (.int x2)]) (S' := [.int 72, .int x2, .ref 4]) rfl).trans ?_
  refine (fs_cn (n := n + 2) (N := nm_m94) (as := [.ref 4, .int x2, .int 72]) (rest := []) rfl rfl (Or.inl rfl) rfl rfl rfl rfl rfl).trans (fs_fn fun g16 r17 => ?_)
  refine (fs_r (n := n + 1) 1 (pc' := 112) (L' := [some (.ref 4), some (.int x1), some (.int x2)]) (S' := [.int x2]) rfl).trans ?_
  exact (fs_ri (n := n + 0) rfl rfl).trans rfl
def B92_66 (L : Nat) (xs : Nat → Int32) (m d k : Nat) (x1 x2 : Int32) (g : a2_G) (r : a2_A) : Option fn_Z := (fn_v (ev L xs m d 62 [.ref 1, .int 50] g r) fun v15 g13 r14 => (if am_c2 .eq v15 0 = true then (B92_104 L xs m d k x1 x2 g13 r14) else (fn_n (ev L xs m d 83 [.ref 1, .int 51] g13 r14) fun g18 r19 => (fn_v (ev L xs m d 87 [.ref 4, .int 40, .int (x1 + 1)] g18 r19) fun v22 g20 r21 => (fn_n (ev L xs m d 63 [.ref 2, .int x2, .int v22] g20 r21) fun g23 r24 => (B92_104 L xs m d k x1 x2 g23 r24))))))
theorem b92_66 (L : Nat) (xs : Nat → Int32) (m d k : Nat) (n : Nat) (x1 x2 : Int32) (g : a2_G) (r : a2_A) : bk L xs 92 nm_m92 m d k (n + 25) 66 [some (.ref 4), some (.int x1), some (.int x2)] [] g r = B92_66 L xs m d k x1 x2 g r := by
  show _ = ((fn_v (ev L xs m d 62 [.ref 1, .int 50] g r) fun v15 g13 r14 => (if am_c2 .eq v15 0 = true then (B92_104 L xs m d k x1 x2 g13 r14) else (fn_n (ev L xs m d 83 [.ref 1, .int 51] g13 r14) fun g18 r19 => (fn_v (ev L xs m d 87 [.ref 4, .int 40, .int (x1 + 1)] g18 r19) fun v22 g20 r21 => (fn_n (ev L xs m d 63 [.ref 2, .int x2, .int v22] g20 r21) fun g23 r24 => (B92_104 L xs m d k x1 x2 g23 r24)))))) : Option fn_Z)
  refine (fs_r (n := n + 22) 3 (pc' := 72) (L' := [some (.ref 4), some (.int x1), some (.int x2)]) (S' := [.int 50, .ref 1]) rfl).trans ?_
  refine (fs_cv (n := n + 21) (N := nm_m62) (as := [.ref 1, .int 50]) (rest := []) rfl rfl (Or.inl rfl) rfl rfl rfl rfl rfl).trans (fs_fv fun v15 g13 r14 => ?_)
  refine (fs_i (n := n + 20) rfl (t := 104) rfl (by decide)).trans (fs_ite ?_ ?_)
  · skip
    exact b92_104 L xs m d k (n + 14) x1 x2 g13 r14
  · skip
    refine (fs_r (n := n + 17) 3 (pc' := 84) (L' := [some (.ref 4), some (.int x1), some (.int x2)]) (S' := [.int 51, .ref 1]) rfl).trans ?_
    refine (fs_cn (n := n + 16) (N := nm_m83) (as := [.ref 1, .int 51]) (rest := []) rfl rfl (Or.inl rfl) rfl rfl rfl rfl rfl).trans (fs_fn fun g18 r19 => ?_)
    refine (fs_r (n := n + 8) 8 (pc' := 98) (L' := [some (.ref 4), some (.int x1), some (.int x2)]) (S' := [.int (x1 + 1), .int 40, .ref 4, .int x2, .ref 2]) rfl).trans ?_
    refine (fs_cv (n := n + 7) (N := nm_m87) (as := [.ref 4, .int 40, .int (x1 + 1)]) (rest := [.int x2, .ref 2]) rfl rfl (Or.inl rfl) rfl rfl rfl rfl rfl).trans (fs_fv fun v22 g20 r21 => ?_)
    refine (fs_cn (n := n + 6) (N := nm_m63) (as := [.ref 2, .int x2, .int v22]) (rest := []) rfl rfl (Or.inl rfl) rfl rfl rfl rfl rfl).trans (fs_fn fun g23 r24 => ?_)
    exact b92_104 L xs m d k (n + 0) x1 x2 g23 r24
theorem e92 (L : Nat) (xs : Nat → Int32) (m d k : Nat) (n : Nat) (a1 : Int32) (g : a2_G) (r : a2_A) : bk L xs 92 nm_m92 m d k (n + 49) 0 [some (.ref 4), some (.int a1), none] [] g r = (fn_v (ev L xs m d 90 [.ref 4, .int 27] g r) fun v3 g1 r2 => (fn_n (ev L xs m d 93 [.ref 4, .int v3] g1 r2) fun g4 r5 => (fn_v (ev L xs m d 62 [.ref 1, .int 49] g4 r5) fun v8 g6 r7 => (if am_c2 .eq v8 0 = true then (fn_n (ev L xs m d 83 [.ref 1, .int 48] g6 r7) fun g9 r10 => (fn_n (ev L xs m d 80 [.ref 3, .int v3, .int 41] g9 r10) fun g11 r12 => (B92_66 L xs m d k a1 v3 g11 r12))) else (fn_n (ev L xs m d 69 [.ref 2, .int v3, .int 1, .int 1] g6 r7) fun g25 r26 => (fn_n (ev L xs m d 79 [.ref 3, .int v3, .int 41] g25 r26) fun g27 r28 => (B92_66 L xs m d k a1 v3 g27 r28))))))) := by
  refine (fs_r (n := n + 47) 2 (pc' := 3) (L' := [some (.ref 4), some (.int a1), none]) (S' := [.int 27, .ref 4]) rfl).trans ?_
  refine (fs_cv (n := n + 46) (N := nm_m90) (as := [.ref 4, .int 27]) (rest := []) rfl rfl (Or.inl rfl) rfl rfl rfl rfl rfl).trans (fs_fv fun v3 g1 r2 => ?_)
  refine (fs_r (n := n + 43) 3 (pc' := 9) (L' := [some (.ref 4), some (.int a1), some (.int v3)]) (S' := [.int v3, .ref 4]) rfl).trans ?_
  refine (fs_cn (n := n + 42) (N := nm_m93) (as := [.ref 4, .int v3]) (rest := []) rfl rfl (Or.inl rfl) rfl rfl rfl rfl rfl).trans (fs_fn fun g4 r5 => ?_)
  refine (fs_r (n := n + 39) 3 (pc' := 18) (L' := [some (.ref 4), some (.int a1), some (.int v3)]) (S' := [.int 49, .ref 1]) rfl).trans ?_
  refine (fs_cv (n := n + 38) (N := nm_m62) (as := [.ref 1, .int 49]) (rest := []) rfl rfl (Or.inl rfl) rfl rfl rfl rfl rfl).trans (fs_fv fun v8 g6 r7 => ?_)
  refine (fs_i (n := n + 37) rfl (t := 47) rfl (by decide)).trans (fs_ite ?_ ?_)
  · skip
    refine (fs_r (n := n + 34) 3 (pc' := 53) (L' := [some (.ref 4), some (.int a1), some (.int v3)]) (S' := [.int 48, .ref 1]) rfl).trans ?_
    refine (fs_cn (n := n + 33) (N := nm_m83) (as := [.ref 1, .int 48]) (rest := []) rfl rfl (Or.inl rfl) rfl rfl rfl rfl rfl).trans (fs_fn fun g9 r10 => ?_)
    refine (fs_r (n := n + 29) 4 (pc' := 63) (L' := [some (.ref 4), some (.int a1), some (.int v3)]) (S' := [.int 41, .int v3, .ref 3]) rfl).trans ?_
    refine (fs_cn (n := n + 28) (N := nm_m80) (as := [.ref 3, .int v3, .int 41]) (rest := []) rfl rfl (Or.inl rfl) rfl rfl rfl rfl rfl).trans (fs_fn fun g11 r12 => ?_)
    exact b92_66 L xs m d k (n + 3) a1 v3 g11 r12
  · skip
    refine (fs_r (n := n + 32) 5 (pc' := 31) (L' := [some (.ref 4), some (.int a1), some (.int v3)]) (S' := [.int 1, .int 1, .int v3, .ref 2]) rfl).trans ?_
    refine (fs_cn (n := n + 31) (N := nm_m69) (as := [.ref 2, .int v3, .int 1, .int 1]) (rest := []) rfl rfl (Or.inl rfl) rfl rfl rfl rfl rfl).trans (fs_fn fun g25 r26 => ?_)
    refine (fs_r (n := n + 27) 4 (pc' := 41) (L' := [some (.ref 4), some (.int a1), some (.int v3)]) (S' := [.int 41, .int v3, .ref 3]) rfl).trans ?_
    refine (fs_cn (n := n + 26) (N := nm_m79) (as := [.ref 3, .int v3, .int 41]) (rest := []) rfl rfl (Or.inl rfl) rfl rfl rfl rfl rfl).trans (fs_fn fun g27 r28 => ?_)
    refine (fs_go (n := n + 25) rfl (t := 66) rfl (by decide)).trans ?_
    exact b92_66 L xs m d k (n + 0) a1 v3 g27 r28
theorem q92 (L : Nat) (xs : Nat → Int32) (m d : Nat) (a1 : Int32) (g : a2_G) (r : a2_A) : ev L xs (m + 1) (d + 1) 92 [.ref 4, .int a1] g r = (fn_v (ev L xs (m + 1) d 90 [.ref 4, .int 27] g r) fun v3 g1 r2 => (fn_n (ev L xs (m + 1) d 93 [.ref 4, .int v3] g1 r2) fun g4 r5 => (fn_v (ev L xs (m + 1) d 62 [.ref 1, .int 49] g4 r5) fun v8 g6 r7 => (if am_c2 .eq v8 0 = true then (fn_n (ev L xs (m + 1) d 83 [.ref 1, .int 48] g6 r7) fun g9 r10 => (fn_n (ev L xs (m + 1) d 80 [.ref 3, .int v3, .int 41] g9 r10) fun g11 r12 => (B92_66 L xs (m + 1) d m a1 v3 g11 r12))) else (fn_n (ev L xs (m + 1) d 69 [.ref 2, .int v3, .int 1, .int 1] g6 r7) fun g25 r26 => (fn_n (ev L xs (m + 1) d 79 [.ref 3, .int v3, .int 41] g25 r26) fun g27 r28 => (B92_66 L xs (m + 1) d m a1 v3 g27 r28))))))) := (fs_ev (M := nm_m92) rfl rfl).trans (e92 L xs (m + 1) d m 851 a1 g r)
/-- CobolParser$Statements.operandsIn(I)V -/
def B93_55 (L : Nat) (xs : Nat → Int32) (m d k : Nat) (x1 x2 : Int32) (g : a2_G) (r : a2_A) : Option fn_Z := (some (.inl none, g, r))
theorem b93_55 (L : Nat) (xs : Nat → Int32) (m d k : Nat) (n : Nat) (x1 x2 : Int32) (g : a2_G) (r : a2_A) : bk L xs 93 nm_m93 m d k (n + 1) 55 [some (.ref 4), some (.int x1), some (.int x2)] [] g r = B93_55 L xs m d k x1 x2 g r := by
  show _ = ((some (.inl none, g, r)) : Option fn_Z)
  exact (fs_rv (n := n + 0) rfl rfl).trans rfl
def B93_17 (L : Nat) (xs : Nat → Int32) (m d k : Nat) (x1 x2 : Int32) (g : a2_G) (r : a2_A) : Option fn_Z := (if am_c2 .ge x2 1500 = true then (B93_55 L xs m d k x1 x2 g r) else (fn_v (ev L xs m d 76 [.ref 1] g r) fun v8 g6 r7 => (if am_c2 .eq v8 0 = true then (B93_55 L xs m d k x1 x2 g6 r7) else (fn_v (ev L xs m d 75 [.ref 3] g6 r7) fun v11 g9 r10 => (fn_n (ev L xs m d 63 [.ref 2, .int x1, .int v11] g9 r10) fun g12 r13 => (lp L xs 93 nm_m93 m d k 17 [some (.ref 4), some (.int x1), some (.int (x2 + 1))] g12 r13))))))
theorem b93_17 (L : Nat) (xs : Nat → Int32) (m d k : Nat) (n : Nat) (x1 x2 : Int32) (g : a2_G) (r : a2_A) : bk L xs 93 nm_m93 m d k (n + 16) 17 [some (.ref 4), some (.int x1), some (.int x2)] [] g r = B93_17 L xs m d k x1 x2 g r := by
  show _ = ((if am_c2 .ge x2 1500 = true then (B93_55 L xs m d k x1 x2 g r) else (fn_v (ev L xs m d 76 [.ref 1] g r) fun v8 g6 r7 => (if am_c2 .eq v8 0 = true then (B93_55 L xs m d k x1 x2 g6 r7) else (fn_v (ev L xs m d 75 [.ref 3] g6 r7) fun v11 g9 r10 => (fn_n (ev L xs m d 63 [.ref 2, .int x1, .int v11] g9 r10) fun g12 r13 => (lp L xs 93 nm_m93 m d k 17 [some (.ref 4), some (.int x1), some (.int (x2 + 1))] g12 r13)))))) : Option fn_Z)
  refine (fs_r (n := n + 14) 2 (pc' := 21) (L' := [some (.ref 4), some (.int x1), some (.int x2)]) (S' := [.int 1500, .int x2]) rfl).trans ?_
  refine (fs_j (n := n + 13) rfl (t := 55) rfl (by decide)).trans (fs_ite ?_ ?_)
  · skip
    exact b93_55 L xs m d k (n + 12) x1 x2 g r
  · skip
    refine (fs_r (n := n + 11) 2 (pc' := 28) (L' := [some (.ref 4), some (.int x1), some (.int x2)]) (S' := [.ref 1]) rfl).trans ?_
    refine (fs_cv (n := n + 10) (N := nm_m76) (as := [.ref 1]) (rest := []) rfl rfl (Or.inl rfl) rfl rfl rfl rfl rfl).trans (fs_fv fun v8 g6 r7 => ?_)
    refine (fs_i (n := n + 9) rfl (t := 55) rfl (by decide)).trans (fs_ite ?_ ?_)
    · skip
      exact b93_55 L xs m d k (n + 8) x1 x2 g6 r7
    · skip
      refine (fs_r (n := n + 4) 5 (pc' := 43) (L' := [some (.ref 4), some (.int x1), some (.int x2)]) (S' := [.ref 3, .int x1, .ref 2]) rfl).trans ?_
      refine (fs_cv (n := n + 3) (N := nm_m75) (as := [.ref 3]) (rest := [.int x1, .ref 2]) rfl rfl (Or.inl rfl) rfl rfl rfl rfl rfl).trans (fs_fv fun v11 g9 r10 => ?_)
      refine (fs_cn (n := n + 2) (N := nm_m63) (as := [.ref 2, .int x1, .int v11]) (rest := []) rfl rfl (Or.inl rfl) rfl rfl rfl rfl rfl).trans (fs_fn fun g12 r13 => ?_)
      refine (fs_r (n := n + 1) 1 (pc' := 52) (L' := [some (.ref 4), some (.int x1), some (.int (x2 + 1))]) (S' := []) rfl).trans ?_
      exact (fs_gb (n := n + 0) rfl (t := 17) rfl (by decide)).trans rfl
theorem l93_17 (L : Nat) (xs : Nat → Int32) (m d k : Nat) (x1 x2 : Int32) (g : a2_G) (r : a2_A) : lp L xs 93 nm_m93 m d (k + 1) 17 [some (.ref 4), some (.int x1), some (.int x2)] g r = B93_17 L xs m d k x1 x2 g r := fs_lp.trans (b93_17 L xs m d k 884 x1 x2 g r)
theorem e93 (L : Nat) (xs : Nat → Int32) (m d k : Nat) (n : Nat) (a1 : Int32) (g : a2_G) (r : a2_A) : bk L xs 93 nm_m93 m d k (n + 25) 0 [some (.ref 4), some (.int a1), none] [] g r = (fn_v (ev L xs m d 75 [.ref 3] g r) fun v3 g1 r2 => (fn_n (ev L xs m d 63 [.ref 2, .int a1, .int v3] g1 r2) fun g4 r5 => (B93_17 L xs m d k a1 0 g4 r5))) := by
  refine (fs_r (n := n + 20) 5 (pc' := 9) (L' := [some (.ref 4), some (.int a1), none]) (S' := [.ref 3, .int a1, .ref 2]) rfl).trans ?_
  refine (fs_cv (n := n + 19) (N := nm_m75) (as := [.ref 3]) (rest := [.int a1, .ref 2]) rfl rfl (Or.inl rfl) rfl rfl rfl rfl rfl).trans (fs_fv fun v3 g1 r2 => ?_)
  refine (fs_cn (n := n + 18) (N := nm_m63) (as := [.ref 2, .int a1, .int v3]) (rest := []) rfl rfl (Or.inl rfl) rfl rfl rfl rfl rfl).trans (fs_fn fun g4 r5 => ?_)
  refine (fs_r (n := n + 16) 2 (pc' := 17) (L' := [some (.ref 4), some (.int a1), some (.int 0)]) (S' := []) rfl).trans ?_
  exact b93_17 L xs m d k (n + 0) a1 0 g4 r5
theorem q93 (L : Nat) (xs : Nat → Int32) (m d : Nat) (a1 : Int32) (g : a2_G) (r : a2_A) : ev L xs (m + 1) (d + 1) 93 [.ref 4, .int a1] g r = (fn_v (ev L xs (m + 1) d 75 [.ref 3] g r) fun v3 g1 r2 => (fn_n (ev L xs (m + 1) d 63 [.ref 2, .int a1, .int v3] g1 r2) fun g4 r5 => (B93_17 L xs (m + 1) d m a1 0 g4 r5))) := (fs_ev (M := nm_m93) rfl rfl).trans (e93 L xs (m + 1) d m 875 a1 g r)
/-- CobolParser$Statements.scopeEnd(II)V -/
def B94_21 (L : Nat) (xs : Nat → Int32) (m d k : Nat) (x1 x2 : Int32) (g : a2_G) (r : a2_A) : Option fn_Z := (some (.inl none, g, r))
theorem b94_21 (L : Nat) (xs : Nat → Int32) (m d k : Nat) (n : Nat) (x1 x2 : Int32) (g : a2_G) (r : a2_A) : bk L xs 94 nm_m94 m d k (n + 1) 21 [some (.ref 4), some (.int x1), some (.int x2)] [] g r = B94_21 L xs m d k x1 x2 g r := by
  show _ = ((some (.inl none, g, r)) : Option fn_Z)
  exact (fs_rv (n := n + 0) rfl rfl).trans rfl
theorem e94 (L : Nat) (xs : Nat → Int32) (m d k : Nat) (n : Nat) (a1 a2 : Int32) (g : a2_G) (r : a2_A) : bk L xs 94 nm_m94 m d k (n + 12) 0 [some (.ref 4), some (.int a1), some (.int a2)] [] g r = (fn_v (ev L xs m d 62 [.ref 1, .int a2] g r) fun v3 g1 r2 => (if am_c2 .eq v3 0 = true then (B94_21 L xs m d k a1 a2 g1 r2) else (fn_n (ev L xs m d 69 [.ref 2, .int a1, .int 3, .int 1] g1 r2) fun g4 r5 => (B94_21 L xs m d k a1 a2 g4 r5)))) := by
  refine (fs_r (n := n + 9) 3 (pc' := 5) (L' := [some (.ref 4), some (.int a1), some (.int a2)]) (S' := [.int a2, .ref 1]) rfl).trans ?_
  refine (fs_cv (n := n + 8) (N := nm_m62) (as := [.ref 1, .int a2]) (rest := []) rfl rfl (Or.inl rfl) rfl rfl rfl rfl rfl).trans (fs_fv fun v3 g1 r2 => ?_)
  refine (fs_i (n := n + 7) rfl (t := 21) rfl (by decide)).trans (fs_ite ?_ ?_)
  · skip
    exact b94_21 L xs m d k (n + 6) a1 a2 g1 r2
  · skip
    refine (fs_r (n := n + 2) 5 (pc' := 18) (L' := [some (.ref 4), some (.int a1), some (.int a2)]) (S' := [.int 1, .int 3, .int a1, .ref 2]) rfl).trans ?_
    refine (fs_cn (n := n + 1) (N := nm_m69) (as := [.ref 2, .int a1, .int 3, .int 1]) (rest := []) rfl rfl (Or.inl rfl) rfl rfl rfl rfl rfl).trans (fs_fn fun g4 r5 => ?_)
    exact b94_21 L xs m d k (n + 0) a1 a2 g4 r5
theorem q94 (L : Nat) (xs : Nat → Int32) (m d : Nat) (a1 a2 : Int32) (g : a2_G) (r : a2_A) : ev L xs (m + 1) (d + 1) 94 [.ref 4, .int a1, .int a2] g r = (fn_v (ev L xs (m + 1) d 62 [.ref 1, .int a2] g r) fun v3 g1 r2 => (if am_c2 .eq v3 0 = true then (B94_21 L xs (m + 1) d m a1 a2 g1 r2) else (fn_n (ev L xs (m + 1) d 69 [.ref 2, .int a1, .int 3, .int 1] g1 r2) fun g4 r5 => (B94_21 L xs (m + 1) d m a1 a2 g4 r5)))) := (fs_ev (M := nm_m94) rfl rfl).trans (e94 L xs (m + 1) d m 888 a1 a2 g r)
/-- CobolParser$Statements.ifElse(I)I -/
def B95_71 (L : Nat) (xs : Nat → Int32) (m d k : Nat) (x1 x2 : Int32) (g : a2_G) (r : a2_A) : Option fn_Z := (fn_n (ev L xs m d 94 [.ref 4, .int x2, .int 73] g r) fun g20 r21 => (some (.inl (some (.int x2)), g20, r21)))
theorem b95_71 (L : Nat) (xs : Nat → Int32) (m d k : Nat) (n : Nat) (x1 x2 : Int32) (g : a2_G) (r : a2_A) : bk L xs 95 nm_m95 m d k (n + 6) 71 [some (.ref 4), some (.int x1), some (.int x2)] [] g r = B95_71 L xs m d k x1 x2 g r := by
  show _ = ((fn_n (ev L xs m d 94 [.ref 4, .int x2, .int 73] g r) fun g20 r21 => (some (.inl (some (.int x2)), g20, r21))) : Option fn_Z)
  refine (fs_r (n := n + 3) 3 (pc' := 75) (L' := [some (.ref 4), some (.int x1), some (.int x2)]) (S' := [.int 73, .int x2, .ref 4]) rfl).trans ?_
  refine (fs_cn (n := n + 2) (N := nm_m94) (as := [.ref 4, .int x2, .int 73]) (rest := []) rfl rfl (Or.inl rfl) rfl rfl rfl rfl rfl).trans (fs_fn fun g20 r21 => ?_)
  refine (fs_r (n := n + 1) 1 (pc' := 79) (L' := [some (.ref 4), some (.int x1), some (.int x2)]) (S' := [.int x2]) rfl).trans ?_
  exact (fs_ri (n := n + 0) rfl rfl).trans rfl
theorem e95 (L : Nat) (xs : Nat → Int32) (m d k : Nat) (n : Nat) (a1 : Int32) (g : a2_G) (r : a2_A) : bk L xs 95 nm_m95 m d k (n + 42) 0 [some (.ref 4), some (.int a1), none] [] g r = (fn_v (ev L xs m d 90 [.ref 4, .int 28] g r) fun v3 g1 r2 => (fn_v (ev L xs m d 96 [.ref 5, .int a1] g1 r2) fun v6 g4 r5 => (fn_n (ev L xs m d 63 [.ref 2, .int v3, .int v6] g4 r5) fun g7 r8 => (fn_v (ev L xs m d 62 [.ref 1, .int 52] g7 r8) fun v11 g9 r10 => (fn_v (ev L xs m d 108 [.ref 4, .int a1] g9 r10) fun v14 g12 r13 => (fn_n (ev L xs m d 63 [.ref 2, .int v3, .int v14] g12 r13) fun g15 r16 => (fn_v (ev L xs m d 62 [.ref 1, .int 53] g15 r16) fun v19 g17 r18 => (if am_c2 .eq v19 0 = true then (B95_71 L xs m d k a1 v3 g17 r18) else (fn_v (ev L xs m d 108 [.ref 4, .int a1] g17 r18) fun v24 g22 r23 => (fn_n (ev L xs m d 63 [.ref 2, .int v3, .int v24] g22 r23) fun g25 r26 => (B95_71 L xs m d k a1 v3 g25 r26))))))))))) := by
  refine (fs_r (n := n + 40) 2 (pc' := 3) (L' := [some (.ref 4), some (.int a1), none]) (S' := [.int 28, .ref 4]) rfl).trans ?_
  refine (fs_cv (n := n + 39) (N := nm_m90) (as := [.ref 4, .int 28]) (rest := []) rfl rfl (Or.inl rfl) rfl rfl rfl rfl rfl).trans (fs_fv fun v3 g1 r2 => ?_)
  refine (fs_r (n := n + 32) 7 (pc' := 17) (L' := [some (.ref 4), some (.int a1), some (.int v3)]) (S' := [.int a1, .ref 5, .int v3, .ref 2]) rfl).trans ?_
  refine (fs_cv (n := n + 31) (N := nm_m96) (as := [.ref 5, .int a1]) (rest := [.int v3, .ref 2]) rfl rfl (Or.inr rfl) rfl rfl rfl rfl rfl).trans (fs_fv fun v6 g4 r5 => ?_)
  refine (fs_cn (n := n + 30) (N := nm_m63) (as := [.ref 2, .int v3, .int v6]) (rest := []) rfl rfl (Or.inl rfl) rfl rfl rfl rfl rfl).trans (fs_fn fun g7 r8 => ?_)
  refine (fs_r (n := n + 27) 3 (pc' := 29) (L' := [some (.ref 4), some (.int a1), some (.int v3)]) (S' := [.int 52, .ref 1]) rfl).trans ?_
  refine (fs_cv (n := n + 26) (N := nm_m62) (as := [.ref 1, .int 52]) (rest := []) rfl rfl (Or.inl rfl) rfl rfl rfl rfl rfl).trans (fs_fv fun v11 g9 r10 => ?_)
  refine (fs_r (n := n + 20) 6 (pc' := 40) (L' := [some (.ref 4), some (.int a1), some (.int v3)]) (S' := [.int a1, .ref 4, .int v3, .ref 2]) rfl).trans ?_
  refine (fs_cv (n := n + 19) (N := nm_m108) (as := [.ref 4, .int a1]) (rest := [.int v3, .ref 2]) rfl rfl (Or.inl rfl) rfl rfl rfl rfl rfl).trans (fs_fv fun v14 g12 r13 => ?_)
  refine (fs_cn (n := n + 18) (N := nm_m63) (as := [.ref 2, .int v3, .int v14]) (rest := []) rfl rfl (Or.inl rfl) rfl rfl rfl rfl rfl).trans (fs_fn fun g15 r16 => ?_)
  refine (fs_r (n := n + 15) 3 (pc' := 52) (L' := [some (.ref 4), some (.int a1), some (.int v3)]) (S' := [.int 53, .ref 1]) rfl).trans ?_
  refine (fs_cv (n := n + 14) (N := nm_m62) (as := [.ref 1, .int 53]) (rest := []) rfl rfl (Or.inl rfl) rfl rfl rfl rfl rfl).trans (fs_fv fun v19 g17 r18 => ?_)
  refine (fs_i (n := n + 13) rfl (t := 71) rfl (by decide)).trans (fs_ite ?_ ?_)
  · skip
    exact b95_71 L xs m d k (n + 7) a1 v3 g17 r18
  · skip
    refine (fs_r (n := n + 8) 5 (pc' := 65) (L' := [some (.ref 4), some (.int a1), some (.int v3)]) (S' := [.int a1, .ref 4, .int v3, .ref 2]) rfl).trans ?_
    refine (fs_cv (n := n + 7) (N := nm_m108) (as := [.ref 4, .int a1]) (rest := [.int v3, .ref 2]) rfl rfl (Or.inl rfl) rfl rfl rfl rfl rfl).trans (fs_fv fun v24 g22 r23 => ?_)
    refine (fs_cn (n := n + 6) (N := nm_m63) (as := [.ref 2, .int v3, .int v24]) (rest := []) rfl rfl (Or.inl rfl) rfl rfl rfl rfl rfl).trans (fs_fn fun g25 r26 => ?_)
    exact b95_71 L xs m d k (n + 0) a1 v3 g25 r26
theorem q95 (L : Nat) (xs : Nat → Int32) (m d : Nat) (a1 : Int32) (g : a2_G) (r : a2_A) : ev L xs (m + 1) (d + 1) 95 [.ref 4, .int a1] g r = (fn_v (ev L xs (m + 1) d 90 [.ref 4, .int 28] g r) fun v3 g1 r2 => (fn_v (ev L xs (m + 1) d 96 [.ref 5, .int a1] g1 r2) fun v6 g4 r5 => (fn_n (ev L xs (m + 1) d 63 [.ref 2, .int v3, .int v6] g4 r5) fun g7 r8 => (fn_v (ev L xs (m + 1) d 62 [.ref 1, .int 52] g7 r8) fun v11 g9 r10 => (fn_v (ev L xs (m + 1) d 108 [.ref 4, .int a1] g9 r10) fun v14 g12 r13 => (fn_n (ev L xs (m + 1) d 63 [.ref 2, .int v3, .int v14] g12 r13) fun g15 r16 => (fn_v (ev L xs (m + 1) d 62 [.ref 1, .int 53] g15 r16) fun v19 g17 r18 => (if am_c2 .eq v19 0 = true then (B95_71 L xs (m + 1) d m a1 v3 g17 r18) else (fn_v (ev L xs (m + 1) d 108 [.ref 4, .int a1] g17 r18) fun v24 g22 r23 => (fn_n (ev L xs (m + 1) d 63 [.ref 2, .int v3, .int v24] g22 r23) fun g25 r26 => (B95_71 L xs (m + 1) d m a1 v3 g25 r26))))))))))) := (fs_ev (M := nm_m95) rfl rfl).trans (e95 L xs (m + 1) d m 858 a1 g r)
/-- CobolParser$Expressions.condition(I)I -/
def B96_77 (L : Nat) (xs : Nat → Int32) (m d k : Nat) (x1 x2 x3 x4 : Int32) (g : a2_G) (r : a2_A) : Option fn_Z := (some (.inl (some (.int x3)), g, r))
theorem b96_77 (L : Nat) (xs : Nat → Int32) (m d k : Nat) (n : Nat) (x1 x2 x3 x4 : Int32) (g : a2_G) (r : a2_A) : bk L xs 96 nm_m96 m d k (n + 2) 77 [some (.ref 5), some (.int x1), some (.int x2), some (.int x3), some (.int x4)] [] g r = B96_77 L xs m d k x1 x2 x3 x4 g r := by
  show _ = ((some (.inl (some (.int x3)), g, r)) : Option fn_Z)
  refine (fs_r (n := n + 1) 1 (pc' := 78) (L' := [some (.ref 5), some (.int x1), some (.int x2), some (.int x3), some (.int x4)]) (S' := [.int x3]) rfl).trans ?_
  exact (fs_ri (n := n + 0) rfl rfl).trans rfl
def B96_38 (L : Nat) (xs : Nat → Int32) (m d k : Nat) (x1 x2 x3 x4 : Int32) (g : a2_G) (r : a2_A) : Option fn_Z := (if am_c2 .ge x4 1500 = true then (B96_77 L xs m d k x1 x2 x3 x4 g r) else (fn_v (ev L xs m d 62 [.ref 1, .int 66] g r) fun v12 g10 r11 => (if am_c2 .eq v12 0 = true then (B96_77 L xs m d k x1 x2 x3 x4 g10 r11) else (fn_v (ev L xs m d 97 [.ref 5, .int x1] g10 r11) fun v15 g13 r14 => (fn_n (ev L xs m d 63 [.ref 2, .int x3, .int v15] g13 r14) fun g16 r17 => (lp L xs 96 nm_m96 m d k 38 [some (.ref 5), some (.int x1), some (.int x2), some (.int x3), some (.int (x4 + 1))] g16 r17))))))
theorem b96_38 (L : Nat) (xs : Nat → Int32) (m d k : Nat) (n : Nat) (x1 x2 x3 x4 : Int32) (g : a2_G) (r : a2_A) : bk L xs 96 nm_m96 m d k (n + 17) 38 [some (.ref 5), some (.int x1), some (.int x2), some (.int x3), some (.int x4)] [] g r = B96_38 L xs m d k x1 x2 x3 x4 g r := by
  show _ = ((if am_c2 .ge x4 1500 = true then (B96_77 L xs m d k x1 x2 x3 x4 g r) else (fn_v (ev L xs m d 62 [.ref 1, .int 66] g r) fun v12 g10 r11 => (if am_c2 .eq v12 0 = true then (B96_77 L xs m d k x1 x2 x3 x4 g10 r11) else (fn_v (ev L xs m d 97 [.ref 5, .int x1] g10 r11) fun v15 g13 r14 => (fn_n (ev L xs m d 63 [.ref 2, .int x3, .int v15] g13 r14) fun g16 r17 => (lp L xs 96 nm_m96 m d k 38 [some (.ref 5), some (.int x1), some (.int x2), some (.int x3), some (.int (x4 + 1))] g16 r17)))))) : Option fn_Z)
  refine (fs_r (n := n + 15) 2 (pc' := 43) (L' := [some (.ref 5), some (.int x1), some (.int x2), some (.int x3), some (.int x4)]) (S' := [.int 1500, .int x4]) rfl).trans ?_
  refine (fs_j (n := n + 14) rfl (t := 77) rfl (by decide)).trans (fs_ite ?_ ?_)
  · skip
    exact b96_77 L xs m d k (n + 12) x1 x2 x3 x4 g r
  · skip
    refine (fs_r (n := n + 11) 3 (pc' := 52) (L' := [some (.ref 5), some (.int x1), some (.int x2), some (.int x3), some (.int x4)]) (S' := [.int 66, .ref 1]) rfl).trans ?_
    refine (fs_cv (n := n + 10) (N := nm_m62) (as := [.ref 1, .int 66]) (rest := []) rfl rfl (Or.inl rfl) rfl rfl rfl rfl rfl).trans (fs_fv fun v12 g10 r11 => ?_)
    refine (fs_i (n := n + 9) rfl (t := 77) rfl (by decide)).trans (fs_ite ?_ ?_)
    · skip
      exact b96_77 L xs m d k (n + 7) x1 x2 x3 x4 g10 r11
    · skip
      refine (fs_r (n := n + 4) 5 (pc' := 65) (L' := [some (.ref 5), some (.int x1), some (.int x2), some (.int x3), some (.int x4)]) (S' := [.int x1, .ref 5, .int x3, .ref 2]) rfl).trans ?_
      refine (fs_cv (n := n + 3) (N := nm_m97) (as := [.ref 5, .int x1]) (rest := [.int x3, .ref 2]) rfl rfl (Or.inl rfl) rfl rfl rfl rfl rfl).trans (fs_fv fun v15 g13 r14 => ?_)
      refine (fs_cn (n := n + 2) (N := nm_m63) (as := [.ref 2, .int x3, .int v15]) (rest := []) rfl rfl (Or.inl rfl) rfl rfl rfl rfl rfl).trans (fs_fn fun g16 r17 => ?_)
      refine (fs_r (n := n + 1) 1 (pc' := 74) (L' := [some (.ref 5), some (.int x1), some (.int x2), some (.int x3), some (.int (x4 + 1))]) (S' := []) rfl).trans ?_
      exact (fs_gb (n := n + 0) rfl (t := 38) rfl (by decide)).trans rfl
theorem l96_38 (L : Nat) (xs : Nat → Int32) (m d k : Nat) (x1 x2 x3 x4 : Int32) (g : a2_G) (r : a2_A) : lp L xs 96 nm_m96 m d (k + 1) 38 [some (.ref 5), some (.int x1), some (.int x2), some (.int x3), some (.int x4)] g r = B96_38 L xs m d k x1 x2 x3 x4 g r := fs_lp.trans (b96_38 L xs m d k 883 x1 x2 x3 x4 g r)
theorem e96 (L : Nat) (xs : Nat → Int32) (m d k : Nat) (n : Nat) (a1 : Int32) (g : a2_G) (r : a2_A) : bk L xs 96 nm_m96 m d k (n + 38) 0 [some (.ref 5), some (.int a1), none, none, none] [] g r = (fn_v (ev L xs m d 97 [.ref 5, .int a1] (upd g 503 (-1)) r) fun v3 g1 r2 => (fn_v (ev L xs m d 52 [.ref 1, .int 66, .int 0] g1 r2) fun v6 g4 r5 => (if am_c2 .ne v6 0 = true then (fn_v (ev L xs m d 107 [.ref 5, .int 50, .int 0, .int v3] g4 r5) fun v9 g7 r8 => (B96_38 L xs m d k a1 v3 v9 0 g7 r8)) else (some (.inl (some (.int v3)), g4, r5))))) := by
  refine (fs_r (n := n + 36) 2 (pc' := 2) (L' := [some (.ref 5), some (.int a1), none, none, none]) (S' := [.int (-1), .ref 5]) rfl).trans ?_
  refine (fs_pf (n := n + 35) (ci := 5) (j := 3) rfl rfl rfl rfl).trans ?_
  refine (fs_r (n := n + 33) 2 (pc' := 7) (L' := [some (.ref 5), some (.int a1), none, none, none]) (S' := [.int a1, .ref 5]) rfl).trans ?_
  refine (fs_cv (n := n + 32) (N := nm_m97) (as := [.ref 5, .int a1]) (rest := []) rfl rfl (Or.inl rfl) rfl rfl rfl rfl rfl).trans (fs_fv fun v3 g1 r2 => ?_)
  refine (fs_r (n := n + 27) 5 (pc' := 18) (L' := [some (.ref 5), some (.int a1), some (.int v3), none, none]) (S' := [.int 0, .int 66, .ref 1]) rfl).trans ?_
  refine (fs_cv (n := n + 26) (N := nm_m52) (as := [.ref 1, .int 66, .int 0]) (rest := []) rfl rfl (Or.inl rfl) rfl rfl rfl rfl rfl).trans (fs_fv fun v6 g4 r5 => ?_)
  refine (fs_i (n := n + 25) rfl (t := 26) rfl (by decide)).trans (fs_ite ?_ ?_)
  · skip
    refine (fs_r (n := n + 21) 4 (pc' := 31) (L' := [some (.ref 5), some (.int a1), some (.int v3), none, none]) (S' := [.int v3, .int 0, .int 50, .ref 5]) rfl).trans ?_
    refine (fs_cv (n := n + 20) (N := nm_m107) (as := [.ref 5, .int 50, .int 0, .int v3]) (rest := []) rfl rfl (Or.inl rfl) rfl rfl rfl rfl rfl).trans (fs_fv fun v9 g7 r8 => ?_)
    refine (fs_r (n := n + 17) 3 (pc' := 38) (L' := [some (.ref 5), some (.int a1), some (.int v3), some (.int v9), some (.int 0)]) (S' := []) rfl).trans ?_
    exact b96_38 L xs m d k (n + 0) a1 v3 v9 0 g7 r8
  · skip
    refine (fs_r (n := n + 24) 1 (pc' := 25) (L' := [some (.ref 5), some (.int a1), some (.int v3), none, none]) (S' := [.int v3]) rfl).trans ?_
    exact (fs_ri (n := n + 23) rfl rfl).trans rfl
theorem q96 (L : Nat) (xs : Nat → Int32) (m d : Nat) (a1 : Int32) (g : a2_G) (r : a2_A) : ev L xs (m + 1) (d + 1) 96 [.ref 5, .int a1] g r = (fn_v (ev L xs (m + 1) d 97 [.ref 5, .int a1] (upd g 503 (-1)) r) fun v3 g1 r2 => (fn_v (ev L xs (m + 1) d 52 [.ref 1, .int 66, .int 0] g1 r2) fun v6 g4 r5 => (if am_c2 .ne v6 0 = true then (fn_v (ev L xs (m + 1) d 107 [.ref 5, .int 50, .int 0, .int v3] g4 r5) fun v9 g7 r8 => (B96_38 L xs (m + 1) d m a1 v3 v9 0 g7 r8)) else (some (.inl (some (.int v3)), g4, r5))))) := (fs_ev (M := nm_m96) rfl rfl).trans (e96 L xs (m + 1) d m 862 a1 g r)
/-- CobolParser$Expressions.conjunction(I)I -/
def B97_72 (L : Nat) (xs : Nat → Int32) (m d k : Nat) (x1 x2 x3 x4 : Int32) (g : a2_G) (r : a2_A) : Option fn_Z := (some (.inl (some (.int x3)), g, r))
theorem b97_72 (L : Nat) (xs : Nat → Int32) (m d k : Nat) (n : Nat) (x1 x2 x3 x4 : Int32) (g : a2_G) (r : a2_A) : bk L xs 97 nm_m97 m d k (n + 2) 72 [some (.ref 5), some (.int x1), some (.int x2), some (.int x3), some (.int x4)] [] g r = B97_72 L xs m d k x1 x2 x3 x4 g r := by
  show _ = ((some (.inl (some (.int x3)), g, r)) : Option fn_Z)
  refine (fs_r (n := n + 1) 1 (pc' := 73) (L' := [some (.ref 5), some (.int x1), some (.int x2), some (.int x3), some (.int x4)]) (S' := [.int x3]) rfl).trans ?_
  exact (fs_ri (n := n + 0) rfl rfl).trans rfl
def B97_33 (L : Nat) (xs : Nat → Int32) (m d k : Nat) (x1 x2 x3 x4 : Int32) (g : a2_G) (r : a2_A) : Option fn_Z := (if am_c2 .ge x4 1500 = true then (B97_72 L xs m d k x1 x2 x3 x4 g r) else (fn_v (ev L xs m d 62 [.ref 1, .int 65] g r) fun v12 g10 r11 => (if am_c2 .eq v12 0 = true then (B97_72 L xs m d k x1 x2 x3 x4 g10 r11) else (fn_v (ev L xs m d 98 [.ref 5, .int x1] g10 r11) fun v15 g13 r14 => (fn_n (ev L xs m d 63 [.ref 2, .int x3, .int v15] g13 r14) fun g16 r17 => (lp L xs 97 nm_m97 m d k 33 [some (.ref 5), some (.int x1), some (.int x2), some (.int x3), some (.int (x4 + 1))] g16 r17))))))
theorem b97_33 (L : Nat) (xs : Nat → Int32) (m d k : Nat) (n : Nat) (x1 x2 x3 x4 : Int32) (g : a2_G) (r : a2_A) : bk L xs 97 nm_m97 m d k (n + 17) 33 [some (.ref 5), some (.int x1), some (.int x2), some (.int x3), some (.int x4)] [] g r = B97_33 L xs m d k x1 x2 x3 x4 g r := by
  show _ = ((if am_c2 .ge x4 1500 = true then (B97_72 L xs m d k x1 x2 x3 x4 g r) else (fn_v (ev L xs m d 62 [.ref 1, .int 65] g r) fun v12 g10 r11 => (if am_c2 .eq v12 0 = true then (B97_72 L xs m d k x1 x2 x3 x4 g10 r11) else (fn_v (ev L xs m d 98 [.ref 5, .int x1] g10 r11) fun v15 g13 r14 => (fn_n (ev L xs m d 63 [.ref 2, .int x3, .int v15] g13 r14) fun g16 r17 => (lp L xs 97 nm_m97 m d k 33 [some (.ref 5), some (.int x1), some (.int x2), some (.int x3), some (.int (x4 + 1))] g16 r17)))))) : Option fn_Z)
  refine (fs_r (n := n + 15) 2 (pc' := 38) (L' := [some (.ref 5), some (.int x1), some (.int x2), some (.int x3), some (.int x4)]) (S' := [.int 1500, .int x4]) rfl).trans ?_
  refine (fs_j (n := n + 14) rfl (t := 72) rfl (by decide)).trans (fs_ite ?_ ?_)
  · skip
    exact b97_72 L xs m d k (n + 12) x1 x2 x3 x4 g r
  · skip
    refine (fs_r (n := n + 11) 3 (pc' := 47) (L' := [some (.ref 5), some (.int x1), some (.int x2), some (.int x3), some (.int x4)]) (S' := [.int 65, .ref 1]) rfl).trans ?_
    refine (fs_cv (n := n + 10) (N := nm_m62) (as := [.ref 1, .int 65]) (rest := []) rfl rfl (Or.inl rfl) rfl rfl rfl rfl rfl).trans (fs_fv fun v12 g10 r11 => ?_)
    refine (fs_i (n := n + 9) rfl (t := 72) rfl (by decide)).trans (fs_ite ?_ ?_)
    · skip
      exact b97_72 L xs m d k (n + 7) x1 x2 x3 x4 g10 r11
    · skip
      refine (fs_r (n := n + 4) 5 (pc' := 60) (L' := [some (.ref 5), some (.int x1), some (.int x2), some (.int x3), some (.int x4)]) (S' := [.int x1, .ref 5, .int x3, .ref 2]) rfl).trans ?_
      refine (fs_cv (n := n + 3) (N := nm_m98) (as := [.ref 5, .int x1]) (rest := [.int x3, .ref 2]) rfl rfl (Or.inl rfl) rfl rfl rfl rfl rfl).trans (fs_fv fun v15 g13 r14 => ?_)
      refine (fs_cn (n := n + 2) (N := nm_m63) (as := [.ref 2, .int x3, .int v15]) (rest := []) rfl rfl (Or.inl rfl) rfl rfl rfl rfl rfl).trans (fs_fn fun g16 r17 => ?_)
      refine (fs_r (n := n + 1) 1 (pc' := 69) (L' := [some (.ref 5), some (.int x1), some (.int x2), some (.int x3), some (.int (x4 + 1))]) (S' := []) rfl).trans ?_
      exact (fs_gb (n := n + 0) rfl (t := 33) rfl (by decide)).trans rfl
theorem l97_33 (L : Nat) (xs : Nat → Int32) (m d k : Nat) (x1 x2 x3 x4 : Int32) (g : a2_G) (r : a2_A) : lp L xs 97 nm_m97 m d (k + 1) 33 [some (.ref 5), some (.int x1), some (.int x2), some (.int x3), some (.int x4)] g r = B97_33 L xs m d k x1 x2 x3 x4 g r := fs_lp.trans (b97_33 L xs m d k 883 x1 x2 x3 x4 g r)
theorem e97 (L : Nat) (xs : Nat → Int32) (m d k : Nat) (n : Nat) (a1 : Int32) (g : a2_G) (r : a2_A) : bk L xs 97 nm_m97 m d k (n + 35) 0 [some (.ref 5), some (.int a1), none, none, none] [] g r = (fn_v (ev L xs m d 98 [.ref 5, .int a1] g r) fun v3 g1 r2 => (fn_v (ev L xs m d 52 [.ref 1, .int 65, .int 0] g1 r2) fun v6 g4 r5 => (if am_c2 .ne v6 0 = true then (fn_v (ev L xs m d 107 [.ref 5, .int 51, .int 0, .int v3] g4 r5) fun v9 g7 r8 => (B97_33 L xs m d k a1 v3 v9 0 g7 r8)) else (some (.inl (some (.int v3)), g4, r5))))) := by
  refine (fs_r (n := n + 33) 2 (pc' := 2) (L' := [some (.ref 5), some (.int a1), none, none, none]) (S' := [.int a1, .ref 5]) rfl).trans ?_
  refine (fs_cv (n := n + 32) (N := nm_m98) (as := [.ref 5, .int a1]) (rest := []) rfl rfl (Or.inl rfl) rfl rfl rfl rfl rfl).trans (fs_fv fun v3 g1 r2 => ?_)
  refine (fs_r (n := n + 27) 5 (pc' := 13) (L' := [some (.ref 5), some (.int a1), some (.int v3), none, none]) (S' := [.int 0, .int 65, .ref 1]) rfl).trans ?_
  refine (fs_cv (n := n + 26) (N := nm_m52) (as := [.ref 1, .int 65, .int 0]) (rest := []) rfl rfl (Or.inl rfl) rfl rfl rfl rfl rfl).trans (fs_fv fun v6 g4 r5 => ?_)
  refine (fs_i (n := n + 25) rfl (t := 21) rfl (by decide)).trans (fs_ite ?_ ?_)
  · skip
    refine (fs_r (n := n + 21) 4 (pc' := 26) (L' := [some (.ref 5), some (.int a1), some (.int v3), none, none]) (S' := [.int v3, .int 0, .int 51, .ref 5]) rfl).trans ?_
    refine (fs_cv (n := n + 20) (N := nm_m107) (as := [.ref 5, .int 51, .int 0, .int v3]) (rest := []) rfl rfl (Or.inl rfl) rfl rfl rfl rfl rfl).trans (fs_fv fun v9 g7 r8 => ?_)
    refine (fs_r (n := n + 17) 3 (pc' := 33) (L' := [some (.ref 5), some (.int a1), some (.int v3), some (.int v9), some (.int 0)]) (S' := []) rfl).trans ?_
    exact b97_33 L xs m d k (n + 0) a1 v3 v9 0 g7 r8
  · skip
    refine (fs_r (n := n + 24) 1 (pc' := 20) (L' := [some (.ref 5), some (.int a1), some (.int v3), none, none]) (S' := [.int v3]) rfl).trans ?_
    exact (fs_ri (n := n + 23) rfl rfl).trans rfl
theorem q97 (L : Nat) (xs : Nat → Int32) (m d : Nat) (a1 : Int32) (g : a2_G) (r : a2_A) : ev L xs (m + 1) (d + 1) 97 [.ref 5, .int a1] g r = (fn_v (ev L xs (m + 1) d 98 [.ref 5, .int a1] g r) fun v3 g1 r2 => (fn_v (ev L xs (m + 1) d 52 [.ref 1, .int 65, .int 0] g1 r2) fun v6 g4 r5 => (if am_c2 .ne v6 0 = true then (fn_v (ev L xs (m + 1) d 107 [.ref 5, .int 51, .int 0, .int v3] g4 r5) fun v9 g7 r8 => (B97_33 L xs (m + 1) d m a1 v3 v9 0 g7 r8)) else (some (.inl (some (.int v3)), g4, r5))))) := (fs_ev (M := nm_m97) rfl rfl).trans (e97 L xs (m + 1) d m 865 a1 g r)
/-- CobolParser$Expressions.factor(I)I -/
def B98_66 (L : Nat) (xs : Nat → Int32) (m d k : Nat) (x1 : Int32) (g : a2_G) (r : a2_A) : Option fn_Z := (fn_v (ev L xs m d 101 [.ref 1, .int 0, .int 0] g r) fun v6 g4 r5 => (if am_c2 .eq v6 0 = true then (fn_v (ev L xs m d 103 [.ref 5] g4 r5) fun v9 g7 r8 => (some (.inl (some (.int v9)), g7, r8))) else (fn_n (ev L xs m d 100 [.ref 5, .int (x1 + 1)] g4 r5) fun g10 r11 => (fn_v (ev L xs m d 96 [.ref 5, .int (x1 + 1)] g10 r11) fun v14 g12 r13 => (fn_n (ev L xs m d 102 [.ref 1, .int 1] g12 r13) fun g15 r16 => (some (.inl (some (.int v14)), (upd g15 503 (-1)), r16)))))))
theorem b98_66 (L : Nat) (xs : Nat → Int32) (m d k : Nat) (n : Nat) (x1 : Int32) (g : a2_G) (r : a2_A) : bk L xs 98 nm_m98 m d k (n + 26) 66 [some (.ref 5), some (.int x1), none] [] g r = B98_66 L xs m d k x1 g r := by
  show _ = ((fn_v (ev L xs m d 101 [.ref 1, .int 0, .int 0] g r) fun v6 g4 r5 => (if am_c2 .eq v6 0 = true then (fn_v (ev L xs m d 103 [.ref 5] g4 r5) fun v9 g7 r8 => (some (.inl (some (.int v9)), g7, r8))) else (fn_n (ev L xs m d 100 [.ref 5, .int (x1 + 1)] g4 r5) fun g10 r11 => (fn_v (ev L xs m d 96 [.ref 5, .int (x1 + 1)] g10 r11) fun v14 g12 r13 => (fn_n (ev L xs m d 102 [.ref 1, .int 1] g12 r13) fun g15 r16 => (some (.inl (some (.int v14)), (upd g15 503 (-1)), r16))))))) : Option fn_Z)
  refine (fs_r (n := n + 22) 4 (pc' := 72) (L' := [some (.ref 5), some (.int x1), none]) (S' := [.int 0, .int 0, .ref 1]) rfl).trans ?_
  refine (fs_cv (n := n + 21) (N := nm_m101) (as := [.ref 1, .int 0, .int 0]) (rest := []) rfl rfl (Or.inl rfl) rfl rfl rfl rfl rfl).trans (fs_fv fun v6 g4 r5 => ?_)
  refine (fs_i (n := n + 20) rfl (t := 108) rfl (by decide)).trans (fs_ite ?_ ?_)
  · skip
    refine (fs_r (n := n + 19) 1 (pc' := 109) (L' := [some (.ref 5), some (.int x1), none]) (S' := [.ref 5]) rfl).trans ?_
    refine (fs_cv (n := n + 18) (N := nm_m103) (as := [.ref 5]) (rest := []) rfl rfl (Or.inl rfl) rfl rfl rfl rfl rfl).trans (fs_fv fun v9 g7 r8 => ?_)
    exact (fs_ri (n := n + 17) rfl rfl).trans rfl
  · skip
    refine (fs_r (n := n + 16) 4 (pc' := 82) (L' := [some (.ref 5), some (.int x1), none]) (S' := [.int (x1 + 1), .ref 5]) rfl).trans ?_
    refine (fs_cn (n := n + 15) (N := nm_m100) (as := [.ref 5, .int (x1 + 1)]) (rest := []) rfl rfl (Or.inl rfl) rfl rfl rfl rfl rfl).trans (fs_fn fun g10 r11 => ?_)
    refine (fs_r (n := n + 11) 4 (pc' := 89) (L' := [some (.ref 5), some (.int x1), none]) (S' := [.int (x1 + 1), .ref 5]) rfl).trans ?_
    refine (fs_cv (n := n + 10) (N := nm_m96) (as := [.ref 5, .int (x1 + 1)]) (rest := []) rfl rfl (Or.inl rfl) rfl rfl rfl rfl rfl).trans (fs_fv fun v14 g12 r13 => ?_)
    refine (fs_r (n := n + 6) 4 (pc' := 98) (L' := [some (.ref 5), some (.int x1), some (.int v14)]) (S' := [.int 1, .ref 1]) rfl).trans ?_
    refine (fs_cn (n := n + 5) (N := nm_m102) (as := [.ref 1, .int 1]) (rest := []) rfl rfl (Or.inl rfl) rfl rfl rfl rfl rfl).trans (fs_fn fun g15 r16 => ?_)
    refine (fs_r (n := n + 3) 2 (pc' := 103) (L' := [some (.ref 5), some (.int x1), some (.int v14)]) (S' := [.int (-1), .ref 5]) rfl).trans ?_
    refine (fs_pf (n := n + 2) (ci := 5) (j := 3) rfl rfl rfl rfl).trans ?_
    refine (fs_r (n := n + 1) 1 (pc' := 107) (L' := [some (.ref 5), some (.int x1), some (.int v14)]) (S' := [.int v14]) rfl).trans ?_
    exact (fs_ri (n := n + 0) rfl rfl).trans rfl
theorem e98 (L : Nat) (xs : Nat → Int32) (m d k : Nat) (n : Nat) (a1 : Int32) (g : a2_G) (r : a2_A) : bk L xs 98 nm_m98 m d k (n + 37) 0 [some (.ref 5), some (.int a1), none] [] g r = (fn_v (ev L xs m d 52 [.ref 1, .int 64, .int 0] g r) fun v3 g1 r2 => (if am_c2 .eq v3 0 = true then (B98_66 L xs m d k a1 g1 r2) else (fn_v (ev L xs m d 99 [.ref 1, .int 1] g1 r2) fun v19 g17 r18 => (if am_c2 .ne v19 0 = true then (B98_66 L xs m d k a1 g17 r18) else (fn_v (ev L xs m d 58 [.ref 1] g17 r18) fun v22 g20 r21 => (fn_v (ev L xs m d 45 [.ref 2, .int 52, .int 0, .int v22] g20 r21) fun v25 g23 r24 => (fn_n (ev L xs m d 100 [.ref 5, .int (a1 + 1)] g23 r24) fun g26 r27 => (fn_v (ev L xs m d 98 [.ref 5, .int (a1 + 1)] g26 r27) fun v30 g28 r29 => (fn_n (ev L xs m d 63 [.ref 2, .int v25, .int v30] g28 r29) fun g31 r32 => (some (.inl (some (.int v25)), g31, r32))))))))))) := by
  refine (fs_r (n := n + 33) 4 (pc' := 7) (L' := [some (.ref 5), some (.int a1), none]) (S' := [.int 0, .int 64, .ref 1]) rfl).trans ?_
  refine (fs_cv (n := n + 32) (N := nm_m52) (as := [.ref 1, .int 64, .int 0]) (rest := []) rfl rfl (Or.inl rfl) rfl rfl rfl rfl rfl).trans (fs_fv fun v3 g1 r2 => ?_)
  refine (fs_i (n := n + 31) rfl (t := 66) rfl (by decide)).trans (fs_ite ?_ ?_)
  · skip
    exact b98_66 L xs m d k (n + 5) a1 g1 r2
  · skip
    refine (fs_r (n := n + 28) 3 (pc' := 18) (L' := [some (.ref 5), some (.int a1), none]) (S' := [.int 1, .ref 1]) rfl).trans ?_
    refine (fs_cv (n := n + 27) (N := nm_m99) (as := [.ref 1, .int 1]) (rest := []) rfl rfl (Or.inl rfl) rfl rfl rfl rfl rfl).trans (fs_fv fun v19 g17 r18 => ?_)
    refine (fs_i (n := n + 26) rfl (t := 66) rfl (by decide)).trans (fs_ite ?_ ?_)
    · skip
      exact b98_66 L xs m d k (n + 0) a1 g17 r18
    · skip
      refine (fs_r (n := n + 20) 6 (pc' := 35) (L' := [some (.ref 5), some (.int a1), none]) (S' := [.ref 1, .int 0, .int 52, .ref 2]) rfl).trans ?_
      refine (fs_cv (n := n + 19) (N := nm_m58) (as := [.ref 1]) (rest := [.int 0, .int 52, .ref 2]) rfl rfl (Or.inl rfl) rfl rfl rfl rfl rfl).trans (fs_fv fun v22 g20 r21 => ?_)
      refine (fs_cv (n := n + 18) (N := nm_m45) (as := [.ref 2, .int 52, .int 0, .int v22]) (rest := []) rfl rfl (Or.inl rfl) rfl rfl rfl rfl rfl).trans (fs_fv fun v25 g23 r24 => ?_)
      refine (fs_r (n := n + 13) 5 (pc' := 46) (L' := [some (.ref 5), some (.int a1), some (.int v25)]) (S' := [.int (a1 + 1), .ref 5]) rfl).trans ?_
      refine (fs_cn (n := n + 12) (N := nm_m100) (as := [.ref 5, .int (a1 + 1)]) (rest := []) rfl rfl (Or.inl rfl) rfl rfl rfl rfl rfl).trans (fs_fn fun g26 r27 => ?_)
      refine (fs_r (n := n + 5) 7 (pc' := 58) (L' := [some (.ref 5), some (.int a1), some (.int v25)]) (S' := [.int (a1 + 1), .ref 5, .int v25, .ref 2]) rfl).trans ?_
      refine (fs_cv (n := n + 4) (N := nm_m98) (as := [.ref 5, .int (a1 + 1)]) (rest := [.int v25, .ref 2]) rfl rfl (Or.inl rfl) rfl rfl rfl rfl rfl).trans (fs_fv fun v30 g28 r29 => ?_)
      refine (fs_cn (n := n + 3) (N := nm_m63) (as := [.ref 2, .int v25, .int v30]) (rest := []) rfl rfl (Or.inl rfl) rfl rfl rfl rfl rfl).trans (fs_fn fun g31 r32 => ?_)
      refine (fs_r (n := n + 2) 1 (pc' := 65) (L' := [some (.ref 5), some (.int a1), some (.int v25)]) (S' := [.int v25]) rfl).trans ?_
      exact (fs_ri (n := n + 1) rfl rfl).trans rfl
theorem q98 (L : Nat) (xs : Nat → Int32) (m d : Nat) (a1 : Int32) (g : a2_G) (r : a2_A) : ev L xs (m + 1) (d + 1) 98 [.ref 5, .int a1] g r = (fn_v (ev L xs (m + 1) d 52 [.ref 1, .int 64, .int 0] g r) fun v3 g1 r2 => (if am_c2 .eq v3 0 = true then (B98_66 L xs (m + 1) d m a1 g1 r2) else (fn_v (ev L xs (m + 1) d 99 [.ref 1, .int 1] g1 r2) fun v19 g17 r18 => (if am_c2 .ne v19 0 = true then (B98_66 L xs (m + 1) d m a1 g17 r18) else (fn_v (ev L xs (m + 1) d 58 [.ref 1] g17 r18) fun v22 g20 r21 => (fn_v (ev L xs (m + 1) d 45 [.ref 2, .int 52, .int 0, .int v22] g20 r21) fun v25 g23 r24 => (fn_n (ev L xs (m + 1) d 100 [.ref 5, .int (a1 + 1)] g23 r24) fun g26 r27 => (fn_v (ev L xs (m + 1) d 98 [.ref 5, .int (a1 + 1)] g26 r27) fun v30 g28 r29 => (fn_n (ev L xs (m + 1) d 63 [.ref 2, .int v25, .int v30] g28 r29) fun g31 r32 => (some (.inl (some (.int v25)), g31, r32))))))))))) := (fs_ev (M := nm_m98) rfl rfl).trans (e98 L xs (m + 1) d m 863 a1 g r)
/-- CobolParser$Row.isComparingWord(I)Z -/
def B99_19 (L : Nat) (xs : Nat → Int32) (m d k : Nat) (x1 x2 : Int32) (g : a2_G) (r : a2_A) : Option fn_Z := (some (.inl (some (.int 0)), g, r))
theorem b99_19 (L : Nat) (xs : Nat → Int32) (m d k : Nat) (n : Nat) (x1 x2 : Int32) (g : a2_G) (r : a2_A) : bk L xs 99 nm_m99 m d k (n + 2) 19 [some (.ref 1), some (.int x1), some (.int x2), none, none] [] g r = B99_19 L xs m d k x1 x2 g r := by
  show _ = ((some (.inl (some (.int 0)), g, r)) : Option fn_Z)
  refine (fs_r (n := n + 1) 1 (pc' := 20) (L' := [some (.ref 1), some (.int x1), some (.int x2), none, none]) (S' := [.int 0]) rfl).trans ?_
  exact (fs_rb (n := n + 0) rfl rfl).trans ((if_pos (by decide)).trans rfl)
def B99_109 (L : Nat) (xs : Nat → Int32) (m d k : Nat) (x1 x2 x3 x4 x5 : Int32) (g : a2_G) (r : a2_A) : Option fn_Z := (if x5 = 0 ∨ x5 = 1 then some (.inl (some (.int x5)), g, r) else none)
theorem b99_109 (L : Nat) (xs : Nat → Int32) (m d k : Nat) (n : Nat) (x1 x2 x3 x4 x5 : Int32) (g : a2_G) (r : a2_A) : bk L xs 99 nm_m99 m d k (n + 1) 109 [some (.ref 1), some (.int x1), some (.int x2), some (.int x3), some (.int x4)] [.int x5] g r = B99_109 L xs m d k x1 x2 x3 x4 x5 g r := by
  show _ = ((if x5 = 0 ∨ x5 = 1 then some (.inl (some (.int x5)), g, r) else none) : Option fn_Z)
  exact (fs_rb (n := n + 0) rfl rfl).trans rfl
def B99_108 (L : Nat) (xs : Nat → Int32) (m d k : Nat) (x1 x2 x3 x4 : Int32) (g : a2_G) (r : a2_A) : Option fn_Z := (B99_109 L xs m d k x1 x2 x3 x4 0 g r)
theorem b99_108 (L : Nat) (xs : Nat → Int32) (m d k : Nat) (n : Nat) (x1 x2 x3 x4 : Int32) (g : a2_G) (r : a2_A) : bk L xs 99 nm_m99 m d k (n + 2) 108 [some (.ref 1), some (.int x1), some (.int x2), some (.int x3), some (.int x4)] [] g r = B99_108 L xs m d k x1 x2 x3 x4 g r := by
  show _ = ((B99_109 L xs m d k x1 x2 x3 x4 0 g r) : Option fn_Z)
  refine (fs_r (n := n + 1) 1 (pc' := 109) (L' := [some (.ref 1), some (.int x1), some (.int x2), some (.int x3), some (.int x4)]) (S' := [.int 0]) rfl).trans ?_
  exact b99_109 L xs m d k (n + 0) x1 x2 x3 x4 0 g r
def B99_104 (L : Nat) (xs : Nat → Int32) (m d k : Nat) (x1 x2 x3 x4 : Int32) (g : a2_G) (r : a2_A) : Option fn_Z := (B99_109 L xs m d k x1 x2 x3 x4 1 g r)
theorem b99_104 (L : Nat) (xs : Nat → Int32) (m d k : Nat) (n : Nat) (x1 x2 x3 x4 : Int32) (g : a2_G) (r : a2_A) : bk L xs 99 nm_m99 m d k (n + 3) 104 [some (.ref 1), some (.int x1), some (.int x2), some (.int x3), some (.int x4)] [] g r = B99_104 L xs m d k x1 x2 x3 x4 g r := by
  show _ = ((B99_109 L xs m d k x1 x2 x3 x4 1 g r) : Option fn_Z)
  refine (fs_r (n := n + 2) 1 (pc' := 105) (L' := [some (.ref 1), some (.int x1), some (.int x2), some (.int x3), some (.int x4)]) (S' := [.int 1]) rfl).trans ?_
  refine (fs_go (n := n + 1) rfl (t := 109) rfl (by decide)).trans ?_
  exact b99_109 L xs m d k (n + 0) x1 x2 x3 x4 1 g r
def B99_90 (L : Nat) (xs : Nat → Int32) (m d k : Nat) (x1 x2 x3 x4 : Int32) (g : a2_G) (r : a2_A) : Option fn_Z := (if am_inr x2 (r 100).1 = true then (if am_c2 .ne ((r 100).2 (x2 : Int32).toNatClampNeg) 0 = true then (B99_108 L xs m d k x1 x2 x3 x4 g r) else (if am_c2 .eq x4 0 = true then (B99_108 L xs m d k x1 x2 x3 x4 g r) else (B99_104 L xs m d k x1 x2 x3 x4 g r))) else none)
theorem b99_90 (L : Nat) (xs : Nat → Int32) (m d k : Nat) (n : Nat) (x1 x2 x3 x4 : Int32) (g : a2_G) (r : a2_A) : bk L xs 99 nm_m99 m d k (n + 10) 90 [some (.ref 1), some (.int x1), some (.int x2), some (.int x3), some (.int x4)] [] g r = B99_90 L xs m d k x1 x2 x3 x4 g r := by
  show _ = ((if am_inr x2 (r 100).1 = true then (if am_c2 .ne ((r 100).2 (x2 : Int32).toNatClampNeg) 0 = true then (B99_108 L xs m d k x1 x2 x3 x4 g r) else (if am_c2 .eq x4 0 = true then (B99_108 L xs m d k x1 x2 x3 x4 g r) else (B99_104 L xs m d k x1 x2 x3 x4 g r))) else none) : Option fn_Z)
  refine (fs_r (n := n + 7) 3 (pc' := 95) (L' := [some (.ref 1), some (.int x1), some (.int x2), some (.int x3), some (.int x4)]) (S' := [.int x2, .ref 10100]) rfl).trans ?_
  refine (fs_il (n := n + 6) (k := 100) rfl rfl).trans (fs_ite ?_ rfl)
  refine (fs_i (n := n + 5) rfl (t := 108) rfl (by decide)).trans (fs_ite ?_ ?_)
  · skip
    exact b99_108 L xs m d k (n + 3) x1 x2 x3 x4 g r
  · skip
    refine (fs_r (n := n + 4) 1 (pc' := 101) (L' := [some (.ref 1), some (.int x1), some (.int x2), some (.int x3), some (.int x4)]) (S' := [.int x4]) rfl).trans ?_
    refine (fs_i (n := n + 3) rfl (t := 108) rfl (by decide)).trans (fs_ite ?_ ?_)
    · skip
      exact b99_108 L xs m d k (n + 1) x1 x2 x3 x4 g r
    · skip
      exact b99_104 L xs m d k (n + 0) x1 x2 x3 x4 g r
def B99_74 (L : Nat) (xs : Nat → Int32) (m d k : Nat) (x1 x2 x3 x4 : Int32) (g : a2_G) (r : a2_A) : Option fn_Z := (if am_inr x2 (r 100).1 = true then (if am_c2 .ne ((r 100).2 (x2 : Int32).toNatClampNeg) 5 = true then (B99_90 L xs m d k x1 x2 x3 x4 g r) else (if am_c2 .ne x3 0 = true then (B99_104 L xs m d k x1 x2 x3 x4 g r) else (B99_90 L xs m d k x1 x2 x3 x4 g r))) else none)
theorem b99_74 (L : Nat) (xs : Nat → Int32) (m d k : Nat) (n : Nat) (x1 x2 x3 x4 : Int32) (g : a2_G) (r : a2_A) : bk L xs 99 nm_m99 m d k (n + 19) 74 [some (.ref 1), some (.int x1), some (.int x2), some (.int x3), none] [.int x4] g r = B99_74 L xs m d k x1 x2 x3 x4 g r := by
  show _ = ((if am_inr x2 (r 100).1 = true then (if am_c2 .ne ((r 100).2 (x2 : Int32).toNatClampNeg) 5 = true then (B99_90 L xs m d k x1 x2 x3 x4 g r) else (if am_c2 .ne x3 0 = true then (B99_104 L xs m d k x1 x2 x3 x4 g r) else (B99_90 L xs m d k x1 x2 x3 x4 g r))) else none) : Option fn_Z)
  refine (fs_r (n := n + 15) 4 (pc' := 81) (L' := [some (.ref 1), some (.int x1), some (.int x2), some (.int x3), some (.int x4)]) (S' := [.int x2, .ref 10100]) rfl).trans ?_
  refine (fs_il (n := n + 14) (k := 100) rfl rfl).trans (fs_ite ?_ rfl)
  refine (fs_r (n := n + 13) 1 (pc' := 83) (L' := [some (.ref 1), some (.int x1), some (.int x2), some (.int x3), some (.int x4)]) (S' := [.int 5, .int ((r 100).2 (x2 : Int32).toNatClampNeg)]) rfl).trans ?_
  refine (fs_j (n := n + 12) rfl (t := 90) rfl (by decide)).trans (fs_ite ?_ ?_)
  · skip
    exact b99_90 L xs m d k (n + 2) x1 x2 x3 x4 g r
  · skip
    refine (fs_r (n := n + 11) 1 (pc' := 87) (L' := [some (.ref 1), some (.int x1), some (.int x2), some (.int x3), some (.int x4)]) (S' := [.int x3]) rfl).trans ?_
    refine (fs_i (n := n + 10) rfl (t := 104) rfl (by decide)).trans (fs_ite ?_ ?_)
    · skip
      exact b99_104 L xs m d k (n + 7) x1 x2 x3 x4 g r
    · skip
      exact b99_90 L xs m d k (n + 0) x1 x2 x3 x4 g r
def B99_73 (L : Nat) (xs : Nat → Int32) (m d k : Nat) (x1 x2 x3 : Int32) (g : a2_G) (r : a2_A) : Option fn_Z := (B99_74 L xs m d k x1 x2 x3 0 g r)
theorem b99_73 (L : Nat) (xs : Nat → Int32) (m d k : Nat) (n : Nat) (x1 x2 x3 : Int32) (g : a2_G) (r : a2_A) : bk L xs 99 nm_m99 m d k (n + 20) 73 [some (.ref 1), some (.int x1), some (.int x2), some (.int x3), none] [] g r = B99_73 L xs m d k x1 x2 x3 g r := by
  show _ = ((B99_74 L xs m d k x1 x2 x3 0 g r) : Option fn_Z)
  refine (fs_r (n := n + 19) 1 (pc' := 74) (L' := [some (.ref 1), some (.int x1), some (.int x2), some (.int x3), none]) (S' := [.int 0]) rfl).trans ?_
  exact b99_74 L xs m d k (n + 0) x1 x2 x3 0 g r
def B99_46 (L : Nat) (xs : Nat → Int32) (m d k : Nat) (x1 x2 x3 : Int32) (g : a2_G) (r : a2_A) : Option fn_Z := (if am_inr x2 (r 101).1 = true then (if am_c2 .lt ((r 101).2 (x2 : Int32).toNatClampNeg) 68 = true then (B99_73 L xs m d k x1 x2 x3 g r) else (if am_inr x2 (r 101).1 = true then (if am_c2 .gt ((r 101).2 (x2 : Int32).toNatClampNeg) 70 = true then (B99_73 L xs m d k x1 x2 x3 g r) else (B99_74 L xs m d k x1 x2 x3 1 g r)) else none)) else none)
theorem b99_46 (L : Nat) (xs : Nat → Int32) (m d k : Nat) (n : Nat) (x1 x2 x3 : Int32) (g : a2_G) (r : a2_A) : bk L xs 99 nm_m99 m d k (n + 34) 46 [some (.ref 1), some (.int x1), some (.int x2), none, none] [.int x3] g r = B99_46 L xs m d k x1 x2 x3 g r := by
  show _ = ((if am_inr x2 (r 101).1 = true then (if am_c2 .lt ((r 101).2 (x2 : Int32).toNatClampNeg) 68 = true then (B99_73 L xs m d k x1 x2 x3 g r) else (if am_inr x2 (r 101).1 = true then (if am_c2 .gt ((r 101).2 (x2 : Int32).toNatClampNeg) 70 = true then (B99_73 L xs m d k x1 x2 x3 g r) else (B99_74 L xs m d k x1 x2 x3 1 g r)) else none)) else none) : Option fn_Z)
  refine (fs_r (n := n + 30) 4 (pc' := 52) (L' := [some (.ref 1), some (.int x1), some (.int x2), some (.int x3), none]) (S' := [.int x2, .ref 10101]) rfl).trans ?_
  refine (fs_il (n := n + 29) (k := 101) rfl rfl).trans (fs_ite ?_ rfl)
  refine (fs_r (n := n + 28) 1 (pc' := 55) (L' := [some (.ref 1), some (.int x1), some (.int x2), some (.int x3), none]) (S' := [.int 68, .int ((r 101).2 (x2 : Int32).toNatClampNeg)]) rfl).trans ?_
  refine (fs_j (n := n + 27) rfl (t := 73) rfl (by decide)).trans (fs_ite ?_ ?_)
  · skip
    exact b99_73 L xs m d k (n + 7) x1 x2 x3 g r
  · skip
    refine (fs_r (n := n + 24) 3 (pc' := 63) (L' := [some (.ref 1), some (.int x1), some (.int x2), some (.int x3), none]) (S' := [.int x2, .ref 10101]) rfl).trans ?_
    refine (fs_il (n := n + 23) (k := 101) rfl rfl).trans (fs_ite ?_ rfl)
    refine (fs_r (n := n + 22) 1 (pc' := 66) (L' := [some (.ref 1), some (.int x1), some (.int x2), some (.int x3), none]) (S' := [.int 70, .int ((r 101).2 (x2 : Int32).toNatClampNeg)]) rfl).trans ?_
    refine (fs_j (n := n + 21) rfl (t := 73) rfl (by decide)).trans (fs_ite ?_ ?_)
    · skip
      exact b99_73 L xs m d k (n + 1) x1 x2 x3 g r
    · skip
      refine (fs_r (n := n + 20) 1 (pc' := 70) (L' := [some (.ref 1), some (.int x1), some (.int x2), some (.int x3), none]) (S' := [.int 1]) rfl).trans ?_
      refine (fs_go (n := n + 19) rfl (t := 74) rfl (by decide)).trans ?_
      exact b99_74 L xs m d k (n + 0) x1 x2 x3 1 g r
def B99_45 (L : Nat) (xs : Nat → Int32) (m d k : Nat) (x1 x2 : Int32) (g : a2_G) (r : a2_A) : Option fn_Z := (B99_46 L xs m d k x1 x2 0 g r)
theorem b99_45 (L : Nat) (xs : Nat → Int32) (m d k : Nat) (n : Nat) (x1 x2 : Int32) (g : a2_G) (r : a2_A) : bk L xs 99 nm_m99 m d k (n + 35) 45 [some (.ref 1), some (.int x1), some (.int x2), none, none] [] g r = B99_45 L xs m d k x1 x2 g r := by
  show _ = ((B99_46 L xs m d k x1 x2 0 g r) : Option fn_Z)
  refine (fs_r (n := n + 34) 1 (pc' := 46) (L' := [some (.ref 1), some (.int x1), some (.int x2), none, none]) (S' := [.int 0]) rfl).trans ?_
  exact b99_46 L xs m d k (n + 0) x1 x2 0 g r
theorem e99 (L : Nat) (xs : Nat → Int32) (m d k : Nat) (n : Nat) (a1 : Int32) (g : a2_G) (r : a2_A) : bk L xs 99 nm_m99 m d k (n + 59) 0 [some (.ref 1), some (.int a1), none, none, none] [] g r = (if am_c2 .lt ((g 103) + a1) 0 = true then (B99_19 L xs m d k a1 ((g 103) + a1) g r) else (if am_c2 .lt ((g 103) + a1) (g 102) = true then (if am_inr ((g 103) + a1) (r 101).1 = true then (if am_c2 .lt ((r 101).2 (((g 103) + a1) : Int32).toNatClampNeg) 2 = true then (B99_45 L xs m d k a1 ((g 103) + a1) g r) else (if am_inr ((g 103) + a1) (r 101).1 = true then (if am_c2 .gt ((r 101).2 (((g 103) + a1) : Int32).toNatClampNeg) 4 = true then (B99_45 L xs m d k a1 ((g 103) + a1) g r) else (B99_46 L xs m d k a1 ((g 103) + a1) 1 g r)) else none)) else none) else (B99_19 L xs m d k a1 ((g 103) + a1) g r))) := by
  refine (fs_r (n := n + 53) 6 (pc' := 8) (L' := [some (.ref 1), some (.int a1), some (.int ((g 103) + a1)), none, none]) (S' := [.int ((g 103) + a1)]) rfl).trans ?_
  refine (fs_i (n := n + 52) rfl (t := 19) rfl (by decide)).trans (fs_ite ?_ ?_)
  · skip
    exact b99_19 L xs m d k (n + 50) a1 ((g 103) + a1) g r
  · skip
    refine (fs_r (n := n + 49) 3 (pc' := 16) (L' := [some (.ref 1), some (.int a1), some (.int ((g 103) + a1)), none, none]) (S' := [.int (g 102), .int ((g 103) + a1)]) rfl).trans ?_
    refine (fs_j (n := n + 48) rfl (t := 21) rfl (by decide)).trans (fs_ite ?_ ?_)
    · skip
      refine (fs_r (n := n + 45) 3 (pc' := 26) (L' := [some (.ref 1), some (.int a1), some (.int ((g 103) + a1)), none, none]) (S' := [.int ((g 103) + a1), .ref 10101]) rfl).trans ?_
      refine (fs_il (n := n + 44) (k := 101) rfl rfl).trans (fs_ite ?_ rfl)
      refine (fs_r (n := n + 43) 1 (pc' := 28) (L' := [some (.ref 1), some (.int a1), some (.int ((g 103) + a1)), none, none]) (S' := [.int 2, .int ((r 101).2 (((g 103) + a1) : Int32).toNatClampNeg)]) rfl).trans ?_
      refine (fs_j (n := n + 42) rfl (t := 45) rfl (by decide)).trans (fs_ite ?_ ?_)
      · skip
        exact b99_45 L xs m d k (n + 7) a1 ((g 103) + a1) g r
      · skip
        refine (fs_r (n := n + 39) 3 (pc' := 36) (L' := [some (.ref 1), some (.int a1), some (.int ((g 103) + a1)), none, none]) (S' := [.int ((g 103) + a1), .ref 10101]) rfl).trans ?_
        refine (fs_il (n := n + 38) (k := 101) rfl rfl).trans (fs_ite ?_ rfl)
        refine (fs_r (n := n + 37) 1 (pc' := 38) (L' := [some (.ref 1), some (.int a1), some (.int ((g 103) + a1)), none, none]) (S' := [.int 4, .int ((r 101).2 (((g 103) + a1) : Int32).toNatClampNeg)]) rfl).trans ?_
        refine (fs_j (n := n + 36) rfl (t := 45) rfl (by decide)).trans (fs_ite ?_ ?_)
        · skip
          exact b99_45 L xs m d k (n + 1) a1 ((g 103) + a1) g r
        · skip
          refine (fs_r (n := n + 35) 1 (pc' := 42) (L' := [some (.ref 1), some (.int a1), some (.int ((g 103) + a1)), none, none]) (S' := [.int 1]) rfl).trans ?_
          refine (fs_go (n := n + 34) rfl (t := 46) rfl (by decide)).trans ?_
          exact b99_46 L xs m d k (n + 0) a1 ((g 103) + a1) 1 g r
    · skip
      exact b99_19 L xs m d k (n + 46) a1 ((g 103) + a1) g r
theorem q99 (L : Nat) (xs : Nat → Int32) (m d : Nat) (a1 : Int32) (g : a2_G) (r : a2_A) : ev L xs (m + 1) (d + 1) 99 [.ref 1, .int a1] g r = (if am_c2 .lt ((g 103) + a1) 0 = true then (B99_19 L xs (m + 1) d m a1 ((g 103) + a1) g r) else (if am_c2 .lt ((g 103) + a1) (g 102) = true then (if am_inr ((g 103) + a1) (r 101).1 = true then (if am_c2 .lt ((r 101).2 (((g 103) + a1) : Int32).toNatClampNeg) 2 = true then (B99_45 L xs (m + 1) d m a1 ((g 103) + a1) g r) else (if am_inr ((g 103) + a1) (r 101).1 = true then (if am_c2 .gt ((r 101).2 (((g 103) + a1) : Int32).toNatClampNeg) 4 = true then (B99_45 L xs (m + 1) d m a1 ((g 103) + a1) g r) else (B99_46 L xs (m + 1) d m a1 ((g 103) + a1) 1 g r)) else none)) else none) else (B99_19 L xs (m + 1) d m a1 ((g 103) + a1) g r))) := (fs_ev (M := nm_m99) rfl rfl).trans (e99 L xs (m + 1) d m 841 a1 g r)
/-- CobolParser$Expressions.goDeeper(I)V -/
def B100_14 (L : Nat) (xs : Nat → Int32) (m d k : Nat) (x1 : Int32) (g : a2_G) (r : a2_A) : Option fn_Z := (fn_n (ev L xs m d 61 [.ref 1] g r) fun g1 r2 => (some (.inl none, g1, r2)))
theorem b100_14 (L : Nat) (xs : Nat → Int32) (m d k : Nat) (n : Nat) (x1 : Int32) (g : a2_G) (r : a2_A) : bk L xs 100 nm_m100 m d k (n + 4) 14 [some (.ref 5), some (.int x1)] [] g r = B100_14 L xs m d k x1 g r := by
  show _ = ((fn_n (ev L xs m d 61 [.ref 1] g r) fun g1 r2 => (some (.inl none, g1, r2))) : Option fn_Z)
  refine (fs_r (n := n + 2) 2 (pc' := 18) (L' := [some (.ref 5), some (.int x1)]) (S' := [.ref 1]) rfl).trans ?_
  refine (fs_cn (n := n + 1) (N := nm_m61) (as := [.ref 1]) (rest := []) rfl rfl (Or.inl rfl) rfl rfl rfl rfl rfl).trans (fs_fn fun g1 r2 => ?_)
  exact (fs_rv (n := n + 0) rfl rfl).trans rfl
theorem e100 (L : Nat) (xs : Nat → Int32) (m d k : Nat) (n : Nat) (a1 : Int32) (g : a2_G) (r : a2_A) : bk L xs 100 nm_m100 m d k (n + 11) 0 [some (.ref 5), some (.int a1)] [] g r = (if am_c2 .le a1 40 = true then (B100_14 L xs m d k a1 g r) else (fn_n (ev L xs m d 56 [.ref 1, .int 3] g r) fun g3 r4 => (B100_14 L xs m d k a1 g3 r4))) := by
  refine (fs_r (n := n + 9) 2 (pc' := 3) (L' := [some (.ref 5), some (.int a1)]) (S' := [.int 40, .int a1]) rfl).trans ?_
  refine (fs_j (n := n + 8) rfl (t := 14) rfl (by decide)).trans (fs_ite ?_ ?_)
  · skip
    exact b100_14 L xs m d k (n + 4) a1 g r
  · skip
    refine (fs_r (n := n + 5) 3 (pc' := 11) (L' := [some (.ref 5), some (.int a1)]) (S' := [.int 3, .ref 1]) rfl).trans ?_
    refine (fs_cn (n := n + 4) (N := nm_m56) (as := [.ref 1, .int 3]) (rest := []) rfl rfl (Or.inl rfl) rfl rfl rfl rfl rfl).trans (fs_fn fun g3 r4 => ?_)
    exact b100_14 L xs m d k (n + 0) a1 g3 r4
theorem q100 (L : Nat) (xs : Nat → Int32) (m d : Nat) (a1 : Int32) (g : a2_G) (r : a2_A) : ev L xs (m + 1) (d + 1) 100 [.ref 5, .int a1] g r = (if am_c2 .le a1 40 = true then (B100_14 L xs (m + 1) d m a1 g r) else (fn_n (ev L xs (m + 1) d 56 [.ref 1, .int 3] g r) fun g3 r4 => (B100_14 L xs (m + 1) d m a1 g3 r4))) := (fs_ev (M := nm_m100) rfl rfl).trans (e100 L xs (m + 1) d m 889 a1 g r)
/-- CobolParser$Row.isSign(II)Z -/
def B101_44 (L : Nat) (xs : Nat → Int32) (m d k : Nat) (x1 x2 x3 x4 : Int32) (g : a2_G) (r : a2_A) : Option fn_Z := (if x4 = 0 ∨ x4 = 1 then some (.inl (some (.int x4)), g, r) else none)
theorem b101_44 (L : Nat) (xs : Nat → Int32) (m d k : Nat) (n : Nat) (x1 x2 x3 x4 : Int32) (g : a2_G) (r : a2_A) : bk L xs 101 nm_m101 m d k (n + 1) 44 [some (.ref 1), some (.int x1), some (.int x2), some (.int x3)] [.int x4] g r = B101_44 L xs m d k x1 x2 x3 x4 g r := by
  show _ = ((if x4 = 0 ∨ x4 = 1 then some (.inl (some (.int x4)), g, r) else none) : Option fn_Z)
  exact (fs_rb (n := n + 0) rfl rfl).trans rfl
def B101_43 (L : Nat) (xs : Nat → Int32) (m d k : Nat) (x1 x2 x3 : Int32) (g : a2_G) (r : a2_A) : Option fn_Z := (B101_44 L xs m d k x1 x2 x3 0 g r)
theorem b101_43 (L : Nat) (xs : Nat → Int32) (m d k : Nat) (n : Nat) (x1 x2 x3 : Int32) (g : a2_G) (r : a2_A) : bk L xs 101 nm_m101 m d k (n + 2) 43 [some (.ref 1), some (.int x1), some (.int x2), some (.int x3)] [] g r = B101_43 L xs m d k x1 x2 x3 g r := by
  show _ = ((B101_44 L xs m d k x1 x2 x3 0 g r) : Option fn_Z)
  refine (fs_r (n := n + 1) 1 (pc' := 44) (L' := [some (.ref 1), some (.int x1), some (.int x2), some (.int x3)]) (S' := [.int 0]) rfl).trans ?_
  exact b101_44 L xs m d k (n + 0) x1 x2 x3 0 g r
theorem e101 (L : Nat) (xs : Nat → Int32) (m d k : Nat) (n : Nat) (a1 a2 : Int32) (g : a2_G) (r : a2_A) : bk L xs 101 nm_m101 m d k (n + 26) 0 [some (.ref 1), some (.int a1), some (.int a2), none] [] g r = (if am_c2 .lt ((g 103) + a2) 0 = true then (B101_43 L xs m d k a1 a2 ((g 103) + a2) g r) else (if am_c2 .ge ((g 103) + a2) (g 102) = true then (B101_43 L xs m d k a1 a2 ((g 103) + a2) g r) else (if am_inr ((g 103) + a2) (r 100).1 = true then (if am_c2 .ne ((r 100).2 (((g 103) + a2) : Int32).toNatClampNeg) 5 = true then (B101_43 L xs m d k a1 a2 ((g 103) + a2) g r) else (if am_inr ((g 103) + a2) (r 101).1 = true then (if am_c2 .ne ((r 101).2 (((g 103) + a2) : Int32).toNatClampNeg) a1 = true then (B101_43 L xs m d k a1 a2 ((g 103) + a2) g r) else (B101_44 L xs m d k a1 a2 ((g 103) + a2) 1 g r)) else none)) else none))) := by
  refine (fs_r (n := n + 20) 6 (pc' := 8) (L' := [some (.ref 1), some (.int a1), some (.int a2), some (.int ((g 103) + a2))]) (S' := [.int ((g 103) + a2)]) rfl).trans ?_
  refine (fs_i (n := n + 19) rfl (t := 43) rfl (by decide)).trans (fs_ite ?_ ?_)
  · skip
    exact b101_43 L xs m d k (n + 17) a1 a2 ((g 103) + a2) g r
  · skip
    refine (fs_r (n := n + 16) 3 (pc' := 16) (L' := [some (.ref 1), some (.int a1), some (.int a2), some (.int ((g 103) + a2))]) (S' := [.int (g 102), .int ((g 103) + a2)]) rfl).trans ?_
    refine (fs_j (n := n + 15) rfl (t := 43) rfl (by decide)).trans (fs_ite ?_ ?_)
    · skip
      exact b101_43 L xs m d k (n + 13) a1 a2 ((g 103) + a2) g r
    · skip
      refine (fs_r (n := n + 12) 3 (pc' := 24) (L' := [some (.ref 1), some (.int a1), some (.int a2), some (.int ((g 103) + a2))]) (S' := [.int ((g 103) + a2), .ref 10100]) rfl).trans ?_
      refine (fs_il (n := n + 11) (k := 100) rfl rfl).trans (fs_ite ?_ rfl)
      refine (fs_r (n := n + 10) 1 (pc' := 26) (L' := [some (.ref 1), some (.int a1), some (.int a2), some (.int ((g 103) + a2))]) (S' := [.int 5, .int ((r 100).2 (((g 103) + a2) : Int32).toNatClampNeg)]) rfl).trans ?_
      refine (fs_j (n := n + 9) rfl (t := 43) rfl (by decide)).trans (fs_ite ?_ ?_)
      · skip
        exact b101_43 L xs m d k (n + 7) a1 a2 ((g 103) + a2) g r
      · skip
        refine (fs_r (n := n + 6) 3 (pc' := 34) (L' := [some (.ref 1), some (.int a1), some (.int a2), some (.int ((g 103) + a2))]) (S' := [.int ((g 103) + a2), .ref 10101]) rfl).trans ?_
        refine (fs_il (n := n + 5) (k := 101) rfl rfl).trans (fs_ite ?_ rfl)
        refine (fs_r (n := n + 4) 1 (pc' := 36) (L' := [some (.ref 1), some (.int a1), some (.int a2), some (.int ((g 103) + a2))]) (S' := [.int a1, .int ((r 101).2 (((g 103) + a2) : Int32).toNatClampNeg)]) rfl).trans ?_
        refine (fs_j (n := n + 3) rfl (t := 43) rfl (by decide)).trans (fs_ite ?_ ?_)
        · skip
          exact b101_43 L xs m d k (n + 1) a1 a2 ((g 103) + a2) g r
        · skip
          refine (fs_r (n := n + 2) 1 (pc' := 40) (L' := [some (.ref 1), some (.int a1), some (.int a2), some (.int ((g 103) + a2))]) (S' := [.int 1]) rfl).trans ?_
          refine (fs_go (n := n + 1) rfl (t := 44) rfl (by decide)).trans ?_
          exact b101_44 L xs m d k (n + 0) a1 a2 ((g 103) + a2) 1 g r
theorem q101 (L : Nat) (xs : Nat → Int32) (m d : Nat) (a1 a2 : Int32) (g : a2_G) (r : a2_A) : ev L xs (m + 1) (d + 1) 101 [.ref 1, .int a1, .int a2] g r = (if am_c2 .lt ((g 103) + a2) 0 = true then (B101_43 L xs (m + 1) d m a1 a2 ((g 103) + a2) g r) else (if am_c2 .ge ((g 103) + a2) (g 102) = true then (B101_43 L xs (m + 1) d m a1 a2 ((g 103) + a2) g r) else (if am_inr ((g 103) + a2) (r 100).1 = true then (if am_c2 .ne ((r 100).2 (((g 103) + a2) : Int32).toNatClampNeg) 5 = true then (B101_43 L xs (m + 1) d m a1 a2 ((g 103) + a2) g r) else (if am_inr ((g 103) + a2) (r 101).1 = true then (if am_c2 .ne ((r 101).2 (((g 103) + a2) : Int32).toNatClampNeg) a1 = true then (B101_43 L xs (m + 1) d m a1 a2 ((g 103) + a2) g r) else (B101_44 L xs (m + 1) d m a1 a2 ((g 103) + a2) 1 g r)) else none)) else none))) := (fs_ev (M := nm_m101) rfl rfl).trans (e101 L xs (m + 1) d m 874 a1 a2 g r)
/-- CobolParser$Row.requireSign(I)V -/
def B102_14 (L : Nat) (xs : Nat → Int32) (m d k : Nat) (x1 : Int32) (g : a2_G) (r : a2_A) : Option fn_Z := (fn_n (ev L xs m d 61 [.ref 1] g r) fun g4 r5 => (some (.inl none, g4, r5)))
theorem b102_14 (L : Nat) (xs : Nat → Int32) (m d k : Nat) (n : Nat) (x1 : Int32) (g : a2_G) (r : a2_A) : bk L xs 102 nm_m102 m d k (n + 3) 14 [some (.ref 1), some (.int x1)] [] g r = B102_14 L xs m d k x1 g r := by
  show _ = ((fn_n (ev L xs m d 61 [.ref 1] g r) fun g4 r5 => (some (.inl none, g4, r5))) : Option fn_Z)
  refine (fs_r (n := n + 2) 1 (pc' := 15) (L' := [some (.ref 1), some (.int x1)]) (S' := [.ref 1]) rfl).trans ?_
  refine (fs_cn (n := n + 1) (N := nm_m61) (as := [.ref 1]) (rest := []) rfl rfl (Or.inl rfl) rfl rfl rfl rfl rfl).trans (fs_fn fun g4 r5 => ?_)
  exact (fs_rv (n := n + 0) rfl rfl).trans rfl
theorem e102 (L : Nat) (xs : Nat → Int32) (m d k : Nat) (n : Nat) (a1 : Int32) (g : a2_G) (r : a2_A) : bk L xs 102 nm_m102 m d k (n + 11) 0 [some (.ref 1), some (.int a1)] [] g r = (fn_v (ev L xs m d 101 [.ref 1, .int a1, .int 0] g r) fun v3 g1 r2 => (if am_c2 .ne v3 0 = true then (B102_14 L xs m d k a1 g1 r2) else (fn_n (ev L xs m d 56 [.ref 1, .int 1] g1 r2) fun g6 r7 => (B102_14 L xs m d k a1 g6 r7)))) := by
  refine (fs_r (n := n + 8) 3 (pc' := 3) (L' := [some (.ref 1), some (.int a1)]) (S' := [.int 0, .int a1, .ref 1]) rfl).trans ?_
  refine (fs_cv (n := n + 7) (N := nm_m101) (as := [.ref 1, .int a1, .int 0]) (rest := []) rfl rfl (Or.inl rfl) rfl rfl rfl rfl rfl).trans (fs_fv fun v3 g1 r2 => ?_)
  refine (fs_i (n := n + 6) rfl (t := 14) rfl (by decide)).trans (fs_ite ?_ ?_)
  · skip
    exact b102_14 L xs m d k (n + 3) a1 g1 r2
  · skip
    refine (fs_r (n := n + 4) 2 (pc' := 11) (L' := [some (.ref 1), some (.int a1)]) (S' := [.int 1, .ref 1]) rfl).trans ?_
    refine (fs_cn (n := n + 3) (N := nm_m56) (as := [.ref 1, .int 1]) (rest := []) rfl rfl (Or.inl rfl) rfl rfl rfl rfl rfl).trans (fs_fn fun g6 r7 => ?_)
    exact b102_14 L xs m d k (n + 0) a1 g6 r7
theorem q102 (L : Nat) (xs : Nat → Int32) (m d : Nat) (a1 : Int32) (g : a2_G) (r : a2_A) : ev L xs (m + 1) (d + 1) 102 [.ref 1, .int a1] g r = (fn_v (ev L xs (m + 1) d 101 [.ref 1, .int a1, .int 0] g r) fun v3 g1 r2 => (if am_c2 .ne v3 0 = true then (B102_14 L xs (m + 1) d m a1 g1 r2) else (fn_n (ev L xs (m + 1) d 56 [.ref 1, .int 1] g1 r2) fun g6 r7 => (B102_14 L xs (m + 1) d m a1 g6 r7)))) := (fs_ev (M := nm_m102) rfl rfl).trans (e102 L xs (m + 1) d m 889 a1 g r)
/-- CobolParser$Expressions.relation()I -/
def B103_134 (L : Nat) (xs : Nat → Int32) (m d k : Nat) (x1 x2 x3 x4 : Int32) (g : a2_G) (r : a2_A) : Option fn_Z := (fn_v (ev L xs m d 75 [.ref 3] g r) fun v20 g18 r19 => (fn_n (ev L xs m d 63 [.ref 2, .int x4, .int v20] g18 r19) fun g21 r22 => (some (.inl (some (.int x4)), g21, r22))))
theorem b103_134 (L : Nat) (xs : Nat → Int32) (m d k : Nat) (n : Nat) (x1 x2 x3 x4 : Int32) (g : a2_G) (r : a2_A) : bk L xs 103 nm_m103 m d k (n + 9) 134 [some (.ref 5), some (.int x1), some (.int x2), some (.int x3), some (.int x4)] [] g r = B103_134 L xs m d k x1 x2 x3 x4 g r := by
  show _ = ((fn_v (ev L xs m d 75 [.ref 3] g r) fun v20 g18 r19 => (fn_n (ev L xs m d 63 [.ref 2, .int x4, .int v20] g18 r19) fun g21 r22 => (some (.inl (some (.int x4)), g21, r22)))) : Option fn_Z)
  refine (fs_r (n := n + 4) 5 (pc' := 144) (L' := [some (.ref 5), some (.int x1), some (.int x2), some (.int x3), some (.int x4)]) (S' := [.ref 3, .int x4, .ref 2]) rfl).trans ?_
  refine (fs_cv (n := n + 3) (N := nm_m75) (as := [.ref 3]) (rest := [.int x4, .ref 2]) rfl rfl (Or.inl rfl) rfl rfl rfl rfl rfl).trans (fs_fv fun v20 g18 r19 => ?_)
  refine (fs_cn (n := n + 2) (N := nm_m63) (as := [.ref 2, .int x4, .int v20]) (rest := []) rfl rfl (Or.inl rfl) rfl rfl rfl rfl rfl).trans (fs_fn fun g21 r22 => ?_)
  refine (fs_r (n := n + 1) 1 (pc' := 152) (L' := [some (.ref 5), some (.int x1), some (.int x2), some (.int x3), some (.int x4)]) (S' := [.int x4]) rfl).trans ?_
  exact (fs_ri (n := n + 0) rfl rfl).trans rfl
def B103_87 (L : Nat) (xs : Nat → Int32) (m d k : Nat) (x1 x2 x3 : Int32) (g : a2_G) (r : a2_A) : Option fn_Z := (fn_v (ev L xs m d 45 [.ref 2, .int 53, .int (g 504), .int x1] g r) fun v15 g13 r14 => (fn_n (ev L xs m d 69 [.ref 2, .int v15, .int 3, .int (g13 503)] g13 r14) fun g16 r17 => (if am_c2 .eq x2 0 = true then (B103_134 L xs m d k x1 x2 x3 v15 g16 r17) else (fn_n (ev L xs m d 63 [.ref 2, .int v15, .int (g16 503)] g16 r17) fun g23 r24 => (B103_134 L xs m d k x1 x2 x3 v15 g23 r24)))))
theorem b103_87 (L : Nat) (xs : Nat → Int32) (m d k : Nat) (n : Nat) (x1 x2 x3 : Int32) (g : a2_G) (r : a2_A) : bk L xs 103 nm_m103 m d k (n + 32) 87 [some (.ref 5), some (.int x1), some (.int x2), some (.int x3), none] [] g r = B103_87 L xs m d k x1 x2 x3 g r := by
  show _ = ((fn_v (ev L xs m d 45 [.ref 2, .int 53, .int (g 504), .int x1] g r) fun v15 g13 r14 => (fn_n (ev L xs m d 69 [.ref 2, .int v15, .int 3, .int (g13 503)] g13 r14) fun g16 r17 => (if am_c2 .eq x2 0 = true then (B103_134 L xs m d k x1 x2 x3 v15 g16 r17) else (fn_n (ev L xs m d 63 [.ref 2, .int v15, .int (g16 503)] g16 r17) fun g23 r24 => (B103_134 L xs m d k x1 x2 x3 v15 g23 r24))))) : Option fn_Z)
  refine (fs_r (n := n + 26) 6 (pc' := 98) (L' := [some (.ref 5), some (.int x1), some (.int x2), some (.int x3), none]) (S' := [.int x1, .int (g 504), .int 53, .ref 2]) rfl).trans ?_
  refine (fs_cv (n := n + 25) (N := nm_m45) (as := [.ref 2, .int 53, .int (g 504), .int x1]) (rest := []) rfl rfl (Or.inl rfl) rfl rfl rfl rfl rfl).trans (fs_fv fun v15 g13 r14 => ?_)
  refine (fs_r (n := n + 18) 7 (pc' := 114) (L' := [some (.ref 5), some (.int x1), some (.int x2), some (.int x3), some (.int v15)]) (S' := [.int (g13 503), .int 3, .int v15, .ref 2]) rfl).trans ?_
  refine (fs_cn (n := n + 17) (N := nm_m69) (as := [.ref 2, .int v15, .int 3, .int (g13 503)]) (rest := []) rfl rfl (Or.inl rfl) rfl rfl rfl rfl rfl).trans (fs_fn fun g16 r17 => ?_)
  refine (fs_r (n := n + 16) 1 (pc' := 118) (L' := [some (.ref 5), some (.int x1), some (.int x2), some (.int x3), some (.int v15)]) (S' := [.int x2]) rfl).trans ?_
  refine (fs_i (n := n + 15) rfl (t := 134) rfl (by decide)).trans (fs_ite ?_ ?_)
  · skip
    exact b103_134 L xs m d k (n + 6) x1 x2 x3 v15 g16 r17
  · skip
    refine (fs_r (n := n + 10) 5 (pc' := 131) (L' := [some (.ref 5), some (.int x1), some (.int x2), some (.int x3), some (.int v15)]) (S' := [.int (g16 503), .int v15, .ref 2]) rfl).trans ?_
    refine (fs_cn (n := n + 9) (N := nm_m63) (as := [.ref 2, .int v15, .int (g16 503)]) (rest := []) rfl rfl (Or.inl rfl) rfl rfl rfl rfl rfl).trans (fs_fn fun g23 r24 => ?_)
    exact b103_134 L xs m d k (n + 0) x1 x2 x3 v15 g23 r24
def B103_79 (L : Nat) (xs : Nat → Int32) (m d k : Nat) (x1 x2 x3 : Int32) (g : a2_G) (r : a2_A) : Option fn_Z := (fn_v (ev L xs m d 106 [.ref 5] g r) fun v12 g10 r11 => (B103_87 L xs m d k x1 x2 x3 (upd g10 504 v12) r11))
theorem b103_79 (L : Nat) (xs : Nat → Int32) (m d k : Nat) (n : Nat) (x1 x2 x3 : Int32) (g : a2_G) (r : a2_A) : bk L xs 103 nm_m103 m d k (n + 36) 79 [some (.ref 5), some (.int x1), some (.int x2), some (.int x3), none] [] g r = B103_79 L xs m d k x1 x2 x3 g r := by
  show _ = ((fn_v (ev L xs m d 106 [.ref 5] g r) fun v12 g10 r11 => (B103_87 L xs m d k x1 x2 x3 (upd g10 504 v12) r11)) : Option fn_Z)
  refine (fs_r (n := n + 34) 2 (pc' := 81) (L' := [some (.ref 5), some (.int x1), some (.int x2), some (.int x3), none]) (S' := [.ref 5, .ref 5]) rfl).trans ?_
  refine (fs_cv (n := n + 33) (N := nm_m106) (as := [.ref 5]) (rest := [.ref 5]) rfl rfl (Or.inl rfl) rfl rfl rfl rfl rfl).trans (fs_fv fun v12 g10 r11 => ?_)
  refine (fs_pf (n := n + 32) (ci := 5) (j := 4) rfl rfl rfl rfl).trans ?_
  exact b103_87 L xs m d k (n + 0) x1 x2 x3 (upd g10 504 v12) r11
def B103_71 (L : Nat) (xs : Nat → Int32) (m d k : Nat) (x1 x2 x3 : Int32) (g : a2_G) (r : a2_A) : Option fn_Z := (if am_c2 .ne x2 0 = true then (B103_79 L xs m d k x1 x2 x3 g r) else (if am_c2 .eq x3 0 = true then (B103_87 L xs m d k x1 x2 x3 g r) else (B103_79 L xs m d k x1 x2 x3 g r)))
theorem b103_71 (L : Nat) (xs : Nat → Int32) (m d k : Nat) (n : Nat) (x1 x2 x3 : Int32) (g : a2_G) (r : a2_A) : bk L xs 103 nm_m103 m d k (n + 40) 71 [some (.ref 5), some (.int x1), some (.int x2), some (.int x3), none] [] g r = B103_71 L xs m d k x1 x2 x3 g r := by
  show _ = ((if am_c2 .ne x2 0 = true then (B103_79 L xs m d k x1 x2 x3 g r) else (if am_c2 .eq x3 0 = true then (B103_87 L xs m d k x1 x2 x3 g r) else (B103_79 L xs m d k x1 x2 x3 g r))) : Option fn_Z)
  refine (fs_r (n := n + 39) 1 (pc' := 72) (L' := [some (.ref 5), some (.int x1), some (.int x2), some (.int x3), none]) (S' := [.int x2]) rfl).trans ?_
  refine (fs_i (n := n + 38) rfl (t := 79) rfl (by decide)).trans (fs_ite ?_ ?_)
  · skip
    exact b103_79 L xs m d k (n + 2) x1 x2 x3 g r
  · skip
    refine (fs_r (n := n + 37) 1 (pc' := 76) (L' := [some (.ref 5), some (.int x1), some (.int x2), some (.int x3), none]) (S' := [.int x3]) rfl).trans ?_
    refine (fs_i (n := n + 36) rfl (t := 87) rfl (by decide)).trans (fs_ite ?_ ?_)
    · skip
      exact b103_87 L xs m d k (n + 4) x1 x2 x3 g r
    · skip
      exact b103_79 L xs m d k (n + 0) x1 x2 x3 g r
def B103_56 (L : Nat) (xs : Nat → Int32) (m d k : Nat) (x1 x2 x3 : Int32) (g : a2_G) (r : a2_A) : Option fn_Z := (if am_c2 .eq x2 0 = true then (B103_71 L xs m d k x1 x2 x3 g r) else (fn_v (ev L xs m d 75 [.ref 3] g r) fun v27 g25 r26 => (B103_71 L xs m d k x1 x2 x3 (upd g25 503 v27) r26)))
theorem b103_56 (L : Nat) (xs : Nat → Int32) (m d k : Nat) (n : Nat) (x1 x2 x3 : Int32) (g : a2_G) (r : a2_A) : bk L xs 103 nm_m103 m d k (n + 47) 56 [some (.ref 5), some (.int x1), some (.int x2), some (.int x3), none] [] g r = B103_56 L xs m d k x1 x2 x3 g r := by
  show _ = ((if am_c2 .eq x2 0 = true then (B103_71 L xs m d k x1 x2 x3 g r) else (fn_v (ev L xs m d 75 [.ref 3] g r) fun v27 g25 r26 => (B103_71 L xs m d k x1 x2 x3 (upd g25 503 v27) r26))) : Option fn_Z)
  refine (fs_r (n := n + 46) 1 (pc' := 57) (L' := [some (.ref 5), some (.int x1), some (.int x2), some (.int x3), none]) (S' := [.int x2]) rfl).trans ?_
  refine (fs_i (n := n + 45) rfl (t := 71) rfl (by decide)).trans (fs_ite ?_ ?_)
  · skip
    exact b103_71 L xs m d k (n + 5) x1 x2 x3 g r
  · skip
    refine (fs_r (n := n + 42) 3 (pc' := 65) (L' := [some (.ref 5), some (.int x1), some (.int x2), some (.int x3), none]) (S' := [.ref 3, .ref 5]) rfl).trans ?_
    refine (fs_cv (n := n + 41) (N := nm_m75) (as := [.ref 3]) (rest := [.ref 5]) rfl rfl (Or.inl rfl) rfl rfl rfl rfl rfl).trans (fs_fv fun v27 g25 r26 => ?_)
    refine (fs_pf (n := n + 40) (ci := 5) (j := 3) rfl rfl rfl rfl).trans ?_
    exact b103_71 L xs m d k (n + 0) x1 x2 x3 (upd g25 503 v27) r26
def B103_31 (L : Nat) (xs : Nat → Int32) (m d k : Nat) (x1 x2 : Int32) (g : a2_G) (r : a2_A) : Option fn_Z := (fn_v (ev L xs m d 104 [.ref 5, .int 0] g r) fun v9 g7 r8 => (if am_c2 .ne x2 0 = true then (B103_56 L xs m d k x1 x2 v9 g7 r8) else (if am_c2 .ne (g7 503) (-1) = true then (B103_56 L xs m d k x1 x2 v9 g7 r8) else (fn_v (ev L xs m d 105 [.ref 5, .int x1] g7 r8) fun v30 g28 r29 => (some (.inl (some (.int v30)), g28, r29))))))
theorem b103_31 (L : Nat) (xs : Nat → Int32) (m d k : Nat) (n : Nat) (x1 x2 : Int32) (g : a2_G) (r : a2_A) : bk L xs 103 nm_m103 m d k (n + 58) 31 [some (.ref 5), some (.int x1), none, none, none] [.int x2] g r = B103_31 L xs m d k x1 x2 g r := by
  show _ = ((fn_v (ev L xs m d 104 [.ref 5, .int 0] g r) fun v9 g7 r8 => (if am_c2 .ne x2 0 = true then (B103_56 L xs m d k x1 x2 v9 g7 r8) else (if am_c2 .ne (g7 503) (-1) = true then (B103_56 L xs m d k x1 x2 v9 g7 r8) else (fn_v (ev L xs m d 105 [.ref 5, .int x1] g7 r8) fun v30 g28 r29 => (some (.inl (some (.int v30)), g28, r29)))))) : Option fn_Z)
  refine (fs_r (n := n + 55) 3 (pc' := 34) (L' := [some (.ref 5), some (.int x1), some (.int x2), none, none]) (S' := [.int 0, .ref 5]) rfl).trans ?_
  refine (fs_cv (n := n + 54) (N := nm_m104) (as := [.ref 5, .int 0]) (rest := []) rfl rfl (Or.inl rfl) rfl rfl rfl rfl rfl).trans (fs_fv fun v9 g7 r8 => ?_)
  refine (fs_r (n := n + 52) 2 (pc' := 39) (L' := [some (.ref 5), some (.int x1), some (.int x2), some (.int v9), none]) (S' := [.int x2]) rfl).trans ?_
  refine (fs_i (n := n + 51) rfl (t := 56) rfl (by decide)).trans (fs_ite ?_ ?_)
  · skip
    exact b103_56 L xs m d k (n + 4) x1 x2 v9 g7 r8
  · skip
    refine (fs_r (n := n + 48) 3 (pc' := 47) (L' := [some (.ref 5), some (.int x1), some (.int x2), some (.int v9), none]) (S' := [.int (-1), .int (g7 503)]) rfl).trans ?_
    refine (fs_j (n := n + 47) rfl (t := 56) rfl (by decide)).trans (fs_ite ?_ ?_)
    · skip
      exact b103_56 L xs m d k (n + 0) x1 x2 v9 g7 r8
    · skip
      refine (fs_r (n := n + 45) 2 (pc' := 52) (L' := [some (.ref 5), some (.int x1), some (.int x2), some (.int v9), none]) (S' := [.int x1, .ref 5]) rfl).trans ?_
      refine (fs_cv (n := n + 44) (N := nm_m105) (as := [.ref 5, .int x1]) (rest := []) rfl rfl (Or.inl rfl) rfl rfl rfl rfl rfl).trans (fs_fv fun v30 g28 r29 => ?_)
      exact (fs_ri (n := n + 43) rfl rfl).trans rfl
def B103_30 (L : Nat) (xs : Nat → Int32) (m d k : Nat) (x1 : Int32) (g : a2_G) (r : a2_A) : Option fn_Z := (B103_31 L xs m d k x1 0 g r)
theorem b103_30 (L : Nat) (xs : Nat → Int32) (m d k : Nat) (n : Nat) (x1 : Int32) (g : a2_G) (r : a2_A) : bk L xs 103 nm_m103 m d k (n + 59) 30 [some (.ref 5), some (.int x1), none, none, none] [] g r = B103_30 L xs m d k x1 g r := by
  show _ = ((B103_31 L xs m d k x1 0 g r) : Option fn_Z)
  refine (fs_r (n := n + 58) 1 (pc' := 31) (L' := [some (.ref 5), some (.int x1), none, none, none]) (S' := [.int 0]) rfl).trans ?_
  exact b103_31 L xs m d k (n + 0) x1 0 g r
theorem e103 (L : Nat) (xs : Nat → Int32) (m d k : Nat) (n : Nat) (g : a2_G) (r : a2_A) : bk L xs 103 nm_m103 m d k (n + 72) 0 [some (.ref 5), none, none, none, none] [] g r = (fn_v (ev L xs m d 58 [.ref 1] g r) fun v3 g1 r2 => (fn_v (ev L xs m d 76 [.ref 1] g1 r2) fun v6 g4 r5 => (if am_c2 .eq v6 0 = true then (B103_30 L xs m d k v3 g4 r5) else (fn_v (ev L xs m d 104 [.ref 5, .int 1] g4 r5) fun v33 g31 r32 => (if am_c2 .eq v33 0 = true then (B103_30 L xs m d k v3 g31 r32) else (B103_31 L xs m d k v3 1 g31 r32)))))) := by
  refine (fs_r (n := n + 70) 2 (pc' := 4) (L' := [some (.ref 5), none, none, none, none]) (S' := [.ref 1]) rfl).trans ?_
  refine (fs_cv (n := n + 69) (N := nm_m58) (as := [.ref 1]) (rest := []) rfl rfl (Or.inl rfl) rfl rfl rfl rfl rfl).trans (fs_fv fun v3 g1 r2 => ?_)
  refine (fs_r (n := n + 66) 3 (pc' := 12) (L' := [some (.ref 5), some (.int v3), none, none, none]) (S' := [.ref 1]) rfl).trans ?_
  refine (fs_cv (n := n + 65) (N := nm_m76) (as := [.ref 1]) (rest := []) rfl rfl (Or.inl rfl) rfl rfl rfl rfl rfl).trans (fs_fv fun v6 g4 r5 => ?_)
  refine (fs_i (n := n + 64) rfl (t := 30) rfl (by decide)).trans (fs_ite ?_ ?_)
  · skip
    exact b103_30 L xs m d k (n + 5) v3 g4 r5
  · skip
    refine (fs_r (n := n + 62) 2 (pc' := 20) (L' := [some (.ref 5), some (.int v3), none, none, none]) (S' := [.int 1, .ref 5]) rfl).trans ?_
    refine (fs_cv (n := n + 61) (N := nm_m104) (as := [.ref 5, .int 1]) (rest := []) rfl rfl (Or.inl rfl) rfl rfl rfl rfl rfl).trans (fs_fv fun v33 g31 r32 => ?_)
    refine (fs_i (n := n + 60) rfl (t := 30) rfl (by decide)).trans (fs_ite ?_ ?_)
    · skip
      exact b103_30 L xs m d k (n + 1) v3 g31 r32
    · skip
      refine (fs_r (n := n + 59) 1 (pc' := 27) (L' := [some (.ref 5), some (.int v3), none, none, none]) (S' := [.int 1]) rfl).trans ?_
      refine (fs_go (n := n + 58) rfl (t := 31) rfl (by decide)).trans ?_
      exact b103_31 L xs m d k (n + 0) v3 1 g31 r32
theorem q103 (L : Nat) (xs : Nat → Int32) (m d : Nat) (g : a2_G) (r : a2_A) : ev L xs (m + 1) (d + 1) 103 [.ref 5] g r = (fn_v (ev L xs (m + 1) d 58 [.ref 1] g r) fun v3 g1 r2 => (fn_v (ev L xs (m + 1) d 76 [.ref 1] g1 r2) fun v6 g4 r5 => (if am_c2 .eq v6 0 = true then (B103_30 L xs (m + 1) d m v3 g4 r5) else (fn_v (ev L xs (m + 1) d 104 [.ref 5, .int 1] g4 r5) fun v33 g31 r32 => (if am_c2 .eq v33 0 = true then (B103_30 L xs (m + 1) d m v3 g31 r32) else (B103_31 L xs (m + 1) d m v3 1 g31 r32)))))) := (fs_ev (M := nm_m103) rfl rfl).trans (e103 L xs (m + 1) d m 828 g r)
/-- CobolParser$Expressions.isComparing(I)Z -/
def B104_55 (L : Nat) (xs : Nat → Int32) (m d k : Nat) (x1 x2 : Int32) (g : a2_G) (r : a2_A) : Option fn_Z := (if x2 = 0 ∨ x2 = 1 then some (.inl (some (.int x2)), g, r) else none)
theorem b104_55 (L : Nat) (xs : Nat → Int32) (m d k : Nat) (n : Nat) (x1 x2 : Int32) (g : a2_G) (r : a2_A) : bk L xs 104 nm_m104 m d k (n + 1) 55 [some (.ref 5), some (.int x1)] [.int x2] g r = B104_55 L xs m d k x1 x2 g r := by
  show _ = ((if x2 = 0 ∨ x2 = 1 then some (.inl (some (.int x2)), g, r) else none) : Option fn_Z)
  exact (fs_rb (n := n + 0) rfl rfl).trans rfl
def B104_50 (L : Nat) (xs : Nat → Int32) (m d k : Nat) (x1 : Int32) (g : a2_G) (r : a2_A) : Option fn_Z := (B104_55 L xs m d k x1 1 g r)
theorem b104_50 (L : Nat) (xs : Nat → Int32) (m d k : Nat) (n : Nat) (x1 : Int32) (g : a2_G) (r : a2_A) : bk L xs 104 nm_m104 m d k (n + 3) 50 [some (.ref 5), some (.int x1)] [] g r = B104_50 L xs m d k x1 g r := by
  show _ = ((B104_55 L xs m d k x1 1 g r) : Option fn_Z)
  refine (fs_r (n := n + 2) 1 (pc' := 51) (L' := [some (.ref 5), some (.int x1)]) (S' := [.int 1]) rfl).trans ?_
  refine (fs_go (n := n + 1) rfl (t := 55) rfl (by decide)).trans ?_
  exact b104_55 L xs m d k (n + 0) x1 1 g r
def B104_54 (L : Nat) (xs : Nat → Int32) (m d k : Nat) (x1 : Int32) (g : a2_G) (r : a2_A) : Option fn_Z := (B104_55 L xs m d k x1 0 g r)
theorem b104_54 (L : Nat) (xs : Nat → Int32) (m d k : Nat) (n : Nat) (x1 : Int32) (g : a2_G) (r : a2_A) : bk L xs 104 nm_m104 m d k (n + 2) 54 [some (.ref 5), some (.int x1)] [] g r = B104_54 L xs m d k x1 g r := by
  show _ = ((B104_55 L xs m d k x1 0 g r) : Option fn_Z)
  refine (fs_r (n := n + 1) 1 (pc' := 55) (L' := [some (.ref 5), some (.int x1)]) (S' := [.int 0]) rfl).trans ?_
  exact b104_55 L xs m d k (n + 0) x1 0 g r
theorem e104 (L : Nat) (xs : Nat → Int32) (m d k : Nat) (n : Nat) (a1 : Int32) (g : a2_G) (r : a2_A) : bk L xs 104 nm_m104 m d k (n + 27) 0 [some (.ref 5), some (.int a1)] [] g r = (fn_v (ev L xs m d 52 [.ref 1, .int 67, .int a1] g r) fun v3 g1 r2 => (if am_c2 .ne v3 0 = true then (B104_50 L xs m d k a1 g1 r2) else (fn_v (ev L xs m d 99 [.ref 1, .int a1] g1 r2) fun v6 g4 r5 => (if am_c2 .ne v6 0 = true then (B104_50 L xs m d k a1 g4 r5) else (fn_v (ev L xs m d 52 [.ref 1, .int 64, .int a1] g4 r5) fun v9 g7 r8 => (if am_c2 .eq v9 0 = true then (B104_54 L xs m d k a1 g7 r8) else (fn_v (ev L xs m d 99 [.ref 1, .int (a1 + 1)] g7 r8) fun v12 g10 r11 => (if am_c2 .eq v12 0 = true then (B104_54 L xs m d k a1 g10 r11) else (B104_50 L xs m d k a1 g10 r11))))))))) := by
  refine (fs_r (n := n + 23) 4 (pc' := 7) (L' := [some (.ref 5), some (.int a1)]) (S' := [.int a1, .int 67, .ref 1]) rfl).trans ?_
  refine (fs_cv (n := n + 22) (N := nm_m52) (as := [.ref 1, .int 67, .int a1]) (rest := []) rfl rfl (Or.inl rfl) rfl rfl rfl rfl rfl).trans (fs_fv fun v3 g1 r2 => ?_)
  refine (fs_i (n := n + 21) rfl (t := 50) rfl (by decide)).trans (fs_ite ?_ ?_)
  · skip
    exact b104_50 L xs m d k (n + 18) a1 g1 r2
  · skip
    refine (fs_r (n := n + 18) 3 (pc' := 18) (L' := [some (.ref 5), some (.int a1)]) (S' := [.int a1, .ref 1]) rfl).trans ?_
    refine (fs_cv (n := n + 17) (N := nm_m99) (as := [.ref 1, .int a1]) (rest := []) rfl rfl (Or.inl rfl) rfl rfl rfl rfl rfl).trans (fs_fv fun v6 g4 r5 => ?_)
    refine (fs_i (n := n + 16) rfl (t := 50) rfl (by decide)).trans (fs_ite ?_ ?_)
    · skip
      exact b104_50 L xs m d k (n + 13) a1 g4 r5
    · skip
      refine (fs_r (n := n + 12) 4 (pc' := 31) (L' := [some (.ref 5), some (.int a1)]) (S' := [.int a1, .int 64, .ref 1]) rfl).trans ?_
      refine (fs_cv (n := n + 11) (N := nm_m52) (as := [.ref 1, .int 64, .int a1]) (rest := []) rfl rfl (Or.inl rfl) rfl rfl rfl rfl rfl).trans (fs_fv fun v9 g7 r8 => ?_)
      refine (fs_i (n := n + 10) rfl (t := 54) rfl (by decide)).trans (fs_ite ?_ ?_)
      · skip
        exact b104_54 L xs m d k (n + 8) a1 g7 r8
      · skip
        refine (fs_r (n := n + 5) 5 (pc' := 44) (L' := [some (.ref 5), some (.int a1)]) (S' := [.int (a1 + 1), .ref 1]) rfl).trans ?_
        refine (fs_cv (n := n + 4) (N := nm_m99) (as := [.ref 1, .int (a1 + 1)]) (rest := []) rfl rfl (Or.inl rfl) rfl rfl rfl rfl rfl).trans (fs_fv fun v12 g10 r11 => ?_)
        refine (fs_i (n := n + 3) rfl (t := 54) rfl (by decide)).trans (fs_ite ?_ ?_)
        · skip
          exact b104_54 L xs m d k (n + 1) a1 g10 r11
        · skip
          exact b104_50 L xs m d k (n + 0) a1 g10 r11
theorem q104 (L : Nat) (xs : Nat → Int32) (m d : Nat) (a1 : Int32) (g : a2_G) (r : a2_A) : ev L xs (m + 1) (d + 1) 104 [.ref 5, .int a1] g r = (fn_v (ev L xs (m + 1) d 52 [.ref 1, .int 67, .int a1] g r) fun v3 g1 r2 => (if am_c2 .ne v3 0 = true then (B104_50 L xs (m + 1) d m a1 g1 r2) else (fn_v (ev L xs (m + 1) d 99 [.ref 1, .int a1] g1 r2) fun v6 g4 r5 => (if am_c2 .ne v6 0 = true then (B104_50 L xs (m + 1) d m a1 g4 r5) else (fn_v (ev L xs (m + 1) d 52 [.ref 1, .int 64, .int a1] g4 r5) fun v9 g7 r8 => (if am_c2 .eq v9 0 = true then (B104_54 L xs (m + 1) d m a1 g7 r8) else (fn_v (ev L xs (m + 1) d 99 [.ref 1, .int (a1 + 1)] g7 r8) fun v12 g10 r11 => (if am_c2 .eq v12 0 = true then (B104_54 L xs (m + 1) d m a1 g10 r11) else (B104_50 L xs (m + 1) d m a1 g10 r11))))))))) := (fs_ev (M := nm_m104) rfl rfl).trans (e104 L xs (m + 1) d m 873 a1 g r)
/-- CobolParser$Expressions.conditionName(I)I -/
def B105_36 (L : Nat) (xs : Nat → Int32) (m d k : Nat) (x1 : Int32) (g : a2_G) (r : a2_A) : Option fn_Z := (fn_v (ev L xs m d 60 [.ref 1] g r) fun v6 g4 r5 => (fn_v (ev L xs m d 45 [.ref 2, .int 54, .int v6, .int x1] g4 r5) fun v9 g7 r8 => (fn_n (ev L xs m d 61 [.ref 1] g7 r8) fun g10 r11 => (some (.inl (some (.int v9)), g10, r11)))))
theorem b105_36 (L : Nat) (xs : Nat → Int32) (m d k : Nat) (n : Nat) (x1 : Int32) (g : a2_G) (r : a2_A) : bk L xs 105 nm_m105 m d k (n + 14) 36 [some (.ref 5), some (.int x1), none] [] g r = B105_36 L xs m d k x1 g r := by
  show _ = ((fn_v (ev L xs m d 60 [.ref 1] g r) fun v6 g4 r5 => (fn_v (ev L xs m d 45 [.ref 2, .int 54, .int v6, .int x1] g4 r5) fun v9 g7 r8 => (fn_n (ev L xs m d 61 [.ref 1] g7 r8) fun g10 r11 => (some (.inl (some (.int v9)), g10, r11))))) : Option fn_Z)
  refine (fs_r (n := n + 9) 5 (pc' := 46) (L' := [some (.ref 5), some (.int x1), none]) (S' := [.ref 1, .int 54, .ref 2]) rfl).trans ?_
  refine (fs_cv (n := n + 8) (N := nm_m60) (as := [.ref 1]) (rest := [.int 54, .ref 2]) rfl rfl (Or.inl rfl) rfl rfl rfl rfl rfl).trans (fs_fv fun v6 g4 r5 => ?_)
  refine (fs_r (n := n + 7) 1 (pc' := 50) (L' := [some (.ref 5), some (.int x1), none]) (S' := [.int x1, .int v6, .int 54, .ref 2]) rfl).trans ?_
  refine (fs_cv (n := n + 6) (N := nm_m45) (as := [.ref 2, .int 54, .int v6, .int x1]) (rest := []) rfl rfl (Or.inl rfl) rfl rfl rfl rfl rfl).trans (fs_fv fun v9 g7 r8 => ?_)
  refine (fs_r (n := n + 3) 3 (pc' := 58) (L' := [some (.ref 5), some (.int x1), some (.int v9)]) (S' := [.ref 1]) rfl).trans ?_
  refine (fs_cn (n := n + 2) (N := nm_m61) (as := [.ref 1]) (rest := []) rfl rfl (Or.inl rfl) rfl rfl rfl rfl rfl).trans (fs_fn fun g10 r11 => ?_)
  refine (fs_r (n := n + 1) 1 (pc' := 62) (L' := [some (.ref 5), some (.int x1), some (.int v9)]) (S' := [.int v9]) rfl).trans ?_
  exact (fs_ri (n := n + 0) rfl rfl).trans rfl
def B105_28 (L : Nat) (xs : Nat → Int32) (m d k : Nat) (x1 : Int32) (g : a2_G) (r : a2_A) : Option fn_Z := (fn_n (ev L xs m d 56 [.ref 1, .int 1] g r) fun g15 r16 => (B105_36 L xs m d k x1 g15 r16))
theorem b105_28 (L : Nat) (xs : Nat → Int32) (m d k : Nat) (n : Nat) (x1 : Int32) (g : a2_G) (r : a2_A) : bk L xs 105 nm_m105 m d k (n + 18) 28 [some (.ref 5), some (.int x1), none] [] g r = B105_28 L xs m d k x1 g r := by
  show _ = ((fn_n (ev L xs m d 56 [.ref 1, .int 1] g r) fun g15 r16 => (B105_36 L xs m d k x1 g15 r16)) : Option fn_Z)
  refine (fs_r (n := n + 15) 3 (pc' := 33) (L' := [some (.ref 5), some (.int x1), none]) (S' := [.int 1, .ref 1]) rfl).trans ?_
  refine (fs_cn (n := n + 14) (N := nm_m56) (as := [.ref 1, .int 1]) (rest := []) rfl rfl (Or.inl rfl) rfl rfl rfl rfl rfl).trans (fs_fn fun g15 r16 => ?_)
  exact b105_36 L xs m d k (n + 0) x1 g15 r16
theorem e105 (L : Nat) (xs : Nat → Int32) (m d k : Nat) (n : Nat) (a1 : Int32) (g : a2_G) (r : a2_A) : bk L xs 105 nm_m105 m d k (n + 30) 0 [some (.ref 5), some (.int a1), none] [] g r = (fn_v (ev L xs m d 50 [.ref 1, .int 1] g r) fun v3 g1 r2 => (if am_c2 .ne v3 0 = true then (B105_36 L xs m d k a1 g1 r2) else (fn_v (ev L xs m d 76 [.ref 1] g1 r2) fun v14 g12 r13 => (if am_c2 .eq v14 0 = true then (B105_28 L xs m d k a1 g12 r13) else (fn_n (ev L xs m d 61 [.ref 1] g12 r13) fun g17 r18 => (B105_28 L xs m d k a1 g17 r18)))))) := by
  refine (fs_r (n := n + 27) 3 (pc' := 5) (L' := [some (.ref 5), some (.int a1), none]) (S' := [.int 1, .ref 1]) rfl).trans ?_
  refine (fs_cv (n := n + 26) (N := nm_m50) (as := [.ref 1, .int 1]) (rest := []) rfl rfl (Or.inl rfl) rfl rfl rfl rfl rfl).trans (fs_fv fun v3 g1 r2 => ?_)
  refine (fs_i (n := n + 25) rfl (t := 36) rfl (by decide)).trans (fs_ite ?_ ?_)
  · skip
    exact b105_36 L xs m d k (n + 11) a1 g1 r2
  · skip
    refine (fs_r (n := n + 23) 2 (pc' := 15) (L' := [some (.ref 5), some (.int a1), none]) (S' := [.ref 1]) rfl).trans ?_
    refine (fs_cv (n := n + 22) (N := nm_m76) (as := [.ref 1]) (rest := []) rfl rfl (Or.inl rfl) rfl rfl rfl rfl rfl).trans (fs_fv fun v14 g12 r13 => ?_)
    refine (fs_i (n := n + 21) rfl (t := 28) rfl (by decide)).trans (fs_ite ?_ ?_)
    · skip
      exact b105_28 L xs m d k (n + 3) a1 g12 r13
    · skip
      refine (fs_r (n := n + 19) 2 (pc' := 25) (L' := [some (.ref 5), some (.int a1), none]) (S' := [.ref 1]) rfl).trans ?_
      refine (fs_cn (n := n + 18) (N := nm_m61) (as := [.ref 1]) (rest := []) rfl rfl (Or.inl rfl) rfl rfl rfl rfl rfl).trans (fs_fn fun g17 r18 => ?_)
      exact b105_28 L xs m d k (n + 0) a1 g17 r18
theorem q105 (L : Nat) (xs : Nat → Int32) (m d : Nat) (a1 : Int32) (g : a2_G) (r : a2_A) : ev L xs (m + 1) (d + 1) 105 [.ref 5, .int a1] g r = (fn_v (ev L xs (m + 1) d 50 [.ref 1, .int 1] g r) fun v3 g1 r2 => (if am_c2 .ne v3 0 = true then (B105_36 L xs (m + 1) d m a1 g1 r2) else (fn_v (ev L xs (m + 1) d 76 [.ref 1] g1 r2) fun v14 g12 r13 => (if am_c2 .eq v14 0 = true then (B105_28 L xs (m + 1) d m a1 g12 r13) else (fn_n (ev L xs (m + 1) d 61 [.ref 1] g12 r13) fun g17 r18 => (B105_28 L xs (m + 1) d m a1 g17 r18)))))) := (fs_ev (M := nm_m105) rfl rfl).trans (e105 L xs (m + 1) d m 870 a1 g r)
/-- CobolParser$Expressions.comparing()I -/
def B106_147 (L : Nat) (xs : Nat → Int32) (m d k : Nat) (x1 : Int32) (g : a2_G) (r : a2_A) : Option fn_Z := (fn_v (ev L xs m d 60 [.ref 1] g r) fun v23 g21 r22 => (fn_n (ev L xs m d 61 [.ref 1] g21 r22) fun g24 r25 => (some (.inl (some (.int (x1 + (v23 - 2)))), g24, r25))))
theorem b106_147 (L : Nat) (xs : Nat → Int32) (m d k : Nat) (n : Nat) (x1 : Int32) (g : a2_G) (r : a2_A) : bk L xs 106 nm_m106 m d k (n + 13) 147 [some (.ref 5), some (.int x1), none] [] g r = B106_147 L xs m d k x1 g r := by
  show _ = ((fn_v (ev L xs m d 60 [.ref 1] g r) fun v23 g21 r22 => (fn_n (ev L xs m d 61 [.ref 1] g21 r22) fun g24 r25 => (some (.inl (some (.int (x1 + (v23 - 2)))), g24, r25)))) : Option fn_Z)
  refine (fs_r (n := n + 11) 2 (pc' := 151) (L' := [some (.ref 5), some (.int x1), none]) (S' := [.ref 1]) rfl).trans ?_
  refine (fs_cv (n := n + 10) (N := nm_m60) (as := [.ref 1]) (rest := []) rfl rfl (Or.inl rfl) rfl rfl rfl rfl rfl).trans (fs_fv fun v23 g21 r22 => ?_)
  refine (fs_r (n := n + 5) 5 (pc' := 161) (L' := [some (.ref 5), some (.int x1), some (.int (v23 - 2))]) (S' := [.ref 1]) rfl).trans ?_
  refine (fs_cn (n := n + 4) (N := nm_m61) (as := [.ref 1]) (rest := []) rfl rfl (Or.inl rfl) rfl rfl rfl rfl rfl).trans (fs_fn fun g24 r25 => ?_)
  refine (fs_r (n := n + 1) 3 (pc' := 167) (L' := [some (.ref 5), some (.int x1), some (.int (v23 - 2))]) (S' := [.int (x1 + (v23 - 2))]) rfl).trans ?_
  exact (fs_ri (n := n + 0) rfl rfl).trans rfl
def B106_139 (L : Nat) (xs : Nat → Int32) (m d k : Nat) (x1 : Int32) (g : a2_G) (r : a2_A) : Option fn_Z := (fn_n (ev L xs m d 56 [.ref 1, .int 1] g r) fun g19 r20 => (B106_147 L xs m d k x1 g19 r20))
theorem b106_139 (L : Nat) (xs : Nat → Int32) (m d k : Nat) (n : Nat) (x1 : Int32) (g : a2_G) (r : a2_A) : bk L xs 106 nm_m106 m d k (n + 17) 139 [some (.ref 5), some (.int x1), none] [] g r = B106_139 L xs m d k x1 g r := by
  show _ = ((fn_n (ev L xs m d 56 [.ref 1, .int 1] g r) fun g19 r20 => (B106_147 L xs m d k x1 g19 r20)) : Option fn_Z)
  refine (fs_r (n := n + 14) 3 (pc' := 144) (L' := [some (.ref 5), some (.int x1), none]) (S' := [.int 1, .ref 1]) rfl).trans ?_
  refine (fs_cn (n := n + 13) (N := nm_m56) (as := [.ref 1, .int 1]) (rest := []) rfl rfl (Or.inl rfl) rfl rfl rfl rfl rfl).trans (fs_fn fun g19 r20 => ?_)
  exact b106_147 L xs m d k (n + 0) x1 g19 r20
def B106_27 (L : Nat) (xs : Nat → Int32) (m d k : Nat) (x1 : Int32) (g : a2_G) (r : a2_A) : Option fn_Z := (fn_v (ev L xs m d 62 [.ref 1, .int 68] g r) fun v9 g7 r8 => (if am_c2 .eq v9 0 = true then (fn_v (ev L xs m d 62 [.ref 1, .int 70] g7 r8) fun v12 g10 r11 => (if am_c2 .eq v12 0 = true then (fn_v (ev L xs m d 62 [.ref 1, .int 69] g10 r11) fun v15 g13 r14 => (if am_c2 .eq v15 0 = true then (fn_v (ev L xs m d 50 [.ref 1, .int 5] g13 r14) fun v18 g16 r17 => (if am_c2 .eq v18 0 = true then (B106_139 L xs m d k x1 g16 r17) else (fn_v (ev L xs m d 60 [.ref 1] g16 r17) fun v28 g26 r27 => (if am_c2 .lt v28 2 = true then (B106_139 L xs m d k x1 g26 r27) else (fn_v (ev L xs m d 60 [.ref 1] g26 r27) fun v31 g29 r30 => (if am_c2 .le v31 4 = true then (B106_147 L xs m d k x1 g29 r30) else (B106_139 L xs m d k x1 g29 r30))))))) else (fn_v (ev L xs m d 62 [.ref 1, .int 71] g13 r14) fun v34 g32 r33 => (some (.inl (some (.int (x1 + 2))), g32, r33))))) else (fn_v (ev L xs m d 62 [.ref 1, .int 71] g10 r11) fun v37 g35 r36 => (some (.inl (some (.int (x1 + 1))), g35, r36))))) else (fn_v (ev L xs m d 62 [.ref 1, .int 48] g7 r8) fun v40 g38 r39 => (some (.inl (some (.int (x1 + 0))), g38, r39)))))
theorem b106_27 (L : Nat) (xs : Nat → Int32) (m d k : Nat) (n : Nat) (x1 : Int32) (g : a2_G) (r : a2_A) : bk L xs 106 nm_m106 m d k (n + 48) 27 [some (.ref 5), none, none] [.int x1] g r = B106_27 L xs m d k x1 g r := by
  show _ = ((fn_v (ev L xs m d 62 [.ref 1, .int 68] g r) fun v9 g7 r8 => (if am_c2 .eq v9 0 = true then (fn_v (ev L xs m d 62 [.ref 1, .int 70] g7 r8) fun v12 g10 r11 => (if am_c2 .eq v12 0 = true then (fn_v (ev L xs m d 62 [.ref 1, .int 69] g10 r11) fun v15 g13 r14 => (if am_c2 .eq v15 0 = true then (fn_v (ev L xs m d 50 [.ref 1, .int 5] g13 r14) fun v18 g16 r17 => (if am_c2 .eq v18 0 = true then (B106_139 L xs m d k x1 g16 r17) else (fn_v (ev L xs m d 60 [.ref 1] g16 r17) fun v28 g26 r27 => (if am_c2 .lt v28 2 = true then (B106_139 L xs m d k x1 g26 r27) else (fn_v (ev L xs m d 60 [.ref 1] g26 r27) fun v31 g29 r30 => (if am_c2 .le v31 4 = true then (B106_147 L xs m d k x1 g29 r30) else (B106_139 L xs m d k x1 g29 r30))))))) else (fn_v (ev L xs m d 62 [.ref 1, .int 71] g13 r14) fun v34 g32 r33 => (some (.inl (some (.int (x1 + 2))), g32, r33))))) else (fn_v (ev L xs m d 62 [.ref 1, .int 71] g10 r11) fun v37 g35 r36 => (some (.inl (some (.int (x1 + 1))), g35, r36))))) else (fn_v (ev L xs m d 62 [.ref 1, .int 48] g7 r8) fun v40 g38 r39 => (some (.inl (some (.int (x1 + 0))), g38, r39))))) : Option fn_Z)
  refine (fs_r (n := n + 44) 4 (pc' := 34) (L' := [some (.ref 5), some (.int x1), none]) (S' := [.int 68, .ref 1]) rfl).trans ?_
  refine (fs_cv (n := n + 43) (N := nm_m62) (as := [.ref 1, .int 68]) (rest := []) rfl rfl (Or.inl rfl) rfl rfl rfl rfl rfl).trans (fs_fv fun v9 g7 r8 => ?_)
  refine (fs_i (n := n + 42) rfl (t := 54) rfl (by decide)).trans (fs_ite ?_ ?_)
  · skip
    refine (fs_r (n := n + 39) 3 (pc' := 60) (L' := [some (.ref 5), some (.int x1), none]) (S' := [.int 70, .ref 1]) rfl).trans ?_
    refine (fs_cv (n := n + 38) (N := nm_m62) (as := [.ref 1, .int 70]) (rest := []) rfl rfl (Or.inl rfl) rfl rfl rfl rfl rfl).trans (fs_fv fun v12 g10 r11 => ?_)
    refine (fs_i (n := n + 37) rfl (t := 80) rfl (by decide)).trans (fs_ite ?_ ?_)
    · skip
      refine (fs_r (n := n + 34) 3 (pc' := 86) (L' := [some (.ref 5), some (.int x1), none]) (S' := [.int 69, .ref 1]) rfl).trans ?_
      refine (fs_cv (n := n + 33) (N := nm_m62) (as := [.ref 1, .int 69]) (rest := []) rfl rfl (Or.inl rfl) rfl rfl rfl rfl rfl).trans (fs_fv fun v15 g13 r14 => ?_)
      refine (fs_i (n := n + 32) rfl (t := 106) rfl (by decide)).trans (fs_ite ?_ ?_)
      · skip
        refine (fs_r (n := n + 29) 3 (pc' := 111) (L' := [some (.ref 5), some (.int x1), none]) (S' := [.int 5, .ref 1]) rfl).trans ?_
        refine (fs_cv (n := n + 28) (N := nm_m50) (as := [.ref 1, .int 5]) (rest := []) rfl rfl (Or.inl rfl) rfl rfl rfl rfl rfl).trans (fs_fv fun v18 g16 r17 => ?_)
        refine (fs_i (n := n + 27) rfl (t := 139) rfl (by decide)).trans (fs_ite ?_ ?_)
        · skip
          exact b106_139 L xs m d k (n + 10) x1 g16 r17
        · skip
          refine (fs_r (n := n + 25) 2 (pc' := 121) (L' := [some (.ref 5), some (.int x1), none]) (S' := [.ref 1]) rfl).trans ?_
          refine (fs_cv (n := n + 24) (N := nm_m60) (as := [.ref 1]) (rest := []) rfl rfl (Or.inl rfl) rfl rfl rfl rfl rfl).trans (fs_fv fun v28 g26 r27 => ?_)
          refine (fs_r (n := n + 23) 1 (pc' := 125) (L' := [some (.ref 5), some (.int x1), none]) (S' := [.int 2, .int v28]) rfl).trans ?_
          refine (fs_j (n := n + 22) rfl (t := 139) rfl (by decide)).trans (fs_ite ?_ ?_)
          · skip
            exact b106_139 L xs m d k (n + 5) x1 g26 r27
          · skip
            refine (fs_r (n := n + 20) 2 (pc' := 132) (L' := [some (.ref 5), some (.int x1), none]) (S' := [.ref 1]) rfl).trans ?_
            refine (fs_cv (n := n + 19) (N := nm_m60) (as := [.ref 1]) (rest := []) rfl rfl (Or.inl rfl) rfl rfl rfl rfl rfl).trans (fs_fv fun v31 g29 r30 => ?_)
            refine (fs_r (n := n + 18) 1 (pc' := 136) (L' := [some (.ref 5), some (.int x1), none]) (S' := [.int 4, .int v31]) rfl).trans ?_
            refine (fs_j (n := n + 17) rfl (t := 147) rfl (by decide)).trans (fs_ite ?_ ?_)
            · skip
              exact b106_147 L xs m d k (n + 4) x1 g29 r30
            · skip
              exact b106_139 L xs m d k (n + 0) x1 g29 r30
      · skip
        refine (fs_r (n := n + 29) 3 (pc' := 98) (L' := [some (.ref 5), some (.int x1), none]) (S' := [.int 71, .ref 1]) rfl).trans ?_
        refine (fs_cv (n := n + 28) (N := nm_m62) (as := [.ref 1, .int 71]) (rest := []) rfl rfl (Or.inl rfl) rfl rfl rfl rfl rfl).trans (fs_fv fun v34 g32 r33 => ?_)
        refine (fs_r (n := n + 24) 4 (pc' := 105) (L' := [some (.ref 5), some (.int x1), none]) (S' := [.int (x1 + 2)]) rfl).trans ?_
        exact (fs_ri (n := n + 23) rfl rfl).trans rfl
    · skip
      refine (fs_r (n := n + 34) 3 (pc' := 72) (L' := [some (.ref 5), some (.int x1), none]) (S' := [.int 71, .ref 1]) rfl).trans ?_
      refine (fs_cv (n := n + 33) (N := nm_m62) (as := [.ref 1, .int 71]) (rest := []) rfl rfl (Or.inl rfl) rfl rfl rfl rfl rfl).trans (fs_fv fun v37 g35 r36 => ?_)
      refine (fs_r (n := n + 29) 4 (pc' := 79) (L' := [some (.ref 5), some (.int x1), none]) (S' := [.int (x1 + 1)]) rfl).trans ?_
      exact (fs_ri (n := n + 28) rfl rfl).trans rfl
  · skip
    refine (fs_r (n := n + 39) 3 (pc' := 46) (L' := [some (.ref 5), some (.int x1), none]) (S' := [.int 48, .ref 1]) rfl).trans ?_
    refine (fs_cv (n := n + 38) (N := nm_m62) (as := [.ref 1, .int 48]) (rest := []) rfl rfl (Or.inl rfl) rfl rfl rfl rfl rfl).trans (fs_fv fun v40 g38 r39 => ?_)
    refine (fs_r (n := n + 34) 4 (pc' := 53) (L' := [some (.ref 5), some (.int x1), none]) (S' := [.int (x1 + 0)]) rfl).trans ?_
    exact (fs_ri (n := n + 33) rfl rfl).trans rfl
theorem e106 (L : Nat) (xs : Nat → Int32) (m d k : Nat) (n : Nat) (g : a2_G) (r : a2_A) : bk L xs 106 nm_m106 m d k (n + 60) 0 [some (.ref 5), none, none] [] g r = (fn_v (ev L xs m d 62 [.ref 1, .int 67] g r) fun v3 g1 r2 => (fn_v (ev L xs m d 62 [.ref 1, .int 64] g1 r2) fun v6 g4 r5 => (if am_c2 .eq v6 0 = true then (B106_27 L xs m d k 0 g4 r5) else (B106_27 L xs m d k 3 g4 r5)))) := by
  refine (fs_r (n := n + 57) 3 (pc' := 6) (L' := [some (.ref 5), none, none]) (S' := [.int 67, .ref 1]) rfl).trans ?_
  refine (fs_cv (n := n + 56) (N := nm_m62) (as := [.ref 1, .int 67]) (rest := []) rfl rfl (Or.inl rfl) rfl rfl rfl rfl rfl).trans (fs_fv fun v3 g1 r2 => ?_)
  refine (fs_r (n := n + 52) 4 (pc' := 16) (L' := [some (.ref 5), none, none]) (S' := [.int 64, .ref 1]) rfl).trans ?_
  refine (fs_cv (n := n + 51) (N := nm_m62) (as := [.ref 1, .int 64]) (rest := []) rfl rfl (Or.inl rfl) rfl rfl rfl rfl rfl).trans (fs_fv fun v6 g4 r5 => ?_)
  refine (fs_i (n := n + 50) rfl (t := 26) rfl (by decide)).trans (fs_ite ?_ ?_)
  · skip
    refine (fs_r (n := n + 49) 1 (pc' := 27) (L' := [some (.ref 5), none, none]) (S' := [.int 0]) rfl).trans ?_
    exact b106_27 L xs m d k (n + 1) 0 g4 r5
  · skip
    refine (fs_r (n := n + 49) 1 (pc' := 23) (L' := [some (.ref 5), none, none]) (S' := [.int 3]) rfl).trans ?_
    refine (fs_go (n := n + 48) rfl (t := 27) rfl (by decide)).trans ?_
    exact b106_27 L xs m d k (n + 0) 3 g4 r5
theorem q106 (L : Nat) (xs : Nat → Int32) (m d : Nat) (g : a2_G) (r : a2_A) : ev L xs (m + 1) (d + 1) 106 [.ref 5] g r = (fn_v (ev L xs (m + 1) d 62 [.ref 1, .int 67] g r) fun v3 g1 r2 => (fn_v (ev L xs (m + 1) d 62 [.ref 1, .int 64] g1 r2) fun v6 g4 r5 => (if am_c2 .eq v6 0 = true then (B106_27 L xs (m + 1) d m 0 g4 r5) else (B106_27 L xs (m + 1) d m 3 g4 r5)))) := (fs_ev (M := nm_m106) rfl rfl).trans (e106 L xs (m + 1) d m 840 g r)
/-- CobolParser$Expressions.join(III)I -/
theorem e107 (L : Nat) (xs : Nat → Int32) (m d k : Nat) (n : Nat) (a1 a2 a3 : Int32) (g : a2_G) (r : a2_A) : bk L xs 107 nm_m107 m d k (n + 18) 0 [some (.ref 5), some (.int a1), some (.int a2), some (.int a3), none] [] g r = (fn_v (ev L xs m d 17 [.ref 2, .int a3, .int 2] g r) fun v3 g1 r2 => (fn_v (ev L xs m d 45 [.ref 2, .int a1, .int a2, .int v3] g1 r2) fun v6 g4 r5 => (fn_n (ev L xs m d 63 [.ref 2, .int v6, .int a3] g4 r5) fun g7 r8 => (some (.inl (some (.int v6)), g7, r8))))) := by
  refine (fs_r (n := n + 10) 8 (pc' := 12) (L' := [some (.ref 5), some (.int a1), some (.int a2), some (.int a3), none]) (S' := [.int 2, .int a3, .ref 2, .int a2, .int a1, .ref 2]) rfl).trans ?_
  refine (fs_cv (n := n + 9) (N := nm_m17) (as := [.ref 2, .int a3, .int 2]) (rest := [.int a2, .int a1, .ref 2]) rfl rfl (Or.inl rfl) rfl rfl rfl rfl rfl).trans (fs_fv fun v3 g1 r2 => ?_)
  refine (fs_cv (n := n + 8) (N := nm_m45) (as := [.ref 2, .int a1, .int a2, .int v3]) (rest := []) rfl rfl (Or.inl rfl) rfl rfl rfl rfl rfl).trans (fs_fv fun v6 g4 r5 => ?_)
  refine (fs_r (n := n + 3) 5 (pc' := 27) (L' := [some (.ref 5), some (.int a1), some (.int a2), some (.int a3), some (.int v6)]) (S' := [.int a3, .int v6, .ref 2]) rfl).trans ?_
  refine (fs_cn (n := n + 2) (N := nm_m63) (as := [.ref 2, .int v6, .int a3]) (rest := []) rfl rfl (Or.inl rfl) rfl rfl rfl rfl rfl).trans (fs_fn fun g7 r8 => ?_)
  refine (fs_r (n := n + 1) 1 (pc' := 32) (L' := [some (.ref 5), some (.int a1), some (.int a2), some (.int a3), some (.int v6)]) (S' := [.int v6]) rfl).trans ?_
  exact (fs_ri (n := n + 0) rfl rfl).trans rfl
theorem q107 (L : Nat) (xs : Nat → Int32) (m d : Nat) (a1 a2 a3 : Int32) (g : a2_G) (r : a2_A) : ev L xs (m + 1) (d + 1) 107 [.ref 5, .int a1, .int a2, .int a3] g r = (fn_v (ev L xs (m + 1) d 17 [.ref 2, .int a3, .int 2] g r) fun v3 g1 r2 => (fn_v (ev L xs (m + 1) d 45 [.ref 2, .int a1, .int a2, .int v3] g1 r2) fun v6 g4 r5 => (fn_n (ev L xs (m + 1) d 63 [.ref 2, .int v6, .int a3] g4 r5) fun g7 r8 => (some (.inl (some (.int v6)), g7, r8))))) := (fs_ev (M := nm_m107) rfl rfl).trans (e107 L xs (m + 1) d m 882 a1 a2 a3 g r)
/-- CobolParser$Statements.branch(I)I -/
theorem e108 (L : Nat) (xs : Nat → Int32) (m d k : Nat) (n : Nat) (a1 : Int32) (g : a2_G) (r : a2_A) : bk L xs 108 nm_m108 m d k (n + 24) 0 [some (.ref 4), some (.int a1), none] [] g r = (fn_v (ev L xs m d 52 [.ref 1, .int 54, .int 0] g r) fun v3 g1 r2 => (if am_c2 .ne v3 0 = true then (fn_v (ev L xs m d 58 [.ref 1] g1 r2) fun v6 g4 r5 => (fn_v (ev L xs m d 45 [.ref 2, .int 42, .int 0, .int v6] g4 r5) fun v9 g7 r8 => (fn_n (ev L xs m d 61 [.ref 1] g7 r8) fun g10 r11 => (fn_n (ev L xs m d 83 [.ref 1, .int 55] g10 r11) fun g12 r13 => (some (.inl (some (.int v9)), g12, r13)))))) else (fn_v (ev L xs m d 87 [.ref 4, .int 40, .int (a1 + 1)] g1 r2) fun v16 g14 r15 => (some (.inl (some (.int v16)), g14, r15))))) := by
  refine (fs_r (n := n + 20) 4 (pc' := 7) (L' := [some (.ref 4), some (.int a1), none]) (S' := [.int 0, .int 54, .ref 1]) rfl).trans ?_
  refine (fs_cv (n := n + 19) (N := nm_m52) (as := [.ref 1, .int 54, .int 0]) (rest := []) rfl rfl (Or.inl rfl) rfl rfl rfl rfl rfl).trans (fs_fv fun v3 g1 r2 => ?_)
  refine (fs_i (n := n + 18) rfl (t := 23) rfl (by decide)).trans (fs_ite ?_ ?_)
  · skip
    refine (fs_r (n := n + 12) 6 (pc' := 34) (L' := [some (.ref 4), some (.int a1), none]) (S' := [.ref 1, .int 0, .int 42, .ref 2]) rfl).trans ?_
    refine (fs_cv (n := n + 11) (N := nm_m58) (as := [.ref 1]) (rest := [.int 0, .int 42, .ref 2]) rfl rfl (Or.inl rfl) rfl rfl rfl rfl rfl).trans (fs_fv fun v6 g4 r5 => ?_)
    refine (fs_cv (n := n + 10) (N := nm_m45) (as := [.ref 2, .int 42, .int 0, .int v6]) (rest := []) rfl rfl (Or.inl rfl) rfl rfl rfl rfl rfl).trans (fs_fv fun v9 g7 r8 => ?_)
    refine (fs_r (n := n + 7) 3 (pc' := 45) (L' := [some (.ref 4), some (.int a1), some (.int v9)]) (S' := [.ref 1]) rfl).trans ?_
    refine (fs_cn (n := n + 6) (N := nm_m61) (as := [.ref 1]) (rest := []) rfl rfl (Or.inl rfl) rfl rfl rfl rfl rfl).trans (fs_fn fun g10 r11 => ?_)
    refine (fs_r (n := n + 3) 3 (pc' := 54) (L' := [some (.ref 4), some (.int a1), some (.int v9)]) (S' := [.int 55, .ref 1]) rfl).trans ?_
    refine (fs_cn (n := n + 2) (N := nm_m83) (as := [.ref 1, .int 55]) (rest := []) rfl rfl (Or.inl rfl) rfl rfl rfl rfl rfl).trans (fs_fn fun g12 r13 => ?_)
    refine (fs_r (n := n + 1) 1 (pc' := 58) (L' := [some (.ref 4), some (.int a1), some (.int v9)]) (S' := [.int v9]) rfl).trans ?_
    exact (fs_ri (n := n + 0) rfl rfl).trans rfl
  · skip
    refine (fs_r (n := n + 13) 5 (pc' := 19) (L' := [some (.ref 4), some (.int a1), none]) (S' := [.int (a1 + 1), .int 40, .ref 4]) rfl).trans ?_
    refine (fs_cv (n := n + 12) (N := nm_m87) (as := [.ref 4, .int 40, .int (a1 + 1)]) (rest := []) rfl rfl (Or.inl rfl) rfl rfl rfl rfl rfl).trans (fs_fv fun v16 g14 r15 => ?_)
    exact (fs_ri (n := n + 11) rfl rfl).trans rfl
theorem q108 (L : Nat) (xs : Nat → Int32) (m d : Nat) (a1 : Int32) (g : a2_G) (r : a2_A) : ev L xs (m + 1) (d + 1) 108 [.ref 4, .int a1] g r = (fn_v (ev L xs (m + 1) d 52 [.ref 1, .int 54, .int 0] g r) fun v3 g1 r2 => (if am_c2 .ne v3 0 = true then (fn_v (ev L xs (m + 1) d 58 [.ref 1] g1 r2) fun v6 g4 r5 => (fn_v (ev L xs (m + 1) d 45 [.ref 2, .int 42, .int 0, .int v6] g4 r5) fun v9 g7 r8 => (fn_n (ev L xs (m + 1) d 61 [.ref 1] g7 r8) fun g10 r11 => (fn_n (ev L xs (m + 1) d 83 [.ref 1, .int 55] g10 r11) fun g12 r13 => (some (.inl (some (.int v9)), g12, r13)))))) else (fn_v (ev L xs (m + 1) d 87 [.ref 4, .int 40, .int (a1 + 1)] g1 r2) fun v16 g14 r15 => (some (.inl (some (.int v16)), g14, r15))))) := (fs_ev (M := nm_m108) rfl rfl).trans (e108 L xs (m + 1) d m 876 a1 g r)
/-- CobolParser$Statements.perform(I)I -/
def B109_263 (L : Nat) (xs : Nat → Int32) (m d k : Nat) (x1 x2 x3 : Int32) (g : a2_G) (r : a2_A) : Option fn_Z := (some (.inl (some (.int x2)), g, r))
theorem b109_263 (L : Nat) (xs : Nat → Int32) (m d k : Nat) (n : Nat) (x1 x2 x3 : Int32) (g : a2_G) (r : a2_A) : bk L xs 109 nm_m109 m d k (n + 2) 263 [some (.ref 4), some (.int x1), some (.int x2), some (.int x3), none] [] g r = B109_263 L xs m d k x1 x2 x3 g r := by
  show _ = ((some (.inl (some (.int x2)), g, r)) : Option fn_Z)
  refine (fs_r (n := n + 1) 1 (pc' := 264) (L' := [some (.ref 4), some (.int x1), some (.int x2), some (.int x3), none]) (S' := [.int x2]) rfl).trans ?_
  exact (fs_ri (n := n + 0) rfl rfl).trans rfl
def B109_213 (L : Nat) (xs : Nat → Int32) (m d k : Nat) (x1 x2 x3 : Int32) (g : a2_G) (r : a2_A) : Option fn_Z := (if am_c2 .ne x3 0 = true then (B109_263 L xs m d k x1 x2 x3 g r) else (fn_v (ev L xs m d 87 [.ref 4, .int 40, .int (x1 + 1)] g r) fun v14 g12 r13 => (fn_n (ev L xs m d 63 [.ref 2, .int x2, .int v14] g12 r13) fun g15 r16 => (fn_n (ev L xs m d 83 [.ref 1, .int 74] g15 r16) fun g17 r18 => (fn_n (ev L xs m d 69 [.ref 2, .int x2, .int 1, .int 1] g17 r18) fun g19 r20 => (fn_n (ev L xs m d 69 [.ref 2, .int x2, .int 3, .int 1] g19 r20) fun g21 r22 => (B109_263 L xs m d k x1 x2 x3 g21 r22)))))))
theorem b109_213 (L : Nat) (xs : Nat → Int32) (m d k : Nat) (n : Nat) (x1 x2 x3 : Int32) (g : a2_G) (r : a2_A) : bk L xs 109 nm_m109 m d k (n + 30) 213 [some (.ref 4), some (.int x1), some (.int x2), some (.int x3), none] [] g r = B109_213 L xs m d k x1 x2 x3 g r := by
  show _ = ((if am_c2 .ne x3 0 = true then (B109_263 L xs m d k x1 x2 x3 g r) else (fn_v (ev L xs m d 87 [.ref 4, .int 40, .int (x1 + 1)] g r) fun v14 g12 r13 => (fn_n (ev L xs m d 63 [.ref 2, .int x2, .int v14] g12 r13) fun g15 r16 => (fn_n (ev L xs m d 83 [.ref 1, .int 74] g15 r16) fun g17 r18 => (fn_n (ev L xs m d 69 [.ref 2, .int x2, .int 1, .int 1] g17 r18) fun g19 r20 => (fn_n (ev L xs m d 69 [.ref 2, .int x2, .int 3, .int 1] g19 r20) fun g21 r22 => (B109_263 L xs m d k x1 x2 x3 g21 r22))))))) : Option fn_Z)
  refine (fs_r (n := n + 29) 1 (pc' := 214) (L' := [some (.ref 4), some (.int x1), some (.int x2), some (.int x3), none]) (S' := [.int x3]) rfl).trans ?_
  refine (fs_i (n := n + 28) rfl (t := 263) rfl (by decide)).trans (fs_ite ?_ ?_)
  · skip
    exact b109_263 L xs m d k (n + 26) x1 x2 x3 g r
  · skip
    refine (fs_r (n := n + 20) 8 (pc' := 228) (L' := [some (.ref 4), some (.int x1), some (.int x2), some (.int x3), none]) (S' := [.int (x1 + 1), .int 40, .ref 4, .int x2, .ref 2]) rfl).trans ?_
    refine (fs_cv (n := n + 19) (N := nm_m87) (as := [.ref 4, .int 40, .int (x1 + 1)]) (rest := [.int x2, .ref 2]) rfl rfl (Or.inl rfl) rfl rfl rfl rfl rfl).trans (fs_fv fun v14 g12 r13 => ?_)
    refine (fs_cn (n := n + 18) (N := nm_m63) (as := [.ref 2, .int x2, .int v14]) (rest := []) rfl rfl (Or.inl rfl) rfl rfl rfl rfl rfl).trans (fs_fn fun g15 r16 => ?_)
    refine (fs_r (n := n + 15) 3 (pc' := 240) (L' := [some (.ref 4), some (.int x1), some (.int x2), some (.int x3), none]) (S' := [.int 74, .ref 1]) rfl).trans ?_
    refine (fs_cn (n := n + 14) (N := nm_m83) (as := [.ref 1, .int 74]) (rest := []) rfl rfl (Or.inl rfl) rfl rfl rfl rfl rfl).trans (fs_fn fun g17 r18 => ?_)
    refine (fs_r (n := n + 9) 5 (pc' := 250) (L' := [some (.ref 4), some (.int x1), some (.int x2), some (.int x3), none]) (S' := [.int 1, .int 1, .int x2, .ref 2]) rfl).trans ?_
    refine (fs_cn (n := n + 8) (N := nm_m69) (as := [.ref 2, .int x2, .int 1, .int 1]) (rest := []) rfl rfl (Or.inl rfl) rfl rfl rfl rfl rfl).trans (fs_fn fun g19 r20 => ?_)
    refine (fs_r (n := n + 3) 5 (pc' := 260) (L' := [some (.ref 4), some (.int x1), some (.int x2), some (.int x3), none]) (S' := [.int 1, .int 3, .int x2, .ref 2]) rfl).trans ?_
    refine (fs_cn (n := n + 2) (N := nm_m69) (as := [.ref 2, .int x2, .int 3, .int 1]) (rest := []) rfl rfl (Or.inl rfl) rfl rfl rfl rfl rfl).trans (fs_fn fun g21 r22 => ?_)
    exact b109_263 L xs m d k (n + 0) x1 x2 x3 g21 r22
def B109_108 (L : Nat) (xs : Nat → Int32) (m d k : Nat) (x1 x2 x3 : Int32) (g : a2_G) (r : a2_A) : Option fn_Z := (fn_n (ev L xs m d 110 [.ref 4, .int x2] g r) fun g10 r11 => (B109_213 L xs m d k x1 x2 x3 g10 r11))
theorem b109_108 (L : Nat) (xs : Nat → Int32) (m d k : Nat) (n : Nat) (x1 x2 x3 : Int32) (g : a2_G) (r : a2_A) : bk L xs 109 nm_m109 m d k (n + 34) 108 [some (.ref 4), some (.int x1), some (.int x2), some (.int x3), none] [] g r = B109_108 L xs m d k x1 x2 x3 g r := by
  show _ = ((fn_n (ev L xs m d 110 [.ref 4, .int x2] g r) fun g10 r11 => (B109_213 L xs m d k x1 x2 x3 g10 r11)) : Option fn_Z)
  refine (fs_r (n := n + 32) 2 (pc' := 110) (L' := [some (.ref 4), some (.int x1), some (.int x2), some (.int x3), none]) (S' := [.int x2, .ref 4]) rfl).trans ?_
  refine (fs_cn (n := n + 31) (N := nm_m110) (as := [.ref 4, .int x2]) (rest := []) rfl rfl (Or.inl rfl) rfl rfl rfl rfl rfl).trans (fs_fn fun g10 r11 => ?_)
  refine (fs_go (n := n + 30) rfl (t := 213) rfl (by decide)).trans ?_
  exact b109_213 L xs m d k (n + 0) x1 x2 x3 g10 r11
def B109_263_1 (L : Nat) (xs : Nat → Int32) (m d k : Nat) (x1 x2 x3 x4 : Int32) (g : a2_G) (r : a2_A) : Option fn_Z := (some (.inl (some (.int x2)), g, r))
theorem b109_263_1 (L : Nat) (xs : Nat → Int32) (m d k : Nat) (n : Nat) (x1 x2 x3 x4 : Int32) (g : a2_G) (r : a2_A) : bk L xs 109 nm_m109 m d k (n + 2) 263 [some (.ref 4), some (.int x1), some (.int x2), some (.int x3), some (.int x4)] [] g r = B109_263_1 L xs m d k x1 x2 x3 x4 g r := by
  show _ = ((some (.inl (some (.int x2)), g, r)) : Option fn_Z)
  refine (fs_r (n := n + 1) 1 (pc' := 264) (L' := [some (.ref 4), some (.int x1), some (.int x2), some (.int x3), some (.int x4)]) (S' := [.int x2]) rfl).trans ?_
  exact (fs_ri (n := n + 0) rfl rfl).trans rfl
def B109_213_1 (L : Nat) (xs : Nat → Int32) (m d k : Nat) (x1 x2 x3 x4 : Int32) (g : a2_G) (r : a2_A) : Option fn_Z := (if am_c2 .ne x3 0 = true then (B109_263_1 L xs m d k x1 x2 x3 x4 g r) else (fn_v (ev L xs m d 87 [.ref 4, .int 40, .int (x1 + 1)] g r) fun v44 g42 r43 => (fn_n (ev L xs m d 63 [.ref 2, .int x2, .int v44] g42 r43) fun g45 r46 => (fn_n (ev L xs m d 83 [.ref 1, .int 74] g45 r46) fun g47 r48 => (fn_n (ev L xs m d 69 [.ref 2, .int x2, .int 1, .int 1] g47 r48) fun g49 r50 => (fn_n (ev L xs m d 69 [.ref 2, .int x2, .int 3, .int 1] g49 r50) fun g51 r52 => (B109_263_1 L xs m d k x1 x2 x3 x4 g51 r52)))))))
theorem b109_213_1 (L : Nat) (xs : Nat → Int32) (m d k : Nat) (n : Nat) (x1 x2 x3 x4 : Int32) (g : a2_G) (r : a2_A) : bk L xs 109 nm_m109 m d k (n + 30) 213 [some (.ref 4), some (.int x1), some (.int x2), some (.int x3), some (.int x4)] [] g r = B109_213_1 L xs m d k x1 x2 x3 x4 g r := by
  show _ = ((if am_c2 .ne x3 0 = true then (B109_263_1 L xs m d k x1 x2 x3 x4 g r) else (fn_v (ev L xs m d 87 [.ref 4, .int 40, .int (x1 + 1)] g r) fun v44 g42 r43 => (fn_n (ev L xs m d 63 [.ref 2, .int x2, .int v44] g42 r43) fun g45 r46 => (fn_n (ev L xs m d 83 [.ref 1, .int 74] g45 r46) fun g47 r48 => (fn_n (ev L xs m d 69 [.ref 2, .int x2, .int 1, .int 1] g47 r48) fun g49 r50 => (fn_n (ev L xs m d 69 [.ref 2, .int x2, .int 3, .int 1] g49 r50) fun g51 r52 => (B109_263_1 L xs m d k x1 x2 x3 x4 g51 r52))))))) : Option fn_Z)
  refine (fs_r (n := n + 29) 1 (pc' := 214) (L' := [some (.ref 4), some (.int x1), some (.int x2), some (.int x3), some (.int x4)]) (S' := [.int x3]) rfl).trans ?_
  refine (fs_i (n := n + 28) rfl (t := 263) rfl (by decide)).trans (fs_ite ?_ ?_)
  · skip
    exact b109_263_1 L xs m d k (n + 26) x1 x2 x3 x4 g r
  · skip
    refine (fs_r (n := n + 20) 8 (pc' := 228) (L' := [some (.ref 4), some (.int x1), some (.int x2), some (.int x3), some (.int x4)]) (S' := [.int (x1 + 1), .int 40, .ref 4, .int x2, .ref 2]) rfl).trans ?_
    refine (fs_cv (n := n + 19) (N := nm_m87) (as := [.ref 4, .int 40, .int (x1 + 1)]) (rest := [.int x2, .ref 2]) rfl rfl (Or.inl rfl) rfl rfl rfl rfl rfl).trans (fs_fv fun v44 g42 r43 => ?_)
    refine (fs_cn (n := n + 18) (N := nm_m63) (as := [.ref 2, .int x2, .int v44]) (rest := []) rfl rfl (Or.inl rfl) rfl rfl rfl rfl rfl).trans (fs_fn fun g45 r46 => ?_)
    refine (fs_r (n := n + 15) 3 (pc' := 240) (L' := [some (.ref 4), some (.int x1), some (.int x2), some (.int x3), some (.int x4)]) (S' := [.int 74, .ref 1]) rfl).trans ?_
    refine (fs_cn (n := n + 14) (N := nm_m83) (as := [.ref 1, .int 74]) (rest := []) rfl rfl (Or.inl rfl) rfl rfl rfl rfl rfl).trans (fs_fn fun g47 r48 => ?_)
    refine (fs_r (n := n + 9) 5 (pc' := 250) (L' := [some (.ref 4), some (.int x1), some (.int x2), some (.int x3), some (.int x4)]) (S' := [.int 1, .int 1, .int x2, .ref 2]) rfl).trans ?_
    refine (fs_cn (n := n + 8) (N := nm_m69) (as := [.ref 2, .int x2, .int 1, .int 1]) (rest := []) rfl rfl (Or.inl rfl) rfl rfl rfl rfl rfl).trans (fs_fn fun g49 r50 => ?_)
    refine (fs_r (n := n + 3) 5 (pc' := 260) (L' := [some (.ref 4), some (.int x1), some (.int x2), some (.int x3), some (.int x4)]) (S' := [.int 1, .int 3, .int x2, .ref 2]) rfl).trans ?_
    refine (fs_cn (n := n + 2) (N := nm_m69) (as := [.ref 2, .int x2, .int 3, .int 1]) (rest := []) rfl rfl (Or.inl rfl) rfl rfl rfl rfl rfl).trans (fs_fn fun g51 r52 => ?_)
    exact b109_263_1 L xs m d k (n + 0) x1 x2 x3 x4 g51 r52
def B109_116 (L : Nat) (xs : Nat → Int32) (m d k : Nat) (x1 x2 x3 : Int32) (g : a2_G) (r : a2_A) : Option fn_Z := (fn_v (ev L xs m d 52 [.ref 1, .int 56, .int 0] g r) fun v28 g26 r27 => (if am_c2 .eq v28 0 = true then (fn_v (ev L xs m d 52 [.ref 1, .int 57, .int 0] g26 r27) fun v31 g29 r30 => (if am_c2 .eq v31 0 = true then (B109_213 L xs m d k x1 x2 x3 g29 r30) else (fn_v (ev L xs m d 112 [.ref 4, .int x2] g29 r30) fun v34 g32 r33 => (fn_n (ev L xs m d 83 [.ref 1, .int 56] g32 r33) fun g35 r36 => (fn_v (ev L xs m d 96 [.ref 5, .int x1] g35 r36) fun v39 g37 r38 => (fn_n (ev L xs m d 63 [.ref 2, .int v34, .int v39] g37 r38) fun g40 r41 => (B109_213_1 L xs m d k x1 x2 x3 v34 g40 r41))))))) else (fn_v (ev L xs m d 111 [.ref 4, .int x2, .int 44] g26 r27) fun v55 g53 r54 => (fn_n (ev L xs m d 83 [.ref 1, .int 56] g53 r54) fun g56 r57 => (fn_v (ev L xs m d 96 [.ref 5, .int x1] g56 r57) fun v60 g58 r59 => (fn_n (ev L xs m d 63 [.ref 2, .int v55, .int v60] g58 r59) fun g61 r62 => (B109_213_1 L xs m d k x1 x2 x3 v55 g61 r62)))))))
theorem b109_116 (L : Nat) (xs : Nat → Int32) (m d k : Nat) (n : Nat) (x1 x2 x3 : Int32) (g : a2_G) (r : a2_A) : bk L xs 109 nm_m109 m d k (n + 58) 116 [some (.ref 4), some (.int x1), some (.int x2), some (.int x3), none] [] g r = B109_116 L xs m d k x1 x2 x3 g r := by
  show _ = ((fn_v (ev L xs m d 52 [.ref 1, .int 56, .int 0] g r) fun v28 g26 r27 => (if am_c2 .eq v28 0 = true then (fn_v (ev L xs m d 52 [.ref 1, .int 57, .int 0] g26 r27) fun v31 g29 r30 => (if am_c2 .eq v31 0 = true then (B109_213 L xs m d k x1 x2 x3 g29 r30) else (fn_v (ev L xs m d 112 [.ref 4, .int x2] g29 r30) fun v34 g32 r33 => (fn_n (ev L xs m d 83 [.ref 1, .int 56] g32 r33) fun g35 r36 => (fn_v (ev L xs m d 96 [.ref 5, .int x1] g35 r36) fun v39 g37 r38 => (fn_n (ev L xs m d 63 [.ref 2, .int v34, .int v39] g37 r38) fun g40 r41 => (B109_213_1 L xs m d k x1 x2 x3 v34 g40 r41))))))) else (fn_v (ev L xs m d 111 [.ref 4, .int x2, .int 44] g26 r27) fun v55 g53 r54 => (fn_n (ev L xs m d 83 [.ref 1, .int 56] g53 r54) fun g56 r57 => (fn_v (ev L xs m d 96 [.ref 5, .int x1] g56 r57) fun v60 g58 r59 => (fn_n (ev L xs m d 63 [.ref 2, .int v55, .int v60] g58 r59) fun g61 r62 => (B109_213_1 L xs m d k x1 x2 x3 v55 g61 r62))))))) : Option fn_Z)
  refine (fs_r (n := n + 54) 4 (pc' := 123) (L' := [some (.ref 4), some (.int x1), some (.int x2), some (.int x3), none]) (S' := [.int 0, .int 56, .ref 1]) rfl).trans ?_
  refine (fs_cv (n := n + 53) (N := nm_m52) (as := [.ref 1, .int 56, .int 0]) (rest := []) rfl rfl (Or.inl rfl) rfl rfl rfl rfl rfl).trans (fs_fv fun v28 g26 r27 => ?_)
  refine (fs_i (n := n + 52) rfl (t := 167) rfl (by decide)).trans (fs_ite ?_ ?_)
  · skip
    refine (fs_r (n := n + 48) 4 (pc' := 174) (L' := [some (.ref 4), some (.int x1), some (.int x2), some (.int x3), none]) (S' := [.int 0, .int 57, .ref 1]) rfl).trans ?_
    refine (fs_cv (n := n + 47) (N := nm_m52) (as := [.ref 1, .int 57, .int 0]) (rest := []) rfl rfl (Or.inl rfl) rfl rfl rfl rfl rfl).trans (fs_fv fun v31 g29 r30 => ?_)
    refine (fs_i (n := n + 46) rfl (t := 213) rfl (by decide)).trans (fs_ite ?_ ?_)
    · skip
      exact b109_213 L xs m d k (n + 16) x1 x2 x3 g29 r30
    · skip
      refine (fs_r (n := n + 44) 2 (pc' := 182) (L' := [some (.ref 4), some (.int x1), some (.int x2), some (.int x3), none]) (S' := [.int x2, .ref 4]) rfl).trans ?_
      refine (fs_cv (n := n + 43) (N := nm_m112) (as := [.ref 4, .int x2]) (rest := []) rfl rfl (Or.inl rfl) rfl rfl rfl rfl rfl).trans (fs_fv fun v34 g32 r33 => ?_)
      refine (fs_r (n := n + 39) 4 (pc' := 193) (L' := [some (.ref 4), some (.int x1), some (.int x2), some (.int x3), some (.int v34)]) (S' := [.int 56, .ref 1]) rfl).trans ?_
      refine (fs_cn (n := n + 38) (N := nm_m83) (as := [.ref 1, .int 56]) (rest := []) rfl rfl (Or.inl rfl) rfl rfl rfl rfl rfl).trans (fs_fn fun g35 r36 => ?_)
      refine (fs_r (n := n + 32) 6 (pc' := 207) (L' := [some (.ref 4), some (.int x1), some (.int x2), some (.int x3), some (.int v34)]) (S' := [.int x1, .ref 5, .int v34, .ref 2]) rfl).trans ?_
      refine (fs_cv (n := n + 31) (N := nm_m96) (as := [.ref 5, .int x1]) (rest := [.int v34, .ref 2]) rfl rfl (Or.inr rfl) rfl rfl rfl rfl rfl).trans (fs_fv fun v39 g37 r38 => ?_)
      refine (fs_cn (n := n + 30) (N := nm_m63) (as := [.ref 2, .int v34, .int v39]) (rest := []) rfl rfl (Or.inl rfl) rfl rfl rfl rfl rfl).trans (fs_fn fun g40 r41 => ?_)
      exact b109_213_1 L xs m d k (n + 0) x1 x2 x3 v34 g40 r41
  · skip
    refine (fs_r (n := n + 49) 3 (pc' := 133) (L' := [some (.ref 4), some (.int x1), some (.int x2), some (.int x3), none]) (S' := [.int 44, .int x2, .ref 4]) rfl).trans ?_
    refine (fs_cv (n := n + 48) (N := nm_m111) (as := [.ref 4, .int x2, .int 44]) (rest := []) rfl rfl (Or.inl rfl) rfl rfl rfl rfl rfl).trans (fs_fv fun v55 g53 r54 => ?_)
    refine (fs_r (n := n + 44) 4 (pc' := 144) (L' := [some (.ref 4), some (.int x1), some (.int x2), some (.int x3), some (.int v55)]) (S' := [.int 56, .ref 1]) rfl).trans ?_
    refine (fs_cn (n := n + 43) (N := nm_m83) (as := [.ref 1, .int 56]) (rest := []) rfl rfl (Or.inl rfl) rfl rfl rfl rfl rfl).trans (fs_fn fun g56 r57 => ?_)
    refine (fs_r (n := n + 37) 6 (pc' := 158) (L' := [some (.ref 4), some (.int x1), some (.int x2), some (.int x3), some (.int v55)]) (S' := [.int x1, .ref 5, .int v55, .ref 2]) rfl).trans ?_
    refine (fs_cv (n := n + 36) (N := nm_m96) (as := [.ref 5, .int x1]) (rest := [.int v55, .ref 2]) rfl rfl (Or.inr rfl) rfl rfl rfl rfl rfl).trans (fs_fv fun v60 g58 r59 => ?_)
    refine (fs_cn (n := n + 35) (N := nm_m63) (as := [.ref 2, .int v55, .int v60]) (rest := []) rfl rfl (Or.inl rfl) rfl rfl rfl rfl rfl).trans (fs_fn fun g61 r62 => ?_)
    refine (fs_go (n := n + 34) rfl (t := 213) rfl (by decide)).trans ?_
    exact b109_213_1 L xs m d k (n + 4) x1 x2 x3 v55 g61 r62
def B109_73 (L : Nat) (xs : Nat → Int32) (m d k : Nat) (x1 x2 x3 : Int32) (g : a2_G) (r : a2_A) : Option fn_Z := (fn_v (ev L xs m d 50 [.ref 1, .int 2] g r) fun v9 g7 r8 => (if am_c2 .ne v9 0 = true then (B109_108 L xs m d k x1 x2 x3 g7 r8) else (fn_v (ev L xs m d 50 [.ref 1, .int 1] g7 r8) fun v25 g23 r24 => (if am_c2 .eq v25 0 = true then (B109_116 L xs m d k x1 x2 x3 g23 r24) else (fn_v (ev L xs m d 52 [.ref 1, .int 23, .int 1] g23 r24) fun v65 g63 r64 => (if am_c2 .eq v65 0 = true then (B109_116 L xs m d k x1 x2 x3 g63 r64) else (B109_108 L xs m d k x1 x2 x3 g63 r64)))))))
theorem b109_73 (L : Nat) (xs : Nat → Int32) (m d k : Nat) (n : Nat) (x1 x2 x3 : Int32) (g : a2_G) (r : a2_A) : bk L xs 109 nm_m109 m d k (n + 74) 73 [some (.ref 4), some (.int x1), some (.int x2), some (.int x3), none] [] g r = B109_73 L xs m d k x1 x2 x3 g r := by
  show _ = ((fn_v (ev L xs m d 50 [.ref 1, .int 2] g r) fun v9 g7 r8 => (if am_c2 .ne v9 0 = true then (B109_108 L xs m d k x1 x2 x3 g7 r8) else (fn_v (ev L xs m d 50 [.ref 1, .int 1] g7 r8) fun v25 g23 r24 => (if am_c2 .eq v25 0 = true then (B109_116 L xs m d k x1 x2 x3 g23 r24) else (fn_v (ev L xs m d 52 [.ref 1, .int 23, .int 1] g23 r24) fun v65 g63 r64 => (if am_c2 .eq v65 0 = true then (B109_116 L xs m d k x1 x2 x3 g63 r64) else (B109_108 L xs m d k x1 x2 x3 g63 r64))))))) : Option fn_Z)
  refine (fs_r (n := n + 71) 3 (pc' := 78) (L' := [some (.ref 4), some (.int x1), some (.int x2), some (.int x3), none]) (S' := [.int 2, .ref 1]) rfl).trans ?_
  refine (fs_cv (n := n + 70) (N := nm_m50) (as := [.ref 1, .int 2]) (rest := []) rfl rfl (Or.inl rfl) rfl rfl rfl rfl rfl).trans (fs_fv fun v9 g7 r8 => ?_)
  refine (fs_i (n := n + 69) rfl (t := 108) rfl (by decide)).trans (fs_ite ?_ ?_)
  · skip
    exact b109_108 L xs m d k (n + 35) x1 x2 x3 g7 r8
  · skip
    refine (fs_r (n := n + 66) 3 (pc' := 89) (L' := [some (.ref 4), some (.int x1), some (.int x2), some (.int x3), none]) (S' := [.int 1, .ref 1]) rfl).trans ?_
    refine (fs_cv (n := n + 65) (N := nm_m50) (as := [.ref 1, .int 1]) (rest := []) rfl rfl (Or.inl rfl) rfl rfl rfl rfl rfl).trans (fs_fv fun v25 g23 r24 => ?_)
    refine (fs_i (n := n + 64) rfl (t := 116) rfl (by decide)).trans (fs_ite ?_ ?_)
    · skip
      exact b109_116 L xs m d k (n + 6) x1 x2 x3 g23 r24
    · skip
      refine (fs_r (n := n + 60) 4 (pc' := 102) (L' := [some (.ref 4), some (.int x1), some (.int x2), some (.int x3), none]) (S' := [.int 1, .int 23, .ref 1]) rfl).trans ?_
      refine (fs_cv (n := n + 59) (N := nm_m52) (as := [.ref 1, .int 23, .int 1]) (rest := []) rfl rfl (Or.inl rfl) rfl rfl rfl rfl rfl).trans (fs_fv fun v65 g63 r64 => ?_)
      refine (fs_i (n := n + 58) rfl (t := 116) rfl (by decide)).trans (fs_ite ?_ ?_)
      · skip
        exact b109_116 L xs m d k (n + 0) x1 x2 x3 g63 r64
      · skip
        exact b109_108 L xs m d k (n + 24) x1 x2 x3 g63 r64
def B109_36 (L : Nat) (xs : Nat → Int32) (m d k : Nat) (x1 x2 x3 : Int32) (g : a2_G) (r : a2_A) : Option fn_Z := (if am_c2 .eq x3 0 = true then (B109_73 L xs m d k x1 x2 x3 g r) else (fn_n (ev L xs m d 79 [.ref 3, .int x2, .int 41] g r) fun g66 r67 => (fn_v (ev L xs m d 62 [.ref 1, .int 21] g66 r67) fun v70 g68 r69 => (if am_c2 .eq v70 0 = true then (B109_73 L xs m d k x1 x2 x3 g68 r69) else (fn_n (ev L xs m d 79 [.ref 3, .int x2, .int 41] g68 r69) fun g71 r72 => (B109_73 L xs m d k x1 x2 x3 g71 r72))))))
theorem b109_36 (L : Nat) (xs : Nat → Int32) (m d k : Nat) (n : Nat) (x1 x2 x3 : Int32) (g : a2_G) (r : a2_A) : bk L xs 109 nm_m109 m d k (n + 92) 36 [some (.ref 4), some (.int x1), some (.int x2), none, none] [.int x3] g r = B109_36 L xs m d k x1 x2 x3 g r := by
  show _ = ((if am_c2 .eq x3 0 = true then (B109_73 L xs m d k x1 x2 x3 g r) else (fn_n (ev L xs m d 79 [.ref 3, .int x2, .int 41] g r) fun g66 r67 => (fn_v (ev L xs m d 62 [.ref 1, .int 21] g66 r67) fun v70 g68 r69 => (if am_c2 .eq v70 0 = true then (B109_73 L xs m d k x1 x2 x3 g68 r69) else (fn_n (ev L xs m d 79 [.ref 3, .int x2, .int 41] g68 r69) fun g71 r72 => (B109_73 L xs m d k x1 x2 x3 g71 r72)))))) : Option fn_Z)
  refine (fs_r (n := n + 90) 2 (pc' := 38) (L' := [some (.ref 4), some (.int x1), some (.int x2), some (.int x3), none]) (S' := [.int x3]) rfl).trans ?_
  refine (fs_i (n := n + 89) rfl (t := 73) rfl (by decide)).trans (fs_ite ?_ ?_)
  · skip
    exact b109_73 L xs m d k (n + 15) x1 x2 x3 g r
  · skip
    refine (fs_r (n := n + 85) 4 (pc' := 48) (L' := [some (.ref 4), some (.int x1), some (.int x2), some (.int x3), none]) (S' := [.int 41, .int x2, .ref 3]) rfl).trans ?_
    refine (fs_cn (n := n + 84) (N := nm_m79) (as := [.ref 3, .int x2, .int 41]) (rest := []) rfl rfl (Or.inl rfl) rfl rfl rfl rfl rfl).trans (fs_fn fun g66 r67 => ?_)
    refine (fs_r (n := n + 81) 3 (pc' := 57) (L' := [some (.ref 4), some (.int x1), some (.int x2), some (.int x3), none]) (S' := [.int 21, .ref 1]) rfl).trans ?_
    refine (fs_cv (n := n + 80) (N := nm_m62) (as := [.ref 1, .int 21]) (rest := []) rfl rfl (Or.inl rfl) rfl rfl rfl rfl rfl).trans (fs_fv fun v70 g68 r69 => ?_)
    refine (fs_i (n := n + 79) rfl (t := 73) rfl (by decide)).trans (fs_ite ?_ ?_)
    · skip
      exact b109_73 L xs m d k (n + 5) x1 x2 x3 g68 r69
    · skip
      refine (fs_r (n := n + 75) 4 (pc' := 70) (L' := [some (.ref 4), some (.int x1), some (.int x2), some (.int x3), none]) (S' := [.int 41, .int x2, .ref 3]) rfl).trans ?_
      refine (fs_cn (n := n + 74) (N := nm_m79) (as := [.ref 3, .int x2, .int 41]) (rest := []) rfl rfl (Or.inl rfl) rfl rfl rfl rfl rfl).trans (fs_fn fun g71 r72 => ?_)
      exact b109_73 L xs m d k (n + 0) x1 x2 x3 g71 r72
def B109_35 (L : Nat) (xs : Nat → Int32) (m d k : Nat) (x1 x2 : Int32) (g : a2_G) (r : a2_A) : Option fn_Z := (B109_36 L xs m d k x1 x2 0 g r)
theorem b109_35 (L : Nat) (xs : Nat → Int32) (m d k : Nat) (n : Nat) (x1 x2 : Int32) (g : a2_G) (r : a2_A) : bk L xs 109 nm_m109 m d k (n + 93) 35 [some (.ref 4), some (.int x1), some (.int x2), none, none] [] g r = B109_35 L xs m d k x1 x2 g r := by
  show _ = ((B109_36 L xs m d k x1 x2 0 g r) : Option fn_Z)
  refine (fs_r (n := n + 92) 1 (pc' := 36) (L' := [some (.ref 4), some (.int x1), some (.int x2), none, none]) (S' := [.int 0]) rfl).trans ?_
  exact b109_36 L xs m d k (n + 0) x1 x2 0 g r
theorem e109 (L : Nat) (xs : Nat → Int32) (m d k : Nat) (n : Nat) (a1 : Int32) (g : a2_G) (r : a2_A) : bk L xs 109 nm_m109 m d k (n + 109) 0 [some (.ref 4), some (.int a1), none, none, none] [] g r = (fn_v (ev L xs m d 90 [.ref 4, .int 29] g r) fun v3 g1 r2 => (fn_v (ev L xs m d 50 [.ref 1, .int 1] g1 r2) fun v6 g4 r5 => (if am_c2 .eq v6 0 = true then (B109_35 L xs m d k a1 v3 g4 r5) else (fn_v (ev L xs m d 52 [.ref 1, .int 23, .int 1] g4 r5) fun v75 g73 r74 => (if am_c2 .ne v75 0 = true then (B109_35 L xs m d k a1 v3 g73 r74) else (B109_36 L xs m d k a1 v3 1 g73 r74)))))) := by
  refine (fs_r (n := n + 107) 2 (pc' := 3) (L' := [some (.ref 4), some (.int a1), none, none, none]) (S' := [.int 29, .ref 4]) rfl).trans ?_
  refine (fs_cv (n := n + 106) (N := nm_m90) (as := [.ref 4, .int 29]) (rest := []) rfl rfl (Or.inl rfl) rfl rfl rfl rfl rfl).trans (fs_fv fun v3 g1 r2 => ?_)
  refine (fs_r (n := n + 102) 4 (pc' := 12) (L' := [some (.ref 4), some (.int a1), some (.int v3), none, none]) (S' := [.int 1, .ref 1]) rfl).trans ?_
  refine (fs_cv (n := n + 101) (N := nm_m50) (as := [.ref 1, .int 1]) (rest := []) rfl rfl (Or.inl rfl) rfl rfl rfl rfl rfl).trans (fs_fv fun v6 g4 r5 => ?_)
  refine (fs_i (n := n + 100) rfl (t := 35) rfl (by decide)).trans (fs_ite ?_ ?_)
  · skip
    exact b109_35 L xs m d k (n + 7) a1 v3 g4 r5
  · skip
    refine (fs_r (n := n + 96) 4 (pc' := 25) (L' := [some (.ref 4), some (.int a1), some (.int v3), none, none]) (S' := [.int 1, .int 23, .ref 1]) rfl).trans ?_
    refine (fs_cv (n := n + 95) (N := nm_m52) (as := [.ref 1, .int 23, .int 1]) (rest := []) rfl rfl (Or.inl rfl) rfl rfl rfl rfl rfl).trans (fs_fv fun v75 g73 r74 => ?_)
    refine (fs_i (n := n + 94) rfl (t := 35) rfl (by decide)).trans (fs_ite ?_ ?_)
    · skip
      exact b109_35 L xs m d k (n + 1) a1 v3 g73 r74
    · skip
      refine (fs_r (n := n + 93) 1 (pc' := 32) (L' := [some (.ref 4), some (.int a1), some (.int v3), none, none]) (S' := [.int 1]) rfl).trans ?_
      refine (fs_go (n := n + 92) rfl (t := 36) rfl (by decide)).trans ?_
      exact b109_36 L xs m d k (n + 0) a1 v3 1 g73 r74
theorem q109 (L : Nat) (xs : Nat → Int32) (m d : Nat) (a1 : Int32) (g : a2_G) (r : a2_A) : ev L xs (m + 1) (d + 1) 109 [.ref 4, .int a1] g r = (fn_v (ev L xs (m + 1) d 90 [.ref 4, .int 29] g r) fun v3 g1 r2 => (fn_v (ev L xs (m + 1) d 50 [.ref 1, .int 1] g1 r2) fun v6 g4 r5 => (if am_c2 .eq v6 0 = true then (B109_35 L xs (m + 1) d m a1 v3 g4 r5) else (fn_v (ev L xs (m + 1) d 52 [.ref 1, .int 23, .int 1] g4 r5) fun v75 g73 r74 => (if am_c2 .ne v75 0 = true then (B109_35 L xs (m + 1) d m a1 v3 g73 r74) else (B109_36 L xs (m + 1) d m a1 v3 1 g73 r74)))))) := (fs_ev (M := nm_m109) rfl rfl).trans (e109 L xs (m + 1) d m 791 a1 g r)
/-- CobolParser$Statements.times(I)V -/
theorem e110 (L : Nat) (xs : Nat → Int32) (m d k : Nat) (n : Nat) (a1 : Int32) (g : a2_G) (r : a2_A) : bk L xs 110 nm_m110 m d k (n + 14) 0 [some (.ref 4), some (.int a1), none] [] g r = (fn_v (ev L xs m d 111 [.ref 4, .int a1, .int 43] g r) fun v3 g1 r2 => (fn_n (ev L xs m d 91 [.ref 3, .int v3] g1 r2) fun g4 r5 => (fn_n (ev L xs m d 83 [.ref 1, .int 23] g4 r5) fun g6 r7 => (some (.inl none, g6, r7))))) := by
  refine (fs_r (n := n + 11) 3 (pc' := 4) (L' := [some (.ref 4), some (.int a1), none]) (S' := [.int 43, .int a1, .ref 4]) rfl).trans ?_
  refine (fs_cv (n := n + 10) (N := nm_m111) (as := [.ref 4, .int a1, .int 43]) (rest := []) rfl rfl (Or.inl rfl) rfl rfl rfl rfl rfl).trans (fs_fv fun v3 g1 r2 => ?_)
  refine (fs_r (n := n + 6) 4 (pc' := 13) (L' := [some (.ref 4), some (.int a1), some (.int v3)]) (S' := [.int v3, .ref 3]) rfl).trans ?_
  refine (fs_cn (n := n + 5) (N := nm_m91) (as := [.ref 3, .int v3]) (rest := []) rfl rfl (Or.inl rfl) rfl rfl rfl rfl rfl).trans (fs_fn fun g4 r5 => ?_)
  refine (fs_r (n := n + 2) 3 (pc' := 22) (L' := [some (.ref 4), some (.int a1), some (.int v3)]) (S' := [.int 23, .ref 1]) rfl).trans ?_
  refine (fs_cn (n := n + 1) (N := nm_m83) (as := [.ref 1, .int 23]) (rest := []) rfl rfl (Or.inl rfl) rfl rfl rfl rfl rfl).trans (fs_fn fun g6 r7 => ?_)
  exact (fs_rv (n := n + 0) rfl rfl).trans rfl
theorem q110 (L : Nat) (xs : Nat → Int32) (m d : Nat) (a1 : Int32) (g : a2_G) (r : a2_A) : ev L xs (m + 1) (d + 1) 110 [.ref 4, .int a1] g r = (fn_v (ev L xs (m + 1) d 111 [.ref 4, .int a1, .int 43] g r) fun v3 g1 r2 => (fn_n (ev L xs (m + 1) d 91 [.ref 3, .int v3] g1 r2) fun g4 r5 => (fn_n (ev L xs (m + 1) d 83 [.ref 1, .int 23] g4 r5) fun g6 r7 => (some (.inl none, g6, r7))))) := (fs_ev (M := nm_m110) rfl rfl).trans (e110 L xs (m + 1) d m 886 a1 g r)
/-- CobolParser$Statements.phraseIn(II)I -/
theorem e111 (L : Nat) (xs : Nat → Int32) (m d k : Nat) (n : Nat) (a1 a2 : Int32) (g : a2_G) (r : a2_A) : bk L xs 111 nm_m111 m d k (n + 16) 0 [some (.ref 4), some (.int a1), some (.int a2), none] [] g r = (fn_v (ev L xs m d 58 [.ref 1] g r) fun v3 g1 r2 => (fn_v (ev L xs m d 45 [.ref 2, .int a2, .int 0, .int v3] g1 r2) fun v6 g4 r5 => (fn_n (ev L xs m d 63 [.ref 2, .int a1, .int v6] g4 r5) fun g7 r8 => (some (.inl (some (.int v6)), g7, r8))))) := by
  refine (fs_r (n := n + 10) 6 (pc' := 10) (L' := [some (.ref 4), some (.int a1), some (.int a2), none]) (S' := [.ref 1, .int 0, .int a2, .ref 2]) rfl).trans ?_
  refine (fs_cv (n := n + 9) (N := nm_m58) (as := [.ref 1]) (rest := [.int 0, .int a2, .ref 2]) rfl rfl (Or.inl rfl) rfl rfl rfl rfl rfl).trans (fs_fv fun v3 g1 r2 => ?_)
  refine (fs_cv (n := n + 8) (N := nm_m45) (as := [.ref 2, .int a2, .int 0, .int v3]) (rest := []) rfl rfl (Or.inl rfl) rfl rfl rfl rfl rfl).trans (fs_fv fun v6 g4 r5 => ?_)
  refine (fs_r (n := n + 3) 5 (pc' := 23) (L' := [some (.ref 4), some (.int a1), some (.int a2), some (.int v6)]) (S' := [.int v6, .int a1, .ref 2]) rfl).trans ?_
  refine (fs_cn (n := n + 2) (N := nm_m63) (as := [.ref 2, .int a1, .int v6]) (rest := []) rfl rfl (Or.inl rfl) rfl rfl rfl rfl rfl).trans (fs_fn fun g7 r8 => ?_)
  refine (fs_r (n := n + 1) 1 (pc' := 27) (L' := [some (.ref 4), some (.int a1), some (.int a2), some (.int v6)]) (S' := [.int v6]) rfl).trans ?_
  exact (fs_ri (n := n + 0) rfl rfl).trans rfl
theorem q111 (L : Nat) (xs : Nat → Int32) (m d : Nat) (a1 a2 : Int32) (g : a2_G) (r : a2_A) : ev L xs (m + 1) (d + 1) 111 [.ref 4, .int a1, .int a2] g r = (fn_v (ev L xs (m + 1) d 58 [.ref 1] g r) fun v3 g1 r2 => (fn_v (ev L xs (m + 1) d 45 [.ref 2, .int a2, .int 0, .int v3] g1 r2) fun v6 g4 r5 => (fn_n (ev L xs (m + 1) d 63 [.ref 2, .int a1, .int v6] g4 r5) fun g7 r8 => (some (.inl (some (.int v6)), g7, r8))))) := (fs_ev (M := nm_m111) rfl rfl).trans (e111 L xs (m + 1) d m 884 a1 a2 g r)
/-- CobolParser$Statements.varying(I)I -/
theorem e112 (L : Nat) (xs : Nat → Int32) (m d k : Nat) (n : Nat) (a1 : Int32) (g : a2_G) (r : a2_A) : bk L xs 112 nm_m112 m d k (n + 31) 0 [some (.ref 4), some (.int a1), none] [] g r = (fn_v (ev L xs m d 111 [.ref 4, .int a1, .int 45] g r) fun v3 g1 r2 => (fn_n (ev L xs m d 61 [.ref 1] g1 r2) fun g4 r5 => (fn_n (ev L xs m d 79 [.ref 3, .int v3, .int 41] g4 r5) fun g6 r7 => (fn_n (ev L xs m d 83 [.ref 1, .int 58] g6 r7) fun g8 r9 => (fn_n (ev L xs m d 91 [.ref 3, .int v3] g8 r9) fun g10 r11 => (fn_n (ev L xs m d 83 [.ref 1, .int 25] g10 r11) fun g12 r13 => (fn_n (ev L xs m d 91 [.ref 3, .int v3] g12 r13) fun g14 r15 => (some (.inl (some (.int v3)), g14, r15))))))))) := by
  refine (fs_r (n := n + 28) 3 (pc' := 4) (L' := [some (.ref 4), some (.int a1), none]) (S' := [.int 45, .int a1, .ref 4]) rfl).trans ?_
  refine (fs_cv (n := n + 27) (N := nm_m111) (as := [.ref 4, .int a1, .int 45]) (rest := []) rfl rfl (Or.inl rfl) rfl rfl rfl rfl rfl).trans (fs_fv fun v3 g1 r2 => ?_)
  refine (fs_r (n := n + 24) 3 (pc' := 12) (L' := [some (.ref 4), some (.int a1), some (.int v3)]) (S' := [.ref 1]) rfl).trans ?_
  refine (fs_cn (n := n + 23) (N := nm_m61) (as := [.ref 1]) (rest := []) rfl rfl (Or.inl rfl) rfl rfl rfl rfl rfl).trans (fs_fn fun g4 r5 => ?_)
  refine (fs_r (n := n + 19) 4 (pc' := 22) (L' := [some (.ref 4), some (.int a1), some (.int v3)]) (S' := [.int 41, .int v3, .ref 3]) rfl).trans ?_
  refine (fs_cn (n := n + 18) (N := nm_m79) (as := [.ref 3, .int v3, .int 41]) (rest := []) rfl rfl (Or.inl rfl) rfl rfl rfl rfl rfl).trans (fs_fn fun g6 r7 => ?_)
  refine (fs_r (n := n + 15) 3 (pc' := 31) (L' := [some (.ref 4), some (.int a1), some (.int v3)]) (S' := [.int 58, .ref 1]) rfl).trans ?_
  refine (fs_cn (n := n + 14) (N := nm_m83) (as := [.ref 1, .int 58]) (rest := []) rfl rfl (Or.inl rfl) rfl rfl rfl rfl rfl).trans (fs_fn fun g8 r9 => ?_)
  refine (fs_r (n := n + 11) 3 (pc' := 39) (L' := [some (.ref 4), some (.int a1), some (.int v3)]) (S' := [.int v3, .ref 3]) rfl).trans ?_
  refine (fs_cn (n := n + 10) (N := nm_m91) (as := [.ref 3, .int v3]) (rest := []) rfl rfl (Or.inl rfl) rfl rfl rfl rfl rfl).trans (fs_fn fun g10 r11 => ?_)
  refine (fs_r (n := n + 7) 3 (pc' := 48) (L' := [some (.ref 4), some (.int a1), some (.int v3)]) (S' := [.int 25, .ref 1]) rfl).trans ?_
  refine (fs_cn (n := n + 6) (N := nm_m83) (as := [.ref 1, .int 25]) (rest := []) rfl rfl (Or.inl rfl) rfl rfl rfl rfl rfl).trans (fs_fn fun g12 r13 => ?_)
  refine (fs_r (n := n + 3) 3 (pc' := 56) (L' := [some (.ref 4), some (.int a1), some (.int v3)]) (S' := [.int v3, .ref 3]) rfl).trans ?_
  refine (fs_cn (n := n + 2) (N := nm_m91) (as := [.ref 3, .int v3]) (rest := []) rfl rfl (Or.inl rfl) rfl rfl rfl rfl rfl).trans (fs_fn fun g14 r15 => ?_)
  refine (fs_r (n := n + 1) 1 (pc' := 60) (L' := [some (.ref 4), some (.int a1), some (.int v3)]) (S' := [.int v3]) rfl).trans ?_
  exact (fs_ri (n := n + 0) rfl rfl).trans rfl
theorem q112 (L : Nat) (xs : Nat → Int32) (m d : Nat) (a1 : Int32) (g : a2_G) (r : a2_A) : ev L xs (m + 1) (d + 1) 112 [.ref 4, .int a1] g r = (fn_v (ev L xs (m + 1) d 111 [.ref 4, .int a1, .int 45] g r) fun v3 g1 r2 => (fn_n (ev L xs (m + 1) d 61 [.ref 1] g1 r2) fun g4 r5 => (fn_n (ev L xs (m + 1) d 79 [.ref 3, .int v3, .int 41] g4 r5) fun g6 r7 => (fn_n (ev L xs (m + 1) d 83 [.ref 1, .int 58] g6 r7) fun g8 r9 => (fn_n (ev L xs (m + 1) d 91 [.ref 3, .int v3] g8 r9) fun g10 r11 => (fn_n (ev L xs (m + 1) d 83 [.ref 1, .int 25] g10 r11) fun g12 r13 => (fn_n (ev L xs (m + 1) d 91 [.ref 3, .int v3] g12 r13) fun g14 r15 => (some (.inl (some (.int v3)), g14, r15))))))))) := (fs_ev (M := nm_m112) rfl rfl).trans (e112 L xs (m + 1) d m 869 a1 g r)
/-- CobolParser$Statements.evaluate(I)I -/
def B113_77 (L : Nat) (xs : Nat → Int32) (m d k : Nat) (x1 x2 x3 : Int32) (g : a2_G) (r : a2_A) : Option fn_Z := (fn_n (ev L xs m d 94 [.ref 4, .int x2, .int 75] g r) fun g9 r10 => (some (.inl (some (.int x2)), g9, r10)))
theorem b113_77 (L : Nat) (xs : Nat → Int32) (m d k : Nat) (n : Nat) (x1 x2 x3 : Int32) (g : a2_G) (r : a2_A) : bk L xs 113 nm_m113 m d k (n + 6) 77 [some (.ref 4), some (.int x1), some (.int x2), some (.int x3)] [] g r = B113_77 L xs m d k x1 x2 x3 g r := by
  show _ = ((fn_n (ev L xs m d 94 [.ref 4, .int x2, .int 75] g r) fun g9 r10 => (some (.inl (some (.int x2)), g9, r10))) : Option fn_Z)
  refine (fs_r (n := n + 3) 3 (pc' := 81) (L' := [some (.ref 4), some (.int x1), some (.int x2), some (.int x3)]) (S' := [.int 75, .int x2, .ref 4]) rfl).trans ?_
  refine (fs_cn (n := n + 2) (N := nm_m94) (as := [.ref 4, .int x2, .int 75]) (rest := []) rfl rfl (Or.inl rfl) rfl rfl rfl rfl rfl).trans (fs_fn fun g9 r10 => ?_)
  refine (fs_r (n := n + 1) 1 (pc' := 85) (L' := [some (.ref 4), some (.int x1), some (.int x2), some (.int x3)]) (S' := [.int x2]) rfl).trans ?_
  exact (fs_ri (n := n + 0) rfl rfl).trans rfl
def B113_38 (L : Nat) (xs : Nat → Int32) (m d k : Nat) (x1 x2 x3 : Int32) (g : a2_G) (r : a2_A) : Option fn_Z := (if am_c2 .ge x3 1500 = true then (B113_77 L xs m d k x1 x2 x3 g r) else (fn_v (ev L xs m d 52 [.ref 1, .int 59, .int 0] g r) fun v13 g11 r12 => (if am_c2 .eq v13 0 = true then (B113_77 L xs m d k x1 x2 x3 g11 r12) else (fn_v (ev L xs m d 114 [.ref 4, .int x1] g11 r12) fun v16 g14 r15 => (fn_n (ev L xs m d 63 [.ref 2, .int x2, .int v16] g14 r15) fun g17 r18 => (lp L xs 113 nm_m113 m d k 38 [some (.ref 4), some (.int x1), some (.int x2), some (.int (x3 + 1))] g17 r18))))))
theorem b113_38 (L : Nat) (xs : Nat → Int32) (m d k : Nat) (n : Nat) (x1 x2 x3 : Int32) (g : a2_G) (r : a2_A) : bk L xs 113 nm_m113 m d k (n + 18) 38 [some (.ref 4), some (.int x1), some (.int x2), some (.int x3)] [] g r = B113_38 L xs m d k x1 x2 x3 g r := by
  show _ = ((if am_c2 .ge x3 1500 = true then (B113_77 L xs m d k x1 x2 x3 g r) else (fn_v (ev L xs m d 52 [.ref 1, .int 59, .int 0] g r) fun v13 g11 r12 => (if am_c2 .eq v13 0 = true then (B113_77 L xs m d k x1 x2 x3 g11 r12) else (fn_v (ev L xs m d 114 [.ref 4, .int x1] g11 r12) fun v16 g14 r15 => (fn_n (ev L xs m d 63 [.ref 2, .int x2, .int v16] g14 r15) fun g17 r18 => (lp L xs 113 nm_m113 m d k 38 [some (.ref 4), some (.int x1), some (.int x2), some (.int (x3 + 1))] g17 r18)))))) : Option fn_Z)
  refine (fs_r (n := n + 16) 2 (pc' := 42) (L' := [some (.ref 4), some (.int x1), some (.int x2), some (.int x3)]) (S' := [.int 1500, .int x3]) rfl).trans ?_
  refine (fs_j (n := n + 15) rfl (t := 77) rfl (by decide)).trans (fs_ite ?_ ?_)
  · skip
    exact b113_77 L xs m d k (n + 9) x1 x2 x3 g r
  · skip
    refine (fs_r (n := n + 11) 4 (pc' := 52) (L' := [some (.ref 4), some (.int x1), some (.int x2), some (.int x3)]) (S' := [.int 0, .int 59, .ref 1]) rfl).trans ?_
    refine (fs_cv (n := n + 10) (N := nm_m52) (as := [.ref 1, .int 59, .int 0]) (rest := []) rfl rfl (Or.inl rfl) rfl rfl rfl rfl rfl).trans (fs_fv fun v13 g11 r12 => ?_)
    refine (fs_i (n := n + 9) rfl (t := 77) rfl (by decide)).trans (fs_ite ?_ ?_)
    · skip
      exact b113_77 L xs m d k (n + 3) x1 x2 x3 g11 r12
    · skip
      refine (fs_r (n := n + 4) 5 (pc' := 65) (L' := [some (.ref 4), some (.int x1), some (.int x2), some (.int x3)]) (S' := [.int x1, .ref 4, .int x2, .ref 2]) rfl).trans ?_
      refine (fs_cv (n := n + 3) (N := nm_m114) (as := [.ref 4, .int x1]) (rest := [.int x2, .ref 2]) rfl rfl (Or.inl rfl) rfl rfl rfl rfl rfl).trans (fs_fv fun v16 g14 r15 => ?_)
      refine (fs_cn (n := n + 2) (N := nm_m63) (as := [.ref 2, .int x2, .int v16]) (rest := []) rfl rfl (Or.inl rfl) rfl rfl rfl rfl rfl).trans (fs_fn fun g17 r18 => ?_)
      refine (fs_r (n := n + 1) 1 (pc' := 74) (L' := [some (.ref 4), some (.int x1), some (.int x2), some (.int (x3 + 1))]) (S' := []) rfl).trans ?_
      exact (fs_gb (n := n + 0) rfl (t := 38) rfl (by decide)).trans rfl
theorem l113_38 (L : Nat) (xs : Nat → Int32) (m d k : Nat) (x1 x2 x3 : Int32) (g : a2_G) (r : a2_A) : lp L xs 113 nm_m113 m d (k + 1) 38 [some (.ref 4), some (.int x1), some (.int x2), some (.int x3)] g r = B113_38 L xs m d k x1 x2 x3 g r := fs_lp.trans (b113_38 L xs m d k 882 x1 x2 x3 g r)
def B113_36 (L : Nat) (xs : Nat → Int32) (m d k : Nat) (x1 x2 : Int32) (g : a2_G) (r : a2_A) : Option fn_Z := (B113_38 L xs m d k x1 x2 0 g r)
theorem b113_36 (L : Nat) (xs : Nat → Int32) (m d k : Nat) (n : Nat) (x1 x2 : Int32) (g : a2_G) (r : a2_A) : bk L xs 113 nm_m113 m d k (n + 20) 36 [some (.ref 4), some (.int x1), some (.int x2), none] [] g r = B113_36 L xs m d k x1 x2 g r := by
  show _ = ((B113_38 L xs m d k x1 x2 0 g r) : Option fn_Z)
  refine (fs_r (n := n + 18) 2 (pc' := 38) (L' := [some (.ref 4), some (.int x1), some (.int x2), some (.int 0)]) (S' := []) rfl).trans ?_
  exact b113_38 L xs m d k (n + 0) x1 x2 0 g r
theorem e113 (L : Nat) (xs : Nat → Int32) (m d k : Nat) (n : Nat) (a1 : Int32) (g : a2_G) (r : a2_A) : bk L xs 113 nm_m113 m d k (n + 38) 0 [some (.ref 4), some (.int a1), none, none] [] g r = (fn_v (ev L xs m d 90 [.ref 4, .int 30] g r) fun v3 g1 r2 => (fn_n (ev L xs m d 91 [.ref 3, .int v3] g1 r2) fun g4 r5 => (fn_v (ev L xs m d 52 [.ref 1, .int 59, .int 0] g4 r5) fun v8 g6 r7 => (if am_c2 .ne v8 0 = true then (B113_36 L xs m d k a1 v3 g6 r7) else (fn_n (ev L xs m d 56 [.ref 1, .int 1] g6 r7) fun g19 r20 => (B113_36 L xs m d k a1 v3 g19 r20)))))) := by
  refine (fs_r (n := n + 36) 2 (pc' := 3) (L' := [some (.ref 4), some (.int a1), none, none]) (S' := [.int 30, .ref 4]) rfl).trans ?_
  refine (fs_cv (n := n + 35) (N := nm_m90) (as := [.ref 4, .int 30]) (rest := []) rfl rfl (Or.inl rfl) rfl rfl rfl rfl rfl).trans (fs_fv fun v3 g1 r2 => ?_)
  refine (fs_r (n := n + 31) 4 (pc' := 12) (L' := [some (.ref 4), some (.int a1), some (.int v3), none]) (S' := [.int v3, .ref 3]) rfl).trans ?_
  refine (fs_cn (n := n + 30) (N := nm_m91) (as := [.ref 3, .int v3]) (rest := []) rfl rfl (Or.inl rfl) rfl rfl rfl rfl rfl).trans (fs_fn fun g4 r5 => ?_)
  refine (fs_r (n := n + 26) 4 (pc' := 22) (L' := [some (.ref 4), some (.int a1), some (.int v3), none]) (S' := [.int 0, .int 59, .ref 1]) rfl).trans ?_
  refine (fs_cv (n := n + 25) (N := nm_m52) (as := [.ref 1, .int 59, .int 0]) (rest := []) rfl rfl (Or.inl rfl) rfl rfl rfl rfl rfl).trans (fs_fv fun v8 g6 r7 => ?_)
  refine (fs_i (n := n + 24) rfl (t := 36) rfl (by decide)).trans (fs_ite ?_ ?_)
  · skip
    exact b113_36 L xs m d k (n + 4) a1 v3 g6 r7
  · skip
    refine (fs_r (n := n + 21) 3 (pc' := 33) (L' := [some (.ref 4), some (.int a1), some (.int v3), none]) (S' := [.int 1, .ref 1]) rfl).trans ?_
    refine (fs_cn (n := n + 20) (N := nm_m56) (as := [.ref 1, .int 1]) (rest := []) rfl rfl (Or.inl rfl) rfl rfl rfl rfl rfl).trans (fs_fn fun g19 r20 => ?_)
    exact b113_36 L xs m d k (n + 0) a1 v3 g19 r20
theorem q113 (L : Nat) (xs : Nat → Int32) (m d : Nat) (a1 : Int32) (g : a2_G) (r : a2_A) : ev L xs (m + 1) (d + 1) 113 [.ref 4, .int a1] g r = (fn_v (ev L xs (m + 1) d 90 [.ref 4, .int 30] g r) fun v3 g1 r2 => (fn_n (ev L xs (m + 1) d 91 [.ref 3, .int v3] g1 r2) fun g4 r5 => (fn_v (ev L xs (m + 1) d 52 [.ref 1, .int 59, .int 0] g4 r5) fun v8 g6 r7 => (if am_c2 .ne v8 0 = true then (B113_36 L xs (m + 1) d m a1 v3 g6 r7) else (fn_n (ev L xs (m + 1) d 56 [.ref 1, .int 1] g6 r7) fun g19 r20 => (B113_36 L xs (m + 1) d m a1 v3 g19 r20)))))) := (fs_ev (M := nm_m113) rfl rfl).trans (e113 L xs (m + 1) d m 862 a1 g r)
/-- CobolParser$Statements.when(I)I -/
def B114_101 (L : Nat) (xs : Nat → Int32) (m d k : Nat) (x1 x2 x3 : Int32) (g : a2_G) (r : a2_A) : Option fn_Z := (fn_v (ev L xs m d 87 [.ref 4, .int 40, .int (x1 + 1)] g r) fun v9 g7 r8 => (fn_n (ev L xs m d 63 [.ref 2, .int x2, .int v9] g7 r8) fun g10 r11 => (some (.inl (some (.int x2)), g10, r11))))
theorem b114_101 (L : Nat) (xs : Nat → Int32) (m d k : Nat) (n : Nat) (x1 x2 x3 : Int32) (g : a2_G) (r : a2_A) : bk L xs 114 nm_m114 m d k (n + 12) 101 [some (.ref 4), some (.int x1), some (.int x2), some (.int x3)] [] g r = B114_101 L xs m d k x1 x2 x3 g r := by
  show _ = ((fn_v (ev L xs m d 87 [.ref 4, .int 40, .int (x1 + 1)] g r) fun v9 g7 r8 => (fn_n (ev L xs m d 63 [.ref 2, .int x2, .int v9] g7 r8) fun g10 r11 => (some (.inl (some (.int x2)), g10, r11)))) : Option fn_Z)
  refine (fs_r (n := n + 4) 8 (pc' := 112) (L' := [some (.ref 4), some (.int x1), some (.int x2), some (.int x3)]) (S' := [.int (x1 + 1), .int 40, .ref 4, .int x2, .ref 2]) rfl).trans ?_
  refine (fs_cv (n := n + 3) (N := nm_m87) (as := [.ref 4, .int 40, .int (x1 + 1)]) (rest := [.int x2, .ref 2]) rfl rfl (Or.inl rfl) rfl rfl rfl rfl rfl).trans (fs_fv fun v9 g7 r8 => ?_)
  refine (fs_cn (n := n + 2) (N := nm_m63) (as := [.ref 2, .int x2, .int v9]) (rest := []) rfl rfl (Or.inl rfl) rfl rfl rfl rfl rfl).trans (fs_fn fun g10 r11 => ?_)
  refine (fs_r (n := n + 1) 1 (pc' := 119) (L' := [some (.ref 4), some (.int x1), some (.int x2), some (.int x3)]) (S' := [.int x2]) rfl).trans ?_
  exact (fs_ri (n := n + 0) rfl rfl).trans rfl
def B114_95 (L : Nat) (xs : Nat → Int32) (m d k : Nat) (x1 x2 x3 : Int32) (g : a2_G) (r : a2_A) : Option fn_Z := (lp L xs 114 nm_m114 m d k 20 [some (.ref 4), some (.int x1), some (.int x2), some (.int (x3 + 1))] g r)
theorem b114_95 (L : Nat) (xs : Nat → Int32) (m d k : Nat) (n : Nat) (x1 x2 x3 : Int32) (g : a2_G) (r : a2_A) : bk L xs 114 nm_m114 m d k (n + 2) 95 [some (.ref 4), some (.int x1), some (.int x2), some (.int x3)] [] g r = B114_95 L xs m d k x1 x2 x3 g r := by
  show _ = ((lp L xs 114 nm_m114 m d k 20 [some (.ref 4), some (.int x1), some (.int x2), some (.int (x3 + 1))] g r) : Option fn_Z)
  refine (fs_r (n := n + 1) 1 (pc' := 98) (L' := [some (.ref 4), some (.int x1), some (.int x2), some (.int (x3 + 1))]) (S' := []) rfl).trans ?_
  exact (fs_gb (n := n + 0) rfl (t := 20) rfl (by decide)).trans rfl
def B114_20 (L : Nat) (xs : Nat → Int32) (m d k : Nat) (x1 x2 x3 : Int32) (g : a2_G) (r : a2_A) : Option fn_Z := (if am_c2 .ge x3 1500 = true then (B114_101 L xs m d k x1 x2 x3 g r) else (fn_v (ev L xs m d 62 [.ref 1, .int 59] g r) fun v14 g12 r13 => (if am_c2 .eq v14 0 = true then (B114_101 L xs m d k x1 x2 x3 g12 r13) else (fn_v (ev L xs m d 52 [.ref 1, .int 60, .int 0] g12 r13) fun v17 g15 r16 => (if am_c2 .eq v17 0 = true then (fn_n (ev L xs m d 91 [.ref 3, .int x2] g15 r16) fun g18 r19 => (B114_95 L xs m d k x1 x2 x3 g18 r19)) else (fn_v (ev L xs m d 58 [.ref 1] g15 r16) fun v22 g20 r21 => (fn_v (ev L xs m d 45 [.ref 2, .int 47, .int 0, .int v22] g20 r21) fun v25 g23 r24 => (fn_n (ev L xs m d 63 [.ref 2, .int x2, .int v25] g23 r24) fun g26 r27 => (fn_n (ev L xs m d 61 [.ref 1] g26 r27) fun g28 r29 => (B114_95 L xs m d k x1 x2 x3 g28 r29))))))))))
theorem b114_20 (L : Nat) (xs : Nat → Int32) (m d k : Nat) (n : Nat) (x1 x2 x3 : Int32) (g : a2_G) (r : a2_A) : bk L xs 114 nm_m114 m d k (n + 32) 20 [some (.ref 4), some (.int x1), some (.int x2), some (.int x3)] [] g r = B114_20 L xs m d k x1 x2 x3 g r := by
  show _ = ((if am_c2 .ge x3 1500 = true then (B114_101 L xs m d k x1 x2 x3 g r) else (fn_v (ev L xs m d 62 [.ref 1, .int 59] g r) fun v14 g12 r13 => (if am_c2 .eq v14 0 = true then (B114_101 L xs m d k x1 x2 x3 g12 r13) else (fn_v (ev L xs m d 52 [.ref 1, .int 60, .int 0] g12 r13) fun v17 g15 r16 => (if am_c2 .eq v17 0 = true then (fn_n (ev L xs m d 91 [.ref 3, .int x2] g15 r16) fun g18 r19 => (B114_95 L xs m d k x1 x2 x3 g18 r19)) else (fn_v (ev L xs m d 58 [.ref 1] g15 r16) fun v22 g20 r21 => (fn_v (ev L xs m d 45 [.ref 2, .int 47, .int 0, .int v22] g20 r21) fun v25 g23 r24 => (fn_n (ev L xs m d 63 [.ref 2, .int x2, .int v25] g23 r24) fun g26 r27 => (fn_n (ev L xs m d 61 [.ref 1] g26 r27) fun g28 r29 => (B114_95 L xs m d k x1 x2 x3 g28 r29)))))))))) : Option fn_Z)
  refine (fs_r (n := n + 30) 2 (pc' := 24) (L' := [some (.ref 4), some (.int x1), some (.int x2), some (.int x3)]) (S' := [.int 1500, .int x3]) rfl).trans ?_
  refine (fs_j (n := n + 29) rfl (t := 101) rfl (by decide)).trans (fs_ite ?_ ?_)
  · skip
    exact b114_101 L xs m d k (n + 17) x1 x2 x3 g r
  · skip
    refine (fs_r (n := n + 26) 3 (pc' := 33) (L' := [some (.ref 4), some (.int x1), some (.int x2), some (.int x3)]) (S' := [.int 59, .ref 1]) rfl).trans ?_
    refine (fs_cv (n := n + 25) (N := nm_m62) (as := [.ref 1, .int 59]) (rest := []) rfl rfl (Or.inl rfl) rfl rfl rfl rfl rfl).trans (fs_fv fun v14 g12 r13 => ?_)
    refine (fs_i (n := n + 24) rfl (t := 101) rfl (by decide)).trans (fs_ite ?_ ?_)
    · skip
      exact b114_101 L xs m d k (n + 12) x1 x2 x3 g12 r13
    · skip
      refine (fs_r (n := n + 20) 4 (pc' := 46) (L' := [some (.ref 4), some (.int x1), some (.int x2), some (.int x3)]) (S' := [.int 0, .int 60, .ref 1]) rfl).trans ?_
      refine (fs_cv (n := n + 19) (N := nm_m52) (as := [.ref 1, .int 60, .int 0]) (rest := []) rfl rfl (Or.inl rfl) rfl rfl rfl rfl rfl).trans (fs_fv fun v17 g15 r16 => ?_)
      refine (fs_i (n := n + 18) rfl (t := 87) rfl (by decide)).trans (fs_ite ?_ ?_)
      · skip
        refine (fs_r (n := n + 15) 3 (pc' := 92) (L' := [some (.ref 4), some (.int x1), some (.int x2), some (.int x3)]) (S' := [.int x2, .ref 3]) rfl).trans ?_
        refine (fs_cn (n := n + 14) (N := nm_m91) (as := [.ref 3, .int x2]) (rest := []) rfl rfl (Or.inl rfl) rfl rfl rfl rfl rfl).trans (fs_fn fun g18 r19 => ?_)
        exact b114_95 L xs m d k (n + 12) x1 x2 x3 g18 r19
      · skip
        refine (fs_r (n := n + 9) 9 (pc' := 68) (L' := [some (.ref 4), some (.int x1), some (.int x2), some (.int x3)]) (S' := [.ref 1, .int 0, .int 47, .ref 2, .int x2, .ref 2]) rfl).trans ?_
        refine (fs_cv (n := n + 8) (N := nm_m58) (as := [.ref 1]) (rest := [.int 0, .int 47, .ref 2, .int x2, .ref 2]) rfl rfl (Or.inl rfl) rfl rfl rfl rfl rfl).trans (fs_fv fun v22 g20 r21 => ?_)
        refine (fs_cv (n := n + 7) (N := nm_m45) (as := [.ref 2, .int 47, .int 0, .int v22]) (rest := [.int x2, .ref 2]) rfl rfl (Or.inl rfl) rfl rfl rfl rfl rfl).trans (fs_fv fun v25 g23 r24 => ?_)
        refine (fs_cn (n := n + 6) (N := nm_m63) (as := [.ref 2, .int x2, .int v25]) (rest := []) rfl rfl (Or.inl rfl) rfl rfl rfl rfl rfl).trans (fs_fn fun g26 r27 => ?_)
        refine (fs_r (n := n + 4) 2 (pc' := 81) (L' := [some (.ref 4), some (.int x1), some (.int x2), some (.int x3)]) (S' := [.ref 1]) rfl).trans ?_
        refine (fs_cn (n := n + 3) (N := nm_m61) (as := [.ref 1]) (rest := []) rfl rfl (Or.inl rfl) rfl rfl rfl rfl rfl).trans (fs_fn fun g28 r29 => ?_)
        refine (fs_go (n := n + 2) rfl (t := 95) rfl (by decide)).trans ?_
        exact b114_95 L xs m d k (n + 0) x1 x2 x3 g28 r29
theorem l114_20 (L : Nat) (xs : Nat → Int32) (m d k : Nat) (x1 x2 x3 : Int32) (g : a2_G) (r : a2_A) : lp L xs 114 nm_m114 m d (k + 1) 20 [some (.ref 4), some (.int x1), some (.int x2), some (.int x3)] g r = B114_20 L xs m d k x1 x2 x3 g r := fs_lp.trans (b114_20 L xs m d k 868 x1 x2 x3 g r)
theorem e114 (L : Nat) (xs : Nat → Int32) (m d k : Nat) (n : Nat) (a1 : Int32) (g : a2_G) (r : a2_A) : bk L xs 114 nm_m114 m d k (n + 43) 0 [some (.ref 4), some (.int a1), none, none] [] g r = (fn_v (ev L xs m d 58 [.ref 1] g r) fun v3 g1 r2 => (fn_v (ev L xs m d 45 [.ref 2, .int 46, .int 0, .int v3] g1 r2) fun v6 g4 r5 => (B114_20 L xs m d k a1 v6 0 g4 r5))) := by
  refine (fs_r (n := n + 37) 6 (pc' := 11) (L' := [some (.ref 4), some (.int a1), none, none]) (S' := [.ref 1, .int 0, .int 46, .ref 2]) rfl).trans ?_
  refine (fs_cv (n := n + 36) (N := nm_m58) (as := [.ref 1]) (rest := [.int 0, .int 46, .ref 2]) rfl rfl (Or.inl rfl) rfl rfl rfl rfl rfl).trans (fs_fv fun v3 g1 r2 => ?_)
  refine (fs_cv (n := n + 35) (N := nm_m45) (as := [.ref 2, .int 46, .int 0, .int v3]) (rest := []) rfl rfl (Or.inl rfl) rfl rfl rfl rfl rfl).trans (fs_fv fun v6 g4 r5 => ?_)
  refine (fs_r (n := n + 32) 3 (pc' := 20) (L' := [some (.ref 4), some (.int a1), some (.int v6), some (.int 0)]) (S' := []) rfl).trans ?_
  exact b114_20 L xs m d k (n + 0) a1 v6 0 g4 r5
theorem q114 (L : Nat) (xs : Nat → Int32) (m d : Nat) (a1 : Int32) (g : a2_G) (r : a2_A) : ev L xs (m + 1) (d + 1) 114 [.ref 4, .int a1] g r = (fn_v (ev L xs (m + 1) d 58 [.ref 1] g r) fun v3 g1 r2 => (fn_v (ev L xs (m + 1) d 45 [.ref 2, .int 46, .int 0, .int v3] g1 r2) fun v6 g4 r5 => (B114_20 L xs (m + 1) d m a1 v6 0 g4 r5))) := (fs_ev (M := nm_m114) rfl rfl).trans (e114 L xs (m + 1) d m 857 a1 g r)
/-- CobolParser$Statements.read(I)I -/
def B115_62 (L : Nat) (xs : Nat → Int32) (m d k : Nat) (x1 x2 : Int32) (g : a2_G) (r : a2_A) : Option fn_Z := (fn_n (ev L xs m d 94 [.ref 4, .int x2, .int 76] g r) fun g12 r13 => (some (.inl (some (.int x2)), g12, r13)))
theorem b115_62 (L : Nat) (xs : Nat → Int32) (m d k : Nat) (n : Nat) (x1 x2 : Int32) (g : a2_G) (r : a2_A) : bk L xs 115 nm_m115 m d k (n + 6) 62 [some (.ref 4), some (.int x1), some (.int x2)] [] g r = B115_62 L xs m d k x1 x2 g r := by
  show _ = ((fn_n (ev L xs m d 94 [.ref 4, .int x2, .int 76] g r) fun g12 r13 => (some (.inl (some (.int x2)), g12, r13))) : Option fn_Z)
  refine (fs_r (n := n + 3) 3 (pc' := 66) (L' := [some (.ref 4), some (.int x1), some (.int x2)]) (S' := [.int 76, .int x2, .ref 4]) rfl).trans ?_
  refine (fs_cn (n := n + 2) (N := nm_m94) (as := [.ref 4, .int x2, .int 76]) (rest := []) rfl rfl (Or.inl rfl) rfl rfl rfl rfl rfl).trans (fs_fn fun g12 r13 => ?_)
  refine (fs_r (n := n + 1) 1 (pc' := 70) (L' := [some (.ref 4), some (.int x1), some (.int x2)]) (S' := [.int x2]) rfl).trans ?_
  exact (fs_ri (n := n + 0) rfl rfl).trans rfl
theorem e115 (L : Nat) (xs : Nat → Int32) (m d k : Nat) (n : Nat) (a1 : Int32) (g : a2_G) (r : a2_A) : bk L xs 115 nm_m115 m d k (n + 38) 0 [some (.ref 4), some (.int a1), none] [] g r = (fn_v (ev L xs m d 90 [.ref 4, .int 31] g r) fun v3 g1 r2 => (fn_v (ev L xs m d 59 [.ref 1, .int 1] g1 r2) fun v6 g4 r5 => (fn_n (ev L xs m d 69 [.ref 2, .int v3, .int 1, .int v6] g4 r5) fun g7 r8 => (fn_v (ev L xs m d 62 [.ref 1, .int 61] g7 r8) fun v11 g9 r10 => (if am_c2 .eq v11 0 = true then (B115_62 L xs m d k a1 v3 g9 r10) else (fn_n (ev L xs m d 83 [.ref 1, .int 33] g9 r10) fun g14 r15 => (fn_v (ev L xs m d 87 [.ref 4, .int 40, .int (a1 + 1)] g14 r15) fun v18 g16 r17 => (fn_n (ev L xs m d 63 [.ref 2, .int v3, .int v18] g16 r17) fun g19 r20 => (B115_62 L xs m d k a1 v3 g19 r20))))))))) := by
  refine (fs_r (n := n + 36) 2 (pc' := 3) (L' := [some (.ref 4), some (.int a1), none]) (S' := [.int 31, .ref 4]) rfl).trans ?_
  refine (fs_cv (n := n + 35) (N := nm_m90) (as := [.ref 4, .int 31]) (rest := []) rfl rfl (Or.inl rfl) rfl rfl rfl rfl rfl).trans (fs_fv fun v3 g1 r2 => ?_)
  refine (fs_r (n := n + 27) 8 (pc' := 18) (L' := [some (.ref 4), some (.int a1), some (.int v3)]) (S' := [.int 1, .ref 1, .int 1, .int v3, .ref 2]) rfl).trans ?_
  refine (fs_cv (n := n + 26) (N := nm_m59) (as := [.ref 1, .int 1]) (rest := [.int 1, .int v3, .ref 2]) rfl rfl (Or.inl rfl) rfl rfl rfl rfl rfl).trans (fs_fv fun v6 g4 r5 => ?_)
  refine (fs_cn (n := n + 25) (N := nm_m69) (as := [.ref 2, .int v3, .int 1, .int v6]) (rest := []) rfl rfl (Or.inl rfl) rfl rfl rfl rfl rfl).trans (fs_fn fun g7 r8 => ?_)
  refine (fs_r (n := n + 22) 3 (pc' := 30) (L' := [some (.ref 4), some (.int a1), some (.int v3)]) (S' := [.int 61, .ref 1]) rfl).trans ?_
  refine (fs_cv (n := n + 21) (N := nm_m62) (as := [.ref 1, .int 61]) (rest := []) rfl rfl (Or.inl rfl) rfl rfl rfl rfl rfl).trans (fs_fv fun v11 g9 r10 => ?_)
  refine (fs_i (n := n + 20) rfl (t := 62) rfl (by decide)).trans (fs_ite ?_ ?_)
  · skip
    exact b115_62 L xs m d k (n + 14) a1 v3 g9 r10
  · skip
    refine (fs_r (n := n + 17) 3 (pc' := 42) (L' := [some (.ref 4), some (.int a1), some (.int v3)]) (S' := [.int 33, .ref 1]) rfl).trans ?_
    refine (fs_cn (n := n + 16) (N := nm_m83) (as := [.ref 1, .int 33]) (rest := []) rfl rfl (Or.inl rfl) rfl rfl rfl rfl rfl).trans (fs_fn fun g14 r15 => ?_)
    refine (fs_r (n := n + 8) 8 (pc' := 56) (L' := [some (.ref 4), some (.int a1), some (.int v3)]) (S' := [.int (a1 + 1), .int 40, .ref 4, .int v3, .ref 2]) rfl).trans ?_
    refine (fs_cv (n := n + 7) (N := nm_m87) (as := [.ref 4, .int 40, .int (a1 + 1)]) (rest := [.int v3, .ref 2]) rfl rfl (Or.inl rfl) rfl rfl rfl rfl rfl).trans (fs_fv fun v18 g16 r17 => ?_)
    refine (fs_cn (n := n + 6) (N := nm_m63) (as := [.ref 2, .int v3, .int v18]) (rest := []) rfl rfl (Or.inl rfl) rfl rfl rfl rfl rfl).trans (fs_fn fun g19 r20 => ?_)
    exact b115_62 L xs m d k (n + 0) a1 v3 g19 r20
theorem q115 (L : Nat) (xs : Nat → Int32) (m d : Nat) (a1 : Int32) (g : a2_G) (r : a2_A) : ev L xs (m + 1) (d + 1) 115 [.ref 4, .int a1] g r = (fn_v (ev L xs (m + 1) d 90 [.ref 4, .int 31] g r) fun v3 g1 r2 => (fn_v (ev L xs (m + 1) d 59 [.ref 1, .int 1] g1 r2) fun v6 g4 r5 => (fn_n (ev L xs (m + 1) d 69 [.ref 2, .int v3, .int 1, .int v6] g4 r5) fun g7 r8 => (fn_v (ev L xs (m + 1) d 62 [.ref 1, .int 61] g7 r8) fun v11 g9 r10 => (if am_c2 .eq v11 0 = true then (B115_62 L xs (m + 1) d m a1 v3 g9 r10) else (fn_n (ev L xs (m + 1) d 83 [.ref 1, .int 33] g9 r10) fun g14 r15 => (fn_v (ev L xs (m + 1) d 87 [.ref 4, .int 40, .int (a1 + 1)] g14 r15) fun v18 g16 r17 => (fn_n (ev L xs (m + 1) d 63 [.ref 2, .int v3, .int v18] g16 r17) fun g19 r20 => (B115_62 L xs (m + 1) d m a1 v3 g19 r20))))))))) := (fs_ev (M := nm_m115) rfl rfl).trans (e115 L xs (m + 1) d m 862 a1 g r)
/-- CobolParser$Statements.call(I)I -/
def B116_85 (L : Nat) (xs : Nat → Int32) (m d k : Nat) (x1 x2 : Int32) (g : a2_G) (r : a2_A) : Option fn_Z := (fn_n (ev L xs m d 94 [.ref 4, .int x2, .int 77] g r) fun g15 r16 => (some (.inl (some (.int x2)), g15, r16)))
theorem b116_85 (L : Nat) (xs : Nat → Int32) (m d k : Nat) (n : Nat) (x1 x2 : Int32) (g : a2_G) (r : a2_A) : bk L xs 116 nm_m116 m d k (n + 6) 85 [some (.ref 4), some (.int x1), some (.int x2)] [] g r = B116_85 L xs m d k x1 x2 g r := by
  show _ = ((fn_n (ev L xs m d 94 [.ref 4, .int x2, .int 77] g r) fun g15 r16 => (some (.inl (some (.int x2)), g15, r16))) : Option fn_Z)
  refine (fs_r (n := n + 3) 3 (pc' := 89) (L' := [some (.ref 4), some (.int x1), some (.int x2)]) (S' := [.int 77, .int x2, .ref 4]) rfl).trans ?_
  refine (fs_cn (n := n + 2) (N := nm_m94) (as := [.ref 4, .int x2, .int 77]) (rest := []) rfl rfl (Or.inl rfl) rfl rfl rfl rfl rfl).trans (fs_fn fun g15 r16 => ?_)
  refine (fs_r (n := n + 1) 1 (pc' := 93) (L' := [some (.ref 4), some (.int x1), some (.int x2)]) (S' := [.int x2]) rfl).trans ?_
  exact (fs_ri (n := n + 0) rfl rfl).trans rfl
def B116_56 (L : Nat) (xs : Nat → Int32) (m d k : Nat) (x1 x2 : Int32) (g : a2_G) (r : a2_A) : Option fn_Z := (fn_v (ev L xs m d 62 [.ref 1, .int 62] g r) fun v14 g12 r13 => (if am_c2 .eq v14 0 = true then (B116_85 L xs m d k x1 x2 g12 r13) else (fn_v (ev L xs m d 87 [.ref 4, .int 40, .int (x1 + 1)] g12 r13) fun v19 g17 r18 => (fn_n (ev L xs m d 63 [.ref 2, .int x2, .int v19] g17 r18) fun g20 r21 => (B116_85 L xs m d k x1 x2 g20 r21)))))
theorem b116_56 (L : Nat) (xs : Nat → Int32) (m d k : Nat) (n : Nat) (x1 x2 : Int32) (g : a2_G) (r : a2_A) : bk L xs 116 nm_m116 m d k (n + 21) 56 [some (.ref 4), some (.int x1), some (.int x2)] [] g r = B116_56 L xs m d k x1 x2 g r := by
  show _ = ((fn_v (ev L xs m d 62 [.ref 1, .int 62] g r) fun v14 g12 r13 => (if am_c2 .eq v14 0 = true then (B116_85 L xs m d k x1 x2 g12 r13) else (fn_v (ev L xs m d 87 [.ref 4, .int 40, .int (x1 + 1)] g12 r13) fun v19 g17 r18 => (fn_n (ev L xs m d 63 [.ref 2, .int x2, .int v19] g17 r18) fun g20 r21 => (B116_85 L xs m d k x1 x2 g20 r21))))) : Option fn_Z)
  refine (fs_r (n := n + 18) 3 (pc' := 62) (L' := [some (.ref 4), some (.int x1), some (.int x2)]) (S' := [.int 62, .ref 1]) rfl).trans ?_
  refine (fs_cv (n := n + 17) (N := nm_m62) (as := [.ref 1, .int 62]) (rest := []) rfl rfl (Or.inl rfl) rfl rfl rfl rfl rfl).trans (fs_fv fun v14 g12 r13 => ?_)
  refine (fs_i (n := n + 16) rfl (t := 85) rfl (by decide)).trans (fs_ite ?_ ?_)
  · skip
    exact b116_85 L xs m d k (n + 10) x1 x2 g12 r13
  · skip
    refine (fs_r (n := n + 8) 8 (pc' := 79) (L' := [some (.ref 4), some (.int x1), some (.int x2)]) (S' := [.int (x1 + 1), .int 40, .ref 4, .int x2, .ref 2]) rfl).trans ?_
    refine (fs_cv (n := n + 7) (N := nm_m87) (as := [.ref 4, .int 40, .int (x1 + 1)]) (rest := [.int x2, .ref 2]) rfl rfl (Or.inl rfl) rfl rfl rfl rfl rfl).trans (fs_fv fun v19 g17 r18 => ?_)
    refine (fs_cn (n := n + 6) (N := nm_m63) (as := [.ref 2, .int x2, .int v19]) (rest := []) rfl rfl (Or.inl rfl) rfl rfl rfl rfl rfl).trans (fs_fn fun g20 r21 => ?_)
    exact b116_85 L xs m d k (n + 0) x1 x2 g20 r21
def B116_26 (L : Nat) (xs : Nat → Int32) (m d k : Nat) (x1 x2 : Int32) (g : a2_G) (r : a2_A) : Option fn_Z := (fn_n (ev L xs m d 91 [.ref 3, .int x2] g r) fun g7 r8 => (fn_v (ev L xs m d 62 [.ref 1, .int 31] g7 r8) fun v11 g9 r10 => (if am_c2 .eq v11 0 = true then (B116_56 L xs m d k x1 x2 g9 r10) else (fn_n (ev L xs m d 80 [.ref 3, .int x2, .int 21] g9 r10) fun g22 r23 => (B116_56 L xs m d k x1 x2 g22 r23)))))
theorem b116_26 (L : Nat) (xs : Nat → Int32) (m d k : Nat) (n : Nat) (x1 x2 : Int32) (g : a2_G) (r : a2_A) : bk L xs 116 nm_m116 m d k (n + 35) 26 [some (.ref 4), some (.int x1), some (.int x2)] [] g r = B116_26 L xs m d k x1 x2 g r := by
  show _ = ((fn_n (ev L xs m d 91 [.ref 3, .int x2] g r) fun g7 r8 => (fn_v (ev L xs m d 62 [.ref 1, .int 31] g7 r8) fun v11 g9 r10 => (if am_c2 .eq v11 0 = true then (B116_56 L xs m d k x1 x2 g9 r10) else (fn_n (ev L xs m d 80 [.ref 3, .int x2, .int 21] g9 r10) fun g22 r23 => (B116_56 L xs m d k x1 x2 g22 r23))))) : Option fn_Z)
  refine (fs_r (n := n + 32) 3 (pc' := 31) (L' := [some (.ref 4), some (.int x1), some (.int x2)]) (S' := [.int x2, .ref 3]) rfl).trans ?_
  refine (fs_cn (n := n + 31) (N := nm_m91) (as := [.ref 3, .int x2]) (rest := []) rfl rfl (Or.inl rfl) rfl rfl rfl rfl rfl).trans (fs_fn fun g7 r8 => ?_)
  refine (fs_r (n := n + 28) 3 (pc' := 40) (L' := [some (.ref 4), some (.int x1), some (.int x2)]) (S' := [.int 31, .ref 1]) rfl).trans ?_
  refine (fs_cv (n := n + 27) (N := nm_m62) (as := [.ref 1, .int 31]) (rest := []) rfl rfl (Or.inl rfl) rfl rfl rfl rfl rfl).trans (fs_fv fun v11 g9 r10 => ?_)
  refine (fs_i (n := n + 26) rfl (t := 56) rfl (by decide)).trans (fs_ite ?_ ?_)
  · skip
    exact b116_56 L xs m d k (n + 5) x1 x2 g9 r10
  · skip
    refine (fs_r (n := n + 22) 4 (pc' := 53) (L' := [some (.ref 4), some (.int x1), some (.int x2)]) (S' := [.int 21, .int x2, .ref 3]) rfl).trans ?_
    refine (fs_cn (n := n + 21) (N := nm_m80) (as := [.ref 3, .int x2, .int 21]) (rest := []) rfl rfl (Or.inl rfl) rfl rfl rfl rfl rfl).trans (fs_fn fun g22 r23 => ?_)
    exact b116_56 L xs m d k (n + 0) x1 x2 g22 r23
theorem e116 (L : Nat) (xs : Nat → Int32) (m d k : Nat) (n : Nat) (a1 : Int32) (g : a2_G) (r : a2_A) : bk L xs 116 nm_m116 m d k (n + 48) 0 [some (.ref 4), some (.int a1), none] [] g r = (fn_v (ev L xs m d 90 [.ref 4, .int 32] g r) fun v3 g1 r2 => (fn_v (ev L xs m d 50 [.ref 1, .int 2] g1 r2) fun v6 g4 r5 => (if am_c2 .eq v6 0 = true then (B116_26 L xs m d k a1 v3 g4 r5) else (fn_n (ev L xs m d 56 [.ref 1, .int 1] g4 r5) fun g24 r25 => (B116_26 L xs m d k a1 v3 g24 r25))))) := by
  refine (fs_r (n := n + 46) 2 (pc' := 3) (L' := [some (.ref 4), some (.int a1), none]) (S' := [.int 32, .ref 4]) rfl).trans ?_
  refine (fs_cv (n := n + 45) (N := nm_m90) (as := [.ref 4, .int 32]) (rest := []) rfl rfl (Or.inl rfl) rfl rfl rfl rfl rfl).trans (fs_fv fun v3 g1 r2 => ?_)
  refine (fs_r (n := n + 41) 4 (pc' := 12) (L' := [some (.ref 4), some (.int a1), some (.int v3)]) (S' := [.int 2, .ref 1]) rfl).trans ?_
  refine (fs_cv (n := n + 40) (N := nm_m50) (as := [.ref 1, .int 2]) (rest := []) rfl rfl (Or.inl rfl) rfl rfl rfl rfl rfl).trans (fs_fv fun v6 g4 r5 => ?_)
  refine (fs_i (n := n + 39) rfl (t := 26) rfl (by decide)).trans (fs_ite ?_ ?_)
  · skip
    exact b116_26 L xs m d k (n + 4) a1 v3 g4 r5
  · skip
    refine (fs_r (n := n + 36) 3 (pc' := 23) (L' := [some (.ref 4), some (.int a1), some (.int v3)]) (S' := [.int 1, .ref 1]) rfl).trans ?_
    refine (fs_cn (n := n + 35) (N := nm_m56) (as := [.ref 1, .int 1]) (rest := []) rfl rfl (Or.inl rfl) rfl rfl rfl rfl rfl).trans (fs_fn fun g24 r25 => ?_)
    exact b116_26 L xs m d k (n + 0) a1 v3 g24 r25
theorem q116 (L : Nat) (xs : Nat → Int32) (m d : Nat) (a1 : Int32) (g : a2_G) (r : a2_A) : ev L xs (m + 1) (d + 1) 116 [.ref 4, .int a1] g r = (fn_v (ev L xs (m + 1) d 90 [.ref 4, .int 32] g r) fun v3 g1 r2 => (fn_v (ev L xs (m + 1) d 50 [.ref 1, .int 2] g1 r2) fun v6 g4 r5 => (if am_c2 .eq v6 0 = true then (B116_26 L xs (m + 1) d m a1 v3 g4 r5) else (fn_n (ev L xs (m + 1) d 56 [.ref 1, .int 1] g4 r5) fun g24 r25 => (B116_26 L xs (m + 1) d m a1 v3 g24 r25))))) := (fs_ev (M := nm_m116) rfl rfl).trans (e116 L xs (m + 1) d m 852 a1 g r)
/-- CobolParser$Statements.display()I -/
theorem e117 (L : Nat) (xs : Nat → Int32) (m d k : Nat) (n : Nat) (g : a2_G) (r : a2_A) : bk L xs 117 nm_m117 m d k (n + 9) 0 [some (.ref 4), none] [] g r = (fn_v (ev L xs m d 90 [.ref 4, .int 33] g r) fun v3 g1 r2 => (fn_n (ev L xs m d 93 [.ref 4, .int v3] g1 r2) fun g4 r5 => (some (.inl (some (.int v3)), g4, r5)))) := by
  refine (fs_r (n := n + 7) 2 (pc' := 3) (L' := [some (.ref 4), none]) (S' := [.int 33, .ref 4]) rfl).trans ?_
  refine (fs_cv (n := n + 6) (N := nm_m90) (as := [.ref 4, .int 33]) (rest := []) rfl rfl (Or.inl rfl) rfl rfl rfl rfl rfl).trans (fs_fv fun v3 g1 r2 => ?_)
  refine (fs_r (n := n + 3) 3 (pc' := 9) (L' := [some (.ref 4), some (.int v3)]) (S' := [.int v3, .ref 4]) rfl).trans ?_
  refine (fs_cn (n := n + 2) (N := nm_m93) (as := [.ref 4, .int v3]) (rest := []) rfl rfl (Or.inl rfl) rfl rfl rfl rfl rfl).trans (fs_fn fun g4 r5 => ?_)
  refine (fs_r (n := n + 1) 1 (pc' := 13) (L' := [some (.ref 4), some (.int v3)]) (S' := [.int v3]) rfl).trans ?_
  exact (fs_ri (n := n + 0) rfl rfl).trans rfl
theorem q117 (L : Nat) (xs : Nat → Int32) (m d : Nat) (g : a2_G) (r : a2_A) : ev L xs (m + 1) (d + 1) 117 [.ref 4] g r = (fn_v (ev L xs (m + 1) d 90 [.ref 4, .int 33] g r) fun v3 g1 r2 => (fn_n (ev L xs (m + 1) d 93 [.ref 4, .int v3] g1 r2) fun g4 r5 => (some (.inl (some (.int v3)), g4, r5)))) := (fs_ev (M := nm_m117) rfl rfl).trans (e117 L xs (m + 1) d m 891 g r)
/-- CobolParser$Statements.goTo()I -/
theorem e118 (L : Nat) (xs : Nat → Int32) (m d k : Nat) (n : Nat) (g : a2_G) (r : a2_A) : bk L xs 118 nm_m118 m d k (n + 20) 0 [some (.ref 4), none] [] g r = (fn_v (ev L xs m d 90 [.ref 4, .int 34] g r) fun v3 g1 r2 => (fn_v (ev L xs m d 62 [.ref 1, .int 48] g1 r2) fun v6 g4 r5 => (fn_v (ev L xs m d 59 [.ref 1, .int 1] g4 r5) fun v9 g7 r8 => (fn_n (ev L xs m d 69 [.ref 2, .int v3, .int 1, .int v9] g7 r8) fun g10 r11 => (some (.inl (some (.int v3)), g10, r11)))))) := by
  refine (fs_r (n := n + 18) 2 (pc' := 3) (L' := [some (.ref 4), none]) (S' := [.int 34, .ref 4]) rfl).trans ?_
  refine (fs_cv (n := n + 17) (N := nm_m90) (as := [.ref 4, .int 34]) (rest := []) rfl rfl (Or.inl rfl) rfl rfl rfl rfl rfl).trans (fs_fv fun v3 g1 r2 => ?_)
  refine (fs_r (n := n + 13) 4 (pc' := 13) (L' := [some (.ref 4), some (.int v3)]) (S' := [.int 48, .ref 1]) rfl).trans ?_
  refine (fs_cv (n := n + 12) (N := nm_m62) (as := [.ref 1, .int 48]) (rest := []) rfl rfl (Or.inl rfl) rfl rfl rfl rfl rfl).trans (fs_fv fun v6 g4 r5 => ?_)
  refine (fs_r (n := n + 4) 8 (pc' := 28) (L' := [some (.ref 4), some (.int v3)]) (S' := [.int 1, .ref 1, .int 1, .int v3, .ref 2]) rfl).trans ?_
  refine (fs_cv (n := n + 3) (N := nm_m59) (as := [.ref 1, .int 1]) (rest := [.int 1, .int v3, .ref 2]) rfl rfl (Or.inl rfl) rfl rfl rfl rfl rfl).trans (fs_fv fun v9 g7 r8 => ?_)
  refine (fs_cn (n := n + 2) (N := nm_m69) (as := [.ref 2, .int v3, .int 1, .int v9]) (rest := []) rfl rfl (Or.inl rfl) rfl rfl rfl rfl rfl).trans (fs_fn fun g10 r11 => ?_)
  refine (fs_r (n := n + 1) 1 (pc' := 35) (L' := [some (.ref 4), some (.int v3)]) (S' := [.int v3]) rfl).trans ?_
  exact (fs_ri (n := n + 0) rfl rfl).trans rfl
theorem q118 (L : Nat) (xs : Nat → Int32) (m d : Nat) (g : a2_G) (r : a2_A) : ev L xs (m + 1) (d + 1) 118 [.ref 4] g r = (fn_v (ev L xs (m + 1) d 90 [.ref 4, .int 34] g r) fun v3 g1 r2 => (fn_v (ev L xs (m + 1) d 62 [.ref 1, .int 48] g1 r2) fun v6 g4 r5 => (fn_v (ev L xs (m + 1) d 59 [.ref 1, .int 1] g4 r5) fun v9 g7 r8 => (fn_n (ev L xs (m + 1) d 69 [.ref 2, .int v3, .int 1, .int v9] g7 r8) fun g10 r11 => (some (.inl (some (.int v3)), g10, r11)))))) := (fs_ev (M := nm_m118) rfl rfl).trans (e118 L xs (m + 1) d m 880 g r)
/-- CobolParser$Statements.stop()I -/
theorem e119 (L : Nat) (xs : Nat → Int32) (m d k : Nat) (n : Nat) (g : a2_G) (r : a2_A) : bk L xs 119 nm_m119 m d k (n + 10) 0 [some (.ref 4), none] [] g r = (fn_v (ev L xs m d 90 [.ref 4, .int 35] g r) fun v3 g1 r2 => (fn_n (ev L xs m d 83 [.ref 1, .int 63] g1 r2) fun g4 r5 => (some (.inl (some (.int v3)), g4, r5)))) := by
  refine (fs_r (n := n + 8) 2 (pc' := 3) (L' := [some (.ref 4), none]) (S' := [.int 35, .ref 4]) rfl).trans ?_
  refine (fs_cv (n := n + 7) (N := nm_m90) (as := [.ref 4, .int 35]) (rest := []) rfl rfl (Or.inl rfl) rfl rfl rfl rfl rfl).trans (fs_fv fun v3 g1 r2 => ?_)
  refine (fs_r (n := n + 3) 4 (pc' := 13) (L' := [some (.ref 4), some (.int v3)]) (S' := [.int 63, .ref 1]) rfl).trans ?_
  refine (fs_cn (n := n + 2) (N := nm_m83) (as := [.ref 1, .int 63]) (rest := []) rfl rfl (Or.inl rfl) rfl rfl rfl rfl rfl).trans (fs_fn fun g4 r5 => ?_)
  refine (fs_r (n := n + 1) 1 (pc' := 17) (L' := [some (.ref 4), some (.int v3)]) (S' := [.int v3]) rfl).trans ?_
  exact (fs_ri (n := n + 0) rfl rfl).trans rfl
theorem q119 (L : Nat) (xs : Nat → Int32) (m d : Nat) (g : a2_G) (r : a2_A) : ev L xs (m + 1) (d + 1) 119 [.ref 4] g r = (fn_v (ev L xs (m + 1) d 90 [.ref 4, .int 35] g r) fun v3 g1 r2 => (fn_n (ev L xs (m + 1) d 83 [.ref 1, .int 63] g1 r2) fun g4 r5 => (some (.inl (some (.int v3)), g4, r5)))) := (fs_ev (M := nm_m119) rfl rfl).trans (e119 L xs (m + 1) d m 890 g r)
/-- CobolParser$Statements.compute(I)I -/
theorem e120 (L : Nat) (xs : Nat → Int32) (m d k : Nat) (n : Nat) (a1 : Int32) (g : a2_G) (r : a2_A) : bk L xs 120 nm_m120 m d k (n + 31) 0 [some (.ref 4), some (.int a1), none] [] g r = (fn_v (ev L xs m d 90 [.ref 4, .int 38] g r) fun v3 g1 r2 => (fn_v (ev L xs m d 59 [.ref 1, .int 1] g1 r2) fun v6 g4 r5 => (fn_n (ev L xs m d 69 [.ref 2, .int v3, .int 1, .int v6] g4 r5) fun g7 r8 => (fn_n (ev L xs m d 102 [.ref 1, .int 2] g7 r8) fun g9 r10 => (fn_v (ev L xs m d 121 [.ref 5, .int a1] g9 r10) fun v13 g11 r12 => (fn_n (ev L xs m d 63 [.ref 2, .int v3, .int v13] g11 r12) fun g14 r15 => (fn_n (ev L xs m d 94 [.ref 4, .int v3, .int 78] g14 r15) fun g16 r17 => (some (.inl (some (.int v3)), g16, r17))))))))) := by
  refine (fs_r (n := n + 29) 2 (pc' := 3) (L' := [some (.ref 4), some (.int a1), none]) (S' := [.int 38, .ref 4]) rfl).trans ?_
  refine (fs_cv (n := n + 28) (N := nm_m90) (as := [.ref 4, .int 38]) (rest := []) rfl rfl (Or.inl rfl) rfl rfl rfl rfl rfl).trans (fs_fv fun v3 g1 r2 => ?_)
  refine (fs_r (n := n + 20) 8 (pc' := 18) (L' := [some (.ref 4), some (.int a1), some (.int v3)]) (S' := [.int 1, .ref 1, .int 1, .int v3, .ref 2]) rfl).trans ?_
  refine (fs_cv (n := n + 19) (N := nm_m59) (as := [.ref 1, .int 1]) (rest := [.int 1, .int v3, .ref 2]) rfl rfl (Or.inl rfl) rfl rfl rfl rfl rfl).trans (fs_fv fun v6 g4 r5 => ?_)
  refine (fs_cn (n := n + 18) (N := nm_m69) (as := [.ref 2, .int v3, .int 1, .int v6]) (rest := []) rfl rfl (Or.inl rfl) rfl rfl rfl rfl rfl).trans (fs_fn fun g7 r8 => ?_)
  refine (fs_r (n := n + 15) 3 (pc' := 29) (L' := [some (.ref 4), some (.int a1), some (.int v3)]) (S' := [.int 2, .ref 1]) rfl).trans ?_
  refine (fs_cn (n := n + 14) (N := nm_m102) (as := [.ref 1, .int 2]) (rest := []) rfl rfl (Or.inl rfl) rfl rfl rfl rfl rfl).trans (fs_fn fun g9 r10 => ?_)
  refine (fs_r (n := n + 8) 6 (pc' := 42) (L' := [some (.ref 4), some (.int a1), some (.int v3)]) (S' := [.int a1, .ref 5, .int v3, .ref 2]) rfl).trans ?_
  refine (fs_cv (n := n + 7) (N := nm_m121) (as := [.ref 5, .int a1]) (rest := [.int v3, .ref 2]) rfl rfl (Or.inr rfl) rfl rfl rfl rfl rfl).trans (fs_fv fun v13 g11 r12 => ?_)
  refine (fs_cn (n := n + 6) (N := nm_m63) (as := [.ref 2, .int v3, .int v13]) (rest := []) rfl rfl (Or.inl rfl) rfl rfl rfl rfl rfl).trans (fs_fn fun g14 r15 => ?_)
  refine (fs_r (n := n + 3) 3 (pc' := 52) (L' := [some (.ref 4), some (.int a1), some (.int v3)]) (S' := [.int 78, .int v3, .ref 4]) rfl).trans ?_
  refine (fs_cn (n := n + 2) (N := nm_m94) (as := [.ref 4, .int v3, .int 78]) (rest := []) rfl rfl (Or.inl rfl) rfl rfl rfl rfl rfl).trans (fs_fn fun g16 r17 => ?_)
  refine (fs_r (n := n + 1) 1 (pc' := 56) (L' := [some (.ref 4), some (.int a1), some (.int v3)]) (S' := [.int v3]) rfl).trans ?_
  exact (fs_ri (n := n + 0) rfl rfl).trans rfl
theorem q120 (L : Nat) (xs : Nat → Int32) (m d : Nat) (a1 : Int32) (g : a2_G) (r : a2_A) : ev L xs (m + 1) (d + 1) 120 [.ref 4, .int a1] g r = (fn_v (ev L xs (m + 1) d 90 [.ref 4, .int 38] g r) fun v3 g1 r2 => (fn_v (ev L xs (m + 1) d 59 [.ref 1, .int 1] g1 r2) fun v6 g4 r5 => (fn_n (ev L xs (m + 1) d 69 [.ref 2, .int v3, .int 1, .int v6] g4 r5) fun g7 r8 => (fn_n (ev L xs (m + 1) d 102 [.ref 1, .int 2] g7 r8) fun g9 r10 => (fn_v (ev L xs (m + 1) d 121 [.ref 5, .int a1] g9 r10) fun v13 g11 r12 => (fn_n (ev L xs (m + 1) d 63 [.ref 2, .int v3, .int v13] g11 r12) fun g14 r15 => (fn_n (ev L xs (m + 1) d 94 [.ref 4, .int v3, .int 78] g14 r15) fun g16 r17 => (some (.inl (some (.int v3)), g16, r17))))))))) := (fs_ev (M := nm_m120) rfl rfl).trans (e120 L xs (m + 1) d m 869 a1 g r)
/-- CobolParser$Expressions.sum(I)I -/
def B121_86 (L : Nat) (xs : Nat → Int32) (m d k : Nat) (x1 x2 x3 : Int32) (g : a2_G) (r : a2_A) : Option fn_Z := (some (.inl (some (.int x2)), g, r))
theorem b121_86 (L : Nat) (xs : Nat → Int32) (m d k : Nat) (n : Nat) (x1 x2 x3 : Int32) (g : a2_G) (r : a2_A) : bk L xs 121 nm_m121 m d k (n + 2) 86 [some (.ref 5), some (.int x1), some (.int x2), some (.int x3), none] [] g r = B121_86 L xs m d k x1 x2 x3 g r := by
  show _ = ((some (.inl (some (.int x2)), g, r)) : Option fn_Z)
  refine (fs_r (n := n + 1) 1 (pc' := 87) (L' := [some (.ref 5), some (.int x1), some (.int x2), some (.int x3), none]) (S' := [.int x2]) rfl).trans ?_
  exact (fs_ri (n := n + 0) rfl rfl).trans rfl
def B121_40 (L : Nat) (xs : Nat → Int32) (m d k : Nat) (x1 x2 x3 : Int32) (g : a2_G) (r : a2_A) : Option fn_Z := (fn_v (ev L xs m d 60 [.ref 1] g r) fun v9 g7 r8 => (fn_v (ev L xs m d 107 [.ref 5, .int 55, .int v9, .int x2] g7 r8) fun v12 g10 r11 => (fn_n (ev L xs m d 61 [.ref 1] g10 r11) fun g13 r14 => (fn_v (ev L xs m d 122 [.ref 5, .int x1] g13 r14) fun v17 g15 r16 => (fn_n (ev L xs m d 63 [.ref 2, .int v12, .int v17] g15 r16) fun g18 r19 => (lp L xs 121 nm_m121 m d k 8 [some (.ref 5), some (.int x1), some (.int v12), some (.int (x3 + 1)), some (.int v12)] g18 r19))))))
theorem b121_40 (L : Nat) (xs : Nat → Int32) (m d k : Nat) (n : Nat) (x1 x2 x3 : Int32) (g : a2_G) (r : a2_A) : bk L xs 121 nm_m121 m d k (n + 22) 40 [some (.ref 5), some (.int x1), some (.int x2), some (.int x3), none] [] g r = B121_40 L xs m d k x1 x2 x3 g r := by
  show _ = ((fn_v (ev L xs m d 60 [.ref 1] g r) fun v9 g7 r8 => (fn_v (ev L xs m d 107 [.ref 5, .int 55, .int v9, .int x2] g7 r8) fun v12 g10 r11 => (fn_n (ev L xs m d 61 [.ref 1] g10 r11) fun g13 r14 => (fn_v (ev L xs m d 122 [.ref 5, .int x1] g13 r14) fun v17 g15 r16 => (fn_n (ev L xs m d 63 [.ref 2, .int v12, .int v17] g15 r16) fun g18 r19 => (lp L xs 121 nm_m121 m d k 8 [some (.ref 5), some (.int x1), some (.int v12), some (.int (x3 + 1)), some (.int v12)] g18 r19)))))) : Option fn_Z)
  refine (fs_r (n := n + 18) 4 (pc' := 47) (L' := [some (.ref 5), some (.int x1), some (.int x2), some (.int x3), none]) (S' := [.ref 1, .int 55, .ref 5]) rfl).trans ?_
  refine (fs_cv (n := n + 17) (N := nm_m60) (as := [.ref 1]) (rest := [.int 55, .ref 5]) rfl rfl (Or.inl rfl) rfl rfl rfl rfl rfl).trans (fs_fv fun v9 g7 r8 => ?_)
  refine (fs_r (n := n + 16) 1 (pc' := 51) (L' := [some (.ref 5), some (.int x1), some (.int x2), some (.int x3), none]) (S' := [.int x2, .int v9, .int 55, .ref 5]) rfl).trans ?_
  refine (fs_cv (n := n + 15) (N := nm_m107) (as := [.ref 5, .int 55, .int v9, .int x2]) (rest := []) rfl rfl (Or.inl rfl) rfl rfl rfl rfl rfl).trans (fs_fv fun v12 g10 r11 => ?_)
  refine (fs_r (n := n + 12) 3 (pc' := 60) (L' := [some (.ref 5), some (.int x1), some (.int x2), some (.int x3), some (.int v12)]) (S' := [.ref 1]) rfl).trans ?_
  refine (fs_cn (n := n + 11) (N := nm_m61) (as := [.ref 1]) (rest := []) rfl rfl (Or.inl rfl) rfl rfl rfl rfl rfl).trans (fs_fn fun g13 r14 => ?_)
  refine (fs_r (n := n + 6) 5 (pc' := 71) (L' := [some (.ref 5), some (.int x1), some (.int x2), some (.int x3), some (.int v12)]) (S' := [.int x1, .ref 5, .int v12, .ref 2]) rfl).trans ?_
  refine (fs_cv (n := n + 5) (N := nm_m122) (as := [.ref 5, .int x1]) (rest := [.int v12, .ref 2]) rfl rfl (Or.inl rfl) rfl rfl rfl rfl rfl).trans (fs_fv fun v17 g15 r16 => ?_)
  refine (fs_cn (n := n + 4) (N := nm_m63) (as := [.ref 2, .int v12, .int v17]) (rest := []) rfl rfl (Or.inl rfl) rfl rfl rfl rfl rfl).trans (fs_fn fun g18 r19 => ?_)
  refine (fs_r (n := n + 1) 3 (pc' := 83) (L' := [some (.ref 5), some (.int x1), some (.int v12), some (.int (x3 + 1)), some (.int v12)]) (S' := []) rfl).trans ?_
  exact (fs_gb (n := n + 0) rfl (t := 8) rfl (by decide)).trans rfl
def B121_8 (L : Nat) (xs : Nat → Int32) (m d k : Nat) (x1 x2 x3 : Int32) (g : a2_G) (r : a2_A) : Option fn_Z := (if am_c2 .ge x3 1500 = true then (B121_86 L xs m d k x1 x2 x3 g r) else (fn_v (ev L xs m d 101 [.ref 1, .int 5, .int 0] g r) fun v6 g4 r5 => (if am_c2 .ne v6 0 = true then (B121_40 L xs m d k x1 x2 x3 g4 r5) else (fn_v (ev L xs m d 101 [.ref 1, .int 6, .int 0] g4 r5) fun v22 g20 r21 => (if am_c2 .eq v22 0 = true then (B121_86 L xs m d k x1 x2 x3 g20 r21) else (B121_40 L xs m d k x1 x2 x3 g20 r21))))))
theorem b121_8 (L : Nat) (xs : Nat → Int32) (m d k : Nat) (n : Nat) (x1 x2 x3 : Int32) (g : a2_G) (r : a2_A) : bk L xs 121 nm_m121 m d k (n + 37) 8 [some (.ref 5), some (.int x1), some (.int x2), some (.int x3), none] [] g r = B121_8 L xs m d k x1 x2 x3 g r := by
  show _ = ((if am_c2 .ge x3 1500 = true then (B121_86 L xs m d k x1 x2 x3 g r) else (fn_v (ev L xs m d 101 [.ref 1, .int 5, .int 0] g r) fun v6 g4 r5 => (if am_c2 .ne v6 0 = true then (B121_40 L xs m d k x1 x2 x3 g4 r5) else (fn_v (ev L xs m d 101 [.ref 1, .int 6, .int 0] g4 r5) fun v22 g20 r21 => (if am_c2 .eq v22 0 = true then (B121_86 L xs m d k x1 x2 x3 g20 r21) else (B121_40 L xs m d k x1 x2 x3 g20 r21)))))) : Option fn_Z)
  refine (fs_r (n := n + 35) 2 (pc' := 12) (L' := [some (.ref 5), some (.int x1), some (.int x2), some (.int x3), none]) (S' := [.int 1500, .int x3]) rfl).trans ?_
  refine (fs_j (n := n + 34) rfl (t := 86) rfl (by decide)).trans (fs_ite ?_ ?_)
  · skip
    exact b121_86 L xs m d k (n + 32) x1 x2 x3 g r
  · skip
    refine (fs_r (n := n + 30) 4 (pc' := 21) (L' := [some (.ref 5), some (.int x1), some (.int x2), some (.int x3), none]) (S' := [.int 0, .int 5, .ref 1]) rfl).trans ?_
    refine (fs_cv (n := n + 29) (N := nm_m101) (as := [.ref 1, .int 5, .int 0]) (rest := []) rfl rfl (Or.inl rfl) rfl rfl rfl rfl rfl).trans (fs_fv fun v6 g4 r5 => ?_)
    refine (fs_i (n := n + 28) rfl (t := 40) rfl (by decide)).trans (fs_ite ?_ ?_)
    · skip
      exact b121_40 L xs m d k (n + 6) x1 x2 x3 g4 r5
    · skip
      refine (fs_r (n := n + 24) 4 (pc' := 34) (L' := [some (.ref 5), some (.int x1), some (.int x2), some (.int x3), none]) (S' := [.int 0, .int 6, .ref 1]) rfl).trans ?_
      refine (fs_cv (n := n + 23) (N := nm_m101) (as := [.ref 1, .int 6, .int 0]) (rest := []) rfl rfl (Or.inl rfl) rfl rfl rfl rfl rfl).trans (fs_fv fun v22 g20 r21 => ?_)
      refine (fs_i (n := n + 22) rfl (t := 86) rfl (by decide)).trans (fs_ite ?_ ?_)
      · skip
        exact b121_86 L xs m d k (n + 20) x1 x2 x3 g20 r21
      · skip
        exact b121_40 L xs m d k (n + 0) x1 x2 x3 g20 r21
theorem l121_8 (L : Nat) (xs : Nat → Int32) (m d k : Nat) (x1 x2 x3 : Int32) (g : a2_G) (r : a2_A) : lp L xs 121 nm_m121 m d (k + 1) 8 [some (.ref 5), some (.int x1), some (.int x2), some (.int x3), none] g r = B121_8 L xs m d k x1 x2 x3 g r := fs_lp.trans (b121_8 L xs m d k 863 x1 x2 x3 g r)
def B121_86_1 (L : Nat) (xs : Nat → Int32) (m d k : Nat) (x1 x2 x3 x4 : Int32) (g : a2_G) (r : a2_A) : Option fn_Z := (some (.inl (some (.int x2)), g, r))
theorem b121_86_1 (L : Nat) (xs : Nat → Int32) (m d k : Nat) (n : Nat) (x1 x2 x3 x4 : Int32) (g : a2_G) (r : a2_A) : bk L xs 121 nm_m121 m d k (n + 2) 86 [some (.ref 5), some (.int x1), some (.int x2), some (.int x3), some (.int x4)] [] g r = B121_86_1 L xs m d k x1 x2 x3 x4 g r := by
  show _ = ((some (.inl (some (.int x2)), g, r)) : Option fn_Z)
  refine (fs_r (n := n + 1) 1 (pc' := 87) (L' := [some (.ref 5), some (.int x1), some (.int x2), some (.int x3), some (.int x4)]) (S' := [.int x2]) rfl).trans ?_
  exact (fs_ri (n := n + 0) rfl rfl).trans rfl
def B121_40_1 (L : Nat) (xs : Nat → Int32) (m d k : Nat) (x1 x2 x3 x4 : Int32) (g : a2_G) (r : a2_A) : Option fn_Z := (fn_v (ev L xs m d 60 [.ref 1] g r) fun v28 g26 r27 => (fn_v (ev L xs m d 107 [.ref 5, .int 55, .int v28, .int x2] g26 r27) fun v31 g29 r30 => (fn_n (ev L xs m d 61 [.ref 1] g29 r30) fun g32 r33 => (fn_v (ev L xs m d 122 [.ref 5, .int x1] g32 r33) fun v36 g34 r35 => (fn_n (ev L xs m d 63 [.ref 2, .int v31, .int v36] g34 r35) fun g37 r38 => (lp L xs 121 nm_m121 m d k 8 [some (.ref 5), some (.int x1), some (.int v31), some (.int (x3 + 1)), some (.int v31)] g37 r38))))))
theorem b121_40_1 (L : Nat) (xs : Nat → Int32) (m d k : Nat) (n : Nat) (x1 x2 x3 x4 : Int32) (g : a2_G) (r : a2_A) : bk L xs 121 nm_m121 m d k (n + 22) 40 [some (.ref 5), some (.int x1), some (.int x2), some (.int x3), some (.int x4)] [] g r = B121_40_1 L xs m d k x1 x2 x3 x4 g r := by
  show _ = ((fn_v (ev L xs m d 60 [.ref 1] g r) fun v28 g26 r27 => (fn_v (ev L xs m d 107 [.ref 5, .int 55, .int v28, .int x2] g26 r27) fun v31 g29 r30 => (fn_n (ev L xs m d 61 [.ref 1] g29 r30) fun g32 r33 => (fn_v (ev L xs m d 122 [.ref 5, .int x1] g32 r33) fun v36 g34 r35 => (fn_n (ev L xs m d 63 [.ref 2, .int v31, .int v36] g34 r35) fun g37 r38 => (lp L xs 121 nm_m121 m d k 8 [some (.ref 5), some (.int x1), some (.int v31), some (.int (x3 + 1)), some (.int v31)] g37 r38)))))) : Option fn_Z)
  refine (fs_r (n := n + 18) 4 (pc' := 47) (L' := [some (.ref 5), some (.int x1), some (.int x2), some (.int x3), some (.int x4)]) (S' := [.ref 1, .int 55, .ref 5]) rfl).trans ?_
  refine (fs_cv (n := n + 17) (N := nm_m60) (as := [.ref 1]) (rest := [.int 55, .ref 5]) rfl rfl (Or.inl rfl) rfl rfl rfl rfl rfl).trans (fs_fv fun v28 g26 r27 => ?_)
  refine (fs_r (n := n + 16) 1 (pc' := 51) (L' := [some (.ref 5), some (.int x1), some (.int x2), some (.int x3), some (.int x4)]) (S' := [.int x2, .int v28, .int 55, .ref 5]) rfl).trans ?_
  refine (fs_cv (n := n + 15) (N := nm_m107) (as := [.ref 5, .int 55, .int v28, .int x2]) (rest := []) rfl rfl (Or.inl rfl) rfl rfl rfl rfl rfl).trans (fs_fv fun v31 g29 r30 => ?_)
  refine (fs_r (n := n + 12) 3 (pc' := 60) (L' := [some (.ref 5), some (.int x1), some (.int x2), some (.int x3), some (.int v31)]) (S' := [.ref 1]) rfl).trans ?_
  refine (fs_cn (n := n + 11) (N := nm_m61) (as := [.ref 1]) (rest := []) rfl rfl (Or.inl rfl) rfl rfl rfl rfl rfl).trans (fs_fn fun g32 r33 => ?_)
  refine (fs_r (n := n + 6) 5 (pc' := 71) (L' := [some (.ref 5), some (.int x1), some (.int x2), some (.int x3), some (.int v31)]) (S' := [.int x1, .ref 5, .int v31, .ref 2]) rfl).trans ?_
  refine (fs_cv (n := n + 5) (N := nm_m122) (as := [.ref 5, .int x1]) (rest := [.int v31, .ref 2]) rfl rfl (Or.inl rfl) rfl rfl rfl rfl rfl).trans (fs_fv fun v36 g34 r35 => ?_)
  refine (fs_cn (n := n + 4) (N := nm_m63) (as := [.ref 2, .int v31, .int v36]) (rest := []) rfl rfl (Or.inl rfl) rfl rfl rfl rfl rfl).trans (fs_fn fun g37 r38 => ?_)
  refine (fs_r (n := n + 1) 3 (pc' := 83) (L' := [some (.ref 5), some (.int x1), some (.int v31), some (.int (x3 + 1)), some (.int v31)]) (S' := []) rfl).trans ?_
  exact (fs_gb (n := n + 0) rfl (t := 8) rfl (by decide)).trans rfl
def B121_8_1 (L : Nat) (xs : Nat → Int32) (m d k : Nat) (x1 x2 x3 x4 : Int32) (g : a2_G) (r : a2_A) : Option fn_Z := (if am_c2 .ge x3 1500 = true then (B121_86_1 L xs m d k x1 x2 x3 x4 g r) else (fn_v (ev L xs m d 101 [.ref 1, .int 5, .int 0] g r) fun v25 g23 r24 => (if am_c2 .ne v25 0 = true then (B121_40_1 L xs m d k x1 x2 x3 x4 g23 r24) else (fn_v (ev L xs m d 101 [.ref 1, .int 6, .int 0] g23 r24) fun v41 g39 r40 => (if am_c2 .eq v41 0 = true then (B121_86_1 L xs m d k x1 x2 x3 x4 g39 r40) else (B121_40_1 L xs m d k x1 x2 x3 x4 g39 r40))))))
theorem b121_8_1 (L : Nat) (xs : Nat → Int32) (m d k : Nat) (n : Nat) (x1 x2 x3 x4 : Int32) (g : a2_G) (r : a2_A) : bk L xs 121 nm_m121 m d k (n + 37) 8 [some (.ref 5), some (.int x1), some (.int x2), some (.int x3), some (.int x4)] [] g r = B121_8_1 L xs m d k x1 x2 x3 x4 g r := by
  show _ = ((if am_c2 .ge x3 1500 = true then (B121_86_1 L xs m d k x1 x2 x3 x4 g r) else (fn_v (ev L xs m d 101 [.ref 1, .int 5, .int 0] g r) fun v25 g23 r24 => (if am_c2 .ne v25 0 = true then (B121_40_1 L xs m d k x1 x2 x3 x4 g23 r24) else (fn_v (ev L xs m d 101 [.ref 1, .int 6, .int 0] g23 r24) fun v41 g39 r40 => (if am_c2 .eq v41 0 = true then (B121_86_1 L xs m d k x1 x2 x3 x4 g39 r40) else (B121_40_1 L xs m d k x1 x2 x3 x4 g39 r40)))))) : Option fn_Z)
  refine (fs_r (n := n + 35) 2 (pc' := 12) (L' := [some (.ref 5), some (.int x1), some (.int x2), some (.int x3), some (.int x4)]) (S' := [.int 1500, .int x3]) rfl).trans ?_
  refine (fs_j (n := n + 34) rfl (t := 86) rfl (by decide)).trans (fs_ite ?_ ?_)
  · skip
    exact b121_86_1 L xs m d k (n + 32) x1 x2 x3 x4 g r
  · skip
    refine (fs_r (n := n + 30) 4 (pc' := 21) (L' := [some (.ref 5), some (.int x1), some (.int x2), some (.int x3), some (.int x4)]) (S' := [.int 0, .int 5, .ref 1]) rfl).trans ?_
    refine (fs_cv (n := n + 29) (N := nm_m101) (as := [.ref 1, .int 5, .int 0]) (rest := []) rfl rfl (Or.inl rfl) rfl rfl rfl rfl rfl).trans (fs_fv fun v25 g23 r24 => ?_)
    refine (fs_i (n := n + 28) rfl (t := 40) rfl (by decide)).trans (fs_ite ?_ ?_)
    · skip
      exact b121_40_1 L xs m d k (n + 6) x1 x2 x3 x4 g23 r24
    · skip
      refine (fs_r (n := n + 24) 4 (pc' := 34) (L' := [some (.ref 5), some (.int x1), some (.int x2), some (.int x3), some (.int x4)]) (S' := [.int 0, .int 6, .ref 1]) rfl).trans ?_
      refine (fs_cv (n := n + 23) (N := nm_m101) (as := [.ref 1, .int 6, .int 0]) (rest := []) rfl rfl (Or.inl rfl) rfl rfl rfl rfl rfl).trans (fs_fv fun v41 g39 r40 => ?_)
      refine (fs_i (n := n + 22) rfl (t := 86) rfl (by decide)).trans (fs_ite ?_ ?_)
      · skip
        exact b121_86_1 L xs m d k (n + 20) x1 x2 x3 x4 g39 r40
      · skip
        exact b121_40_1 L xs m d k (n + 0) x1 x2 x3 x4 g39 r40
theorem l121_8_1 (L : Nat) (xs : Nat → Int32) (m d k : Nat) (x1 x2 x3 x4 : Int32) (g : a2_G) (r : a2_A) : lp L xs 121 nm_m121 m d (k + 1) 8 [some (.ref 5), some (.int x1), some (.int x2), some (.int x3), some (.int x4)] g r = B121_8_1 L xs m d k x1 x2 x3 x4 g r := fs_lp.trans (b121_8_1 L xs m d k 863 x1 x2 x3 x4 g r)
theorem e121 (L : Nat) (xs : Nat → Int32) (m d k : Nat) (n : Nat) (a1 : Int32) (g : a2_G) (r : a2_A) : bk L xs 121 nm_m121 m d k (n + 43) 0 [some (.ref 5), some (.int a1), none, none, none] [] g r = (fn_v (ev L xs m d 122 [.ref 5, .int a1] g r) fun v3 g1 r2 => (B121_8 L xs m d k a1 v3 0 g1 r2)) := by
  refine (fs_r (n := n + 41) 2 (pc' := 2) (L' := [some (.ref 5), some (.int a1), none, none, none]) (S' := [.int a1, .ref 5]) rfl).trans ?_
  refine (fs_cv (n := n + 40) (N := nm_m122) (as := [.ref 5, .int a1]) (rest := []) rfl rfl (Or.inl rfl) rfl rfl rfl rfl rfl).trans (fs_fv fun v3 g1 r2 => ?_)
  refine (fs_r (n := n + 37) 3 (pc' := 8) (L' := [some (.ref 5), some (.int a1), some (.int v3), some (.int 0), none]) (S' := []) rfl).trans ?_
  exact b121_8 L xs m d k (n + 0) a1 v3 0 g1 r2
theorem q121 (L : Nat) (xs : Nat → Int32) (m d : Nat) (a1 : Int32) (g : a2_G) (r : a2_A) : ev L xs (m + 1) (d + 1) 121 [.ref 5, .int a1] g r = (fn_v (ev L xs (m + 1) d 122 [.ref 5, .int a1] g r) fun v3 g1 r2 => (B121_8 L xs (m + 1) d m a1 v3 0 g1 r2)) := (fs_ev (M := nm_m121) rfl rfl).trans (e121 L xs (m + 1) d m 857 a1 g r)
/-- CobolParser$Expressions.product(I)I -/
def B122_87 (L : Nat) (xs : Nat → Int32) (m d k : Nat) (x1 x2 x3 : Int32) (g : a2_G) (r : a2_A) : Option fn_Z := (some (.inl (some (.int x2)), g, r))
theorem b122_87 (L : Nat) (xs : Nat → Int32) (m d k : Nat) (n : Nat) (x1 x2 x3 : Int32) (g : a2_G) (r : a2_A) : bk L xs 122 nm_m122 m d k (n + 2) 87 [some (.ref 5), some (.int x1), some (.int x2), some (.int x3), none] [] g r = B122_87 L xs m d k x1 x2 x3 g r := by
  show _ = ((some (.inl (some (.int x2)), g, r)) : Option fn_Z)
  refine (fs_r (n := n + 1) 1 (pc' := 88) (L' := [some (.ref 5), some (.int x1), some (.int x2), some (.int x3), none]) (S' := [.int x2]) rfl).trans ?_
  exact (fs_ri (n := n + 0) rfl rfl).trans rfl
def B122_41 (L : Nat) (xs : Nat → Int32) (m d k : Nat) (x1 x2 x3 : Int32) (g : a2_G) (r : a2_A) : Option fn_Z := (fn_v (ev L xs m d 60 [.ref 1] g r) fun v9 g7 r8 => (fn_v (ev L xs m d 107 [.ref 5, .int 55, .int v9, .int x2] g7 r8) fun v12 g10 r11 => (fn_n (ev L xs m d 61 [.ref 1] g10 r11) fun g13 r14 => (fn_v (ev L xs m d 123 [.ref 5, .int x1] g13 r14) fun v17 g15 r16 => (fn_n (ev L xs m d 63 [.ref 2, .int v12, .int v17] g15 r16) fun g18 r19 => (lp L xs 122 nm_m122 m d k 8 [some (.ref 5), some (.int x1), some (.int v12), some (.int (x3 + 1)), some (.int v12)] g18 r19))))))
theorem b122_41 (L : Nat) (xs : Nat → Int32) (m d k : Nat) (n : Nat) (x1 x2 x3 : Int32) (g : a2_G) (r : a2_A) : bk L xs 122 nm_m122 m d k (n + 22) 41 [some (.ref 5), some (.int x1), some (.int x2), some (.int x3), none] [] g r = B122_41 L xs m d k x1 x2 x3 g r := by
  show _ = ((fn_v (ev L xs m d 60 [.ref 1] g r) fun v9 g7 r8 => (fn_v (ev L xs m d 107 [.ref 5, .int 55, .int v9, .int x2] g7 r8) fun v12 g10 r11 => (fn_n (ev L xs m d 61 [.ref 1] g10 r11) fun g13 r14 => (fn_v (ev L xs m d 123 [.ref 5, .int x1] g13 r14) fun v17 g15 r16 => (fn_n (ev L xs m d 63 [.ref 2, .int v12, .int v17] g15 r16) fun g18 r19 => (lp L xs 122 nm_m122 m d k 8 [some (.ref 5), some (.int x1), some (.int v12), some (.int (x3 + 1)), some (.int v12)] g18 r19)))))) : Option fn_Z)
  refine (fs_r (n := n + 18) 4 (pc' := 48) (L' := [some (.ref 5), some (.int x1), some (.int x2), some (.int x3), none]) (S' := [.ref 1, .int 55, .ref 5]) rfl).trans ?_
  refine (fs_cv (n := n + 17) (N := nm_m60) (as := [.ref 1]) (rest := [.int 55, .ref 5]) rfl rfl (Or.inl rfl) rfl rfl rfl rfl rfl).trans (fs_fv fun v9 g7 r8 => ?_)
  refine (fs_r (n := n + 16) 1 (pc' := 52) (L' := [some (.ref 5), some (.int x1), some (.int x2), some (.int x3), none]) (S' := [.int x2, .int v9, .int 55, .ref 5]) rfl).trans ?_
  refine (fs_cv (n := n + 15) (N := nm_m107) (as := [.ref 5, .int 55, .int v9, .int x2]) (rest := []) rfl rfl (Or.inl rfl) rfl rfl rfl rfl rfl).trans (fs_fv fun v12 g10 r11 => ?_)
  refine (fs_r (n := n + 12) 3 (pc' := 61) (L' := [some (.ref 5), some (.int x1), some (.int x2), some (.int x3), some (.int v12)]) (S' := [.ref 1]) rfl).trans ?_
  refine (fs_cn (n := n + 11) (N := nm_m61) (as := [.ref 1]) (rest := []) rfl rfl (Or.inl rfl) rfl rfl rfl rfl rfl).trans (fs_fn fun g13 r14 => ?_)
  refine (fs_r (n := n + 6) 5 (pc' := 72) (L' := [some (.ref 5), some (.int x1), some (.int x2), some (.int x3), some (.int v12)]) (S' := [.int x1, .ref 5, .int v12, .ref 2]) rfl).trans ?_
  refine (fs_cv (n := n + 5) (N := nm_m123) (as := [.ref 5, .int x1]) (rest := [.int v12, .ref 2]) rfl rfl (Or.inl rfl) rfl rfl rfl rfl rfl).trans (fs_fv fun v17 g15 r16 => ?_)
  refine (fs_cn (n := n + 4) (N := nm_m63) (as := [.ref 2, .int v12, .int v17]) (rest := []) rfl rfl (Or.inl rfl) rfl rfl rfl rfl rfl).trans (fs_fn fun g18 r19 => ?_)
  refine (fs_r (n := n + 1) 3 (pc' := 84) (L' := [some (.ref 5), some (.int x1), some (.int v12), some (.int (x3 + 1)), some (.int v12)]) (S' := []) rfl).trans ?_
  exact (fs_gb (n := n + 0) rfl (t := 8) rfl (by decide)).trans rfl
def B122_8 (L : Nat) (xs : Nat → Int32) (m d k : Nat) (x1 x2 x3 : Int32) (g : a2_G) (r : a2_A) : Option fn_Z := (if am_c2 .ge x3 1500 = true then (B122_87 L xs m d k x1 x2 x3 g r) else (fn_v (ev L xs m d 101 [.ref 1, .int 7, .int 0] g r) fun v6 g4 r5 => (if am_c2 .ne v6 0 = true then (B122_41 L xs m d k x1 x2 x3 g4 r5) else (fn_v (ev L xs m d 101 [.ref 1, .int 8, .int 0] g4 r5) fun v22 g20 r21 => (if am_c2 .eq v22 0 = true then (B122_87 L xs m d k x1 x2 x3 g20 r21) else (B122_41 L xs m d k x1 x2 x3 g20 r21))))))
theorem b122_8 (L : Nat) (xs : Nat → Int32) (m d k : Nat) (n : Nat) (x1 x2 x3 : Int32) (g : a2_G) (r : a2_A) : bk L xs 122 nm_m122 m d k (n + 37) 8 [some (.ref 5), some (.int x1), some (.int x2), some (.int x3), none] [] g r = B122_8 L xs m d k x1 x2 x3 g r := by
  show _ = ((if am_c2 .ge x3 1500 = true then (B122_87 L xs m d k x1 x2 x3 g r) else (fn_v (ev L xs m d 101 [.ref 1, .int 7, .int 0] g r) fun v6 g4 r5 => (if am_c2 .ne v6 0 = true then (B122_41 L xs m d k x1 x2 x3 g4 r5) else (fn_v (ev L xs m d 101 [.ref 1, .int 8, .int 0] g4 r5) fun v22 g20 r21 => (if am_c2 .eq v22 0 = true then (B122_87 L xs m d k x1 x2 x3 g20 r21) else (B122_41 L xs m d k x1 x2 x3 g20 r21)))))) : Option fn_Z)
  refine (fs_r (n := n + 35) 2 (pc' := 12) (L' := [some (.ref 5), some (.int x1), some (.int x2), some (.int x3), none]) (S' := [.int 1500, .int x3]) rfl).trans ?_
  refine (fs_j (n := n + 34) rfl (t := 87) rfl (by decide)).trans (fs_ite ?_ ?_)
  · skip
    exact b122_87 L xs m d k (n + 32) x1 x2 x3 g r
  · skip
    refine (fs_r (n := n + 30) 4 (pc' := 22) (L' := [some (.ref 5), some (.int x1), some (.int x2), some (.int x3), none]) (S' := [.int 0, .int 7, .ref 1]) rfl).trans ?_
    refine (fs_cv (n := n + 29) (N := nm_m101) (as := [.ref 1, .int 7, .int 0]) (rest := []) rfl rfl (Or.inl rfl) rfl rfl rfl rfl rfl).trans (fs_fv fun v6 g4 r5 => ?_)
    refine (fs_i (n := n + 28) rfl (t := 41) rfl (by decide)).trans (fs_ite ?_ ?_)
    · skip
      exact b122_41 L xs m d k (n + 6) x1 x2 x3 g4 r5
    · skip
      refine (fs_r (n := n + 24) 4 (pc' := 35) (L' := [some (.ref 5), some (.int x1), some (.int x2), some (.int x3), none]) (S' := [.int 0, .int 8, .ref 1]) rfl).trans ?_
      refine (fs_cv (n := n + 23) (N := nm_m101) (as := [.ref 1, .int 8, .int 0]) (rest := []) rfl rfl (Or.inl rfl) rfl rfl rfl rfl rfl).trans (fs_fv fun v22 g20 r21 => ?_)
      refine (fs_i (n := n + 22) rfl (t := 87) rfl (by decide)).trans (fs_ite ?_ ?_)
      · skip
        exact b122_87 L xs m d k (n + 20) x1 x2 x3 g20 r21
      · skip
        exact b122_41 L xs m d k (n + 0) x1 x2 x3 g20 r21
theorem l122_8 (L : Nat) (xs : Nat → Int32) (m d k : Nat) (x1 x2 x3 : Int32) (g : a2_G) (r : a2_A) : lp L xs 122 nm_m122 m d (k + 1) 8 [some (.ref 5), some (.int x1), some (.int x2), some (.int x3), none] g r = B122_8 L xs m d k x1 x2 x3 g r := fs_lp.trans (b122_8 L xs m d k 863 x1 x2 x3 g r)
def B122_87_1 (L : Nat) (xs : Nat → Int32) (m d k : Nat) (x1 x2 x3 x4 : Int32) (g : a2_G) (r : a2_A) : Option fn_Z := (some (.inl (some (.int x2)), g, r))
theorem b122_87_1 (L : Nat) (xs : Nat → Int32) (m d k : Nat) (n : Nat) (x1 x2 x3 x4 : Int32) (g : a2_G) (r : a2_A) : bk L xs 122 nm_m122 m d k (n + 2) 87 [some (.ref 5), some (.int x1), some (.int x2), some (.int x3), some (.int x4)] [] g r = B122_87_1 L xs m d k x1 x2 x3 x4 g r := by
  show _ = ((some (.inl (some (.int x2)), g, r)) : Option fn_Z)
  refine (fs_r (n := n + 1) 1 (pc' := 88) (L' := [some (.ref 5), some (.int x1), some (.int x2), some (.int x3), some (.int x4)]) (S' := [.int x2]) rfl).trans ?_
  exact (fs_ri (n := n + 0) rfl rfl).trans rfl
def B122_41_1 (L : Nat) (xs : Nat → Int32) (m d k : Nat) (x1 x2 x3 x4 : Int32) (g : a2_G) (r : a2_A) : Option fn_Z := (fn_v (ev L xs m d 60 [.ref 1] g r) fun v28 g26 r27 => (fn_v (ev L xs m d 107 [.ref 5, .int 55, .int v28, .int x2] g26 r27) fun v31 g29 r30 => (fn_n (ev L xs m d 61 [.ref 1] g29 r30) fun g32 r33 => (fn_v (ev L xs m d 123 [.ref 5, .int x1] g32 r33) fun v36 g34 r35 => (fn_n (ev L xs m d 63 [.ref 2, .int v31, .int v36] g34 r35) fun g37 r38 => (lp L xs 122 nm_m122 m d k 8 [some (.ref 5), some (.int x1), some (.int v31), some (.int (x3 + 1)), some (.int v31)] g37 r38))))))
theorem b122_41_1 (L : Nat) (xs : Nat → Int32) (m d k : Nat) (n : Nat) (x1 x2 x3 x4 : Int32) (g : a2_G) (r : a2_A) : bk L xs 122 nm_m122 m d k (n + 22) 41 [some (.ref 5), some (.int x1), some (.int x2), some (.int x3), some (.int x4)] [] g r = B122_41_1 L xs m d k x1 x2 x3 x4 g r := by
  show _ = ((fn_v (ev L xs m d 60 [.ref 1] g r) fun v28 g26 r27 => (fn_v (ev L xs m d 107 [.ref 5, .int 55, .int v28, .int x2] g26 r27) fun v31 g29 r30 => (fn_n (ev L xs m d 61 [.ref 1] g29 r30) fun g32 r33 => (fn_v (ev L xs m d 123 [.ref 5, .int x1] g32 r33) fun v36 g34 r35 => (fn_n (ev L xs m d 63 [.ref 2, .int v31, .int v36] g34 r35) fun g37 r38 => (lp L xs 122 nm_m122 m d k 8 [some (.ref 5), some (.int x1), some (.int v31), some (.int (x3 + 1)), some (.int v31)] g37 r38)))))) : Option fn_Z)
  refine (fs_r (n := n + 18) 4 (pc' := 48) (L' := [some (.ref 5), some (.int x1), some (.int x2), some (.int x3), some (.int x4)]) (S' := [.ref 1, .int 55, .ref 5]) rfl).trans ?_
  refine (fs_cv (n := n + 17) (N := nm_m60) (as := [.ref 1]) (rest := [.int 55, .ref 5]) rfl rfl (Or.inl rfl) rfl rfl rfl rfl rfl).trans (fs_fv fun v28 g26 r27 => ?_)
  refine (fs_r (n := n + 16) 1 (pc' := 52) (L' := [some (.ref 5), some (.int x1), some (.int x2), some (.int x3), some (.int x4)]) (S' := [.int x2, .int v28, .int 55, .ref 5]) rfl).trans ?_
  refine (fs_cv (n := n + 15) (N := nm_m107) (as := [.ref 5, .int 55, .int v28, .int x2]) (rest := []) rfl rfl (Or.inl rfl) rfl rfl rfl rfl rfl).trans (fs_fv fun v31 g29 r30 => ?_)
  refine (fs_r (n := n + 12) 3 (pc' := 61) (L' := [some (.ref 5), some (.int x1), some (.int x2), some (.int x3), some (.int v31)]) (S' := [.ref 1]) rfl).trans ?_
  refine (fs_cn (n := n + 11) (N := nm_m61) (as := [.ref 1]) (rest := []) rfl rfl (Or.inl rfl) rfl rfl rfl rfl rfl).trans (fs_fn fun g32 r33 => ?_)
  refine (fs_r (n := n + 6) 5 (pc' := 72) (L' := [some (.ref 5), some (.int x1), some (.int x2), some (.int x3), some (.int v31)]) (S' := [.int x1, .ref 5, .int v31, .ref 2]) rfl).trans ?_
  refine (fs_cv (n := n + 5) (N := nm_m123) (as := [.ref 5, .int x1]) (rest := [.int v31, .ref 2]) rfl rfl (Or.inl rfl) rfl rfl rfl rfl rfl).trans (fs_fv fun v36 g34 r35 => ?_)
  refine (fs_cn (n := n + 4) (N := nm_m63) (as := [.ref 2, .int v31, .int v36]) (rest := []) rfl rfl (Or.inl rfl) rfl rfl rfl rfl rfl).trans (fs_fn fun g37 r38 => ?_)
  refine (fs_r (n := n + 1) 3 (pc' := 84) (L' := [some (.ref 5), some (.int x1), some (.int v31), some (.int (x3 + 1)), some (.int v31)]) (S' := []) rfl).trans ?_
  exact (fs_gb (n := n + 0) rfl (t := 8) rfl (by decide)).trans rfl
def B122_8_1 (L : Nat) (xs : Nat → Int32) (m d k : Nat) (x1 x2 x3 x4 : Int32) (g : a2_G) (r : a2_A) : Option fn_Z := (if am_c2 .ge x3 1500 = true then (B122_87_1 L xs m d k x1 x2 x3 x4 g r) else (fn_v (ev L xs m d 101 [.ref 1, .int 7, .int 0] g r) fun v25 g23 r24 => (if am_c2 .ne v25 0 = true then (B122_41_1 L xs m d k x1 x2 x3 x4 g23 r24) else (fn_v (ev L xs m d 101 [.ref 1, .int 8, .int 0] g23 r24) fun v41 g39 r40 => (if am_c2 .eq v41 0 = true then (B122_87_1 L xs m d k x1 x2 x3 x4 g39 r40) else (B122_41_1 L xs m d k x1 x2 x3 x4 g39 r40))))))
theorem b122_8_1 (L : Nat) (xs : Nat → Int32) (m d k : Nat) (n : Nat) (x1 x2 x3 x4 : Int32) (g : a2_G) (r : a2_A) : bk L xs 122 nm_m122 m d k (n + 37) 8 [some (.ref 5), some (.int x1), some (.int x2), some (.int x3), some (.int x4)] [] g r = B122_8_1 L xs m d k x1 x2 x3 x4 g r := by
  show _ = ((if am_c2 .ge x3 1500 = true then (B122_87_1 L xs m d k x1 x2 x3 x4 g r) else (fn_v (ev L xs m d 101 [.ref 1, .int 7, .int 0] g r) fun v25 g23 r24 => (if am_c2 .ne v25 0 = true then (B122_41_1 L xs m d k x1 x2 x3 x4 g23 r24) else (fn_v (ev L xs m d 101 [.ref 1, .int 8, .int 0] g23 r24) fun v41 g39 r40 => (if am_c2 .eq v41 0 = true then (B122_87_1 L xs m d k x1 x2 x3 x4 g39 r40) else (B122_41_1 L xs m d k x1 x2 x3 x4 g39 r40)))))) : Option fn_Z)
  refine (fs_r (n := n + 35) 2 (pc' := 12) (L' := [some (.ref 5), some (.int x1), some (.int x2), some (.int x3), some (.int x4)]) (S' := [.int 1500, .int x3]) rfl).trans ?_
  refine (fs_j (n := n + 34) rfl (t := 87) rfl (by decide)).trans (fs_ite ?_ ?_)
  · skip
    exact b122_87_1 L xs m d k (n + 32) x1 x2 x3 x4 g r
  · skip
    refine (fs_r (n := n + 30) 4 (pc' := 22) (L' := [some (.ref 5), some (.int x1), some (.int x2), some (.int x3), some (.int x4)]) (S' := [.int 0, .int 7, .ref 1]) rfl).trans ?_
    refine (fs_cv (n := n + 29) (N := nm_m101) (as := [.ref 1, .int 7, .int 0]) (rest := []) rfl rfl (Or.inl rfl) rfl rfl rfl rfl rfl).trans (fs_fv fun v25 g23 r24 => ?_)
    refine (fs_i (n := n + 28) rfl (t := 41) rfl (by decide)).trans (fs_ite ?_ ?_)
    · skip
      exact b122_41_1 L xs m d k (n + 6) x1 x2 x3 x4 g23 r24
    · skip
      refine (fs_r (n := n + 24) 4 (pc' := 35) (L' := [some (.ref 5), some (.int x1), some (.int x2), some (.int x3), some (.int x4)]) (S' := [.int 0, .int 8, .ref 1]) rfl).trans ?_
      refine (fs_cv (n := n + 23) (N := nm_m101) (as := [.ref 1, .int 8, .int 0]) (rest := []) rfl rfl (Or.inl rfl) rfl rfl rfl rfl rfl).trans (fs_fv fun v41 g39 r40 => ?_)
      refine (fs_i (n := n + 22) rfl (t := 87) rfl (by decide)).trans (fs_ite ?_ ?_)
      · skip
        exact b122_87_1 L xs m d k (n + 20) x1 x2 x3 x4 g39 r40
      · skip
        exact b122_41_1 L xs m d k (n + 0) x1 x2 x3 x4 g39 r40
theorem l122_8_1 (L : Nat) (xs : Nat → Int32) (m d k : Nat) (x1 x2 x3 x4 : Int32) (g : a2_G) (r : a2_A) : lp L xs 122 nm_m122 m d (k + 1) 8 [some (.ref 5), some (.int x1), some (.int x2), some (.int x3), some (.int x4)] g r = B122_8_1 L xs m d k x1 x2 x3 x4 g r := fs_lp.trans (b122_8_1 L xs m d k 863 x1 x2 x3 x4 g r)
theorem e122 (L : Nat) (xs : Nat → Int32) (m d k : Nat) (n : Nat) (a1 : Int32) (g : a2_G) (r : a2_A) : bk L xs 122 nm_m122 m d k (n + 43) 0 [some (.ref 5), some (.int a1), none, none, none] [] g r = (fn_v (ev L xs m d 123 [.ref 5, .int a1] g r) fun v3 g1 r2 => (B122_8 L xs m d k a1 v3 0 g1 r2)) := by
  refine (fs_r (n := n + 41) 2 (pc' := 2) (L' := [some (.ref 5), some (.int a1), none, none, none]) (S' := [.int a1, .ref 5]) rfl).trans ?_
  refine (fs_cv (n := n + 40) (N := nm_m123) (as := [.ref 5, .int a1]) (rest := []) rfl rfl (Or.inl rfl) rfl rfl rfl rfl rfl).trans (fs_fv fun v3 g1 r2 => ?_)
  refine (fs_r (n := n + 37) 3 (pc' := 8) (L' := [some (.ref 5), some (.int a1), some (.int v3), some (.int 0), none]) (S' := []) rfl).trans ?_
  exact b122_8 L xs m d k (n + 0) a1 v3 0 g1 r2
theorem q122 (L : Nat) (xs : Nat → Int32) (m d : Nat) (a1 : Int32) (g : a2_G) (r : a2_A) : ev L xs (m + 1) (d + 1) 122 [.ref 5, .int a1] g r = (fn_v (ev L xs (m + 1) d 123 [.ref 5, .int a1] g r) fun v3 g1 r2 => (B122_8 L xs (m + 1) d m a1 v3 0 g1 r2)) := (fs_ev (M := nm_m122) rfl rfl).trans (e122 L xs (m + 1) d m 857 a1 g r)
/-- CobolParser$Expressions.sumUnit(I)I -/
def B123_56 (L : Nat) (xs : Nat → Int32) (m d k : Nat) (x1 : Int32) (g : a2_G) (r : a2_A) : Option fn_Z := (fn_v (ev L xs m d 75 [.ref 3] g r) fun v9 g7 r8 => (some (.inl (some (.int v9)), g7, r8)))
theorem b123_56 (L : Nat) (xs : Nat → Int32) (m d k : Nat) (n : Nat) (x1 : Int32) (g : a2_G) (r : a2_A) : bk L xs 123 nm_m123 m d k (n + 4) 56 [some (.ref 5), some (.int x1), none] [] g r = B123_56 L xs m d k x1 g r := by
  show _ = ((fn_v (ev L xs m d 75 [.ref 3] g r) fun v9 g7 r8 => (some (.inl (some (.int v9)), g7, r8))) : Option fn_Z)
  refine (fs_r (n := n + 2) 2 (pc' := 60) (L' := [some (.ref 5), some (.int x1), none]) (S' := [.ref 3]) rfl).trans ?_
  refine (fs_cv (n := n + 1) (N := nm_m75) (as := [.ref 3]) (rest := []) rfl rfl (Or.inl rfl) rfl rfl rfl rfl rfl).trans (fs_fv fun v9 g7 r8 => ?_)
  exact (fs_ri (n := n + 0) rfl rfl).trans rfl
theorem e123 (L : Nat) (xs : Nat → Int32) (m d k : Nat) (n : Nat) (a1 : Int32) (g : a2_G) (r : a2_A) : bk L xs 123 nm_m123 m d k (n + 23) 0 [some (.ref 5), some (.int a1), none] [] g r = (fn_v (ev L xs m d 101 [.ref 1, .int 0, .int 0] g r) fun v3 g1 r2 => (if am_c2 .eq v3 0 = true then (fn_v (ev L xs m d 50 [.ref 1, .int 3] g1 r2) fun v6 g4 r5 => (if am_c2 .eq v6 0 = true then (B123_56 L xs m d k a1 g4 r5) else (fn_n (ev L xs m d 56 [.ref 1, .int 1] g4 r5) fun g10 r11 => (B123_56 L xs m d k a1 g10 r11)))) else (fn_n (ev L xs m d 100 [.ref 5, .int (a1 + 1)] g1 r2) fun g12 r13 => (fn_v (ev L xs m d 121 [.ref 5, .int (a1 + 1)] g12 r13) fun v16 g14 r15 => (fn_n (ev L xs m d 102 [.ref 1, .int 1] g14 r15) fun g17 r18 => (some (.inl (some (.int v16)), g17, r18))))))) := by
  refine (fs_r (n := n + 19) 4 (pc' := 6) (L' := [some (.ref 5), some (.int a1), none]) (S' := [.int 0, .int 0, .ref 1]) rfl).trans ?_
  refine (fs_cv (n := n + 18) (N := nm_m101) (as := [.ref 1, .int 0, .int 0]) (rest := []) rfl rfl (Or.inl rfl) rfl rfl rfl rfl rfl).trans (fs_fv fun v3 g1 r2 => ?_)
  refine (fs_i (n := n + 17) rfl (t := 37) rfl (by decide)).trans (fs_ite ?_ ?_)
  · skip
    refine (fs_r (n := n + 14) 3 (pc' := 42) (L' := [some (.ref 5), some (.int a1), none]) (S' := [.int 3, .ref 1]) rfl).trans ?_
    refine (fs_cv (n := n + 13) (N := nm_m50) (as := [.ref 1, .int 3]) (rest := []) rfl rfl (Or.inl rfl) rfl rfl rfl rfl rfl).trans (fs_fv fun v6 g4 r5 => ?_)
    refine (fs_i (n := n + 12) rfl (t := 56) rfl (by decide)).trans (fs_ite ?_ ?_)
    · skip
      exact b123_56 L xs m d k (n + 8) a1 g4 r5
    · skip
      refine (fs_r (n := n + 9) 3 (pc' := 53) (L' := [some (.ref 5), some (.int a1), none]) (S' := [.int 1, .ref 1]) rfl).trans ?_
      refine (fs_cn (n := n + 8) (N := nm_m56) (as := [.ref 1, .int 1]) (rest := []) rfl rfl (Or.inl rfl) rfl rfl rfl rfl rfl).trans (fs_fn fun g10 r11 => ?_)
      exact b123_56 L xs m d k (n + 4) a1 g10 r11
  · skip
    refine (fs_r (n := n + 13) 4 (pc' := 16) (L' := [some (.ref 5), some (.int a1), none]) (S' := [.int (a1 + 1), .ref 5]) rfl).trans ?_
    refine (fs_cn (n := n + 12) (N := nm_m100) (as := [.ref 5, .int (a1 + 1)]) (rest := []) rfl rfl (Or.inl rfl) rfl rfl rfl rfl rfl).trans (fs_fn fun g12 r13 => ?_)
    refine (fs_r (n := n + 8) 4 (pc' := 23) (L' := [some (.ref 5), some (.int a1), none]) (S' := [.int (a1 + 1), .ref 5]) rfl).trans ?_
    refine (fs_cv (n := n + 7) (N := nm_m121) (as := [.ref 5, .int (a1 + 1)]) (rest := []) rfl rfl (Or.inl rfl) rfl rfl rfl rfl rfl).trans (fs_fv fun v16 g14 r15 => ?_)
    refine (fs_r (n := n + 3) 4 (pc' := 32) (L' := [some (.ref 5), some (.int a1), some (.int v16)]) (S' := [.int 1, .ref 1]) rfl).trans ?_
    refine (fs_cn (n := n + 2) (N := nm_m102) (as := [.ref 1, .int 1]) (rest := []) rfl rfl (Or.inl rfl) rfl rfl rfl rfl rfl).trans (fs_fn fun g17 r18 => ?_)
    refine (fs_r (n := n + 1) 1 (pc' := 36) (L' := [some (.ref 5), some (.int a1), some (.int v16)]) (S' := [.int v16]) rfl).trans ?_
    exact (fs_ri (n := n + 0) rfl rfl).trans rfl
theorem q123 (L : Nat) (xs : Nat → Int32) (m d : Nat) (a1 : Int32) (g : a2_G) (r : a2_A) : ev L xs (m + 1) (d + 1) 123 [.ref 5, .int a1] g r = (fn_v (ev L xs (m + 1) d 101 [.ref 1, .int 0, .int 0] g r) fun v3 g1 r2 => (if am_c2 .eq v3 0 = true then (fn_v (ev L xs (m + 1) d 50 [.ref 1, .int 3] g1 r2) fun v6 g4 r5 => (if am_c2 .eq v6 0 = true then (B123_56 L xs (m + 1) d m a1 g4 r5) else (fn_n (ev L xs (m + 1) d 56 [.ref 1, .int 1] g4 r5) fun g10 r11 => (B123_56 L xs (m + 1) d m a1 g10 r11)))) else (fn_n (ev L xs (m + 1) d 100 [.ref 5, .int (a1 + 1)] g1 r2) fun g12 r13 => (fn_v (ev L xs (m + 1) d 121 [.ref 5, .int (a1 + 1)] g12 r13) fun v16 g14 r15 => (fn_n (ev L xs (m + 1) d 102 [.ref 1, .int 1] g14 r15) fun g17 r18 => (some (.inl (some (.int v16)), g17, r18))))))) := (fs_ev (M := nm_m123) rfl rfl).trans (e123 L xs (m + 1) d m 877 a1 g r)
/-- CobolParser$Clauses.reservedClause()V -/
def B124_222 (L : Nat) (xs : Nat → Int32) (m d k : Nat) (g : a2_G) (r : a2_A) : Option fn_Z := (some (.inl none, g, r))
theorem b124_222 (L : Nat) (xs : Nat → Int32) (m d k : Nat) (n : Nat) (g : a2_G) (r : a2_A) : bk L xs 124 nm_m124 m d k (n + 1) 222 [some (.ref 6)] [] g r = B124_222 L xs m d k g r := by
  show _ = ((some (.inl none, g, r)) : Option fn_Z)
  exact (fs_rv (n := n + 0) rfl rfl).trans rfl
def B124_124 (L : Nat) (xs : Nat → Int32) (m d k : Nat) (x1 : Int32) (g : a2_G) (r : a2_A) : Option fn_Z := (fn_n (ev L xs m d 55 [.ref 6, .int x1] g r) fun g15 r16 => (fn_n (ev L xs m d 133 [.ref 6, .int 2] g15 r16) fun g17 r18 => (B124_222 L xs m d k g17 r18)))
theorem b124_124 (L : Nat) (xs : Nat → Int32) (m d k : Nat) (n : Nat) (x1 : Int32) (g : a2_G) (r : a2_A) : bk L xs 124 nm_m124 m d k (n + 6) 124 [some (.ref 6)] [.int x1, .ref 6] g r = B124_124 L xs m d k x1 g r := by
  show _ = ((fn_n (ev L xs m d 55 [.ref 6, .int x1] g r) fun g15 r16 => (fn_n (ev L xs m d 133 [.ref 6, .int 2] g15 r16) fun g17 r18 => (B124_222 L xs m d k g17 r18))) : Option fn_Z)
  refine (fs_cn (n := n + 5) (N := nm_m55) (as := [.ref 6, .int x1]) (rest := []) rfl rfl (Or.inl rfl) rfl rfl rfl rfl rfl).trans (fs_fn fun g15 r16 => ?_)
  refine (fs_r (n := n + 3) 2 (pc' := 129) (L' := [some (.ref 6)]) (S' := [.int 2, .ref 6]) rfl).trans ?_
  refine (fs_cn (n := n + 2) (N := nm_m133) (as := [.ref 6, .int 2]) (rest := []) rfl rfl (Or.inl rfl) rfl rfl rfl rfl rfl).trans (fs_fn fun g17 r18 => ?_)
  refine (fs_go (n := n + 1) rfl (t := 222) rfl (by decide)).trans ?_
  exact b124_222 L xs m d k (n + 0) g17 r18
theorem e124 (L : Nat) (xs : Nat → Int32) (m d k : Nat) (n : Nat) (g : a2_G) (r : a2_A) : bk L xs 124 nm_m124 m d k (n + 23) 0 [some (.ref 6)] [] g r = (fn_v (ev L xs m d 60 [.ref 1] g r) fun v3 g1 r2 => (if (v3 : Int32).toInt = 0 then (fn_n (ev L xs m d 125 [.ref 6] g1 r2) fun g4 r5 => (B124_222 L xs m d k g4 r5)) else (if (v3 : Int32).toInt = 2 then (fn_n (ev L xs m d 53 [.ref 6, .int 0, .int 0] g1 r2) fun g6 r7 => (fn_n (ev L xs m d 133 [.ref 6, .int 1] g6 r7) fun g8 r9 => (B124_222 L xs m d k g8 r9))) else (if (v3 : Int32).toInt = 3 then (fn_n (ev L xs m d 53 [.ref 6, .int 0, .int 0] g1 r2) fun g10 r11 => (fn_v (ev L xs m d 126 [.ref 8] g10 r11) fun v14 g12 r13 => (if am_c2 .ne v14 1 = true then (B124_124 L xs m d k 0 g12 r13) else (B124_124 L xs m d k 1 g12 r13)))) else (if (v3 : Int32).toInt = 4 then (fn_n (ev L xs m d 53 [.ref 6, .int 1, .int 1] g1 r2) fun g19 r20 => (fn_v (ev L xs m d 130 [.ref 8] g19 r20) fun v23 g21 r22 => (fn_v (ev L xs m d 131 [.ref 6, .int 3, .int 1, .int v23] g21 r22) fun v26 g24 r25 => (fn_n (ev L xs m d 65 [.ref 8, .int 2] (upd g24 606 v26) r25) fun g27 r28 => (B124_222 L xs m d k g27 r28))))) else (if (v3 : Int32).toInt = 5 then (fn_n (ev L xs m d 53 [.ref 6, .int 2, .int 2] g1 r2) fun g29 r30 => (fn_n (ev L xs m d 135 [.ref 6] g29 r30) fun g31 r32 => (B124_222 L xs m d k g31 r32))) else (if (v3 : Int32).toInt = 30 then (fn_n (ev L xs m d 53 [.ref 6, .int 1, .int 7] g1 r2) fun g33 r34 => (fn_n (ev L xs m d 138 [.ref 6] g33 r34) fun g35 r36 => (B124_222 L xs m d k g35 r36))) else (if (v3 : Int32).toInt = 32 then (fn_n (ev L xs m d 53 [.ref 6, .int 8, .int 8] g1 r2) fun g37 r38 => (fn_n (ev L xs m d 139 [.ref 6] g37 r38) fun g39 r40 => (B124_222 L xs m d k g39 r40))) else (if (v3 : Int32).toInt = 33 then (fn_n (ev L xs m d 140 [.ref 6] g1 r2) fun g41 r42 => (B124_222 L xs m d k g41 r42)) else (fn_n (ev L xs m d 146 [.ref 6] g1 r2) fun g43 r44 => (B124_222 L xs m d k g43 r44))))))))))) := by
  refine (fs_r (n := n + 21) 2 (pc' := 4) (L' := [some (.ref 6)]) (S' := [.ref 1]) rfl).trans ?_
  refine (fs_cv (n := n + 20) (N := nm_m60) (as := [.ref 1]) (rest := []) rfl rfl (Or.inl rfl) rfl rfl rfl rfl rfl).trans (fs_fv fun v3 g1 r2 => ?_)
  refine (fs_ls (n := n + 19) (l := [(0, 73), (2, 80), (3, 94), (4, 128), (5, 162), (30, 175), (32, 189), (33, 204)]) rfl rfl rfl).trans ?_
  refine fs_lc ?_ (fs_lc ?_ (fs_lc ?_ (fs_lc ?_ (fs_lc ?_ (fs_lc ?_ (fs_lc ?_ (fs_lc ?_ (fs_ln ?_))))))))
  · refine (fs_J1 (n := n + 19) (t := 80) rfl (by decide)).trans ?_
    refine (fs_r (n := n + 18) 1 (pc' := 81) (L' := [some (.ref 6)]) (S' := [.ref 6]) rfl).trans ?_
    refine (fs_cn (n := n + 17) (N := nm_m125) (as := [.ref 6]) (rest := []) rfl rfl (Or.inl rfl) rfl rfl rfl rfl rfl).trans (fs_fn fun g4 r5 => ?_)
    refine (fs_go (n := n + 16) rfl (t := 222) rfl (by decide)).trans ?_
    exact b124_222 L xs m d k (n + 15) g4 r5
  · refine (fs_J1 (n := n + 19) (t := 87) rfl (by decide)).trans ?_
    refine (fs_r (n := n + 16) 3 (pc' := 90) (L' := [some (.ref 6)]) (S' := [.int 0, .int 0, .ref 6]) rfl).trans ?_
    refine (fs_cn (n := n + 15) (N := nm_m53) (as := [.ref 6, .int 0, .int 0]) (rest := []) rfl rfl (Or.inl rfl) rfl rfl rfl rfl rfl).trans (fs_fn fun g6 r7 => ?_)
    refine (fs_r (n := n + 13) 2 (pc' := 95) (L' := [some (.ref 6)]) (S' := [.int 1, .ref 6]) rfl).trans ?_
    refine (fs_cn (n := n + 12) (N := nm_m133) (as := [.ref 6, .int 1]) (rest := []) rfl rfl (Or.inl rfl) rfl rfl rfl rfl rfl).trans (fs_fn fun g8 r9 => ?_)
    refine (fs_go (n := n + 11) rfl (t := 222) rfl (by decide)).trans ?_
    exact b124_222 L xs m d k (n + 10) g8 r9
  · refine (fs_J1 (n := n + 19) (t := 101) rfl (by decide)).trans ?_
    refine (fs_r (n := n + 16) 3 (pc' := 104) (L' := [some (.ref 6)]) (S' := [.int 0, .int 0, .ref 6]) rfl).trans ?_
    refine (fs_cn (n := n + 15) (N := nm_m53) (as := [.ref 6, .int 0, .int 0]) (rest := []) rfl rfl (Or.inl rfl) rfl rfl rfl rfl rfl).trans (fs_fn fun g10 r11 => ?_)
    refine (fs_r (n := n + 12) 3 (pc' := 112) (L' := [some (.ref 6)]) (S' := [.ref 8, .ref 6]) rfl).trans ?_
    refine (fs_cv (n := n + 11) (N := nm_m126) (as := [.ref 8]) (rest := [.ref 6]) rfl rfl (Or.inl rfl) rfl rfl rfl rfl rfl).trans (fs_fv fun v14 g12 r13 => ?_)
    refine (fs_r (n := n + 10) 1 (pc' := 116) (L' := [some (.ref 6)]) (S' := [.int 1, .int v14, .ref 6]) rfl).trans ?_
    refine (fs_j (n := n + 9) rfl (t := 123) rfl (by decide)).trans (fs_ite ?_ ?_)
    · skip
      refine (fs_r (n := n + 8) 1 (pc' := 124) (L' := [some (.ref 6)]) (S' := [.int 0, .ref 6]) rfl).trans ?_
      exact b124_124 L xs m d k (n + 2) 0 g12 r13
    · skip
      refine (fs_r (n := n + 8) 1 (pc' := 120) (L' := [some (.ref 6)]) (S' := [.int 1, .ref 6]) rfl).trans ?_
      refine (fs_go (n := n + 7) rfl (t := 124) rfl (by decide)).trans ?_
      exact b124_124 L xs m d k (n + 1) 1 g12 r13
  · refine (fs_J1 (n := n + 19) (t := 135) rfl (by decide)).trans ?_
    refine (fs_r (n := n + 16) 3 (pc' := 138) (L' := [some (.ref 6)]) (S' := [.int 1, .int 1, .ref 6]) rfl).trans ?_
    refine (fs_cn (n := n + 15) (N := nm_m53) (as := [.ref 6, .int 1, .int 1]) (rest := []) rfl rfl (Or.inl rfl) rfl rfl rfl rfl rfl).trans (fs_fn fun g19 r20 => ?_)
    refine (fs_r (n := n + 9) 6 (pc' := 149) (L' := [some (.ref 6)]) (S' := [.ref 8, .int 1, .int 3, .ref 6, .ref 6]) rfl).trans ?_
    refine (fs_cv (n := n + 8) (N := nm_m130) (as := [.ref 8]) (rest := [.int 1, .int 3, .ref 6, .ref 6]) rfl rfl (Or.inl rfl) rfl rfl rfl rfl rfl).trans (fs_fv fun v23 g21 r22 => ?_)
    refine (fs_cv (n := n + 7) (N := nm_m131) (as := [.ref 6, .int 3, .int 1, .int v23]) (rest := [.ref 6]) rfl rfl (Or.inl rfl) rfl rfl rfl rfl rfl).trans (fs_fv fun v26 g24 r25 => ?_)
    refine (fs_pf (n := n + 6) (ci := 6) (j := 6) rfl rfl rfl rfl).trans ?_
    refine (fs_r (n := n + 3) 3 (pc' := 163) (L' := [some (.ref 6)]) (S' := [.int 2, .ref 8]) rfl).trans ?_
    refine (fs_cn (n := n + 2) (N := nm_m65) (as := [.ref 8, .int 2]) (rest := []) rfl rfl (Or.inl rfl) rfl rfl rfl rfl rfl).trans (fs_fn fun g27 r28 => ?_)
    refine (fs_go (n := n + 1) rfl (t := 222) rfl (by decide)).trans ?_
    exact b124_222 L xs m d k (n + 0) g27 r28
  · refine (fs_J1 (n := n + 19) (t := 169) rfl (by decide)).trans ?_
    refine (fs_r (n := n + 16) 3 (pc' := 172) (L' := [some (.ref 6)]) (S' := [.int 2, .int 2, .ref 6]) rfl).trans ?_
    refine (fs_cn (n := n + 15) (N := nm_m53) (as := [.ref 6, .int 2, .int 2]) (rest := []) rfl rfl (Or.inl rfl) rfl rfl rfl rfl rfl).trans (fs_fn fun g29 r30 => ?_)
    refine (fs_r (n := n + 14) 1 (pc' := 176) (L' := [some (.ref 6)]) (S' := [.ref 6]) rfl).trans ?_
    refine (fs_cn (n := n + 13) (N := nm_m135) (as := [.ref 6]) (rest := []) rfl rfl (Or.inl rfl) rfl rfl rfl rfl rfl).trans (fs_fn fun g31 r32 => ?_)
    refine (fs_go (n := n + 12) rfl (t := 222) rfl (by decide)).trans ?_
    exact b124_222 L xs m d k (n + 11) g31 r32
  · refine (fs_J1 (n := n + 19) (t := 182) rfl (by decide)).trans ?_
    refine (fs_r (n := n + 16) 3 (pc' := 186) (L' := [some (.ref 6)]) (S' := [.int 7, .int 1, .ref 6]) rfl).trans ?_
    refine (fs_cn (n := n + 15) (N := nm_m53) (as := [.ref 6, .int 1, .int 7]) (rest := []) rfl rfl (Or.inl rfl) rfl rfl rfl rfl rfl).trans (fs_fn fun g33 r34 => ?_)
    refine (fs_r (n := n + 14) 1 (pc' := 190) (L' := [some (.ref 6)]) (S' := [.ref 6]) rfl).trans ?_
    refine (fs_cn (n := n + 13) (N := nm_m138) (as := [.ref 6]) (rest := []) rfl rfl (Or.inl rfl) rfl rfl rfl rfl rfl).trans (fs_fn fun g35 r36 => ?_)
    refine (fs_go (n := n + 12) rfl (t := 222) rfl (by decide)).trans ?_
    exact b124_222 L xs m d k (n + 11) g35 r36
  · refine (fs_J1 (n := n + 19) (t := 196) rfl (by decide)).trans ?_
    refine (fs_r (n := n + 16) 3 (pc' := 201) (L' := [some (.ref 6)]) (S' := [.int 8, .int 8, .ref 6]) rfl).trans ?_
    refine (fs_cn (n := n + 15) (N := nm_m53) (as := [.ref 6, .int 8, .int 8]) (rest := []) rfl rfl (Or.inl rfl) rfl rfl rfl rfl rfl).trans (fs_fn fun g37 r38 => ?_)
    refine (fs_r (n := n + 14) 1 (pc' := 205) (L' := [some (.ref 6)]) (S' := [.ref 6]) rfl).trans ?_
    refine (fs_cn (n := n + 13) (N := nm_m139) (as := [.ref 6]) (rest := []) rfl rfl (Or.inl rfl) rfl rfl rfl rfl rfl).trans (fs_fn fun g39 r40 => ?_)
    refine (fs_go (n := n + 12) rfl (t := 222) rfl (by decide)).trans ?_
    exact b124_222 L xs m d k (n + 11) g39 r40
  · refine (fs_J1 (n := n + 19) (t := 211) rfl (by decide)).trans ?_
    refine (fs_r (n := n + 18) 1 (pc' := 212) (L' := [some (.ref 6)]) (S' := [.ref 6]) rfl).trans ?_
    refine (fs_cn (n := n + 17) (N := nm_m140) (as := [.ref 6]) (rest := []) rfl rfl (Or.inl rfl) rfl rfl rfl rfl rfl).trans (fs_fn fun g41 r42 => ?_)
    refine (fs_go (n := n + 16) rfl (t := 222) rfl (by decide)).trans ?_
    exact b124_222 L xs m d k (n + 15) g41 r42
  · refine (fs_J1 (n := n + 19) (t := 218) rfl (by decide)).trans ?_
    refine (fs_r (n := n + 18) 1 (pc' := 219) (L' := [some (.ref 6)]) (S' := [.ref 6]) rfl).trans ?_
    refine (fs_cn (n := n + 17) (N := nm_m146) (as := [.ref 6]) (rest := []) rfl rfl (Or.inl rfl) rfl rfl rfl rfl rfl).trans (fs_fn fun g43 r44 => ?_)
    exact b124_222 L xs m d k (n + 16) g43 r44
theorem q124 (L : Nat) (xs : Nat → Int32) (m d : Nat) (g : a2_G) (r : a2_A) : ev L xs (m + 1) (d + 1) 124 [.ref 6] g r = (fn_v (ev L xs (m + 1) d 60 [.ref 1] g r) fun v3 g1 r2 => (if (v3 : Int32).toInt = 0 then (fn_n (ev L xs (m + 1) d 125 [.ref 6] g1 r2) fun g4 r5 => (B124_222 L xs (m + 1) d m g4 r5)) else (if (v3 : Int32).toInt = 2 then (fn_n (ev L xs (m + 1) d 53 [.ref 6, .int 0, .int 0] g1 r2) fun g6 r7 => (fn_n (ev L xs (m + 1) d 133 [.ref 6, .int 1] g6 r7) fun g8 r9 => (B124_222 L xs (m + 1) d m g8 r9))) else (if (v3 : Int32).toInt = 3 then (fn_n (ev L xs (m + 1) d 53 [.ref 6, .int 0, .int 0] g1 r2) fun g10 r11 => (fn_v (ev L xs (m + 1) d 126 [.ref 8] g10 r11) fun v14 g12 r13 => (if am_c2 .ne v14 1 = true then (B124_124 L xs (m + 1) d m 0 g12 r13) else (B124_124 L xs (m + 1) d m 1 g12 r13)))) else (if (v3 : Int32).toInt = 4 then (fn_n (ev L xs (m + 1) d 53 [.ref 6, .int 1, .int 1] g1 r2) fun g19 r20 => (fn_v (ev L xs (m + 1) d 130 [.ref 8] g19 r20) fun v23 g21 r22 => (fn_v (ev L xs (m + 1) d 131 [.ref 6, .int 3, .int 1, .int v23] g21 r22) fun v26 g24 r25 => (fn_n (ev L xs (m + 1) d 65 [.ref 8, .int 2] (upd g24 606 v26) r25) fun g27 r28 => (B124_222 L xs (m + 1) d m g27 r28))))) else (if (v3 : Int32).toInt = 5 then (fn_n (ev L xs (m + 1) d 53 [.ref 6, .int 2, .int 2] g1 r2) fun g29 r30 => (fn_n (ev L xs (m + 1) d 135 [.ref 6] g29 r30) fun g31 r32 => (B124_222 L xs (m + 1) d m g31 r32))) else (if (v3 : Int32).toInt = 30 then (fn_n (ev L xs (m + 1) d 53 [.ref 6, .int 1, .int 7] g1 r2) fun g33 r34 => (fn_n (ev L xs (m + 1) d 138 [.ref 6] g33 r34) fun g35 r36 => (B124_222 L xs (m + 1) d m g35 r36))) else (if (v3 : Int32).toInt = 32 then (fn_n (ev L xs (m + 1) d 53 [.ref 6, .int 8, .int 8] g1 r2) fun g37 r38 => (fn_n (ev L xs (m + 1) d 139 [.ref 6] g37 r38) fun g39 r40 => (B124_222 L xs (m + 1) d m g39 r40))) else (if (v3 : Int32).toInt = 33 then (fn_n (ev L xs (m + 1) d 140 [.ref 6] g1 r2) fun g41 r42 => (B124_222 L xs (m + 1) d m g41 r42)) else (fn_n (ev L xs (m + 1) d 146 [.ref 6] g1 r2) fun g43 r44 => (B124_222 L xs (m + 1) d m g43 r44))))))))))) := (fs_ev (M := nm_m124) rfl rfl).trans (e124 L xs (m + 1) d m 877 g r)
/-- CobolParser$Clauses.identification()V -/
def B125_55 (L : Nat) (xs : Nat → Int32) (m d k : Nat) (g : a2_G) (r : a2_A) : Option fn_Z := (fn_v (ev L xs m d 130 [.ref 8] g r) fun v11 g9 r10 => (fn_v (ev L xs m d 131 [.ref 6, .int 0, .int 1, .int v11] g9 r10) fun v14 g12 r13 => (fn_n (ev L xs m d 65 [.ref 8, .int 12] g12 r13) fun g15 r16 => (fn_n (ev L xs m d 132 [.ref 8, .int v14] g15 r16) fun g17 r18 => (some (.inl none, g17, r18))))))
theorem b125_55 (L : Nat) (xs : Nat → Int32) (m d k : Nat) (n : Nat) (g : a2_G) (r : a2_A) : bk L xs 125 nm_m125 m d k (n + 17) 55 [some (.ref 6), none] [] g r = B125_55 L xs m d k g r := by
  show _ = ((fn_v (ev L xs m d 130 [.ref 8] g r) fun v11 g9 r10 => (fn_v (ev L xs m d 131 [.ref 6, .int 0, .int 1, .int v11] g9 r10) fun v14 g12 r13 => (fn_n (ev L xs m d 65 [.ref 8, .int 12] g12 r13) fun g15 r16 => (fn_n (ev L xs m d 132 [.ref 8, .int v14] g15 r16) fun g17 r18 => (some (.inl none, g17, r18)))))) : Option fn_Z)
  refine (fs_r (n := n + 12) 5 (pc' := 62) (L' := [some (.ref 6), none]) (S' := [.ref 8, .int 1, .int 0, .ref 6]) rfl).trans ?_
  refine (fs_cv (n := n + 11) (N := nm_m130) (as := [.ref 8]) (rest := [.int 1, .int 0, .ref 6]) rfl rfl (Or.inl rfl) rfl rfl rfl rfl rfl).trans (fs_fv fun v11 g9 r10 => ?_)
  refine (fs_cv (n := n + 10) (N := nm_m131) (as := [.ref 6, .int 0, .int 1, .int v11]) (rest := []) rfl rfl (Or.inl rfl) rfl rfl rfl rfl rfl).trans (fs_fv fun v14 g12 r13 => ?_)
  refine (fs_r (n := n + 6) 4 (pc' := 75) (L' := [some (.ref 6), some (.int v14)]) (S' := [.int 12, .ref 8]) rfl).trans ?_
  refine (fs_cn (n := n + 5) (N := nm_m65) (as := [.ref 8, .int 12]) (rest := []) rfl rfl (Or.inl rfl) rfl rfl rfl rfl rfl).trans (fs_fn fun g15 r16 => ?_)
  refine (fs_r (n := n + 2) 3 (pc' := 83) (L' := [some (.ref 6), some (.int v14)]) (S' := [.int v14, .ref 8]) rfl).trans ?_
  refine (fs_cn (n := n + 1) (N := nm_m132) (as := [.ref 8, .int v14]) (rest := []) rfl rfl (Or.inl rfl) rfl rfl rfl rfl rfl).trans (fs_fn fun g17 r18 => ?_)
  exact (fs_rv (n := n + 0) rfl rfl).trans rfl
def B125_34 (L : Nat) (xs : Nat → Int32) (m d k : Nat) (x1 : Int32) (g : a2_G) (r : a2_A) : Option fn_Z := (fn_n (ev L xs m d 55 [.ref 6, .int x1] g r) fun g4 r5 => (fn_v (ev L xs m d 129 [.ref 8] g4 r5) fun v8 g6 r7 => (if am_c2 .eq v8 0 = true then (B125_55 L xs m d k g6 r7) else (fn_n (ev L xs m d 56 [.ref 1, .int 3] g6 r7) fun g19 r20 => (B125_55 L xs m d k g19 r20)))))
theorem b125_34 (L : Nat) (xs : Nat → Int32) (m d k : Nat) (n : Nat) (x1 : Int32) (g : a2_G) (r : a2_A) : bk L xs 125 nm_m125 m d k (n + 26) 34 [some (.ref 6), none] [.int x1, .ref 6] g r = B125_34 L xs m d k x1 g r := by
  show _ = ((fn_n (ev L xs m d 55 [.ref 6, .int x1] g r) fun g4 r5 => (fn_v (ev L xs m d 129 [.ref 8] g4 r5) fun v8 g6 r7 => (if am_c2 .eq v8 0 = true then (B125_55 L xs m d k g6 r7) else (fn_n (ev L xs m d 56 [.ref 1, .int 3] g6 r7) fun g19 r20 => (B125_55 L xs m d k g19 r20))))) : Option fn_Z)
  refine (fs_cn (n := n + 25) (N := nm_m55) (as := [.ref 6, .int x1]) (rest := []) rfl rfl (Or.inl rfl) rfl rfl rfl rfl rfl).trans (fs_fn fun g4 r5 => ?_)
  refine (fs_r (n := n + 23) 2 (pc' := 41) (L' := [some (.ref 6), none]) (S' := [.ref 8]) rfl).trans ?_
  refine (fs_cv (n := n + 22) (N := nm_m129) (as := [.ref 8]) (rest := []) rfl rfl (Or.inl rfl) rfl rfl rfl rfl rfl).trans (fs_fv fun v8 g6 r7 => ?_)
  refine (fs_i (n := n + 21) rfl (t := 55) rfl (by decide)).trans (fs_ite ?_ ?_)
  · skip
    exact b125_55 L xs m d k (n + 4) g6 r7
  · skip
    refine (fs_r (n := n + 18) 3 (pc' := 52) (L' := [some (.ref 6), none]) (S' := [.int 3, .ref 1]) rfl).trans ?_
    refine (fs_cn (n := n + 17) (N := nm_m56) (as := [.ref 1, .int 3]) (rest := []) rfl rfl (Or.inl rfl) rfl rfl rfl rfl rfl).trans (fs_fn fun g19 r20 => ?_)
    exact b125_55 L xs m d k (n + 0) g19 r20
def B125_29 (L : Nat) (xs : Nat → Int32) (m d k : Nat) (g : a2_G) (r : a2_A) : Option fn_Z := (B125_34 L xs m d k 1 g r)
theorem b125_29 (L : Nat) (xs : Nat → Int32) (m d k : Nat) (n : Nat) (g : a2_G) (r : a2_A) : bk L xs 125 nm_m125 m d k (n + 28) 29 [some (.ref 6), none] [.ref 6] g r = B125_29 L xs m d k g r := by
  show _ = ((B125_34 L xs m d k 1 g r) : Option fn_Z)
  refine (fs_r (n := n + 27) 1 (pc' := 30) (L' := [some (.ref 6), none]) (S' := [.int 1, .ref 6]) rfl).trans ?_
  refine (fs_go (n := n + 26) rfl (t := 34) rfl (by decide)).trans ?_
  exact b125_34 L xs m d k (n + 0) 1 g r
def B125_33 (L : Nat) (xs : Nat → Int32) (m d k : Nat) (g : a2_G) (r : a2_A) : Option fn_Z := (B125_34 L xs m d k 0 g r)
theorem b125_33 (L : Nat) (xs : Nat → Int32) (m d k : Nat) (n : Nat) (g : a2_G) (r : a2_A) : bk L xs 125 nm_m125 m d k (n + 27) 33 [some (.ref 6), none] [.ref 6] g r = B125_33 L xs m d k g r := by
  show _ = ((B125_34 L xs m d k 0 g r) : Option fn_Z)
  refine (fs_r (n := n + 26) 1 (pc' := 34) (L' := [some (.ref 6), none]) (S' := [.int 0, .ref 6]) rfl).trans ?_
  exact b125_34 L xs m d k (n + 0) 0 g r
theorem e125 (L : Nat) (xs : Nat → Int32) (m d k : Nat) (n : Nat) (g : a2_G) (r : a2_A) : bk L xs 125 nm_m125 m d k (n + 41) 0 [some (.ref 6), none] [] g r = (fn_v (ev L xs m d 126 [.ref 8] g r) fun v3 g1 r2 => (if am_c2 .eq v3 0 = true then (B125_29 L xs m d k g1 r2) else (fn_v (ev L xs m d 127 [.ref 8] g1 r2) fun v23 g21 r22 => (if am_c2 .ne v23 1 = true then (B125_33 L xs m d k g21 r22) else (fn_v (ev L xs m d 128 [.ref 6] g21 r22) fun v26 g24 r25 => (if am_c2 .eq v26 0 = true then (B125_33 L xs m d k g24 r25) else (B125_29 L xs m d k g24 r25))))))) := by
  refine (fs_r (n := n + 38) 3 (pc' := 5) (L' := [some (.ref 6), none]) (S' := [.ref 8, .ref 6]) rfl).trans ?_
  refine (fs_cv (n := n + 37) (N := nm_m126) (as := [.ref 8]) (rest := [.ref 6]) rfl rfl (Or.inl rfl) rfl rfl rfl rfl rfl).trans (fs_fv fun v3 g1 r2 => ?_)
  refine (fs_i (n := n + 36) rfl (t := 29) rfl (by decide)).trans (fs_ite ?_ ?_)
  · skip
    exact b125_29 L xs m d k (n + 8) g1 r2
  · skip
    refine (fs_r (n := n + 34) 2 (pc' := 15) (L' := [some (.ref 6), none]) (S' := [.ref 8, .ref 6]) rfl).trans ?_
    refine (fs_cv (n := n + 33) (N := nm_m127) (as := [.ref 8]) (rest := [.ref 6]) rfl rfl (Or.inl rfl) rfl rfl rfl rfl rfl).trans (fs_fv fun v23 g21 r22 => ?_)
    refine (fs_r (n := n + 32) 1 (pc' := 19) (L' := [some (.ref 6), none]) (S' := [.int 1, .int v23, .ref 6]) rfl).trans ?_
    refine (fs_j (n := n + 31) rfl (t := 33) rfl (by decide)).trans (fs_ite ?_ ?_)
    · skip
      exact b125_33 L xs m d k (n + 4) g21 r22
    · skip
      refine (fs_r (n := n + 30) 1 (pc' := 23) (L' := [some (.ref 6), none]) (S' := [.ref 6, .ref 6]) rfl).trans ?_
      refine (fs_cv (n := n + 29) (N := nm_m128) (as := [.ref 6]) (rest := [.ref 6]) rfl rfl (Or.inl rfl) rfl rfl rfl rfl rfl).trans (fs_fv fun v26 g24 r25 => ?_)
      refine (fs_i (n := n + 28) rfl (t := 33) rfl (by decide)).trans (fs_ite ?_ ?_)
      · skip
        exact b125_33 L xs m d k (n + 1) g24 r25
      · skip
        exact b125_29 L xs m d k (n + 0) g24 r25
theorem q125 (L : Nat) (xs : Nat → Int32) (m d : Nat) (g : a2_G) (r : a2_A) : ev L xs (m + 1) (d + 1) 125 [.ref 6] g r = (fn_v (ev L xs (m + 1) d 126 [.ref 8] g r) fun v3 g1 r2 => (if am_c2 .eq v3 0 = true then (B125_29 L xs (m + 1) d m g1 r2) else (fn_v (ev L xs (m + 1) d 127 [.ref 8] g1 r2) fun v23 g21 r22 => (if am_c2 .ne v23 1 = true then (B125_33 L xs (m + 1) d m g21 r22) else (fn_v (ev L xs (m + 1) d 128 [.ref 6] g21 r22) fun v26 g24 r25 => (if am_c2 .eq v26 0 = true then (B125_33 L xs (m + 1) d m g24 r25) else (B125_29 L xs (m + 1) d m g24 r25))))))) := (fs_ev (M := nm_m125) rfl rfl).trans (e125 L xs (m + 1) d m 859 g r)
/-- CobolParser$Units.openCount()I -/
theorem e126 (L : Nat) (xs : Nat → Int32) (m d k : Nat) (n : Nat) (g : a2_G) (r : a2_A) : bk L xs 126 nm_m126 m d k (n + 3) 0 [some (.ref 8)] [] g r = (some (.inl (some (.int (g 804))), g, r)) := by
  refine (fs_r (n := n + 1) 2 (pc' := 4) (L' := [some (.ref 8)]) (S' := [.int (g 804)]) rfl).trans ?_
  exact (fs_ri (n := n + 0) rfl rfl).trans rfl
theorem q126 (L : Nat) (xs : Nat → Int32) (m d : Nat) (g : a2_G) (r : a2_A) : ev L xs (m + 1) (d + 1) 126 [.ref 8] g r = (some (.inl (some (.int (g 804))), g, r)) := (fs_ev (M := nm_m126) rfl rfl).trans (e126 L xs (m + 1) d m 897 g r)
/-- CobolParser$Units.kind()I -/
def B127_22 (L : Nat) (xs : Nat → Int32) (m d k : Nat) (x1 : Int32) (g : a2_G) (r : a2_A) : Option fn_Z := (some (.inl (some (.int x1)), g, r))
theorem b127_22 (L : Nat) (xs : Nat → Int32) (m d k : Nat) (n : Nat) (x1 : Int32) (g : a2_G) (r : a2_A) : bk L xs 127 nm_m127 m d k (n + 1) 22 [some (.ref 8)] [.int x1] g r = B127_22 L xs m d k x1 g r := by
  show _ = ((some (.inl (some (.int x1)), g, r)) : Option fn_Z)
  exact (fs_ri (n := n + 0) rfl rfl).trans rfl
theorem e127 (L : Nat) (xs : Nat → Int32) (m d k : Nat) (n : Nat) (g : a2_G) (r : a2_A) : bk L xs 127 nm_m127 m d k (n + 12) 0 [some (.ref 8)] [] g r = (if am_c2 .le (g 804) 0 = true then (B127_22 L xs m d k (-1) g r) else (if am_inr ((g 804) - 1) (r 801).1 = true then (B127_22 L xs m d k ((r 801).2 (((g 804) - 1) : Int32).toNatClampNeg) g r) else none)) := by
  refine (fs_r (n := n + 10) 2 (pc' := 4) (L' := [some (.ref 8)]) (S' := [.int (g 804)]) rfl).trans ?_
  refine (fs_i (n := n + 9) rfl (t := 21) rfl (by decide)).trans (fs_ite ?_ ?_)
  · skip
    refine (fs_r (n := n + 8) 1 (pc' := 22) (L' := [some (.ref 8)]) (S' := [.int (-1)]) rfl).trans ?_
    exact b127_22 L xs m d k (n + 7) (-1) g r
  · skip
    refine (fs_r (n := n + 3) 6 (pc' := 17) (L' := [some (.ref 8)]) (S' := [.int ((g 804) - 1), .ref 10801]) rfl).trans ?_
    refine (fs_il (n := n + 2) (k := 801) rfl rfl).trans (fs_ite ?_ rfl)
    refine (fs_go (n := n + 1) rfl (t := 22) rfl (by decide)).trans ?_
    exact b127_22 L xs m d k (n + 0) ((r 801).2 (((g 804) - 1) : Int32).toNatClampNeg) g r
theorem q127 (L : Nat) (xs : Nat → Int32) (m d : Nat) (g : a2_G) (r : a2_A) : ev L xs (m + 1) (d + 1) 127 [.ref 8] g r = (if am_c2 .le (g 804) 0 = true then (B127_22 L xs (m + 1) d m (-1) g r) else (if am_inr ((g 804) - 1) (r 801).1 = true then (B127_22 L xs (m + 1) d m ((r 801).2 (((g 804) - 1) : Int32).toNatClampNeg) g r) else none)) := (fs_ev (M := nm_m127) rfl rfl).trans (e127 L xs (m + 1) d m 888 g r)
/-- CobolParser$Clauses.mayEndOrContain()Z -/
def B128_28 (L : Nat) (xs : Nat → Int32) (m d k : Nat) (x1 : Int32) (g : a2_G) (r : a2_A) : Option fn_Z := (if x1 = 0 ∨ x1 = 1 then some (.inl (some (.int x1)), g, r) else none)
theorem b128_28 (L : Nat) (xs : Nat → Int32) (m d k : Nat) (n : Nat) (x1 : Int32) (g : a2_G) (r : a2_A) : bk L xs 128 nm_m128 m d k (n + 1) 28 [some (.ref 6)] [.int x1] g r = B128_28 L xs m d k x1 g r := by
  show _ = ((if x1 = 0 ∨ x1 = 1 then some (.inl (some (.int x1)), g, r) else none) : Option fn_Z)
  exact (fs_rb (n := n + 0) rfl rfl).trans rfl
def B128_27 (L : Nat) (xs : Nat → Int32) (m d k : Nat) (g : a2_G) (r : a2_A) : Option fn_Z := (B128_28 L xs m d k 0 g r)
theorem b128_27 (L : Nat) (xs : Nat → Int32) (m d k : Nat) (n : Nat) (g : a2_G) (r : a2_A) : bk L xs 128 nm_m128 m d k (n + 2) 27 [some (.ref 6)] [] g r = B128_27 L xs m d k g r := by
  show _ = ((B128_28 L xs m d k 0 g r) : Option fn_Z)
  refine (fs_r (n := n + 1) 1 (pc' := 28) (L' := [some (.ref 6)]) (S' := [.int 0]) rfl).trans ?_
  exact b128_28 L xs m d k (n + 0) 0 g r
theorem e128 (L : Nat) (xs : Nat → Int32) (m d k : Nat) (n : Nat) (g : a2_G) (r : a2_A) : bk L xs 128 nm_m128 m d k (n + 13) 0 [some (.ref 6)] [] g r = (fn_v (ev L xs m d 54 [.ref 8] g r) fun v3 g1 r2 => (if am_c2 .lt v3 1 = true then (B128_27 L xs m d k g1 r2) else (fn_v (ev L xs m d 54 [.ref 8] g1 r2) fun v6 g4 r5 => (if am_c2 .eq v6 9 = true then (B128_27 L xs m d k g4 r5) else (B128_28 L xs m d k 1 g4 r5))))) := by
  refine (fs_r (n := n + 11) 2 (pc' := 4) (L' := [some (.ref 6)]) (S' := [.ref 8]) rfl).trans ?_
  refine (fs_cv (n := n + 10) (N := nm_m54) (as := [.ref 8]) (rest := []) rfl rfl (Or.inl rfl) rfl rfl rfl rfl rfl).trans (fs_fv fun v3 g1 r2 => ?_)
  refine (fs_r (n := n + 9) 1 (pc' := 8) (L' := [some (.ref 6)]) (S' := [.int 1, .int v3]) rfl).trans ?_
  refine (fs_j (n := n + 8) rfl (t := 27) rfl (by decide)).trans (fs_ite ?_ ?_)
  · skip
    exact b128_27 L xs m d k (n + 6) g1 r2
  · skip
    refine (fs_r (n := n + 6) 2 (pc' := 15) (L' := [some (.ref 6)]) (S' := [.ref 8]) rfl).trans ?_
    refine (fs_cv (n := n + 5) (N := nm_m54) (as := [.ref 8]) (rest := []) rfl rfl (Or.inl rfl) rfl rfl rfl rfl rfl).trans (fs_fv fun v6 g4 r5 => ?_)
    refine (fs_r (n := n + 4) 1 (pc' := 20) (L' := [some (.ref 6)]) (S' := [.int 9, .int v6]) rfl).trans ?_
    refine (fs_j (n := n + 3) rfl (t := 27) rfl (by decide)).trans (fs_ite ?_ ?_)
    · skip
      exact b128_27 L xs m d k (n + 1) g4 r5
    · skip
      refine (fs_r (n := n + 2) 1 (pc' := 24) (L' := [some (.ref 6)]) (S' := [.int 1]) rfl).trans ?_
      refine (fs_go (n := n + 1) rfl (t := 28) rfl (by decide)).trans ?_
      exact b128_28 L xs m d k (n + 0) 1 g4 r5
theorem q128 (L : Nat) (xs : Nat → Int32) (m d : Nat) (g : a2_G) (r : a2_A) : ev L xs (m + 1) (d + 1) 128 [.ref 6] g r = (fn_v (ev L xs (m + 1) d 54 [.ref 8] g r) fun v3 g1 r2 => (if am_c2 .lt v3 1 = true then (B128_27 L xs (m + 1) d m g1 r2) else (fn_v (ev L xs (m + 1) d 54 [.ref 8] g1 r2) fun v6 g4 r5 => (if am_c2 .eq v6 9 = true then (B128_27 L xs (m + 1) d m g4 r5) else (B128_28 L xs (m + 1) d m 1 g4 r5))))) := (fs_ev (M := nm_m128) rfl rfl).trans (e128 L xs (m + 1) d m 887 g r)
/-- CobolParser$Units.isFull()Z -/
def B129_14 (L : Nat) (xs : Nat → Int32) (m d k : Nat) (x1 : Int32) (g : a2_G) (r : a2_A) : Option fn_Z := (if x1 = 0 ∨ x1 = 1 then some (.inl (some (.int x1)), g, r) else none)
theorem b129_14 (L : Nat) (xs : Nat → Int32) (m d k : Nat) (n : Nat) (x1 : Int32) (g : a2_G) (r : a2_A) : bk L xs 129 nm_m129 m d k (n + 1) 14 [some (.ref 8)] [.int x1] g r = B129_14 L xs m d k x1 g r := by
  show _ = ((if x1 = 0 ∨ x1 = 1 then some (.inl (some (.int x1)), g, r) else none) : Option fn_Z)
  exact (fs_rb (n := n + 0) rfl rfl).trans rfl
theorem e129 (L : Nat) (xs : Nat → Int32) (m d k : Nat) (n : Nat) (g : a2_G) (r : a2_A) : bk L xs 129 nm_m129 m d k (n + 7) 0 [some (.ref 8)] [] g r = (if am_c2 .lt (g 804) 10 = true then (B129_14 L xs m d k 0 g r) else (B129_14 L xs m d k 1 g r)) := by
  refine (fs_r (n := n + 4) 3 (pc' := 6) (L' := [some (.ref 8)]) (S' := [.int 10, .int (g 804)]) rfl).trans ?_
  refine (fs_j (n := n + 3) rfl (t := 13) rfl (by decide)).trans (fs_ite ?_ ?_)
  · skip
    refine (fs_r (n := n + 2) 1 (pc' := 14) (L' := [some (.ref 8)]) (S' := [.int 0]) rfl).trans ?_
    exact b129_14 L xs m d k (n + 1) 0 g r
  · skip
    refine (fs_r (n := n + 2) 1 (pc' := 10) (L' := [some (.ref 8)]) (S' := [.int 1]) rfl).trans ?_
    refine (fs_go (n := n + 1) rfl (t := 14) rfl (by decide)).trans ?_
    exact b129_14 L xs m d k (n + 0) 1 g r
theorem q129 (L : Nat) (xs : Nat → Int32) (m d : Nat) (g : a2_G) (r : a2_A) : ev L xs (m + 1) (d + 1) 129 [.ref 8] g r = (if am_c2 .lt (g 804) 10 = true then (B129_14 L xs (m + 1) d m 0 g r) else (B129_14 L xs (m + 1) d m 1 g r)) := (fs_ev (M := nm_m129) rfl rfl).trans (e129 L xs (m + 1) d m 893 g r)
/-- CobolParser$Units.handle()I -/
def B130_22 (L : Nat) (xs : Nat → Int32) (m d k : Nat) (x1 : Int32) (g : a2_G) (r : a2_A) : Option fn_Z := (some (.inl (some (.int x1)), g, r))
theorem b130_22 (L : Nat) (xs : Nat → Int32) (m d k : Nat) (n : Nat) (x1 : Int32) (g : a2_G) (r : a2_A) : bk L xs 130 nm_m130 m d k (n + 1) 22 [some (.ref 8)] [.int x1] g r = B130_22 L xs m d k x1 g r := by
  show _ = ((some (.inl (some (.int x1)), g, r)) : Option fn_Z)
  exact (fs_ri (n := n + 0) rfl rfl).trans rfl
theorem e130 (L : Nat) (xs : Nat → Int32) (m d k : Nat) (n : Nat) (g : a2_G) (r : a2_A) : bk L xs 130 nm_m130 m d k (n + 12) 0 [some (.ref 8)] [] g r = (if am_c2 .le (g 804) 0 = true then (B130_22 L xs m d k 0 g r) else (if am_inr ((g 804) - 1) (r 803).1 = true then (B130_22 L xs m d k ((r 803).2 (((g 804) - 1) : Int32).toNatClampNeg) g r) else none)) := by
  refine (fs_r (n := n + 10) 2 (pc' := 4) (L' := [some (.ref 8)]) (S' := [.int (g 804)]) rfl).trans ?_
  refine (fs_i (n := n + 9) rfl (t := 21) rfl (by decide)).trans (fs_ite ?_ ?_)
  · skip
    refine (fs_r (n := n + 8) 1 (pc' := 22) (L' := [some (.ref 8)]) (S' := [.int 0]) rfl).trans ?_
    exact b130_22 L xs m d k (n + 7) 0 g r
  · skip
    refine (fs_r (n := n + 3) 6 (pc' := 17) (L' := [some (.ref 8)]) (S' := [.int ((g 804) - 1), .ref 10803]) rfl).trans ?_
    refine (fs_il (n := n + 2) (k := 803) rfl rfl).trans (fs_ite ?_ rfl)
    refine (fs_go (n := n + 1) rfl (t := 22) rfl (by decide)).trans ?_
    exact b130_22 L xs m d k (n + 0) ((r 803).2 (((g 804) - 1) : Int32).toNatClampNeg) g r
theorem q130 (L : Nat) (xs : Nat → Int32) (m d : Nat) (g : a2_G) (r : a2_A) : ev L xs (m + 1) (d + 1) 130 [.ref 8] g r = (if am_c2 .le (g 804) 0 = true then (B130_22 L xs (m + 1) d m 0 g r) else (if am_inr ((g 804) - 1) (r 803).1 = true then (B130_22 L xs (m + 1) d m ((r 803).2 (((g 804) - 1) : Int32).toNatClampNeg) g r) else none)) := (fs_ev (M := nm_m130) rfl rfl).trans (e130 L xs (m + 1) d m 888 g r)
/-- CobolParser$Clauses.heading(III)I -/
theorem e131 (L : Nat) (xs : Nat → Int32) (m d k : Nat) (n : Nat) (a1 a2 a3 : Int32) (g : a2_G) (r : a2_A) : bk L xs 131 nm_m131 m d k (n + 28) 0 [some (.ref 6), some (.int a1), some (.int a2), some (.int a3), none] [] g r = (fn_v (ev L xs m d 58 [.ref 1] g r) fun v3 g1 r2 => (fn_v (ev L xs m d 45 [.ref 2, .int a1, .int 0, .int v3] g1 r2) fun v6 g4 r5 => (fn_n (ev L xs m d 61 [.ref 1] g4 r5) fun g7 r8 => (fn_n (ev L xs m d 83 [.ref 1, .int a2] g7 r8) fun g9 r10 => (fn_v (ev L xs m d 59 [.ref 1, .int 4] g9 r10) fun v13 g11 r12 => (fn_n (ev L xs m d 63 [.ref 2, .int a3, .int v6] g11 r12) fun g14 r15 => (some (.inl (some (.int v6)), g14, r15)))))))) := by
  refine (fs_r (n := n + 22) 6 (pc' := 10) (L' := [some (.ref 6), some (.int a1), some (.int a2), some (.int a3), none]) (S' := [.ref 1, .int 0, .int a1, .ref 2]) rfl).trans ?_
  refine (fs_cv (n := n + 21) (N := nm_m58) (as := [.ref 1]) (rest := [.int 0, .int a1, .ref 2]) rfl rfl (Or.inl rfl) rfl rfl rfl rfl rfl).trans (fs_fv fun v3 g1 r2 => ?_)
  refine (fs_cv (n := n + 20) (N := nm_m45) (as := [.ref 2, .int a1, .int 0, .int v3]) (rest := []) rfl rfl (Or.inl rfl) rfl rfl rfl rfl rfl).trans (fs_fv fun v6 g4 r5 => ?_)
  refine (fs_r (n := n + 17) 3 (pc' := 22) (L' := [some (.ref 6), some (.int a1), some (.int a2), some (.int a3), some (.int v6)]) (S' := [.ref 1]) rfl).trans ?_
  refine (fs_cn (n := n + 16) (N := nm_m61) (as := [.ref 1]) (rest := []) rfl rfl (Or.inl rfl) rfl rfl rfl rfl rfl).trans (fs_fn fun g7 r8 => ?_)
  refine (fs_r (n := n + 13) 3 (pc' := 30) (L' := [some (.ref 6), some (.int a1), some (.int a2), some (.int a3), some (.int v6)]) (S' := [.int a2, .ref 1]) rfl).trans ?_
  refine (fs_cn (n := n + 12) (N := nm_m83) (as := [.ref 1, .int a2]) (rest := []) rfl rfl (Or.inl rfl) rfl rfl rfl rfl rfl).trans (fs_fn fun g9 r10 => ?_)
  refine (fs_r (n := n + 9) 3 (pc' := 38) (L' := [some (.ref 6), some (.int a1), some (.int a2), some (.int a3), some (.int v6)]) (S' := [.int 4, .ref 1]) rfl).trans ?_
  refine (fs_cv (n := n + 8) (N := nm_m59) (as := [.ref 1, .int 4]) (rest := []) rfl rfl (Or.inl rfl) rfl rfl rfl rfl rfl).trans (fs_fv fun v13 g11 r12 => ?_)
  refine (fs_r (n := n + 3) 5 (pc' := 49) (L' := [some (.ref 6), some (.int a1), some (.int a2), some (.int a3), some (.int v6)]) (S' := [.int v6, .int a3, .ref 2]) rfl).trans ?_
  refine (fs_cn (n := n + 2) (N := nm_m63) (as := [.ref 2, .int a3, .int v6]) (rest := []) rfl rfl (Or.inl rfl) rfl rfl rfl rfl rfl).trans (fs_fn fun g14 r15 => ?_)
  refine (fs_r (n := n + 1) 1 (pc' := 54) (L' := [some (.ref 6), some (.int a1), some (.int a2), some (.int a3), some (.int v6)]) (S' := [.int v6]) rfl).trans ?_
  exact (fs_ri (n := n + 0) rfl rfl).trans rfl
theorem q131 (L : Nat) (xs : Nat → Int32) (m d : Nat) (a1 a2 a3 : Int32) (g : a2_G) (r : a2_A) : ev L xs (m + 1) (d + 1) 131 [.ref 6, .int a1, .int a2, .int a3] g r = (fn_v (ev L xs (m + 1) d 58 [.ref 1] g r) fun v3 g1 r2 => (fn_v (ev L xs (m + 1) d 45 [.ref 2, .int a1, .int 0, .int v3] g1 r2) fun v6 g4 r5 => (fn_n (ev L xs (m + 1) d 61 [.ref 1] g4 r5) fun g7 r8 => (fn_n (ev L xs (m + 1) d 83 [.ref 1, .int a2] g7 r8) fun g9 r10 => (fn_v (ev L xs (m + 1) d 59 [.ref 1, .int 4] g9 r10) fun v13 g11 r12 => (fn_n (ev L xs (m + 1) d 63 [.ref 2, .int a3, .int v6] g11 r12) fun g14 r15 => (some (.inl (some (.int v6)), g14, r15)))))))) := (fs_ev (M := nm_m131) rfl rfl).trans (e131 L xs (m + 1) d m 872 a1 a2 a3 g r)
