/-! The equations of the methods, by wip/whole/gensh2.py -/
/-- CobolParserModel.branch(III)V -/
def BM_branch_19 (L : Nat) (xs : Nat → Int32) (m d k : Nat) (x1 x2 x3 : Int32) (g : a2_G) (r : a2_A) : Option fn_Z := (fn_n (ev L xs m d nM_scope [.ref cM, .int x2, .int 73, .int 0] g r) fun g1 r2 => (some (.inl none, g1, r2)))
theorem bM_branch_19 (L : Nat) (xs : Nat → Int32) (m d k : Nat) (n : Nat) (x1 x2 x3 : Int32) (g : a2_G) (r : a2_A) : bk L xs nM_branch nm_m193 m d k (n + 6) 19 [some (.ref cM), some (.int x1), some (.int x2), some (.int x3), none] [] g r = BM_branch_19 L xs m d k x1 x2 x3 g r := by
  show _ = ((fn_n (ev L xs m d nM_scope [.ref cM, .int x2, .int 73, .int 0] g r) fun g1 r2 => (some (.inl none, g1, r2))) : Option fn_Z)
  refine (fs_r (n := n + 2) 4 (pc' := 24) (L' := [some (.ref cM), some (.int x1), some (.int x2), some (.int x3), none]) (S' := [.int 0, .int 73, .int x2, .ref cM]) rfl).trans ?_
  refine (fs_cn (n := n + 1) (N := nm_m190) (as := [.ref cM, .int x2, .int 73, .int 0]) (rest := []) rfl rfl (Or.inl rfl) rfl rfl rfl rfl rfl).trans (fs_fn fun g1 r2 => ?_)
  exact (fs_rv (n := n + 0) rfl rfl).trans rfl
def BM_branch_82 (L : Nat) (xs : Nat → Int32) (m d k : Nat) (x1 x2 x3 x4 : Int32) (g : a2_G) (r : a2_A) : Option fn_Z := (some (.inl none, g, r))
theorem bM_branch_82 (L : Nat) (xs : Nat → Int32) (m d k : Nat) (n : Nat) (x1 x2 x3 x4 : Int32) (g : a2_G) (r : a2_A) : bk L xs nM_branch nm_m193 m d k (n + 1) 82 [some (.ref cM), some (.int x1), some (.int x2), some (.int x3), some (.int x4)] [] g r = BM_branch_82 L xs m d k x1 x2 x3 x4 g r := by
  show _ = ((some (.inl none, g, r)) : Option fn_Z)
  exact (fs_rv (n := n + 0) rfl rfl).trans rfl
def BM_branch_28 (L : Nat) (xs : Nat → Int32) (m d k : Nat) (x1 x2 x3 : Int32) (g : a2_G) (r : a2_A) : Option fn_Z := (fn_v (ev L xs m d nM_isWord [.ref cM, .int (g fM_at), .int 54] g r) fun v5 g3 r4 => (if am_c2 .ne v5 0 = true then (fn_v (ev L xs m d nM_must [.ref cM, .int 55] (upd g3 fM_at ((g3 fM_at) + 1)) r4) fun v8 g6 r7 => (if am_c2 .eq v8 0 = true then (BM_branch_82 L xs m d k x1 x2 x3 (g fM_at) g6 r7) else (fn_n (ev L xs m d nM_child4 [.ref cM, .int x2, .int 42, .int 0, .int (g fM_at)] g6 r7) fun g9 r10 => (BM_branch_82 L xs m d k x1 x2 x3 (g fM_at) g9 r10)))) else (fn_n (ev L xs m d nM_list [.ref cM, .int x2] g3 r4) fun g11 r12 => (some (.inl none, g11, r12)))))
theorem bM_branch_28 (L : Nat) (xs : Nat → Int32) (m d k : Nat) (n : Nat) (x1 x2 x3 : Int32) (g : a2_G) (r : a2_A) : bk L xs nM_branch nm_m193 m d k (n + 26) 28 [some (.ref cM), some (.int x1), some (.int x2), some (.int x3), none] [] g r = BM_branch_28 L xs m d k x1 x2 x3 g r := by
  show _ = ((fn_v (ev L xs m d nM_isWord [.ref cM, .int (g fM_at), .int 54] g r) fun v5 g3 r4 => (if am_c2 .ne v5 0 = true then (fn_v (ev L xs m d nM_must [.ref cM, .int 55] (upd g3 fM_at ((g3 fM_at) + 1)) r4) fun v8 g6 r7 => (if am_c2 .eq v8 0 = true then (BM_branch_82 L xs m d k x1 x2 x3 (g fM_at) g6 r7) else (fn_n (ev L xs m d nM_child4 [.ref cM, .int x2, .int 42, .int 0, .int (g fM_at)] g6 r7) fun g9 r10 => (BM_branch_82 L xs m d k x1 x2 x3 (g fM_at) g9 r10)))) else (fn_n (ev L xs m d nM_list [.ref cM, .int x2] g3 r4) fun g11 r12 => (some (.inl none, g11, r12))))) : Option fn_Z)
  refine (fs_r (n := n + 19) 7 (pc' := 41) (L' := [some (.ref cM), some (.int x1), some (.int x2), some (.int x3), some (.int (g fM_at))]) (S' := [.int 54, .int (g fM_at), .ref cM]) rfl).trans ?_
  refine (fs_cv (n := n + 18) (N := nm_m167) (as := [.ref cM, .int (g fM_at), .int 54]) (rest := []) rfl rfl (Or.inl rfl) rfl rfl rfl rfl rfl).trans (fs_fv fun v5 g3 r4 => ?_)
  refine (fs_i (n := n + 17) rfl (t := 53) rfl (by decide)).trans (fs_ite ?_ ?_)
  · skip
    refine (fs_r (n := n + 12) 5 (pc' := 60) (L' := [some (.ref cM), some (.int x1), some (.int x2), some (.int x3), some (.int (g fM_at))]) (S' := [.int ((g3 fM_at) + 1), .ref cM]) rfl).trans ?_
    refine (fs_pf (n := n + 11) (ci := 9) (j := 41) rfl rfl rfl rfl).trans ?_
    refine (fs_r (n := n + 9) 2 (pc' := 66) (L' := [some (.ref cM), some (.int x1), some (.int x2), some (.int x3), some (.int (g fM_at))]) (S' := [.int 55, .ref cM]) rfl).trans ?_
    refine (fs_cv (n := n + 8) (N := nm_m191) (as := [.ref cM, .int 55]) (rest := []) rfl rfl (Or.inl rfl) rfl rfl rfl rfl rfl).trans (fs_fv fun v8 g6 r7 => ?_)
    refine (fs_i (n := n + 7) rfl (t := 82) rfl (by decide)).trans (fs_ite ?_ ?_)
    · skip
      exact bM_branch_82 L xs m d k (n + 6) x1 x2 x3 (g fM_at) g6 r7
    · skip
      refine (fs_r (n := n + 2) 5 (pc' := 79) (L' := [some (.ref cM), some (.int x1), some (.int x2), some (.int x3), some (.int (g fM_at))]) (S' := [.int (g fM_at), .int 0, .int 42, .int x2, .ref cM]) rfl).trans ?_
      refine (fs_cn (n := n + 1) (N := nm_m172) (as := [.ref cM, .int x2, .int 42, .int 0, .int (g fM_at)]) (rest := []) rfl rfl (Or.inl rfl) rfl rfl rfl rfl rfl).trans (fs_fn fun g9 r10 => ?_)
      exact bM_branch_82 L xs m d k (n + 0) x1 x2 x3 (g fM_at) g9 r10
  · skip
    refine (fs_r (n := n + 15) 2 (pc' := 49) (L' := [some (.ref cM), some (.int x1), some (.int x2), some (.int x3), some (.int (g fM_at))]) (S' := [.int x2, .ref cM]) rfl).trans ?_
    refine (fs_cn (n := n + 14) (N := nm_m192) (as := [.ref cM, .int x2]) (rest := []) rfl rfl (Or.inl rfl) rfl rfl rfl rfl rfl).trans (fs_fn fun g11 r12 => ?_)
    exact (fs_rv (n := n + 13) rfl rfl).trans rfl
theorem eM_branch (L : Nat) (xs : Nat → Int32) (m d k : Nat) (n : Nat) (a1 a2 a3 : Int32) (g : a2_G) (r : a2_A) : bk L xs nM_branch nm_m193 m d k (n + 36) 0 [some (.ref cM), some (.int a1), some (.int a2), some (.int a3), none] [] g r = (if am_c2 .eq a3 2 = true then (BM_branch_19 L xs m d k a1 a2 a3 g r) else (if am_c2 .ne a3 1 = true then (BM_branch_28 L xs m d k a1 a2 a3 g r) else (fn_v (ev L xs m d nM_meets [.ref cM, .int 53] g r) fun v15 g13 r14 => (if am_c2 .ne v15 0 = true then (BM_branch_28 L xs m d k a1 a2 a3 g13 r14) else (BM_branch_19 L xs m d k a1 a2 a3 g13 r14))))) := by
  refine (fs_r (n := n + 34) 2 (pc' := 2) (L' := [some (.ref cM), some (.int a1), some (.int a2), some (.int a3), none]) (S' := [.int 2, .int a3]) rfl).trans ?_
  refine (fs_j (n := n + 33) rfl (t := 19) rfl (by decide)).trans (fs_ite ?_ ?_)
  · skip
    exact bM_branch_19 L xs m d k (n + 27) a1 a2 a3 g r
  · skip
    refine (fs_r (n := n + 31) 2 (pc' := 7) (L' := [some (.ref cM), some (.int a1), some (.int a2), some (.int a3), none]) (S' := [.int 1, .int a3]) rfl).trans ?_
    refine (fs_j (n := n + 30) rfl (t := 28) rfl (by decide)).trans (fs_ite ?_ ?_)
    · skip
      exact bM_branch_28 L xs m d k (n + 4) a1 a2 a3 g r
    · skip
      refine (fs_r (n := n + 28) 2 (pc' := 13) (L' := [some (.ref cM), some (.int a1), some (.int a2), some (.int a3), none]) (S' := [.int 53, .ref cM]) rfl).trans ?_
      refine (fs_cv (n := n + 27) (N := nm_m169) (as := [.ref cM, .int 53]) (rest := []) rfl rfl (Or.inl rfl) rfl rfl rfl rfl rfl).trans (fs_fv fun v15 g13 r14 => ?_)
      refine (fs_i (n := n + 26) rfl (t := 28) rfl (by decide)).trans (fs_ite ?_ ?_)
      · skip
        exact bM_branch_28 L xs m d k (n + 0) a1 a2 a3 g13 r14
      · skip
        exact bM_branch_19 L xs m d k (n + 20) a1 a2 a3 g13 r14
theorem qM_branch (L : Nat) (xs : Nat → Int32) (m d : Nat) (a1 a2 a3 : Int32) (g : a2_G) (r : a2_A) : ev L xs (m + 1) (d + 1) nM_branch [.ref cM, .int a1, .int a2, .int a3] g r = (if am_c2 .eq a3 2 = true then (BM_branch_19 L xs (m + 1) d m a1 a2 a3 g r) else (if am_c2 .ne a3 1 = true then (BM_branch_28 L xs (m + 1) d m a1 a2 a3 g r) else (fn_v (ev L xs (m + 1) d nM_meets [.ref cM, .int 53] g r) fun v15 g13 r14 => (if am_c2 .ne v15 0 = true then (BM_branch_28 L xs (m + 1) d m a1 a2 a3 g13 r14) else (BM_branch_19 L xs (m + 1) d m a1 a2 a3 g13 r14))))) := (fs_ev (M := nm_m193) rfl rfl).trans (eM_branch L xs (m + 1) d m 864 a1 a2 a3 g r)
/-- CobolParserModel.whens(III)V -/
def BM_whens_42 (L : Nat) (xs : Nat → Int32) (m d k : Nat) (x1 x2 x3 x4 : Int32) (g : a2_G) (r : a2_A) : Option fn_Z := (fn_v (ev L xs m d nM_meets [.ref cM, .int 59] g r) fun v11 g9 r10 => (if am_c2 .eq v11 0 = true then (fn_n (ev L xs m d nM_list [.ref cM, .int x4] g9 r10) fun g12 r13 => (some (.inl none, g12, r13))) else (fn_v (ev L xs m d nM_isWord [.ref cM, .int (g9 fM_at), .int 60] g9 r10) fun v16 g14 r15 => (if am_c2 .eq v16 0 = true then (fn_n (ev L xs m d nM_operandOf [.ref cM, .int x4] g14 r15) fun g17 r18 => (lp L xs nM_whens nm_m194 m d k 42 [some (.ref cM), some (.int x1), some (.int x2), some (.int x3), some (.int x4)] g17 r18)) else (fn_n (ev L xs m d nM_child4 [.ref cM, .int x4, .int 47, .int 0, .int (g14 fM_at)] g14 r15) fun g19 r20 => (lp L xs nM_whens nm_m194 m d k 42 [some (.ref cM), some (.int x1), some (.int x2), some (.int x3), some (.int x4)] (upd g19 fM_at ((g19 fM_at) + 1)) r20))))))
theorem bM_whens_42 (L : Nat) (xs : Nat → Int32) (m d k : Nat) (n : Nat) (x1 x2 x3 x4 : Int32) (g : a2_G) (r : a2_A) : bk L xs nM_whens nm_m194 m d k (n + 24) 42 [some (.ref cM), some (.int x1), some (.int x2), some (.int x3), some (.int x4)] [] g r = BM_whens_42 L xs m d k x1 x2 x3 x4 g r := by
  show _ = ((fn_v (ev L xs m d nM_meets [.ref cM, .int 59] g r) fun v11 g9 r10 => (if am_c2 .eq v11 0 = true then (fn_n (ev L xs m d nM_list [.ref cM, .int x4] g9 r10) fun g12 r13 => (some (.inl none, g12, r13))) else (fn_v (ev L xs m d nM_isWord [.ref cM, .int (g9 fM_at), .int 60] g9 r10) fun v16 g14 r15 => (if am_c2 .eq v16 0 = true then (fn_n (ev L xs m d nM_operandOf [.ref cM, .int x4] g14 r15) fun g17 r18 => (lp L xs nM_whens nm_m194 m d k 42 [some (.ref cM), some (.int x1), some (.int x2), some (.int x3), some (.int x4)] g17 r18)) else (fn_n (ev L xs m d nM_child4 [.ref cM, .int x4, .int 47, .int 0, .int (g14 fM_at)] g14 r15) fun g19 r20 => (lp L xs nM_whens nm_m194 m d k 42 [some (.ref cM), some (.int x1), some (.int x2), some (.int x3), some (.int x4)] (upd g19 fM_at ((g19 fM_at) + 1)) r20)))))) : Option fn_Z)
  refine (fs_r (n := n + 22) 2 (pc' := 45) (L' := [some (.ref cM), some (.int x1), some (.int x2), some (.int x3), some (.int x4)]) (S' := [.int 59, .ref cM]) rfl).trans ?_
  refine (fs_cv (n := n + 21) (N := nm_m169) (as := [.ref cM, .int 59]) (rest := []) rfl rfl (Or.inl rfl) rfl rfl rfl rfl rfl).trans (fs_fv fun v11 g9 r10 => ?_)
  refine (fs_i (n := n + 20) rfl (t := 99) rfl (by decide)).trans (fs_ite ?_ ?_)
  · skip
    refine (fs_r (n := n + 18) 2 (pc' := 102) (L' := [some (.ref cM), some (.int x1), some (.int x2), some (.int x3), some (.int x4)]) (S' := [.int x4, .ref cM]) rfl).trans ?_
    refine (fs_cn (n := n + 17) (N := nm_m192) (as := [.ref cM, .int x4]) (rest := []) rfl rfl (Or.inl rfl) rfl rfl rfl rfl rfl).trans (fs_fn fun g12 r13 => ?_)
    exact (fs_rv (n := n + 16) rfl rfl).trans rfl
  · skip
    refine (fs_r (n := n + 16) 4 (pc' := 58) (L' := [some (.ref cM), some (.int x1), some (.int x2), some (.int x3), some (.int x4)]) (S' := [.int 60, .int (g9 fM_at), .ref cM]) rfl).trans ?_
    refine (fs_cv (n := n + 15) (N := nm_m167) (as := [.ref cM, .int (g9 fM_at), .int 60]) (rest := []) rfl rfl (Or.inl rfl) rfl rfl rfl rfl rfl).trans (fs_fv fun v16 g14 r15 => ?_)
    refine (fs_i (n := n + 14) rfl (t := 90) rfl (by decide)).trans (fs_ite ?_ ?_)
    · skip
      refine (fs_r (n := n + 12) 2 (pc' := 93) (L' := [some (.ref cM), some (.int x1), some (.int x2), some (.int x3), some (.int x4)]) (S' := [.int x4, .ref cM]) rfl).trans ?_
      refine (fs_cn (n := n + 11) (N := nm_m175) (as := [.ref cM, .int x4]) (rest := []) rfl rfl (Or.inl rfl) rfl rfl rfl rfl rfl).trans (fs_fn fun g17 r18 => ?_)
      exact (fs_gb (n := n + 10) rfl (t := 42) rfl (by decide)).trans rfl
    · skip
      refine (fs_r (n := n + 8) 6 (pc' := 74) (L' := [some (.ref cM), some (.int x1), some (.int x2), some (.int x3), some (.int x4)]) (S' := [.int (g14 fM_at), .int 0, .int 47, .int x4, .ref cM]) rfl).trans ?_
      refine (fs_cn (n := n + 7) (N := nm_m172) (as := [.ref cM, .int x4, .int 47, .int 0, .int (g14 fM_at)]) (rest := []) rfl rfl (Or.inl rfl) rfl rfl rfl rfl rfl).trans (fs_fn fun g19 r20 => ?_)
      refine (fs_r (n := n + 2) 5 (pc' := 84) (L' := [some (.ref cM), some (.int x1), some (.int x2), some (.int x3), some (.int x4)]) (S' := [.int ((g19 fM_at) + 1), .ref cM]) rfl).trans ?_
      refine (fs_pf (n := n + 1) (ci := 9) (j := 41) rfl rfl rfl rfl).trans ?_
      exact (fs_gb (n := n + 0) rfl (t := 42) rfl (by decide)).trans rfl
theorem lM_whens_42 (L : Nat) (xs : Nat → Int32) (m d k : Nat) (x1 x2 x3 x4 : Int32) (g : a2_G) (r : a2_A) : lp L xs nM_whens nm_m194 m d (k + 1) 42 [some (.ref cM), some (.int x1), some (.int x2), some (.int x3), some (.int x4)] g r = BM_whens_42 L xs m d k x1 x2 x3 x4 g r := fs_lp.trans (bM_whens_42 L xs m d k 876 x1 x2 x3 x4 g r)
theorem eM_whens (L : Nat) (xs : Nat → Int32) (m d k : Nat) (n : Nat) (a1 a2 a3 : Int32) (g : a2_G) (r : a2_A) : bk L xs nM_whens nm_m194 m d k (n + 41) 0 [some (.ref cM), some (.int a1), some (.int a2), some (.int a3), none] [] g r = (fn_v (ev L xs m d nM_isWord [.ref cM, .int (g fM_at), .int 59] g r) fun v3 g1 r2 => (if am_c2 .ne v3 0 = true then (fn_v (ev L xs m d nM_make [.ref cM, .int 46, .int 0, .int (g1 fM_at)] g1 r2) fun v6 g4 r5 => (fn_n (ev L xs m d nM_attach [.ref cM, .int a2, .int v6] g4 r5) fun g7 r8 => (BM_whens_42 L xs m d k a1 a2 a3 v6 g7 r8))) else (fn_n (ev L xs m d nM_scope [.ref cM, .int a2, .int 75, .int 0] g1 r2) fun g21 r22 => (some (.inl none, g21, r22))))) := by
  refine (fs_r (n := n + 37) 4 (pc' := 7) (L' := [some (.ref cM), some (.int a1), some (.int a2), some (.int a3), none]) (S' := [.int 59, .int (g fM_at), .ref cM]) rfl).trans ?_
  refine (fs_cv (n := n + 36) (N := nm_m167) (as := [.ref cM, .int (g fM_at), .int 59]) (rest := []) rfl rfl (Or.inl rfl) rfl rfl rfl rfl rfl).trans (fs_fv fun v3 g1 r2 => ?_)
  refine (fs_i (n := n + 35) rfl (t := 22) rfl (by decide)).trans (fs_ite ?_ ?_)
  · skip
    refine (fs_r (n := n + 30) 5 (pc' := 30) (L' := [some (.ref cM), some (.int a1), some (.int a2), some (.int a3), none]) (S' := [.int (g1 fM_at), .int 0, .int 46, .ref cM]) rfl).trans ?_
    refine (fs_cv (n := n + 29) (N := nm_m160) (as := [.ref cM, .int 46, .int 0, .int (g1 fM_at)]) (rest := []) rfl rfl (Or.inl rfl) rfl rfl rfl rfl rfl).trans (fs_fv fun v6 g4 r5 => ?_)
    refine (fs_r (n := n + 25) 4 (pc' := 39) (L' := [some (.ref cM), some (.int a1), some (.int a2), some (.int a3), some (.int v6)]) (S' := [.int v6, .int a2, .ref cM]) rfl).trans ?_
    refine (fs_cn (n := n + 24) (N := nm_m173) (as := [.ref cM, .int a2, .int v6]) (rest := []) rfl rfl (Or.inl rfl) rfl rfl rfl rfl rfl).trans (fs_fn fun g7 r8 => ?_)
    exact bM_whens_42 L xs m d k (n + 0) a1 a2 a3 v6 g7 r8
  · skip
    refine (fs_r (n := n + 31) 4 (pc' := 18) (L' := [some (.ref cM), some (.int a1), some (.int a2), some (.int a3), none]) (S' := [.int 0, .int 75, .int a2, .ref cM]) rfl).trans ?_
    refine (fs_cn (n := n + 30) (N := nm_m190) (as := [.ref cM, .int a2, .int 75, .int 0]) (rest := []) rfl rfl (Or.inl rfl) rfl rfl rfl rfl rfl).trans (fs_fn fun g21 r22 => ?_)
    exact (fs_rv (n := n + 29) rfl rfl).trans rfl
theorem qM_whens (L : Nat) (xs : Nat → Int32) (m d : Nat) (a1 a2 a3 : Int32) (g : a2_G) (r : a2_A) : ev L xs (m + 1) (d + 1) nM_whens [.ref cM, .int a1, .int a2, .int a3] g r = (fn_v (ev L xs (m + 1) d nM_isWord [.ref cM, .int (g fM_at), .int 59] g r) fun v3 g1 r2 => (if am_c2 .ne v3 0 = true then (fn_v (ev L xs (m + 1) d nM_make [.ref cM, .int 46, .int 0, .int (g1 fM_at)] g1 r2) fun v6 g4 r5 => (fn_n (ev L xs (m + 1) d nM_attach [.ref cM, .int a2, .int v6] g4 r5) fun g7 r8 => (BM_whens_42 L xs (m + 1) d m a1 a2 a3 v6 g7 r8))) else (fn_n (ev L xs (m + 1) d nM_scope [.ref cM, .int a2, .int 75, .int 0] g1 r2) fun g21 r22 => (some (.inl none, g21, r22))))) := (fs_ev (M := nm_m194) rfl rfl).trans (eM_whens L xs (m + 1) d m 859 a1 a2 a3 g r)
/-- CobolParserModel.statement(I)V -/
def BM_statement_521 (L : Nat) (xs : Nat → Int32) (m d k : Nat) (x1 x2 x3 x4 : Int32) (g : a2_G) (r : a2_A) : Option fn_Z := (some (.inl none, g, r))
theorem bM_statement_521 (L : Nat) (xs : Nat → Int32) (m d k : Nat) (n : Nat) (x1 x2 x3 x4 : Int32) (g : a2_G) (r : a2_A) : bk L xs nM_statement nm_m195 m d k (n + 1) 521 [some (.ref cM), some (.int x1), some (.int x2), some (.int x3), some (.int x4), none] [] g r = BM_statement_521 L xs m d k x1 x2 x3 x4 g r := by
  show _ = ((some (.inl none, g, r)) : Option fn_Z)
  exact (fs_rv (n := n + 0) rfl rfl).trans rfl
def BM_statement_444 (L : Nat) (xs : Nat → Int32) (m d k : Nat) (x1 x2 x3 x4 : Int32) (g : a2_G) (r : a2_A) : Option fn_Z := (if am_c2 .ne (g fM_bad) 0 = true then (BM_statement_521 L xs m d k x1 x2 x3 x4 g r) else (fn_v (ev L xs m d nM_isOperand [.ref cM, .int (g fM_at)] g r) fun v10 g8 r9 => (if am_c2 .eq v10 0 = true then (BM_statement_521 L xs m d k x1 x2 x3 x4 g8 r9) else (fn_n (ev L xs m d nM_operandOf [.ref cM, .int x4] g8 r9) fun g11 r12 => (lp L xs nM_statement nm_m195 m d k 444 [some (.ref cM), some (.int x1), some (.int x2), some (.int x3), some (.int x4), none] g11 r12)))))
theorem bM_statement_444 (L : Nat) (xs : Nat → Int32) (m d k : Nat) (n : Nat) (x1 x2 x3 x4 : Int32) (g : a2_G) (r : a2_A) : bk L xs nM_statement nm_m195 m d k (n + 12) 444 [some (.ref cM), some (.int x1), some (.int x2), some (.int x3), some (.int x4), none] [] g r = BM_statement_444 L xs m d k x1 x2 x3 x4 g r := by
  show _ = ((if am_c2 .ne (g fM_bad) 0 = true then (BM_statement_521 L xs m d k x1 x2 x3 x4 g r) else (fn_v (ev L xs m d nM_isOperand [.ref cM, .int (g fM_at)] g r) fun v10 g8 r9 => (if am_c2 .eq v10 0 = true then (BM_statement_521 L xs m d k x1 x2 x3 x4 g8 r9) else (fn_n (ev L xs m d nM_operandOf [.ref cM, .int x4] g8 r9) fun g11 r12 => (lp L xs nM_statement nm_m195 m d k 444 [some (.ref cM), some (.int x1), some (.int x2), some (.int x3), some (.int x4), none] g11 r12))))) : Option fn_Z)
  refine (fs_r (n := n + 10) 2 (pc' := 448) (L' := [some (.ref cM), some (.int x1), some (.int x2), some (.int x3), some (.int x4), none]) (S' := [.int (g fM_bad)]) rfl).trans ?_
  refine (fs_i (n := n + 9) rfl (t := 521) rfl (by decide)).trans (fs_ite ?_ ?_)
  · skip
    exact bM_statement_521 L xs m d k (n + 8) x1 x2 x3 x4 g r
  · skip
    refine (fs_r (n := n + 6) 3 (pc' := 456) (L' := [some (.ref cM), some (.int x1), some (.int x2), some (.int x3), some (.int x4), none]) (S' := [.int (g fM_at), .ref cM]) rfl).trans ?_
    refine (fs_cv (n := n + 5) (N := nm_m177) (as := [.ref cM, .int (g fM_at)]) (rest := []) rfl rfl (Or.inl rfl) rfl rfl rfl rfl rfl).trans (fs_fv fun v10 g8 r9 => ?_)
    refine (fs_i (n := n + 4) rfl (t := 521) rfl (by decide)).trans (fs_ite ?_ ?_)
    · skip
      exact bM_statement_521 L xs m d k (n + 3) x1 x2 x3 x4 g8 r9
    · skip
      refine (fs_r (n := n + 2) 2 (pc' := 465) (L' := [some (.ref cM), some (.int x1), some (.int x2), some (.int x3), some (.int x4), none]) (S' := [.int x4, .ref cM]) rfl).trans ?_
      refine (fs_cn (n := n + 1) (N := nm_m175) (as := [.ref cM, .int x4]) (rest := []) rfl rfl (Or.inl rfl) rfl rfl rfl rfl rfl).trans (fs_fn fun g11 r12 => ?_)
      exact (fs_gb (n := n + 0) rfl (t := 444) rfl (by decide)).trans rfl
theorem lM_statement_444 (L : Nat) (xs : Nat → Int32) (m d k : Nat) (x1 x2 x3 x4 : Int32) (g : a2_G) (r : a2_A) : lp L xs nM_statement nm_m195 m d (k + 1) 444 [some (.ref cM), some (.int x1), some (.int x2), some (.int x3), some (.int x4), none] g r = BM_statement_444 L xs m d k x1 x2 x3 x4 g r := fs_lp.trans (bM_statement_444 L xs m d k 888 x1 x2 x3 x4 g r)
def BM_statement_335 (L : Nat) (xs : Nat → Int32) (m d k : Nat) (x1 x2 x3 x4 : Int32) (g : a2_G) (r : a2_A) : Option fn_Z := (fn_n (ev L xs m d nM_pile [.ref cM, .int x3, .int x4] g r) fun g24 r25 => (BM_statement_521 L xs m d k x1 x2 x3 x4 g24 r25))
theorem bM_statement_335 (L : Nat) (xs : Nat → Int32) (m d k : Nat) (n : Nat) (x1 x2 x3 x4 : Int32) (g : a2_G) (r : a2_A) : bk L xs nM_statement nm_m195 m d k (n + 6) 335 [some (.ref cM), some (.int x1), some (.int x2), some (.int x3), some (.int x4), none] [] g r = BM_statement_335 L xs m d k x1 x2 x3 x4 g r := by
  show _ = ((fn_n (ev L xs m d nM_pile [.ref cM, .int x3, .int x4] g r) fun g24 r25 => (BM_statement_521 L xs m d k x1 x2 x3 x4 g24 r25)) : Option fn_Z)
  refine (fs_r (n := n + 3) 3 (pc' := 339) (L' := [some (.ref cM), some (.int x1), some (.int x2), some (.int x3), some (.int x4), none]) (S' := [.int x4, .int x3, .ref cM]) rfl).trans ?_
  refine (fs_cn (n := n + 2) (N := nm_m187) (as := [.ref cM, .int x3, .int x4]) (rest := []) rfl rfl (Or.inl rfl) rfl rfl rfl rfl rfl).trans (fs_fn fun g24 r25 => ?_)
  refine (fs_go (n := n + 1) rfl (t := 521) rfl (by decide)).trans ?_
  exact bM_statement_521 L xs m d k (n + 0) x1 x2 x3 x4 g24 r25
def BM_statement_390 (L : Nat) (xs : Nat → Int32) (m d k : Nat) (x1 x2 x3 x4 : Int32) (g : a2_G) (r : a2_A) : Option fn_Z := (fn_n (ev L xs m d nM_pile [.ref cM, .int x3, .int x4] g r) fun g33 r34 => (BM_statement_521 L xs m d k x1 x2 x3 x4 g33 r34))
theorem bM_statement_390 (L : Nat) (xs : Nat → Int32) (m d k : Nat) (n : Nat) (x1 x2 x3 x4 : Int32) (g : a2_G) (r : a2_A) : bk L xs nM_statement nm_m195 m d k (n + 6) 390 [some (.ref cM), some (.int x1), some (.int x2), some (.int x3), some (.int x4), none] [] g r = BM_statement_390 L xs m d k x1 x2 x3 x4 g r := by
  show _ = ((fn_n (ev L xs m d nM_pile [.ref cM, .int x3, .int x4] g r) fun g33 r34 => (BM_statement_521 L xs m d k x1 x2 x3 x4 g33 r34)) : Option fn_Z)
  refine (fs_r (n := n + 3) 3 (pc' := 394) (L' := [some (.ref cM), some (.int x1), some (.int x2), some (.int x3), some (.int x4), none]) (S' := [.int x4, .int x3, .ref cM]) rfl).trans ?_
  refine (fs_cn (n := n + 2) (N := nm_m187) (as := [.ref cM, .int x3, .int x4]) (rest := []) rfl rfl (Or.inl rfl) rfl rfl rfl rfl rfl).trans (fs_fn fun g33 r34 => ?_)
  refine (fs_go (n := n + 1) rfl (t := 521) rfl (by decide)).trans ?_
  exact bM_statement_521 L xs m d k (n + 0) x1 x2 x3 x4 g33 r34
def BM_statement_419 (L : Nat) (xs : Nat → Int32) (m d k : Nat) (x1 x2 x3 x4 : Int32) (g : a2_G) (r : a2_A) : Option fn_Z := (fn_n (ev L xs m d nM_pile [.ref cM, .int x3, .int x4] g r) fun g44 r45 => (BM_statement_521 L xs m d k x1 x2 x3 x4 g44 r45))
theorem bM_statement_419 (L : Nat) (xs : Nat → Int32) (m d k : Nat) (n : Nat) (x1 x2 x3 x4 : Int32) (g : a2_G) (r : a2_A) : bk L xs nM_statement nm_m195 m d k (n + 6) 419 [some (.ref cM), some (.int x1), some (.int x2), some (.int x3), some (.int x4), none] [] g r = BM_statement_419 L xs m d k x1 x2 x3 x4 g r := by
  show _ = ((fn_n (ev L xs m d nM_pile [.ref cM, .int x3, .int x4] g r) fun g44 r45 => (BM_statement_521 L xs m d k x1 x2 x3 x4 g44 r45)) : Option fn_Z)
  refine (fs_r (n := n + 3) 3 (pc' := 423) (L' := [some (.ref cM), some (.int x1), some (.int x2), some (.int x3), some (.int x4), none]) (S' := [.int x4, .int x3, .ref cM]) rfl).trans ?_
  refine (fs_cn (n := n + 2) (N := nm_m187) (as := [.ref cM, .int x3, .int x4]) (rest := []) rfl rfl (Or.inl rfl) rfl rfl rfl rfl rfl).trans (fs_fn fun g44 r45 => ?_)
  refine (fs_go (n := n + 1) rfl (t := 521) rfl (by decide)).trans ?_
  exact bM_statement_521 L xs m d k (n + 0) x1 x2 x3 x4 g44 r45
def BM_statement_521_1 (L : Nat) (xs : Nat → Int32) (m d k : Nat) (x1 x2 x3 x4 x5 : Int32) (g : a2_G) (r : a2_A) : Option fn_Z := (some (.inl none, g, r))
theorem bM_statement_521_1 (L : Nat) (xs : Nat → Int32) (m d k : Nat) (n : Nat) (x1 x2 x3 x4 x5 : Int32) (g : a2_G) (r : a2_A) : bk L xs nM_statement nm_m195 m d k (n + 1) 521 [some (.ref cM), some (.int x1), some (.int x2), some (.int x3), some (.int x4), some (.int x5)] [] g r = BM_statement_521_1 L xs m d k x1 x2 x3 x4 x5 g r := by
  show _ = ((some (.inl none, g, r)) : Option fn_Z)
  exact (fs_rv (n := n + 0) rfl rfl).trans rfl
def BM_statement_160 (L : Nat) (xs : Nat → Int32) (m d k : Nat) (x1 x2 x3 x4 : Int32) (g : a2_G) (r : a2_A) : Option fn_Z := (fn_v (ev L xs m d nM_make [.ref cM, .int x4, .int 0, .int x2] g r) fun v3 g1 r2 => (fn_n (ev L xs m d nM_attach [.ref cM, .int x1, .int v3] g1 r2) fun g4 r5 => (if (x3 : Int32).toInt = 29 then (fn_n (ev L xs m d nM_operandOf [.ref cM, .int v3] g4 r5) fun g6 r7 => (BM_statement_444 L xs m d k x1 x2 x3 v3 g6 r7)) else (if (x3 : Int32).toInt = 30 then (BM_statement_521 L xs m d k x1 x2 x3 v3 g4 r5) else (if (x3 : Int32).toInt = 31 then (BM_statement_521 L xs m d k x1 x2 x3 v3 g4 r5) else (if (x3 : Int32).toInt = 32 then (BM_statement_521 L xs m d k x1 x2 x3 v3 g4 r5) else (if (x3 : Int32).toInt = 33 then (BM_statement_521 L xs m d k x1 x2 x3 v3 g4 r5) else (if (x3 : Int32).toInt = 34 then (BM_statement_521 L xs m d k x1 x2 x3 v3 g4 r5) else (if (x3 : Int32).toInt = 35 then (BM_statement_521 L xs m d k x1 x2 x3 v3 g4 r5) else (if (x3 : Int32).toInt = 36 then (fn_n (ev L xs m d nM_operandOf [.ref cM, .int v3] g4 r5) fun g13 r14 => (fn_v (ev L xs m d nM_must [.ref cM, .int 48] g13 r14) fun v17 g15 r16 => (if am_c2 .eq v17 0 = true then (BM_statement_521 L xs m d k x1 x2 x3 v3 g15 r16) else (fn_n (ev L xs m d nM_names [.ref cM, .int v3, .int 41] g15 r16) fun g18 r19 => (BM_statement_521 L xs m d k x1 x2 x3 v3 g18 r19))))) else (if (x3 : Int32).toInt = 37 then (fn_n (ev L xs m d nM_add [.ref cM, .int v3] g4 r5) fun g20 r21 => (BM_statement_521 L xs m d k x1 x2 x3 v3 g20 r21)) else (if (x3 : Int32).toInt = 38 then (fn_n (ev L xs m d nM_conditionOf [.ref cM, .int v3] g4 r5) fun g22 r23 => (if am_c2 .ne (g22 fM_bad) 0 = true then (BM_statement_335 L xs m d k x1 x2 x3 v3 g22 r23) else (fn_v (ev L xs m d nM_isWord [.ref cM, .int (g22 fM_at), .int 52] g22 r23) fun v28 g26 r27 => (if am_c2 .eq v28 0 = true then (BM_statement_335 L xs m d k x1 x2 x3 v3 g26 r27) else (BM_statement_335 L xs m d k x1 x2 x3 v3 (upd g26 fM_at ((g26 fM_at) + 1)) r27))))) else (if (x3 : Int32).toInt = 39 then (fn_n (ev L xs m d nM_perform [.ref cM, .int v3] g4 r5) fun g29 r30 => (BM_statement_521 L xs m d k x1 x2 x3 v3 g29 r30)) else (if (x3 : Int32).toInt = 40 then (fn_n (ev L xs m d nM_operandOf [.ref cM, .int v3] g4 r5) fun g31 r32 => (if am_c2 .ne (g31 fM_bad) 0 = true then (BM_statement_390 L xs m d k x1 x2 x3 v3 g31 r32) else (fn_v (ev L xs m d nM_isWord [.ref cM, .int (g31 fM_at), .int 59] g31 r32) fun v37 g35 r36 => (if am_c2 .ne v37 0 = true then (BM_statement_390 L xs m d k x1 x2 x3 v3 g35 r36) else (fn_v (ev L xs m d nM_fail [.ref cM, .int 1, .int (g35 fM_at)] g35 r36) fun v40 g38 r39 => (BM_statement_390 L xs m d k x1 x2 x3 v3 g38 r39)))))) else (if (x3 : Int32).toInt = 41 then (fn_v (ev L xs m d nM_mustBe [.ref cM, .int 1] g4 r5) fun v43 g41 r42 => (if am_c2 .eq v43 0 = true then (BM_statement_419 L xs m d k x1 x2 x3 v3 g41 r42) else (fn_v (ev L xs m d nM_passed [.ref cM] g41 r42) fun v48 g46 r47 => (if am_inr v3 (r47 fM_value).1 = true then (BM_statement_419 L xs m d k x1 x2 x3 v3 g46 (a2_ua r47 fM_value ((r47 fM_value).1, (upd (r47 fM_value).2 (v3 : Int32).toNatClampNeg v48)))) else none)))) else (if (x3 : Int32).toInt = 42 then (fn_n (ev L xs m d nM_call [.ref cM, .int v3] g4 r5) fun g49 r50 => (BM_statement_521 L xs m d k x1 x2 x3 v3 g49 r50)) else (if (x3 : Int32).toInt = 43 then (fn_v (ev L xs m d nM_meets [.ref cM, .int 48] g4 r5) fun v53 g51 r52 => (fn_v (ev L xs m d nM_mustBe [.ref cM, .int 1] g51 r52) fun v56 g54 r55 => (if am_c2 .eq v56 0 = true then (BM_statement_521_1 L xs m d k x1 x2 x3 v3 v53 g54 r55) else (fn_v (ev L xs m d nM_passed [.ref cM] g54 r55) fun v59 g57 r58 => (if am_inr v3 (r58 fM_value).1 = true then (BM_statement_521_1 L xs m d k x1 x2 x3 v3 v53 g57 (a2_ua r58 fM_value ((r58 fM_value).1, (upd (r58 fM_value).2 (v3 : Int32).toNatClampNeg v59)))) else none))))) else (if (x3 : Int32).toInt = 44 then (fn_v (ev L xs m d nM_must [.ref cM, .int 63] g4 r5) fun v62 g60 r61 => (BM_statement_521_1 L xs m d k x1 x2 x3 v3 v62 g60 r61)) else (if (x3 : Int32).toInt = 45 then (BM_statement_521 L xs m d k x1 x2 x3 v3 g4 r5) else (if (x3 : Int32).toInt = 46 then (BM_statement_521 L xs m d k x1 x2 x3 v3 g4 r5) else (if (x3 : Int32).toInt = 47 then (fn_n (ev L xs m d nM_compute [.ref cM, .int v3] g4 r5) fun g63 r64 => (BM_statement_521 L xs m d k x1 x2 x3 v3 g63 r64)) else (BM_statement_521 L xs m d k x1 x2 x3 v3 g4 r5))))))))))))))))))))))
theorem bM_statement_160 (L : Nat) (xs : Nat → Int32) (m d k : Nat) (n : Nat) (x1 x2 x3 x4 : Int32) (g : a2_G) (r : a2_A) : bk L xs nM_statement nm_m195 m d k (n + 34) 160 [some (.ref cM), some (.int x1), some (.int x2), some (.int x3), none, none] [.int x4, .ref cM] g r = BM_statement_160 L xs m d k x1 x2 x3 x4 g r := by
  show _ = ((fn_v (ev L xs m d nM_make [.ref cM, .int x4, .int 0, .int x2] g r) fun v3 g1 r2 => (fn_n (ev L xs m d nM_attach [.ref cM, .int x1, .int v3] g1 r2) fun g4 r5 => (if (x3 : Int32).toInt = 29 then (fn_n (ev L xs m d nM_operandOf [.ref cM, .int v3] g4 r5) fun g6 r7 => (BM_statement_444 L xs m d k x1 x2 x3 v3 g6 r7)) else (if (x3 : Int32).toInt = 30 then (BM_statement_521 L xs m d k x1 x2 x3 v3 g4 r5) else (if (x3 : Int32).toInt = 31 then (BM_statement_521 L xs m d k x1 x2 x3 v3 g4 r5) else (if (x3 : Int32).toInt = 32 then (BM_statement_521 L xs m d k x1 x2 x3 v3 g4 r5) else (if (x3 : Int32).toInt = 33 then (BM_statement_521 L xs m d k x1 x2 x3 v3 g4 r5) else (if (x3 : Int32).toInt = 34 then (BM_statement_521 L xs m d k x1 x2 x3 v3 g4 r5) else (if (x3 : Int32).toInt = 35 then (BM_statement_521 L xs m d k x1 x2 x3 v3 g4 r5) else (if (x3 : Int32).toInt = 36 then (fn_n (ev L xs m d nM_operandOf [.ref cM, .int v3] g4 r5) fun g13 r14 => (fn_v (ev L xs m d nM_must [.ref cM, .int 48] g13 r14) fun v17 g15 r16 => (if am_c2 .eq v17 0 = true then (BM_statement_521 L xs m d k x1 x2 x3 v3 g15 r16) else (fn_n (ev L xs m d nM_names [.ref cM, .int v3, .int 41] g15 r16) fun g18 r19 => (BM_statement_521 L xs m d k x1 x2 x3 v3 g18 r19))))) else (if (x3 : Int32).toInt = 37 then (fn_n (ev L xs m d nM_add [.ref cM, .int v3] g4 r5) fun g20 r21 => (BM_statement_521 L xs m d k x1 x2 x3 v3 g20 r21)) else (if (x3 : Int32).toInt = 38 then (fn_n (ev L xs m d nM_conditionOf [.ref cM, .int v3] g4 r5) fun g22 r23 => (if am_c2 .ne (g22 fM_bad) 0 = true then (BM_statement_335 L xs m d k x1 x2 x3 v3 g22 r23) else (fn_v (ev L xs m d nM_isWord [.ref cM, .int (g22 fM_at), .int 52] g22 r23) fun v28 g26 r27 => (if am_c2 .eq v28 0 = true then (BM_statement_335 L xs m d k x1 x2 x3 v3 g26 r27) else (BM_statement_335 L xs m d k x1 x2 x3 v3 (upd g26 fM_at ((g26 fM_at) + 1)) r27))))) else (if (x3 : Int32).toInt = 39 then (fn_n (ev L xs m d nM_perform [.ref cM, .int v3] g4 r5) fun g29 r30 => (BM_statement_521 L xs m d k x1 x2 x3 v3 g29 r30)) else (if (x3 : Int32).toInt = 40 then (fn_n (ev L xs m d nM_operandOf [.ref cM, .int v3] g4 r5) fun g31 r32 => (if am_c2 .ne (g31 fM_bad) 0 = true then (BM_statement_390 L xs m d k x1 x2 x3 v3 g31 r32) else (fn_v (ev L xs m d nM_isWord [.ref cM, .int (g31 fM_at), .int 59] g31 r32) fun v37 g35 r36 => (if am_c2 .ne v37 0 = true then (BM_statement_390 L xs m d k x1 x2 x3 v3 g35 r36) else (fn_v (ev L xs m d nM_fail [.ref cM, .int 1, .int (g35 fM_at)] g35 r36) fun v40 g38 r39 => (BM_statement_390 L xs m d k x1 x2 x3 v3 g38 r39)))))) else (if (x3 : Int32).toInt = 41 then (fn_v (ev L xs m d nM_mustBe [.ref cM, .int 1] g4 r5) fun v43 g41 r42 => (if am_c2 .eq v43 0 = true then (BM_statement_419 L xs m d k x1 x2 x3 v3 g41 r42) else (fn_v (ev L xs m d nM_passed [.ref cM] g41 r42) fun v48 g46 r47 => (if am_inr v3 (r47 fM_value).1 = true then (BM_statement_419 L xs m d k x1 x2 x3 v3 g46 (a2_ua r47 fM_value ((r47 fM_value).1, (upd (r47 fM_value).2 (v3 : Int32).toNatClampNeg v48)))) else none)))) else (if (x3 : Int32).toInt = 42 then (fn_n (ev L xs m d nM_call [.ref cM, .int v3] g4 r5) fun g49 r50 => (BM_statement_521 L xs m d k x1 x2 x3 v3 g49 r50)) else (if (x3 : Int32).toInt = 43 then (fn_v (ev L xs m d nM_meets [.ref cM, .int 48] g4 r5) fun v53 g51 r52 => (fn_v (ev L xs m d nM_mustBe [.ref cM, .int 1] g51 r52) fun v56 g54 r55 => (if am_c2 .eq v56 0 = true then (BM_statement_521_1 L xs m d k x1 x2 x3 v3 v53 g54 r55) else (fn_v (ev L xs m d nM_passed [.ref cM] g54 r55) fun v59 g57 r58 => (if am_inr v3 (r58 fM_value).1 = true then (BM_statement_521_1 L xs m d k x1 x2 x3 v3 v53 g57 (a2_ua r58 fM_value ((r58 fM_value).1, (upd (r58 fM_value).2 (v3 : Int32).toNatClampNeg v59)))) else none))))) else (if (x3 : Int32).toInt = 44 then (fn_v (ev L xs m d nM_must [.ref cM, .int 63] g4 r5) fun v62 g60 r61 => (BM_statement_521_1 L xs m d k x1 x2 x3 v3 v62 g60 r61)) else (if (x3 : Int32).toInt = 45 then (BM_statement_521 L xs m d k x1 x2 x3 v3 g4 r5) else (if (x3 : Int32).toInt = 46 then (BM_statement_521 L xs m d k x1 x2 x3 v3 g4 r5) else (if (x3 : Int32).toInt = 47 then (fn_n (ev L xs m d nM_compute [.ref cM, .int v3] g4 r5) fun g63 r64 => (BM_statement_521 L xs m d k x1 x2 x3 v3 g63 r64)) else (BM_statement_521 L xs m d k x1 x2 x3 v3 g4 r5)))))))))))))))))))))) : Option fn_Z)
  refine (fs_r (n := n + 32) 2 (pc' := 162) (L' := [some (.ref cM), some (.int x1), some (.int x2), some (.int x3), none, none]) (S' := [.int x2, .int 0, .int x4, .ref cM]) rfl).trans ?_
  refine (fs_cv (n := n + 31) (N := nm_m160) (as := [.ref cM, .int x4, .int 0, .int x2]) (rest := []) rfl rfl (Or.inl rfl) rfl rfl rfl rfl rfl).trans (fs_fv fun v3 g1 r2 => ?_)
  refine (fs_r (n := n + 27) 4 (pc' := 171) (L' := [some (.ref cM), some (.int x1), some (.int x2), some (.int x3), some (.int v3), none]) (S' := [.int v3, .int x1, .ref cM]) rfl).trans ?_
  refine (fs_cn (n := n + 26) (N := nm_m173) (as := [.ref cM, .int x1, .int v3]) (rest := []) rfl rfl (Or.inl rfl) rfl rfl rfl rfl rfl).trans (fs_fn fun g4 r5 => ?_)
  refine (fs_r (n := n + 25) 1 (pc' := 175) (L' := [some (.ref cM), some (.int x1), some (.int x2), some (.int x3), some (.int v3), none]) (S' := [.int x3]) rfl).trans ?_
  refine (fs_ts (n := n + 24) (l := [263, 346, 346, 346, 346, 346, 346, 89, 115, 124, 170, 179, 225, 254, 296, 326, 346, 346, 337]) rfl rfl rfl).trans ?_
  refine fs_tc (v' := 30) rfl ?_ (fs_tc (v' := 31) rfl ?_ (fs_tc (v' := 32) rfl ?_ (fs_tc (v' := 33) rfl ?_ (fs_tc (v' := 34) rfl ?_ (fs_tc (v' := 35) rfl ?_ (fs_tc (v' := 36) rfl ?_ (fs_tc (v' := 37) rfl ?_ (fs_tc (v' := 38) rfl ?_ (fs_tc (v' := 39) rfl ?_ (fs_tc (v' := 40) rfl ?_ (fs_tc (v' := 41) rfl ?_ (fs_tc (v' := 42) rfl ?_ (fs_tc (v' := 43) rfl ?_ (fs_tc (v' := 44) rfl ?_ (fs_tc (v' := 45) rfl ?_ (fs_tc (v' := 46) rfl ?_ (fs_tc (v' := 47) rfl ?_ (fs_tc (v' := 48) rfl ?_ (fs_tn ?_)))))))))))))))))))
  · refine (fs_J1 (n := n + 24) (t := 438) rfl (by decide)).trans ?_
    refine (fs_r (n := n + 22) 2 (pc' := 441) (L' := [some (.ref cM), some (.int x1), some (.int x2), some (.int x3), some (.int v3), none]) (S' := [.int v3, .ref cM]) rfl).trans ?_
    refine (fs_cn (n := n + 21) (N := nm_m175) (as := [.ref cM, .int v3]) (rest := []) rfl rfl (Or.inl rfl) rfl rfl rfl rfl rfl).trans (fs_fn fun g6 r7 => ?_)
    exact bM_statement_444 L xs m d k (n + 9) x1 x2 x3 v3 g6 r7
  · refine (fs_J1 (n := n + 24) (t := 521) rfl (by decide)).trans ?_
    exact bM_statement_521 L xs m d k (n + 23) x1 x2 x3 v3 g4 r5
  · refine (fs_J1 (n := n + 24) (t := 521) rfl (by decide)).trans ?_
    exact bM_statement_521 L xs m d k (n + 23) x1 x2 x3 v3 g4 r5
  · refine (fs_J1 (n := n + 24) (t := 521) rfl (by decide)).trans ?_
    exact bM_statement_521 L xs m d k (n + 23) x1 x2 x3 v3 g4 r5
  · refine (fs_J1 (n := n + 24) (t := 521) rfl (by decide)).trans ?_
    exact bM_statement_521 L xs m d k (n + 23) x1 x2 x3 v3 g4 r5
  · refine (fs_J1 (n := n + 24) (t := 521) rfl (by decide)).trans ?_
    exact bM_statement_521 L xs m d k (n + 23) x1 x2 x3 v3 g4 r5
  · refine (fs_J1 (n := n + 24) (t := 521) rfl (by decide)).trans ?_
    exact bM_statement_521 L xs m d k (n + 23) x1 x2 x3 v3 g4 r5
  · refine (fs_J1 (n := n + 24) (t := 264) rfl (by decide)).trans ?_
    refine (fs_r (n := n + 22) 2 (pc' := 267) (L' := [some (.ref cM), some (.int x1), some (.int x2), some (.int x3), some (.int v3), none]) (S' := [.int v3, .ref cM]) rfl).trans ?_
    refine (fs_cn (n := n + 21) (N := nm_m175) (as := [.ref cM, .int v3]) (rest := []) rfl rfl (Or.inl rfl) rfl rfl rfl rfl rfl).trans (fs_fn fun g13 r14 => ?_)
    refine (fs_r (n := n + 19) 2 (pc' := 273) (L' := [some (.ref cM), some (.int x1), some (.int x2), some (.int x3), some (.int v3), none]) (S' := [.int 48, .ref cM]) rfl).trans ?_
    refine (fs_cv (n := n + 18) (N := nm_m191) (as := [.ref cM, .int 48]) (rest := []) rfl rfl (Or.inl rfl) rfl rfl rfl rfl rfl).trans (fs_fv fun v17 g15 r16 => ?_)
    refine (fs_i (n := n + 17) rfl (t := 521) rfl (by decide)).trans (fs_ite ?_ ?_)
    · skip
      exact bM_statement_521 L xs m d k (n + 16) x1 x2 x3 v3 g15 r16
    · skip
      refine (fs_r (n := n + 14) 3 (pc' := 284) (L' := [some (.ref cM), some (.int x1), some (.int x2), some (.int x3), some (.int v3), none]) (S' := [.int 41, .int v3, .ref cM]) rfl).trans ?_
      refine (fs_cn (n := n + 13) (N := nm_m179) (as := [.ref cM, .int v3, .int 41]) (rest := []) rfl rfl (Or.inl rfl) rfl rfl rfl rfl rfl).trans (fs_fn fun g18 r19 => ?_)
      refine (fs_go (n := n + 12) rfl (t := 521) rfl (by decide)).trans ?_
      exact bM_statement_521 L xs m d k (n + 11) x1 x2 x3 v3 g18 r19
  · refine (fs_J1 (n := n + 24) (t := 290) rfl (by decide)).trans ?_
    refine (fs_r (n := n + 22) 2 (pc' := 293) (L' := [some (.ref cM), some (.int x1), some (.int x2), some (.int x3), some (.int v3), none]) (S' := [.int v3, .ref cM]) rfl).trans ?_
    refine (fs_cn (n := n + 21) (N := nm_m196) (as := [.ref cM, .int v3]) (rest := []) rfl rfl (Or.inl rfl) rfl rfl rfl rfl rfl).trans (fs_fn fun g20 r21 => ?_)
    refine (fs_go (n := n + 20) rfl (t := 521) rfl (by decide)).trans ?_
    exact bM_statement_521 L xs m d k (n + 19) x1 x2 x3 v3 g20 r21
  · refine (fs_J1 (n := n + 24) (t := 299) rfl (by decide)).trans ?_
    refine (fs_r (n := n + 22) 2 (pc' := 302) (L' := [some (.ref cM), some (.int x1), some (.int x2), some (.int x3), some (.int v3), none]) (S' := [.int v3, .ref cM]) rfl).trans ?_
    refine (fs_cn (n := n + 21) (N := nm_m197) (as := [.ref cM, .int v3]) (rest := []) rfl rfl (Or.inl rfl) rfl rfl rfl rfl rfl).trans (fs_fn fun g22 r23 => ?_)
    refine (fs_r (n := n + 19) 2 (pc' := 309) (L' := [some (.ref cM), some (.int x1), some (.int x2), some (.int x3), some (.int v3), none]) (S' := [.int (g22 fM_bad)]) rfl).trans ?_
    refine (fs_i (n := n + 18) rfl (t := 335) rfl (by decide)).trans (fs_ite ?_ ?_)
    · skip
      exact bM_statement_335 L xs m d k (n + 12) x1 x2 x3 v3 g22 r23
    · skip
      refine (fs_r (n := n + 14) 4 (pc' := 319) (L' := [some (.ref cM), some (.int x1), some (.int x2), some (.int x3), some (.int v3), none]) (S' := [.int 52, .int (g22 fM_at), .ref cM]) rfl).trans ?_
      refine (fs_cv (n := n + 13) (N := nm_m167) (as := [.ref cM, .int (g22 fM_at), .int 52]) (rest := []) rfl rfl (Or.inl rfl) rfl rfl rfl rfl rfl).trans (fs_fv fun v28 g26 r27 => ?_)
      refine (fs_i (n := n + 12) rfl (t := 335) rfl (by decide)).trans (fs_ite ?_ ?_)
      · skip
        exact bM_statement_335 L xs m d k (n + 6) x1 x2 x3 v3 g26 r27
      · skip
        refine (fs_r (n := n + 7) 5 (pc' := 332) (L' := [some (.ref cM), some (.int x1), some (.int x2), some (.int x3), some (.int v3), none]) (S' := [.int ((g26 fM_at) + 1), .ref cM]) rfl).trans ?_
        refine (fs_pf (n := n + 6) (ci := 9) (j := 41) rfl rfl rfl rfl).trans ?_
        exact bM_statement_335 L xs m d k (n + 0) x1 x2 x3 v3 (upd g26 fM_at ((g26 fM_at) + 1)) r27
  · refine (fs_J1 (n := n + 24) (t := 345) rfl (by decide)).trans ?_
    refine (fs_r (n := n + 22) 2 (pc' := 348) (L' := [some (.ref cM), some (.int x1), some (.int x2), some (.int x3), some (.int v3), none]) (S' := [.int v3, .ref cM]) rfl).trans ?_
    refine (fs_cn (n := n + 21) (N := nm_m209) (as := [.ref cM, .int v3]) (rest := []) rfl rfl (Or.inl rfl) rfl rfl rfl rfl rfl).trans (fs_fn fun g29 r30 => ?_)
    refine (fs_go (n := n + 20) rfl (t := 521) rfl (by decide)).trans ?_
    exact bM_statement_521 L xs m d k (n + 19) x1 x2 x3 v3 g29 r30
  · refine (fs_J1 (n := n + 24) (t := 354) rfl (by decide)).trans ?_
    refine (fs_r (n := n + 22) 2 (pc' := 357) (L' := [some (.ref cM), some (.int x1), some (.int x2), some (.int x3), some (.int v3), none]) (S' := [.int v3, .ref cM]) rfl).trans ?_
    refine (fs_cn (n := n + 21) (N := nm_m175) (as := [.ref cM, .int v3]) (rest := []) rfl rfl (Or.inl rfl) rfl rfl rfl rfl rfl).trans (fs_fn fun g31 r32 => ?_)
    refine (fs_r (n := n + 19) 2 (pc' := 364) (L' := [some (.ref cM), some (.int x1), some (.int x2), some (.int x3), some (.int v3), none]) (S' := [.int (g31 fM_bad)]) rfl).trans ?_
    refine (fs_i (n := n + 18) rfl (t := 390) rfl (by decide)).trans (fs_ite ?_ ?_)
    · skip
      exact bM_statement_390 L xs m d k (n + 12) x1 x2 x3 v3 g31 r32
    · skip
      refine (fs_r (n := n + 14) 4 (pc' := 374) (L' := [some (.ref cM), some (.int x1), some (.int x2), some (.int x3), some (.int v3), none]) (S' := [.int 59, .int (g31 fM_at), .ref cM]) rfl).trans ?_
      refine (fs_cv (n := n + 13) (N := nm_m167) (as := [.ref cM, .int (g31 fM_at), .int 59]) (rest := []) rfl rfl (Or.inl rfl) rfl rfl rfl rfl rfl).trans (fs_fv fun v37 g35 r36 => ?_)
      refine (fs_i (n := n + 12) rfl (t := 390) rfl (by decide)).trans (fs_ite ?_ ?_)
      · skip
        exact bM_statement_390 L xs m d k (n + 6) x1 x2 x3 v3 g35 r36
      · skip
        refine (fs_r (n := n + 8) 4 (pc' := 386) (L' := [some (.ref cM), some (.int x1), some (.int x2), some (.int x3), some (.int v3), none]) (S' := [.int (g35 fM_at), .int 1, .ref cM]) rfl).trans ?_
        refine (fs_cv (n := n + 7) (N := nm_m164) (as := [.ref cM, .int 1, .int (g35 fM_at)]) (rest := []) rfl rfl (Or.inl rfl) rfl rfl rfl rfl rfl).trans (fs_fv fun v40 g38 r39 => ?_)
        refine (fs_r (n := n + 6) 1 (pc' := 390) (L' := [some (.ref cM), some (.int x1), some (.int x2), some (.int x3), some (.int v3), none]) (S' := []) rfl).trans ?_
        exact bM_statement_390 L xs m d k (n + 0) x1 x2 x3 v3 g38 r39
  · refine (fs_J1 (n := n + 24) (t := 400) rfl (by decide)).trans ?_
    refine (fs_r (n := n + 22) 2 (pc' := 402) (L' := [some (.ref cM), some (.int x1), some (.int x2), some (.int x3), some (.int v3), none]) (S' := [.int 1, .ref cM]) rfl).trans ?_
    refine (fs_cv (n := n + 21) (N := nm_m170) (as := [.ref cM, .int 1]) (rest := []) rfl rfl (Or.inl rfl) rfl rfl rfl rfl rfl).trans (fs_fv fun v43 g41 r42 => ?_)
    refine (fs_i (n := n + 20) rfl (t := 419) rfl (by decide)).trans (fs_ite ?_ ?_)
    · skip
      exact bM_statement_419 L xs m d k (n + 14) x1 x2 x3 v3 g41 r42
    · skip
      refine (fs_r (n := n + 16) 4 (pc' := 415) (L' := [some (.ref cM), some (.int x1), some (.int x2), some (.int x3), some (.int v3), none]) (S' := [.ref cM, .int v3, .ref 10910]) rfl).trans ?_
      refine (fs_cv (n := n + 15) (N := nm_m171) (as := [.ref cM]) (rest := [.int v3, .ref 10910]) rfl rfl (Or.inl rfl) rfl rfl rfl rfl rfl).trans (fs_fv fun v48 g46 r47 => ?_)
      refine (fs_is (n := n + 14) (k := 910) rfl rfl).trans (fs_ite ?_ rfl)
      exact bM_statement_419 L xs m d k (n + 8) x1 x2 x3 v3 g46 (a2_ua r47 fM_value ((r47 fM_value).1, (upd (r47 fM_value).2 (v3 : Int32).toNatClampNeg v48)))
  · refine (fs_J1 (n := n + 24) (t := 429) rfl (by decide)).trans ?_
    refine (fs_r (n := n + 22) 2 (pc' := 432) (L' := [some (.ref cM), some (.int x1), some (.int x2), some (.int x3), some (.int v3), none]) (S' := [.int v3, .ref cM]) rfl).trans ?_
    refine (fs_cn (n := n + 21) (N := nm_m212) (as := [.ref cM, .int v3]) (rest := []) rfl rfl (Or.inl rfl) rfl rfl rfl rfl rfl).trans (fs_fn fun g49 r50 => ?_)
    refine (fs_go (n := n + 20) rfl (t := 521) rfl (by decide)).trans ?_
    exact bM_statement_521 L xs m d k (n + 19) x1 x2 x3 v3 g49 r50
  · refine (fs_J1 (n := n + 24) (t := 471) rfl (by decide)).trans ?_
    refine (fs_r (n := n + 22) 2 (pc' := 474) (L' := [some (.ref cM), some (.int x1), some (.int x2), some (.int x3), some (.int v3), none]) (S' := [.int 48, .ref cM]) rfl).trans ?_
    refine (fs_cv (n := n + 21) (N := nm_m169) (as := [.ref cM, .int 48]) (rest := []) rfl rfl (Or.inl rfl) rfl rfl rfl rfl rfl).trans (fs_fv fun v53 g51 r52 => ?_)
    refine (fs_r (n := n + 18) 3 (pc' := 481) (L' := [some (.ref cM), some (.int x1), some (.int x2), some (.int x3), some (.int v3), some (.int v53)]) (S' := [.int 1, .ref cM]) rfl).trans ?_
    refine (fs_cv (n := n + 17) (N := nm_m170) (as := [.ref cM, .int 1]) (rest := []) rfl rfl (Or.inl rfl) rfl rfl rfl rfl rfl).trans (fs_fv fun v56 g54 r55 => ?_)
    refine (fs_i (n := n + 16) rfl (t := 521) rfl (by decide)).trans (fs_ite ?_ ?_)
    · skip
      exact bM_statement_521_1 L xs m d k (n + 15) x1 x2 x3 v3 v53 g54 r55
    · skip
      refine (fs_r (n := n + 12) 4 (pc' := 494) (L' := [some (.ref cM), some (.int x1), some (.int x2), some (.int x3), some (.int v3), some (.int v53)]) (S' := [.ref cM, .int v3, .ref 10910]) rfl).trans ?_
      refine (fs_cv (n := n + 11) (N := nm_m171) (as := [.ref cM]) (rest := [.int v3, .ref 10910]) rfl rfl (Or.inl rfl) rfl rfl rfl rfl rfl).trans (fs_fv fun v59 g57 r58 => ?_)
      refine (fs_is (n := n + 10) (k := 910) rfl rfl).trans (fs_ite ?_ rfl)
      refine (fs_go (n := n + 9) rfl (t := 521) rfl (by decide)).trans ?_
      exact bM_statement_521_1 L xs m d k (n + 8) x1 x2 x3 v3 v53 g57 (a2_ua r58 fM_value ((r58 fM_value).1, (upd (r58 fM_value).2 (v3 : Int32).toNatClampNeg v59)))
  · refine (fs_J1 (n := n + 24) (t := 501) rfl (by decide)).trans ?_
    refine (fs_r (n := n + 22) 2 (pc' := 504) (L' := [some (.ref cM), some (.int x1), some (.int x2), some (.int x3), some (.int v3), none]) (S' := [.int 63, .ref cM]) rfl).trans ?_
    refine (fs_cv (n := n + 21) (N := nm_m191) (as := [.ref cM, .int 63]) (rest := []) rfl rfl (Or.inl rfl) rfl rfl rfl rfl rfl).trans (fs_fv fun v62 g60 r61 => ?_)
    refine (fs_r (n := n + 20) 1 (pc' := 509) (L' := [some (.ref cM), some (.int x1), some (.int x2), some (.int x3), some (.int v3), some (.int v62)]) (S' := []) rfl).trans ?_
    refine (fs_go (n := n + 19) rfl (t := 521) rfl (by decide)).trans ?_
    exact bM_statement_521_1 L xs m d k (n + 18) x1 x2 x3 v3 v62 g60 r61
  · refine (fs_J1 (n := n + 24) (t := 521) rfl (by decide)).trans ?_
    exact bM_statement_521 L xs m d k (n + 23) x1 x2 x3 v3 g4 r5
  · refine (fs_J1 (n := n + 24) (t := 521) rfl (by decide)).trans ?_
    exact bM_statement_521 L xs m d k (n + 23) x1 x2 x3 v3 g4 r5
  · refine (fs_J1 (n := n + 24) (t := 512) rfl (by decide)).trans ?_
    refine (fs_r (n := n + 22) 2 (pc' := 515) (L' := [some (.ref cM), some (.int x1), some (.int x2), some (.int x3), some (.int v3), none]) (S' := [.int v3, .ref cM]) rfl).trans ?_
    refine (fs_cn (n := n + 21) (N := nm_m213) (as := [.ref cM, .int v3]) (rest := []) rfl rfl (Or.inl rfl) rfl rfl rfl rfl rfl).trans (fs_fn fun g63 r64 => ?_)
    refine (fs_go (n := n + 20) rfl (t := 521) rfl (by decide)).trans ?_
    exact bM_statement_521 L xs m d k (n + 19) x1 x2 x3 v3 g63 r64
  · refine (fs_J1 (n := n + 24) (t := 521) rfl (by decide)).trans ?_
    exact bM_statement_521 L xs m d k (n + 23) x1 x2 x3 v3 g4 r5
theorem eM_statement (L : Nat) (xs : Nat → Int32) (m d k : Nat) (n : Nat) (a1 : Int32) (g : a2_G) (r : a2_A) : bk L xs nM_statement nm_m195 m d k (n + 88) 0 [some (.ref cM), some (.int a1), none, none, none, none] [] g r = (if am_inr (g fM_at) (r fM_values).1 = true then (if am_c2 .ne ((r fM_values).2 ((g fM_at) : Int32).toNatClampNeg) 36 = true then (if am_c2 .ne ((r fM_values).2 ((g fM_at) : Int32).toNatClampNeg) 37 = true then (if am_c2 .ne ((r fM_values).2 ((g fM_at) : Int32).toNatClampNeg) 38 = true then (if am_c2 .ne ((r fM_values).2 ((g fM_at) : Int32).toNatClampNeg) 39 = true then (if am_c2 .ne ((r fM_values).2 ((g fM_at) : Int32).toNatClampNeg) 40 = true then (if am_c2 .ne ((r fM_values).2 ((g fM_at) : Int32).toNatClampNeg) 41 = true then (if am_c2 .ne ((r fM_values).2 ((g fM_at) : Int32).toNatClampNeg) 42 = true then (if am_c2 .ne ((r fM_values).2 ((g fM_at) : Int32).toNatClampNeg) 29 = true then (if am_c2 .ne ((r fM_values).2 ((g fM_at) : Int32).toNatClampNeg) 43 = true then (if am_c2 .ne ((r fM_values).2 ((g fM_at) : Int32).toNatClampNeg) 44 = true then (if am_c2 .ne ((r fM_values).2 ((g fM_at) : Int32).toNatClampNeg) 45 = true then (if am_c2 .ne ((r fM_values).2 ((g fM_at) : Int32).toNatClampNeg) 46 = true then (BM_statement_160 L xs m d k a1 (g fM_at) ((r fM_values).2 ((g fM_at) : Int32).toNatClampNeg) 38 (upd g fM_at ((g fM_at) + 1)) r) else (BM_statement_160 L xs m d k a1 (g fM_at) ((r fM_values).2 ((g fM_at) : Int32).toNatClampNeg) 37 (upd g fM_at ((g fM_at) + 1)) r)) else (BM_statement_160 L xs m d k a1 (g fM_at) ((r fM_values).2 ((g fM_at) : Int32).toNatClampNeg) 36 (upd g fM_at ((g fM_at) + 1)) r)) else (BM_statement_160 L xs m d k a1 (g fM_at) ((r fM_values).2 ((g fM_at) : Int32).toNatClampNeg) 35 (upd g fM_at ((g fM_at) + 1)) r)) else (BM_statement_160 L xs m d k a1 (g fM_at) ((r fM_values).2 ((g fM_at) : Int32).toNatClampNeg) 34 (upd g fM_at ((g fM_at) + 1)) r)) else (BM_statement_160 L xs m d k a1 (g fM_at) ((r fM_values).2 ((g fM_at) : Int32).toNatClampNeg) 33 (upd g fM_at ((g fM_at) + 1)) r)) else (BM_statement_160 L xs m d k a1 (g fM_at) ((r fM_values).2 ((g fM_at) : Int32).toNatClampNeg) 32 (upd g fM_at ((g fM_at) + 1)) r)) else (BM_statement_160 L xs m d k a1 (g fM_at) ((r fM_values).2 ((g fM_at) : Int32).toNatClampNeg) 31 (upd g fM_at ((g fM_at) + 1)) r)) else (BM_statement_160 L xs m d k a1 (g fM_at) ((r fM_values).2 ((g fM_at) : Int32).toNatClampNeg) 30 (upd g fM_at ((g fM_at) + 1)) r)) else (BM_statement_160 L xs m d k a1 (g fM_at) ((r fM_values).2 ((g fM_at) : Int32).toNatClampNeg) 29 (upd g fM_at ((g fM_at) + 1)) r)) else (BM_statement_160 L xs m d k a1 (g fM_at) ((r fM_values).2 ((g fM_at) : Int32).toNatClampNeg) 28 (upd g fM_at ((g fM_at) + 1)) r)) else (BM_statement_160 L xs m d k a1 (g fM_at) ((r fM_values).2 ((g fM_at) : Int32).toNatClampNeg) 27 (upd g fM_at ((g fM_at) + 1)) r)) else (BM_statement_160 L xs m d k a1 (g fM_at) ((r fM_values).2 ((g fM_at) : Int32).toNatClampNeg) 26 (upd g fM_at ((g fM_at) + 1)) r)) else none) := by
  refine (fs_r (n := n + 81) 7 (pc' := 13) (L' := [some (.ref cM), some (.int a1), some (.int (g fM_at)), none, none, none]) (S' := [.int (g fM_at), .ref 10903]) rfl).trans ?_
  refine (fs_il (n := n + 80) (k := 903) rfl rfl).trans (fs_ite ?_ rfl)
  refine (fs_r (n := n + 74) 6 (pc' := 22) (L' := [some (.ref cM), some (.int a1), some (.int (g fM_at)), some (.int ((r fM_values).2 ((g fM_at) : Int32).toNatClampNeg)), none, none]) (S' := [.int ((g fM_at) + 1), .ref cM]) rfl).trans ?_
  refine (fs_pf (n := n + 73) (ci := 9) (j := 41) rfl rfl rfl rfl).trans ?_
  refine (fs_r (n := n + 70) 3 (pc' := 29) (L' := [some (.ref cM), some (.int a1), some (.int (g fM_at)), some (.int ((r fM_values).2 ((g fM_at) : Int32).toNatClampNeg)), none, none]) (S' := [.int 36, .int ((r fM_values).2 ((g fM_at) : Int32).toNatClampNeg), .ref cM]) rfl).trans ?_
  refine (fs_j (n := n + 69) rfl (t := 37) rfl (by decide)).trans (fs_ite ?_ ?_)
  · skip
    refine (fs_r (n := n + 67) 2 (pc' := 40) (L' := [some (.ref cM), some (.int a1), some (.int (g fM_at)), some (.int ((r fM_values).2 ((g fM_at) : Int32).toNatClampNeg)), none, none]) (S' := [.int 37, .int ((r fM_values).2 ((g fM_at) : Int32).toNatClampNeg), .ref cM]) rfl).trans ?_
    refine (fs_j (n := n + 66) rfl (t := 48) rfl (by decide)).trans (fs_ite ?_ ?_)
    · skip
      refine (fs_r (n := n + 64) 2 (pc' := 51) (L' := [some (.ref cM), some (.int a1), some (.int (g fM_at)), some (.int ((r fM_values).2 ((g fM_at) : Int32).toNatClampNeg)), none, none]) (S' := [.int 38, .int ((r fM_values).2 ((g fM_at) : Int32).toNatClampNeg), .ref cM]) rfl).trans ?_
      refine (fs_j (n := n + 63) rfl (t := 59) rfl (by decide)).trans (fs_ite ?_ ?_)
      · skip
        refine (fs_r (n := n + 61) 2 (pc' := 62) (L' := [some (.ref cM), some (.int a1), some (.int (g fM_at)), some (.int ((r fM_values).2 ((g fM_at) : Int32).toNatClampNeg)), none, none]) (S' := [.int 39, .int ((r fM_values).2 ((g fM_at) : Int32).toNatClampNeg), .ref cM]) rfl).trans ?_
        refine (fs_j (n := n + 60) rfl (t := 70) rfl (by decide)).trans (fs_ite ?_ ?_)
        · skip
          refine (fs_r (n := n + 58) 2 (pc' := 73) (L' := [some (.ref cM), some (.int a1), some (.int (g fM_at)), some (.int ((r fM_values).2 ((g fM_at) : Int32).toNatClampNeg)), none, none]) (S' := [.int 40, .int ((r fM_values).2 ((g fM_at) : Int32).toNatClampNeg), .ref cM]) rfl).trans ?_
          refine (fs_j (n := n + 57) rfl (t := 81) rfl (by decide)).trans (fs_ite ?_ ?_)
          · skip
            refine (fs_r (n := n + 55) 2 (pc' := 84) (L' := [some (.ref cM), some (.int a1), some (.int (g fM_at)), some (.int ((r fM_values).2 ((g fM_at) : Int32).toNatClampNeg)), none, none]) (S' := [.int 41, .int ((r fM_values).2 ((g fM_at) : Int32).toNatClampNeg), .ref cM]) rfl).trans ?_
            refine (fs_j (n := n + 54) rfl (t := 92) rfl (by decide)).trans (fs_ite ?_ ?_)
            · skip
              refine (fs_r (n := n + 52) 2 (pc' := 95) (L' := [some (.ref cM), some (.int a1), some (.int (g fM_at)), some (.int ((r fM_values).2 ((g fM_at) : Int32).toNatClampNeg)), none, none]) (S' := [.int 42, .int ((r fM_values).2 ((g fM_at) : Int32).toNatClampNeg), .ref cM]) rfl).trans ?_
              refine (fs_j (n := n + 51) rfl (t := 103) rfl (by decide)).trans (fs_ite ?_ ?_)
              · skip
                refine (fs_r (n := n + 49) 2 (pc' := 106) (L' := [some (.ref cM), some (.int a1), some (.int (g fM_at)), some (.int ((r fM_values).2 ((g fM_at) : Int32).toNatClampNeg)), none, none]) (S' := [.int 29, .int ((r fM_values).2 ((g fM_at) : Int32).toNatClampNeg), .ref cM]) rfl).trans ?_
                refine (fs_j (n := n + 48) rfl (t := 114) rfl (by decide)).trans (fs_ite ?_ ?_)
                · skip
                  refine (fs_r (n := n + 46) 2 (pc' := 117) (L' := [some (.ref cM), some (.int a1), some (.int (g fM_at)), some (.int ((r fM_values).2 ((g fM_at) : Int32).toNatClampNeg)), none, none]) (S' := [.int 43, .int ((r fM_values).2 ((g fM_at) : Int32).toNatClampNeg), .ref cM]) rfl).trans ?_
                  refine (fs_j (n := n + 45) rfl (t := 125) rfl (by decide)).trans (fs_ite ?_ ?_)
                  · skip
                    refine (fs_r (n := n + 43) 2 (pc' := 128) (L' := [some (.ref cM), some (.int a1), some (.int (g fM_at)), some (.int ((r fM_values).2 ((g fM_at) : Int32).toNatClampNeg)), none, none]) (S' := [.int 44, .int ((r fM_values).2 ((g fM_at) : Int32).toNatClampNeg), .ref cM]) rfl).trans ?_
                    refine (fs_j (n := n + 42) rfl (t := 136) rfl (by decide)).trans (fs_ite ?_ ?_)
                    · skip
                      refine (fs_r (n := n + 40) 2 (pc' := 139) (L' := [some (.ref cM), some (.int a1), some (.int (g fM_at)), some (.int ((r fM_values).2 ((g fM_at) : Int32).toNatClampNeg)), none, none]) (S' := [.int 45, .int ((r fM_values).2 ((g fM_at) : Int32).toNatClampNeg), .ref cM]) rfl).trans ?_
                      refine (fs_j (n := n + 39) rfl (t := 147) rfl (by decide)).trans (fs_ite ?_ ?_)
                      · skip
                        refine (fs_r (n := n + 37) 2 (pc' := 150) (L' := [some (.ref cM), some (.int a1), some (.int (g fM_at)), some (.int ((r fM_values).2 ((g fM_at) : Int32).toNatClampNeg)), none, none]) (S' := [.int 46, .int ((r fM_values).2 ((g fM_at) : Int32).toNatClampNeg), .ref cM]) rfl).trans ?_
                        refine (fs_j (n := n + 36) rfl (t := 158) rfl (by decide)).trans (fs_ite ?_ ?_)
                        · skip
                          refine (fs_r (n := n + 35) 1 (pc' := 160) (L' := [some (.ref cM), some (.int a1), some (.int (g fM_at)), some (.int ((r fM_values).2 ((g fM_at) : Int32).toNatClampNeg)), none, none]) (S' := [.int 38, .ref cM]) rfl).trans ?_
                          exact bM_statement_160 L xs m d k (n + 1) a1 (g fM_at) ((r fM_values).2 ((g fM_at) : Int32).toNatClampNeg) 38 (upd g fM_at ((g fM_at) + 1)) r
                        · skip
                          refine (fs_r (n := n + 35) 1 (pc' := 155) (L' := [some (.ref cM), some (.int a1), some (.int (g fM_at)), some (.int ((r fM_values).2 ((g fM_at) : Int32).toNatClampNeg)), none, none]) (S' := [.int 37, .ref cM]) rfl).trans ?_
                          refine (fs_go (n := n + 34) rfl (t := 160) rfl (by decide)).trans ?_
                          exact bM_statement_160 L xs m d k (n + 0) a1 (g fM_at) ((r fM_values).2 ((g fM_at) : Int32).toNatClampNeg) 37 (upd g fM_at ((g fM_at) + 1)) r
                      · skip
                        refine (fs_r (n := n + 38) 1 (pc' := 144) (L' := [some (.ref cM), some (.int a1), some (.int (g fM_at)), some (.int ((r fM_values).2 ((g fM_at) : Int32).toNatClampNeg)), none, none]) (S' := [.int 36, .ref cM]) rfl).trans ?_
                        refine (fs_go (n := n + 37) rfl (t := 160) rfl (by decide)).trans ?_
                        exact bM_statement_160 L xs m d k (n + 3) a1 (g fM_at) ((r fM_values).2 ((g fM_at) : Int32).toNatClampNeg) 36 (upd g fM_at ((g fM_at) + 1)) r
                    · skip
                      refine (fs_r (n := n + 41) 1 (pc' := 133) (L' := [some (.ref cM), some (.int a1), some (.int (g fM_at)), some (.int ((r fM_values).2 ((g fM_at) : Int32).toNatClampNeg)), none, none]) (S' := [.int 35, .ref cM]) rfl).trans ?_
                      refine (fs_go (n := n + 40) rfl (t := 160) rfl (by decide)).trans ?_
                      exact bM_statement_160 L xs m d k (n + 6) a1 (g fM_at) ((r fM_values).2 ((g fM_at) : Int32).toNatClampNeg) 35 (upd g fM_at ((g fM_at) + 1)) r
                  · skip
                    refine (fs_r (n := n + 44) 1 (pc' := 122) (L' := [some (.ref cM), some (.int a1), some (.int (g fM_at)), some (.int ((r fM_values).2 ((g fM_at) : Int32).toNatClampNeg)), none, none]) (S' := [.int 34, .ref cM]) rfl).trans ?_
                    refine (fs_go (n := n + 43) rfl (t := 160) rfl (by decide)).trans ?_
                    exact bM_statement_160 L xs m d k (n + 9) a1 (g fM_at) ((r fM_values).2 ((g fM_at) : Int32).toNatClampNeg) 34 (upd g fM_at ((g fM_at) + 1)) r
                · skip
                  refine (fs_r (n := n + 47) 1 (pc' := 111) (L' := [some (.ref cM), some (.int a1), some (.int (g fM_at)), some (.int ((r fM_values).2 ((g fM_at) : Int32).toNatClampNeg)), none, none]) (S' := [.int 33, .ref cM]) rfl).trans ?_
                  refine (fs_go (n := n + 46) rfl (t := 160) rfl (by decide)).trans ?_
                  exact bM_statement_160 L xs m d k (n + 12) a1 (g fM_at) ((r fM_values).2 ((g fM_at) : Int32).toNatClampNeg) 33 (upd g fM_at ((g fM_at) + 1)) r
              · skip
                refine (fs_r (n := n + 50) 1 (pc' := 100) (L' := [some (.ref cM), some (.int a1), some (.int (g fM_at)), some (.int ((r fM_values).2 ((g fM_at) : Int32).toNatClampNeg)), none, none]) (S' := [.int 32, .ref cM]) rfl).trans ?_
                refine (fs_go (n := n + 49) rfl (t := 160) rfl (by decide)).trans ?_
                exact bM_statement_160 L xs m d k (n + 15) a1 (g fM_at) ((r fM_values).2 ((g fM_at) : Int32).toNatClampNeg) 32 (upd g fM_at ((g fM_at) + 1)) r
            · skip
              refine (fs_r (n := n + 53) 1 (pc' := 89) (L' := [some (.ref cM), some (.int a1), some (.int (g fM_at)), some (.int ((r fM_values).2 ((g fM_at) : Int32).toNatClampNeg)), none, none]) (S' := [.int 31, .ref cM]) rfl).trans ?_
              refine (fs_go (n := n + 52) rfl (t := 160) rfl (by decide)).trans ?_
              exact bM_statement_160 L xs m d k (n + 18) a1 (g fM_at) ((r fM_values).2 ((g fM_at) : Int32).toNatClampNeg) 31 (upd g fM_at ((g fM_at) + 1)) r
          · skip
            refine (fs_r (n := n + 56) 1 (pc' := 78) (L' := [some (.ref cM), some (.int a1), some (.int (g fM_at)), some (.int ((r fM_values).2 ((g fM_at) : Int32).toNatClampNeg)), none, none]) (S' := [.int 30, .ref cM]) rfl).trans ?_
            refine (fs_go (n := n + 55) rfl (t := 160) rfl (by decide)).trans ?_
            exact bM_statement_160 L xs m d k (n + 21) a1 (g fM_at) ((r fM_values).2 ((g fM_at) : Int32).toNatClampNeg) 30 (upd g fM_at ((g fM_at) + 1)) r
        · skip
          refine (fs_r (n := n + 59) 1 (pc' := 67) (L' := [some (.ref cM), some (.int a1), some (.int (g fM_at)), some (.int ((r fM_values).2 ((g fM_at) : Int32).toNatClampNeg)), none, none]) (S' := [.int 29, .ref cM]) rfl).trans ?_
          refine (fs_go (n := n + 58) rfl (t := 160) rfl (by decide)).trans ?_
          exact bM_statement_160 L xs m d k (n + 24) a1 (g fM_at) ((r fM_values).2 ((g fM_at) : Int32).toNatClampNeg) 29 (upd g fM_at ((g fM_at) + 1)) r
      · skip
        refine (fs_r (n := n + 62) 1 (pc' := 56) (L' := [some (.ref cM), some (.int a1), some (.int (g fM_at)), some (.int ((r fM_values).2 ((g fM_at) : Int32).toNatClampNeg)), none, none]) (S' := [.int 28, .ref cM]) rfl).trans ?_
        refine (fs_go (n := n + 61) rfl (t := 160) rfl (by decide)).trans ?_
        exact bM_statement_160 L xs m d k (n + 27) a1 (g fM_at) ((r fM_values).2 ((g fM_at) : Int32).toNatClampNeg) 28 (upd g fM_at ((g fM_at) + 1)) r
    · skip
      refine (fs_r (n := n + 65) 1 (pc' := 45) (L' := [some (.ref cM), some (.int a1), some (.int (g fM_at)), some (.int ((r fM_values).2 ((g fM_at) : Int32).toNatClampNeg)), none, none]) (S' := [.int 27, .ref cM]) rfl).trans ?_
      refine (fs_go (n := n + 64) rfl (t := 160) rfl (by decide)).trans ?_
      exact bM_statement_160 L xs m d k (n + 30) a1 (g fM_at) ((r fM_values).2 ((g fM_at) : Int32).toNatClampNeg) 27 (upd g fM_at ((g fM_at) + 1)) r
  · skip
    refine (fs_r (n := n + 68) 1 (pc' := 34) (L' := [some (.ref cM), some (.int a1), some (.int (g fM_at)), some (.int ((r fM_values).2 ((g fM_at) : Int32).toNatClampNeg)), none, none]) (S' := [.int 26, .ref cM]) rfl).trans ?_
    refine (fs_go (n := n + 67) rfl (t := 160) rfl (by decide)).trans ?_
    exact bM_statement_160 L xs m d k (n + 33) a1 (g fM_at) ((r fM_values).2 ((g fM_at) : Int32).toNatClampNeg) 26 (upd g fM_at ((g fM_at) + 1)) r
theorem qM_statement (L : Nat) (xs : Nat → Int32) (m d : Nat) (a1 : Int32) (g : a2_G) (r : a2_A) : ev L xs (m + 1) (d + 1) nM_statement [.ref cM, .int a1] g r = (if am_inr (g fM_at) (r fM_values).1 = true then (if am_c2 .ne ((r fM_values).2 ((g fM_at) : Int32).toNatClampNeg) 36 = true then (if am_c2 .ne ((r fM_values).2 ((g fM_at) : Int32).toNatClampNeg) 37 = true then (if am_c2 .ne ((r fM_values).2 ((g fM_at) : Int32).toNatClampNeg) 38 = true then (if am_c2 .ne ((r fM_values).2 ((g fM_at) : Int32).toNatClampNeg) 39 = true then (if am_c2 .ne ((r fM_values).2 ((g fM_at) : Int32).toNatClampNeg) 40 = true then (if am_c2 .ne ((r fM_values).2 ((g fM_at) : Int32).toNatClampNeg) 41 = true then (if am_c2 .ne ((r fM_values).2 ((g fM_at) : Int32).toNatClampNeg) 42 = true then (if am_c2 .ne ((r fM_values).2 ((g fM_at) : Int32).toNatClampNeg) 29 = true then (if am_c2 .ne ((r fM_values).2 ((g fM_at) : Int32).toNatClampNeg) 43 = true then (if am_c2 .ne ((r fM_values).2 ((g fM_at) : Int32).toNatClampNeg) 44 = true then (if am_c2 .ne ((r fM_values).2 ((g fM_at) : Int32).toNatClampNeg) 45 = true then (if am_c2 .ne ((r fM_values).2 ((g fM_at) : Int32).toNatClampNeg) 46 = true then (BM_statement_160 L xs (m + 1) d m a1 (g fM_at) ((r fM_values).2 ((g fM_at) : Int32).toNatClampNeg) 38 (upd g fM_at ((g fM_at) + 1)) r) else (BM_statement_160 L xs (m + 1) d m a1 (g fM_at) ((r fM_values).2 ((g fM_at) : Int32).toNatClampNeg) 37 (upd g fM_at ((g fM_at) + 1)) r)) else (BM_statement_160 L xs (m + 1) d m a1 (g fM_at) ((r fM_values).2 ((g fM_at) : Int32).toNatClampNeg) 36 (upd g fM_at ((g fM_at) + 1)) r)) else (BM_statement_160 L xs (m + 1) d m a1 (g fM_at) ((r fM_values).2 ((g fM_at) : Int32).toNatClampNeg) 35 (upd g fM_at ((g fM_at) + 1)) r)) else (BM_statement_160 L xs (m + 1) d m a1 (g fM_at) ((r fM_values).2 ((g fM_at) : Int32).toNatClampNeg) 34 (upd g fM_at ((g fM_at) + 1)) r)) else (BM_statement_160 L xs (m + 1) d m a1 (g fM_at) ((r fM_values).2 ((g fM_at) : Int32).toNatClampNeg) 33 (upd g fM_at ((g fM_at) + 1)) r)) else (BM_statement_160 L xs (m + 1) d m a1 (g fM_at) ((r fM_values).2 ((g fM_at) : Int32).toNatClampNeg) 32 (upd g fM_at ((g fM_at) + 1)) r)) else (BM_statement_160 L xs (m + 1) d m a1 (g fM_at) ((r fM_values).2 ((g fM_at) : Int32).toNatClampNeg) 31 (upd g fM_at ((g fM_at) + 1)) r)) else (BM_statement_160 L xs (m + 1) d m a1 (g fM_at) ((r fM_values).2 ((g fM_at) : Int32).toNatClampNeg) 30 (upd g fM_at ((g fM_at) + 1)) r)) else (BM_statement_160 L xs (m + 1) d m a1 (g fM_at) ((r fM_values).2 ((g fM_at) : Int32).toNatClampNeg) 29 (upd g fM_at ((g fM_at) + 1)) r)) else (BM_statement_160 L xs (m + 1) d m a1 (g fM_at) ((r fM_values).2 ((g fM_at) : Int32).toNatClampNeg) 28 (upd g fM_at ((g fM_at) + 1)) r)) else (BM_statement_160 L xs (m + 1) d m a1 (g fM_at) ((r fM_values).2 ((g fM_at) : Int32).toNatClampNeg) 27 (upd g fM_at ((g fM_at) + 1)) r)) else (BM_statement_160 L xs (m + 1) d m a1 (g fM_at) ((r fM_values).2 ((g fM_at) : Int32).toNatClampNeg) 26 (upd g fM_at ((g fM_at) + 1)) r)) else none) := (fs_ev (M := nm_m195) rfl rfl).trans (eM_statement L xs (m + 1) d m 812 a1 g r)
/-- CobolParserModel.add(I)V -/
def BM_add_94 (L : Nat) (xs : Nat → Int32) (m d k : Nat) (x1 : Int32) (g : a2_G) (r : a2_A) : Option fn_Z := (fn_n (ev L xs m d nM_pile [.ref cM, .int 37, .int x1] g r) fun g9 r10 => (some (.inl none, g9, r10)))
theorem bM_add_94 (L : Nat) (xs : Nat → Int32) (m d k : Nat) (n : Nat) (x1 : Int32) (g : a2_G) (r : a2_A) : bk L xs nM_add nm_m196 m d k (n + 5) 94 [some (.ref cM), some (.int x1)] [] g r = BM_add_94 L xs m d k x1 g r := by
  show _ = ((fn_n (ev L xs m d nM_pile [.ref cM, .int 37, .int x1] g r) fun g9 r10 => (some (.inl none, g9, r10))) : Option fn_Z)
  refine (fs_r (n := n + 2) 3 (pc' := 98) (L' := [some (.ref cM), some (.int x1)]) (S' := [.int x1, .int 37, .ref cM]) rfl).trans ?_
  refine (fs_cn (n := n + 1) (N := nm_m187) (as := [.ref cM, .int 37, .int x1]) (rest := []) rfl rfl (Or.inl rfl) rfl rfl rfl rfl rfl).trans (fs_fn fun g9 r10 => ?_)
  exact (fs_rv (n := n + 0) rfl rfl).trans rfl
def BM_add_31 (L : Nat) (xs : Nat → Int32) (m d k : Nat) (x1 : Int32) (g : a2_G) (r : a2_A) : Option fn_Z := (fn_v (ev L xs m d nM_meets [.ref cM, .int 48] g r) fun v5 g3 r4 => (if am_c2 .eq v5 0 = true then (fn_v (ev L xs m d nM_must [.ref cM, .int 49] g3 r4) fun v8 g6 r7 => (if am_c2 .eq v8 0 = true then (BM_add_94 L xs m d k x1 g6 r7) else (if am_inr x1 (r7 fM_value).1 = true then (fn_v (ev L xs m d nM_mustBe [.ref cM, .int 1] g6 (a2_ua r7 fM_value ((r7 fM_value).1, (upd (r7 fM_value).2 (x1 : Int32).toNatClampNeg 1)))) fun v13 g11 r12 => (if am_c2 .eq v13 0 = true then (BM_add_94 L xs m d k x1 g11 r12) else (fn_v (ev L xs m d nM_passed [.ref cM] g11 r12) fun v16 g14 r15 => (fn_n (ev L xs m d nM_child4 [.ref cM, .int x1, .int 41, .int (100000 + v16), .int ((g14 fM_at) - 1)] g14 r15) fun g17 r18 => (BM_add_94 L xs m d k x1 g17 r18))))) else none))) else (fn_n (ev L xs m d nM_names [.ref cM, .int x1, .int 41] g3 r4) fun g19 r20 => (BM_add_94 L xs m d k x1 g19 r20))))
theorem bM_add_31 (L : Nat) (xs : Nat → Int32) (m d k : Nat) (n : Nat) (x1 : Int32) (g : a2_G) (r : a2_A) : bk L xs nM_add nm_m196 m d k (n + 34) 31 [some (.ref cM), some (.int x1)] [] g r = BM_add_31 L xs m d k x1 g r := by
  show _ = ((fn_v (ev L xs m d nM_meets [.ref cM, .int 48] g r) fun v5 g3 r4 => (if am_c2 .eq v5 0 = true then (fn_v (ev L xs m d nM_must [.ref cM, .int 49] g3 r4) fun v8 g6 r7 => (if am_c2 .eq v8 0 = true then (BM_add_94 L xs m d k x1 g6 r7) else (if am_inr x1 (r7 fM_value).1 = true then (fn_v (ev L xs m d nM_mustBe [.ref cM, .int 1] g6 (a2_ua r7 fM_value ((r7 fM_value).1, (upd (r7 fM_value).2 (x1 : Int32).toNatClampNeg 1)))) fun v13 g11 r12 => (if am_c2 .eq v13 0 = true then (BM_add_94 L xs m d k x1 g11 r12) else (fn_v (ev L xs m d nM_passed [.ref cM] g11 r12) fun v16 g14 r15 => (fn_n (ev L xs m d nM_child4 [.ref cM, .int x1, .int 41, .int (100000 + v16), .int ((g14 fM_at) - 1)] g14 r15) fun g17 r18 => (BM_add_94 L xs m d k x1 g17 r18))))) else none))) else (fn_n (ev L xs m d nM_names [.ref cM, .int x1, .int 41] g3 r4) fun g19 r20 => (BM_add_94 L xs m d k x1 g19 r20)))) : Option fn_Z)
  refine (fs_r (n := n + 32) 2 (pc' := 34) (L' := [some (.ref cM), some (.int x1)]) (S' := [.int 48, .ref cM]) rfl).trans ?_
  refine (fs_cv (n := n + 31) (N := nm_m169) (as := [.ref cM, .int 48]) (rest := []) rfl rfl (Or.inl rfl) rfl rfl rfl rfl rfl).trans (fs_fv fun v5 g3 r4 => ?_)
  refine (fs_i (n := n + 30) rfl (t := 50) rfl (by decide)).trans (fs_ite ?_ ?_)
  · skip
    refine (fs_r (n := n + 28) 2 (pc' := 53) (L' := [some (.ref cM), some (.int x1)]) (S' := [.int 49, .ref cM]) rfl).trans ?_
    refine (fs_cv (n := n + 27) (N := nm_m191) (as := [.ref cM, .int 49]) (rest := []) rfl rfl (Or.inl rfl) rfl rfl rfl rfl rfl).trans (fs_fv fun v8 g6 r7 => ?_)
    refine (fs_i (n := n + 26) rfl (t := 94) rfl (by decide)).trans (fs_ite ?_ ?_)
    · skip
      exact bM_add_94 L xs m d k (n + 21) x1 g6 r7
    · skip
      refine (fs_r (n := n + 22) 4 (pc' := 65) (L' := [some (.ref cM), some (.int x1)]) (S' := [.int 1, .int x1, .ref 10910]) rfl).trans ?_
      refine (fs_is (n := n + 21) (k := 910) rfl rfl).trans (fs_ite ?_ rfl)
      refine (fs_r (n := n + 19) 2 (pc' := 68) (L' := [some (.ref cM), some (.int x1)]) (S' := [.int 1, .ref cM]) rfl).trans ?_
      refine (fs_cv (n := n + 18) (N := nm_m170) (as := [.ref cM, .int 1]) (rest := []) rfl rfl (Or.inl rfl) rfl rfl rfl rfl rfl).trans (fs_fv fun v13 g11 r12 => ?_)
      refine (fs_i (n := n + 17) rfl (t := 94) rfl (by decide)).trans (fs_ite ?_ ?_)
      · skip
        exact bM_add_94 L xs m d k (n + 12) x1 g11 r12
      · skip
        refine (fs_r (n := n + 12) 5 (pc' := 81) (L' := [some (.ref cM), some (.int x1)]) (S' := [.ref cM, .int 100000, .int 41, .int x1, .ref cM]) rfl).trans ?_
        refine (fs_cv (n := n + 11) (N := nm_m171) (as := [.ref cM]) (rest := [.int 100000, .int 41, .int x1, .ref cM]) rfl rfl (Or.inl rfl) rfl rfl rfl rfl rfl).trans (fs_fv fun v16 g14 r15 => ?_)
        refine (fs_r (n := n + 6) 5 (pc' := 91) (L' := [some (.ref cM), some (.int x1)]) (S' := [.int ((g14 fM_at) - 1), .int (100000 + v16), .int 41, .int x1, .ref cM]) rfl).trans ?_
        refine (fs_cn (n := n + 5) (N := nm_m172) (as := [.ref cM, .int x1, .int 41, .int (100000 + v16), .int ((g14 fM_at) - 1)]) (rest := []) rfl rfl (Or.inl rfl) rfl rfl rfl rfl rfl).trans (fs_fn fun g17 r18 => ?_)
        exact bM_add_94 L xs m d k (n + 0) x1 g17 r18
  · skip
    refine (fs_r (n := n + 27) 3 (pc' := 44) (L' := [some (.ref cM), some (.int x1)]) (S' := [.int 41, .int x1, .ref cM]) rfl).trans ?_
    refine (fs_cn (n := n + 26) (N := nm_m179) (as := [.ref cM, .int x1, .int 41]) (rest := []) rfl rfl (Or.inl rfl) rfl rfl rfl rfl rfl).trans (fs_fn fun g19 r20 => ?_)
    refine (fs_go (n := n + 25) rfl (t := 94) rfl (by decide)).trans ?_
    exact bM_add_94 L xs m d k (n + 20) x1 g19 r20
def BM_add_5 (L : Nat) (xs : Nat → Int32) (m d k : Nat) (x1 : Int32) (g : a2_G) (r : a2_A) : Option fn_Z := (if am_c2 .ne (g fM_bad) 0 = true then (BM_add_31 L xs m d k x1 g r) else (fn_v (ev L xs m d nM_isOperand [.ref cM, .int (g fM_at)] g r) fun v23 g21 r22 => (if am_c2 .eq v23 0 = true then (BM_add_31 L xs m d k x1 g21 r22) else (fn_n (ev L xs m d nM_operandOf [.ref cM, .int x1] g21 r22) fun g24 r25 => (lp L xs nM_add nm_m196 m d k 5 [some (.ref cM), some (.int x1)] g24 r25)))))
theorem bM_add_5 (L : Nat) (xs : Nat → Int32) (m d k : Nat) (n : Nat) (x1 : Int32) (g : a2_G) (r : a2_A) : bk L xs nM_add nm_m196 m d k (n + 42) 5 [some (.ref cM), some (.int x1)] [] g r = BM_add_5 L xs m d k x1 g r := by
  show _ = ((if am_c2 .ne (g fM_bad) 0 = true then (BM_add_31 L xs m d k x1 g r) else (fn_v (ev L xs m d nM_isOperand [.ref cM, .int (g fM_at)] g r) fun v23 g21 r22 => (if am_c2 .eq v23 0 = true then (BM_add_31 L xs m d k x1 g21 r22) else (fn_n (ev L xs m d nM_operandOf [.ref cM, .int x1] g21 r22) fun g24 r25 => (lp L xs nM_add nm_m196 m d k 5 [some (.ref cM), some (.int x1)] g24 r25))))) : Option fn_Z)
  refine (fs_r (n := n + 40) 2 (pc' := 9) (L' := [some (.ref cM), some (.int x1)]) (S' := [.int (g fM_bad)]) rfl).trans ?_
  refine (fs_i (n := n + 39) rfl (t := 31) rfl (by decide)).trans (fs_ite ?_ ?_)
  · skip
    exact bM_add_31 L xs m d k (n + 5) x1 g r
  · skip
    refine (fs_r (n := n + 36) 3 (pc' := 17) (L' := [some (.ref cM), some (.int x1)]) (S' := [.int (g fM_at), .ref cM]) rfl).trans ?_
    refine (fs_cv (n := n + 35) (N := nm_m177) (as := [.ref cM, .int (g fM_at)]) (rest := []) rfl rfl (Or.inl rfl) rfl rfl rfl rfl rfl).trans (fs_fv fun v23 g21 r22 => ?_)
    refine (fs_i (n := n + 34) rfl (t := 31) rfl (by decide)).trans (fs_ite ?_ ?_)
    · skip
      exact bM_add_31 L xs m d k (n + 0) x1 g21 r22
    · skip
      refine (fs_r (n := n + 32) 2 (pc' := 25) (L' := [some (.ref cM), some (.int x1)]) (S' := [.int x1, .ref cM]) rfl).trans ?_
      refine (fs_cn (n := n + 31) (N := nm_m175) (as := [.ref cM, .int x1]) (rest := []) rfl rfl (Or.inl rfl) rfl rfl rfl rfl rfl).trans (fs_fn fun g24 r25 => ?_)
      exact (fs_gb (n := n + 30) rfl (t := 5) rfl (by decide)).trans rfl
theorem lM_add_5 (L : Nat) (xs : Nat → Int32) (m d k : Nat) (x1 : Int32) (g : a2_G) (r : a2_A) : lp L xs nM_add nm_m196 m d (k + 1) 5 [some (.ref cM), some (.int x1)] g r = BM_add_5 L xs m d k x1 g r := fs_lp.trans (bM_add_5 L xs m d k 858 x1 g r)
theorem eM_add (L : Nat) (xs : Nat → Int32) (m d k : Nat) (n : Nat) (a1 : Int32) (g : a2_G) (r : a2_A) : bk L xs nM_add nm_m196 m d k (n + 45) 0 [some (.ref cM), some (.int a1)] [] g r = (fn_n (ev L xs m d nM_operandOf [.ref cM, .int a1] g r) fun g1 r2 => (BM_add_5 L xs m d k a1 g1 r2)) := by
  refine (fs_r (n := n + 43) 2 (pc' := 2) (L' := [some (.ref cM), some (.int a1)]) (S' := [.int a1, .ref cM]) rfl).trans ?_
  refine (fs_cn (n := n + 42) (N := nm_m175) (as := [.ref cM, .int a1]) (rest := []) rfl rfl (Or.inl rfl) rfl rfl rfl rfl rfl).trans (fs_fn fun g1 r2 => ?_)
  exact bM_add_5 L xs m d k (n + 0) a1 g1 r2
theorem qM_add (L : Nat) (xs : Nat → Int32) (m d : Nat) (a1 : Int32) (g : a2_G) (r : a2_A) : ev L xs (m + 1) (d + 1) nM_add [.ref cM, .int a1] g r = (fn_n (ev L xs (m + 1) d nM_operandOf [.ref cM, .int a1] g r) fun g1 r2 => (BM_add_5 L xs (m + 1) d m a1 g1 r2)) := (fs_ev (M := nm_m196) rfl rfl).trans (eM_add L xs (m + 1) d m 855 a1 g r)
/-- CobolParserModel.conditionOf(I)V -/
def BM_conditionOf_26 (L : Nat) (xs : Nat → Int32) (m d k : Nat) (x1 x2 : Int32) (g : a2_G) (r : a2_A) : Option fn_Z := (some (.inl none, g, r))
theorem bM_conditionOf_26 (L : Nat) (xs : Nat → Int32) (m d k : Nat) (n : Nat) (x1 x2 : Int32) (g : a2_G) (r : a2_A) : bk L xs nM_conditionOf nm_m197 m d k (n + 1) 26 [some (.ref cM), some (.int x1), some (.int x2)] [] g r = BM_conditionOf_26 L xs m d k x1 x2 g r := by
  show _ = ((some (.inl none, g, r)) : Option fn_Z)
  exact (fs_rv (n := n + 0) rfl rfl).trans rfl
theorem eM_conditionOf (L : Nat) (xs : Nat → Int32) (m d k : Nat) (n : Nat) (a1 : Int32) (g : a2_G) (r : a2_A) : bk L xs nM_conditionOf nm_m197 m d k (n + 14) 0 [some (.ref cM), some (.int a1), none] [] g r = (if am_c2 .eq (g fM_bad) 0 = true then (fn_v (ev L xs m d nM_condition [.ref cM] g r) fun v3 g1 r2 => (if am_c2 .ne (g1 fM_bad) 0 = true then (BM_conditionOf_26 L xs m d k a1 v3 g1 r2) else (fn_n (ev L xs m d nM_attach [.ref cM, .int a1, .int v3] g1 r2) fun g4 r5 => (BM_conditionOf_26 L xs m d k a1 v3 g4 r5)))) else (some (.inl none, g, r))) := by
  refine (fs_r (n := n + 12) 2 (pc' := 4) (L' := [some (.ref cM), some (.int a1), none]) (S' := [.int (g fM_bad)]) rfl).trans ?_
  refine (fs_i (n := n + 11) rfl (t := 8) rfl (by decide)).trans (fs_ite ?_ ?_)
  · skip
    refine (fs_r (n := n + 10) 1 (pc' := 9) (L' := [some (.ref cM), some (.int a1), none]) (S' := [.ref cM]) rfl).trans ?_
    refine (fs_cv (n := n + 9) (N := nm_m198) (as := [.ref cM]) (rest := []) rfl rfl (Or.inl rfl) rfl rfl rfl rfl rfl).trans (fs_fv fun v3 g1 r2 => ?_)
    refine (fs_r (n := n + 6) 3 (pc' := 17) (L' := [some (.ref cM), some (.int a1), some (.int v3)]) (S' := [.int (g1 fM_bad)]) rfl).trans ?_
    refine (fs_i (n := n + 5) rfl (t := 26) rfl (by decide)).trans (fs_ite ?_ ?_)
    · skip
      exact bM_conditionOf_26 L xs m d k (n + 4) a1 v3 g1 r2
    · skip
      refine (fs_r (n := n + 2) 3 (pc' := 23) (L' := [some (.ref cM), some (.int a1), some (.int v3)]) (S' := [.int v3, .int a1, .ref cM]) rfl).trans ?_
      refine (fs_cn (n := n + 1) (N := nm_m173) (as := [.ref cM, .int a1, .int v3]) (rest := []) rfl rfl (Or.inl rfl) rfl rfl rfl rfl rfl).trans (fs_fn fun g4 r5 => ?_)
      exact bM_conditionOf_26 L xs m d k (n + 0) a1 v3 g4 r5
  · skip
    exact (fs_rv (n := n + 10) rfl rfl).trans rfl
theorem qM_conditionOf (L : Nat) (xs : Nat → Int32) (m d : Nat) (a1 : Int32) (g : a2_G) (r : a2_A) : ev L xs (m + 1) (d + 1) nM_conditionOf [.ref cM, .int a1] g r = (if am_c2 .eq (g fM_bad) 0 = true then (fn_v (ev L xs (m + 1) d nM_condition [.ref cM] g r) fun v3 g1 r2 => (if am_c2 .ne (g1 fM_bad) 0 = true then (BM_conditionOf_26 L xs (m + 1) d m a1 v3 g1 r2) else (fn_n (ev L xs (m + 1) d nM_attach [.ref cM, .int a1, .int v3] g1 r2) fun g4 r5 => (BM_conditionOf_26 L xs (m + 1) d m a1 v3 g4 r5)))) else (some (.inl none, g, r))) := (fs_ev (M := nm_m197) rfl rfl).trans (eM_conditionOf L xs (m + 1) d m 886 a1 g r)
/-- CobolParserModel.condition()I -/
def BM_condition_52 (L : Nat) (xs : Nat → Int32) (m d k : Nat) (x1 : Int32) (g : a2_G) (r : a2_A) : Option fn_Z := (some (.inl (some (.int x1)), g, r))
theorem bM_condition_52 (L : Nat) (xs : Nat → Int32) (m d k : Nat) (n : Nat) (x1 : Int32) (g : a2_G) (r : a2_A) : bk L xs nM_condition nm_m198 m d k (n + 2) 52 [some (.ref cM), some (.int x1), none] [] g r = BM_condition_52 L xs m d k x1 g r := by
  show _ = ((some (.inl (some (.int x1)), g, r)) : Option fn_Z)
  refine (fs_r (n := n + 1) 1 (pc' := 53) (L' := [some (.ref cM), some (.int x1), none]) (S' := [.int x1]) rfl).trans ?_
  exact (fs_ri (n := n + 0) rfl rfl).trans rfl
def BM_condition_49 (L : Nat) (xs : Nat → Int32) (m d k : Nat) (x1 x2 : Int32) (g : a2_G) (r : a2_A) : Option fn_Z := (lp L xs nM_condition nm_m198 m d k 16 [some (.ref cM), some (.int x1), some (.int x2)] g r)
theorem bM_condition_49 (L : Nat) (xs : Nat → Int32) (m d k : Nat) (n : Nat) (x1 x2 : Int32) (g : a2_G) (r : a2_A) : bk L xs nM_condition nm_m198 m d k (n + 1) 49 [some (.ref cM), some (.int x1), some (.int x2)] [] g r = BM_condition_49 L xs m d k x1 x2 g r := by
  show _ = ((lp L xs nM_condition nm_m198 m d k 16 [some (.ref cM), some (.int x1), some (.int x2)] g r) : Option fn_Z)
  exact (fs_gb (n := n + 0) rfl (t := 16) rfl (by decide)).trans rfl
def BM_condition_16 (L : Nat) (xs : Nat → Int32) (m d k : Nat) (x1 : Int32) (g : a2_G) (r : a2_A) : Option fn_Z := (if am_c2 .ne x1 0 = true then (BM_condition_52 L xs m d k x1 g r) else (if am_c2 .ne (g fM_bad) 0 = true then (BM_condition_52 L xs m d k x1 g r) else (fn_v (ev L xs m d nM_factor [.ref cM] g r) fun v5 g3 r4 => (if am_c2 .le v5 0 = true then (BM_condition_49 L xs m d k x1 v5 g3 r4) else (if am_c2 .ne (g3 fM_bad) 0 = true then (BM_condition_49 L xs m d k x1 v5 g3 r4) else (fn_v (ev L xs m d nM_behindFactor [.ref cM, .int v5] g3 r4) fun v8 g6 r7 => (BM_condition_49 L xs m d k v8 v5 g6 r7)))))))
theorem bM_condition_16 (L : Nat) (xs : Nat → Int32) (m d k : Nat) (n : Nat) (x1 : Int32) (g : a2_G) (r : a2_A) : bk L xs nM_condition nm_m198 m d k (n + 18) 16 [some (.ref cM), some (.int x1), none] [] g r = BM_condition_16 L xs m d k x1 g r := by
  show _ = ((if am_c2 .ne x1 0 = true then (BM_condition_52 L xs m d k x1 g r) else (if am_c2 .ne (g fM_bad) 0 = true then (BM_condition_52 L xs m d k x1 g r) else (fn_v (ev L xs m d nM_factor [.ref cM] g r) fun v5 g3 r4 => (if am_c2 .le v5 0 = true then (BM_condition_49 L xs m d k x1 v5 g3 r4) else (if am_c2 .ne (g3 fM_bad) 0 = true then (BM_condition_49 L xs m d k x1 v5 g3 r4) else (fn_v (ev L xs m d nM_behindFactor [.ref cM, .int v5] g3 r4) fun v8 g6 r7 => (BM_condition_49 L xs m d k v8 v5 g6 r7))))))) : Option fn_Z)
  refine (fs_r (n := n + 17) 1 (pc' := 17) (L' := [some (.ref cM), some (.int x1), none]) (S' := [.int x1]) rfl).trans ?_
  refine (fs_i (n := n + 16) rfl (t := 52) rfl (by decide)).trans (fs_ite ?_ ?_)
  · skip
    exact bM_condition_52 L xs m d k (n + 14) x1 g r
  · skip
    refine (fs_r (n := n + 14) 2 (pc' := 24) (L' := [some (.ref cM), some (.int x1), none]) (S' := [.int (g fM_bad)]) rfl).trans ?_
    refine (fs_i (n := n + 13) rfl (t := 52) rfl (by decide)).trans (fs_ite ?_ ?_)
    · skip
      exact bM_condition_52 L xs m d k (n + 11) x1 g r
    · skip
      refine (fs_r (n := n + 12) 1 (pc' := 28) (L' := [some (.ref cM), some (.int x1), none]) (S' := [.ref cM]) rfl).trans ?_
      refine (fs_cv (n := n + 11) (N := nm_m200) (as := [.ref cM]) (rest := []) rfl rfl (Or.inl rfl) rfl rfl rfl rfl rfl).trans (fs_fv fun v5 g3 r4 => ?_)
      refine (fs_r (n := n + 9) 2 (pc' := 33) (L' := [some (.ref cM), some (.int x1), some (.int v5)]) (S' := [.int v5]) rfl).trans ?_
      refine (fs_i (n := n + 8) rfl (t := 49) rfl (by decide)).trans (fs_ite ?_ ?_)
      · skip
        exact bM_condition_49 L xs m d k (n + 7) x1 v5 g3 r4
      · skip
        refine (fs_r (n := n + 6) 2 (pc' := 40) (L' := [some (.ref cM), some (.int x1), some (.int v5)]) (S' := [.int (g3 fM_bad)]) rfl).trans ?_
        refine (fs_i (n := n + 5) rfl (t := 49) rfl (by decide)).trans (fs_ite ?_ ?_)
        · skip
          exact bM_condition_49 L xs m d k (n + 4) x1 v5 g3 r4
        · skip
          refine (fs_r (n := n + 3) 2 (pc' := 45) (L' := [some (.ref cM), some (.int x1), some (.int v5)]) (S' := [.int v5, .ref cM]) rfl).trans ?_
          refine (fs_cv (n := n + 2) (N := nm_m206) (as := [.ref cM, .int v5]) (rest := []) rfl rfl (Or.inl rfl) rfl rfl rfl rfl rfl).trans (fs_fv fun v8 g6 r7 => ?_)
          refine (fs_r (n := n + 1) 1 (pc' := 49) (L' := [some (.ref cM), some (.int v8), some (.int v5)]) (S' := []) rfl).trans ?_
          exact bM_condition_49 L xs m d k (n + 0) v8 v5 g6 r7
theorem lM_condition_16 (L : Nat) (xs : Nat → Int32) (m d k : Nat) (x1 : Int32) (g : a2_G) (r : a2_A) : lp L xs nM_condition nm_m198 m d (k + 1) 16 [some (.ref cM), some (.int x1), none] g r = BM_condition_16 L xs m d k x1 g r := fs_lp.trans (bM_condition_16 L xs m d k 882 x1 g r)
def BM_condition_52_1 (L : Nat) (xs : Nat → Int32) (m d k : Nat) (x1 x2 : Int32) (g : a2_G) (r : a2_A) : Option fn_Z := (some (.inl (some (.int x1)), g, r))
theorem bM_condition_52_1 (L : Nat) (xs : Nat → Int32) (m d k : Nat) (n : Nat) (x1 x2 : Int32) (g : a2_G) (r : a2_A) : bk L xs nM_condition nm_m198 m d k (n + 2) 52 [some (.ref cM), some (.int x1), some (.int x2)] [] g r = BM_condition_52_1 L xs m d k x1 x2 g r := by
  show _ = ((some (.inl (some (.int x1)), g, r)) : Option fn_Z)
  refine (fs_r (n := n + 1) 1 (pc' := 53) (L' := [some (.ref cM), some (.int x1), some (.int x2)]) (S' := [.int x1]) rfl).trans ?_
  exact (fs_ri (n := n + 0) rfl rfl).trans rfl
def BM_condition_16_1 (L : Nat) (xs : Nat → Int32) (m d k : Nat) (x1 x2 : Int32) (g : a2_G) (r : a2_A) : Option fn_Z := (if am_c2 .ne x1 0 = true then (BM_condition_52_1 L xs m d k x1 x2 g r) else (if am_c2 .ne (g fM_bad) 0 = true then (BM_condition_52_1 L xs m d k x1 x2 g r) else (fn_v (ev L xs m d nM_factor [.ref cM] g r) fun v11 g9 r10 => (if am_c2 .le v11 0 = true then (BM_condition_49 L xs m d k x1 v11 g9 r10) else (if am_c2 .ne (g9 fM_bad) 0 = true then (BM_condition_49 L xs m d k x1 v11 g9 r10) else (fn_v (ev L xs m d nM_behindFactor [.ref cM, .int v11] g9 r10) fun v14 g12 r13 => (BM_condition_49 L xs m d k v14 v11 g12 r13)))))))
theorem bM_condition_16_1 (L : Nat) (xs : Nat → Int32) (m d k : Nat) (n : Nat) (x1 x2 : Int32) (g : a2_G) (r : a2_A) : bk L xs nM_condition nm_m198 m d k (n + 18) 16 [some (.ref cM), some (.int x1), some (.int x2)] [] g r = BM_condition_16_1 L xs m d k x1 x2 g r := by
  show _ = ((if am_c2 .ne x1 0 = true then (BM_condition_52_1 L xs m d k x1 x2 g r) else (if am_c2 .ne (g fM_bad) 0 = true then (BM_condition_52_1 L xs m d k x1 x2 g r) else (fn_v (ev L xs m d nM_factor [.ref cM] g r) fun v11 g9 r10 => (if am_c2 .le v11 0 = true then (BM_condition_49 L xs m d k x1 v11 g9 r10) else (if am_c2 .ne (g9 fM_bad) 0 = true then (BM_condition_49 L xs m d k x1 v11 g9 r10) else (fn_v (ev L xs m d nM_behindFactor [.ref cM, .int v11] g9 r10) fun v14 g12 r13 => (BM_condition_49 L xs m d k v14 v11 g12 r13))))))) : Option fn_Z)
  refine (fs_r (n := n + 17) 1 (pc' := 17) (L' := [some (.ref cM), some (.int x1), some (.int x2)]) (S' := [.int x1]) rfl).trans ?_
  refine (fs_i (n := n + 16) rfl (t := 52) rfl (by decide)).trans (fs_ite ?_ ?_)
  · skip
    exact bM_condition_52_1 L xs m d k (n + 14) x1 x2 g r
  · skip
    refine (fs_r (n := n + 14) 2 (pc' := 24) (L' := [some (.ref cM), some (.int x1), some (.int x2)]) (S' := [.int (g fM_bad)]) rfl).trans ?_
    refine (fs_i (n := n + 13) rfl (t := 52) rfl (by decide)).trans (fs_ite ?_ ?_)
    · skip
      exact bM_condition_52_1 L xs m d k (n + 11) x1 x2 g r
    · skip
      refine (fs_r (n := n + 12) 1 (pc' := 28) (L' := [some (.ref cM), some (.int x1), some (.int x2)]) (S' := [.ref cM]) rfl).trans ?_
      refine (fs_cv (n := n + 11) (N := nm_m200) (as := [.ref cM]) (rest := []) rfl rfl (Or.inl rfl) rfl rfl rfl rfl rfl).trans (fs_fv fun v11 g9 r10 => ?_)
      refine (fs_r (n := n + 9) 2 (pc' := 33) (L' := [some (.ref cM), some (.int x1), some (.int v11)]) (S' := [.int v11]) rfl).trans ?_
      refine (fs_i (n := n + 8) rfl (t := 49) rfl (by decide)).trans (fs_ite ?_ ?_)
      · skip
        exact bM_condition_49 L xs m d k (n + 7) x1 v11 g9 r10
      · skip
        refine (fs_r (n := n + 6) 2 (pc' := 40) (L' := [some (.ref cM), some (.int x1), some (.int v11)]) (S' := [.int (g9 fM_bad)]) rfl).trans ?_
        refine (fs_i (n := n + 5) rfl (t := 49) rfl (by decide)).trans (fs_ite ?_ ?_)
        · skip
          exact bM_condition_49 L xs m d k (n + 4) x1 v11 g9 r10
        · skip
          refine (fs_r (n := n + 3) 2 (pc' := 45) (L' := [some (.ref cM), some (.int x1), some (.int v11)]) (S' := [.int v11, .ref cM]) rfl).trans ?_
          refine (fs_cv (n := n + 2) (N := nm_m206) (as := [.ref cM, .int v11]) (rest := []) rfl rfl (Or.inl rfl) rfl rfl rfl rfl rfl).trans (fs_fv fun v14 g12 r13 => ?_)
          refine (fs_r (n := n + 1) 1 (pc' := 49) (L' := [some (.ref cM), some (.int v14), some (.int v11)]) (S' := []) rfl).trans ?_
          exact bM_condition_49 L xs m d k (n + 0) v14 v11 g12 r13
theorem lM_condition_16_1 (L : Nat) (xs : Nat → Int32) (m d k : Nat) (x1 x2 : Int32) (g : a2_G) (r : a2_A) : lp L xs nM_condition nm_m198 m d (k + 1) 16 [some (.ref cM), some (.int x1), some (.int x2)] g r = BM_condition_16_1 L xs m d k x1 x2 g r := fs_lp.trans (bM_condition_16_1 L xs m d k 882 x1 x2 g r)
theorem eM_condition (L : Nat) (xs : Nat → Int32) (m d k : Nat) (n : Nat) (g : a2_G) (r : a2_A) : bk L xs nM_condition nm_m198 m d k (n + 28) 0 [some (.ref cM), none, none] [] g r = (fn_n (ev L xs m d nM_joint [.ref cM] (upd (upd g fM_marks 0) fM_joints 0) r) fun g1 r2 => (BM_condition_16 L xs m d k 0 g1 r2)) := by
  refine (fs_r (n := n + 26) 2 (pc' := 2) (L' := [some (.ref cM), none, none]) (S' := [.int 0, .ref cM]) rfl).trans ?_
  refine (fs_pf (n := n + 25) (ci := 9) (j := 54) rfl rfl rfl rfl).trans ?_
  refine (fs_r (n := n + 23) 2 (pc' := 7) (L' := [some (.ref cM), none, none]) (S' := [.int 0, .ref cM]) rfl).trans ?_
  refine (fs_pf (n := n + 22) (ci := 9) (j := 57) rfl rfl rfl rfl).trans ?_
  refine (fs_r (n := n + 21) 1 (pc' := 11) (L' := [some (.ref cM), none, none]) (S' := [.ref cM]) rfl).trans ?_
  refine (fs_cn (n := n + 20) (N := nm_m199) (as := [.ref cM]) (rest := []) rfl rfl (Or.inl rfl) rfl rfl rfl rfl rfl).trans (fs_fn fun g1 r2 => ?_)
  refine (fs_r (n := n + 18) 2 (pc' := 16) (L' := [some (.ref cM), some (.int 0), none]) (S' := []) rfl).trans ?_
  exact bM_condition_16 L xs m d k (n + 0) 0 g1 r2
theorem qM_condition (L : Nat) (xs : Nat → Int32) (m d : Nat) (g : a2_G) (r : a2_A) : ev L xs (m + 1) (d + 1) nM_condition [.ref cM] g r = (fn_n (ev L xs (m + 1) d nM_joint [.ref cM] (upd (upd g fM_marks 0) fM_joints 0) r) fun g1 r2 => (BM_condition_16 L xs (m + 1) d m 0 g1 r2)) := (fs_ev (M := nm_m198) rfl rfl).trans (eM_condition L xs (m + 1) d m 872 g r)
/-- CobolParserModel.joint()V -/
theorem eM_joint (L : Nat) (xs : Nat → Int32) (m d k : Nat) (n : Nat) (g : a2_G) (r : a2_A) : bk L xs nM_joint nm_m199 m d k (n + 22) 0 [some (.ref cM)] [] g r = (if am_inr (g fM_joints) (r fM_andMany).1 = true then (if am_inr (g fM_joints) (r fM_orMany).1 = true then (some (.inl none, (upd (upd g fM_joints ((g fM_joints) + 1)) fM_subject 0), (a2_ua (a2_ua r fM_andMany ((r fM_andMany).1, (upd (r fM_andMany).2 ((g fM_joints) : Int32).toNatClampNeg 0))) fM_orMany ((r fM_orMany).1, (upd (r fM_orMany).2 ((g fM_joints) : Int32).toNatClampNeg 0))))) else none) else none) := by
  refine (fs_r (n := n + 17) 5 (pc' := 9) (L' := [some (.ref cM)]) (S' := [.int 0, .int (g fM_joints), .ref 10961]) rfl).trans ?_
  refine (fs_is (n := n + 16) (k := 961) rfl rfl).trans (fs_ite ?_ rfl)
  refine (fs_r (n := n + 11) 5 (pc' := 19) (L' := [some (.ref cM)]) (S' := [.int 0, .int (g fM_joints), .ref 10964]) rfl).trans ?_
  refine (fs_is (n := n + 10) (k := 964) rfl rfl).trans (fs_ite ?_ rfl)
  refine (fs_r (n := n + 5) 5 (pc' := 27) (L' := [some (.ref cM)]) (S' := [.int ((g fM_joints) + 1), .ref cM]) rfl).trans ?_
  refine (fs_pf (n := n + 4) (ci := 9) (j := 57) rfl rfl rfl rfl).trans ?_
  refine (fs_r (n := n + 2) 2 (pc' := 32) (L' := [some (.ref cM)]) (S' := [.int 0, .ref cM]) rfl).trans ?_
  refine (fs_pf (n := n + 1) (ci := 9) (j := 55) rfl rfl rfl rfl).trans ?_
  exact (fs_rv (n := n + 0) rfl rfl).trans rfl
theorem qM_joint (L : Nat) (xs : Nat → Int32) (m d : Nat) (g : a2_G) (r : a2_A) : ev L xs (m + 1) (d + 1) nM_joint [.ref cM] g r = (if am_inr (g fM_joints) (r fM_andMany).1 = true then (if am_inr (g fM_joints) (r fM_orMany).1 = true then (some (.inl none, (upd (upd g fM_joints ((g fM_joints) + 1)) fM_subject 0), (a2_ua (a2_ua r fM_andMany ((r fM_andMany).1, (upd (r fM_andMany).2 ((g fM_joints) : Int32).toNatClampNeg 0))) fM_orMany ((r fM_orMany).1, (upd (r fM_orMany).2 ((g fM_joints) : Int32).toNatClampNeg 0))))) else none) else none) := (fs_ev (M := nm_m199) rfl rfl).trans (eM_joint L xs (m + 1) d m 878 g r)
/-- CobolParserModel.factor()I -/
def BM_factor_36 (L : Nat) (xs : Nat → Int32) (m d k : Nat) (g : a2_G) (r : a2_A) : Option fn_Z := (fn_v (ev L xs m d nM_isSign [.ref cM, .int (g fM_at), .int 0] g r) fun v6 g4 r5 => (if am_c2 .eq v6 0 = true then (fn_v (ev L xs m d nM_isBehind [.ref cM] g4 r5) fun v9 g7 r8 => (if am_c2 .eq v9 0 = true then (fn_v (ev L xs m d nM_operand [.ref cM] g7 r8) fun v12 g10 r11 => (if am_c2 .eq (g10 fM_bad) 0 = true then (fn_v (ev L xs m d nM_isBehind [.ref cM] g10 r11) fun v15 g13 r14 => (if am_c2 .eq v15 0 = true then (if am_c2 .le (g13 fM_subject) 0 = true then (fn_v (ev L xs m d nM_isKind [.ref cM, .int ((g13 fM_at) - 1), .int 1] g13 r14) fun v18 g16 r17 => (if am_c2 .ne v18 0 = true then (if am_inr v12 (r17 fM_kind).1 = true then (fn_v (ev L xs m d nM_passed [.ref cM] g16 (a2_ua r17 fM_kind ((r17 fM_kind).1, (upd (r17 fM_kind).2 (v12 : Int32).toNatClampNeg 54)))) fun v21 g19 r20 => (if am_inr v12 (r20 fM_value).1 = true then (some (.inl (some (.int v12)), g19, (a2_ua r20 fM_value ((r20 fM_value).1, (upd (r20 fM_value).2 (v12 : Int32).toNatClampNeg v21))))) else none)) else none) else (fn_v (ev L xs m d nM_fail [.ref cM, .int 1, .int (g16 fM_at)] g16 r17) fun v24 g22 r23 => (some (.inl (some (.int 0)), g22, r23))))) else (if am_inr v12 (r14 fM_place).1 = true then (fn_v (ev L xs m d nM_make [.ref cM, .int 53, .int (g13 fM_compared), .int ((r14 fM_place).2 (v12 : Int32).toNatClampNeg)] g13 r14) fun v27 g25 r26 => (if am_inr v27 (r26 fM_extra).1 = true then (fn_n (ev L xs m d nM_attach [.ref cM, .int v27, .int v12] g25 (a2_ua r26 fM_extra ((r26 fM_extra).1, (upd (r26 fM_extra).2 (v27 : Int32).toNatClampNeg (g25 fM_subject))))) fun g28 r29 => (some (.inl (some (.int v27)), g28, r29))) else none)) else none)) else (if am_inr v12 (r14 fM_place).1 = true then (fn_v (ev L xs m d nM_make [.ref cM, .int 53, .int 0, .int ((r14 fM_place).2 (v12 : Int32).toNatClampNeg)] g13 r14) fun v32 g30 r31 => (fn_n (ev L xs m d nM_attach [.ref cM, .int v32, .int v12] g30 r31) fun g33 r34 => (if am_inr v32 (r34 fM_extra).1 = true then (fn_n (ev L xs m d nM_compare [.ref cM, .int v32] (upd g33 fM_subject v12) (a2_ua r34 fM_extra ((r34 fM_extra).1, (upd (r34 fM_extra).2 (v32 : Int32).toNatClampNeg v12)))) fun g35 r36 => (some (.inl (some (.int v32)), g35, r36))) else none))) else none))) else (some (.inl (some (.int 0)), g10, r11)))) else (if am_c2 .ne (g7 fM_subject) 0 = true then (fn_v (ev L xs m d nM_make [.ref cM, .int 53, .int 0, .int (g7 fM_at)] g7 r8) fun v39 g37 r38 => (if am_inr v39 (r38 fM_extra).1 = true then (fn_n (ev L xs m d nM_compare [.ref cM, .int v39] g37 (a2_ua r38 fM_extra ((r38 fM_extra).1, (upd (r38 fM_extra).2 (v39 : Int32).toNatClampNeg (g37 fM_subject))))) fun g40 r41 => (some (.inl (some (.int v39)), g40, r41))) else none)) else (fn_v (ev L xs m d nM_fail [.ref cM, .int 1, .int (g7 fM_at)] g7 r8) fun v44 g42 r43 => (some (.inl (some (.int 0)), g42, r43)))))) else (fn_n (ev L xs m d nM_deeper [.ref cM, .int (-1)] g4 r5) fun g45 r46 => (fn_n (ev L xs m d nM_joint [.ref cM] g45 r46) fun g47 r48 => (some (.inl (some (.int 0)), g47, r48))))))
theorem bM_factor_36 (L : Nat) (xs : Nat → Int32) (m d k : Nat) (n : Nat) (g : a2_G) (r : a2_A) : bk L xs nM_factor nm_m200 m d k (n + 44) 36 [some (.ref cM), none, none] [] g r = BM_factor_36 L xs m d k g r := by
  show _ = ((fn_v (ev L xs m d nM_isSign [.ref cM, .int (g fM_at), .int 0] g r) fun v6 g4 r5 => (if am_c2 .eq v6 0 = true then (fn_v (ev L xs m d nM_isBehind [.ref cM] g4 r5) fun v9 g7 r8 => (if am_c2 .eq v9 0 = true then (fn_v (ev L xs m d nM_operand [.ref cM] g7 r8) fun v12 g10 r11 => (if am_c2 .eq (g10 fM_bad) 0 = true then (fn_v (ev L xs m d nM_isBehind [.ref cM] g10 r11) fun v15 g13 r14 => (if am_c2 .eq v15 0 = true then (if am_c2 .le (g13 fM_subject) 0 = true then (fn_v (ev L xs m d nM_isKind [.ref cM, .int ((g13 fM_at) - 1), .int 1] g13 r14) fun v18 g16 r17 => (if am_c2 .ne v18 0 = true then (if am_inr v12 (r17 fM_kind).1 = true then (fn_v (ev L xs m d nM_passed [.ref cM] g16 (a2_ua r17 fM_kind ((r17 fM_kind).1, (upd (r17 fM_kind).2 (v12 : Int32).toNatClampNeg 54)))) fun v21 g19 r20 => (if am_inr v12 (r20 fM_value).1 = true then (some (.inl (some (.int v12)), g19, (a2_ua r20 fM_value ((r20 fM_value).1, (upd (r20 fM_value).2 (v12 : Int32).toNatClampNeg v21))))) else none)) else none) else (fn_v (ev L xs m d nM_fail [.ref cM, .int 1, .int (g16 fM_at)] g16 r17) fun v24 g22 r23 => (some (.inl (some (.int 0)), g22, r23))))) else (if am_inr v12 (r14 fM_place).1 = true then (fn_v (ev L xs m d nM_make [.ref cM, .int 53, .int (g13 fM_compared), .int ((r14 fM_place).2 (v12 : Int32).toNatClampNeg)] g13 r14) fun v27 g25 r26 => (if am_inr v27 (r26 fM_extra).1 = true then (fn_n (ev L xs m d nM_attach [.ref cM, .int v27, .int v12] g25 (a2_ua r26 fM_extra ((r26 fM_extra).1, (upd (r26 fM_extra).2 (v27 : Int32).toNatClampNeg (g25 fM_subject))))) fun g28 r29 => (some (.inl (some (.int v27)), g28, r29))) else none)) else none)) else (if am_inr v12 (r14 fM_place).1 = true then (fn_v (ev L xs m d nM_make [.ref cM, .int 53, .int 0, .int ((r14 fM_place).2 (v12 : Int32).toNatClampNeg)] g13 r14) fun v32 g30 r31 => (fn_n (ev L xs m d nM_attach [.ref cM, .int v32, .int v12] g30 r31) fun g33 r34 => (if am_inr v32 (r34 fM_extra).1 = true then (fn_n (ev L xs m d nM_compare [.ref cM, .int v32] (upd g33 fM_subject v12) (a2_ua r34 fM_extra ((r34 fM_extra).1, (upd (r34 fM_extra).2 (v32 : Int32).toNatClampNeg v12)))) fun g35 r36 => (some (.inl (some (.int v32)), g35, r36))) else none))) else none))) else (some (.inl (some (.int 0)), g10, r11)))) else (if am_c2 .ne (g7 fM_subject) 0 = true then (fn_v (ev L xs m d nM_make [.ref cM, .int 53, .int 0, .int (g7 fM_at)] g7 r8) fun v39 g37 r38 => (if am_inr v39 (r38 fM_extra).1 = true then (fn_n (ev L xs m d nM_compare [.ref cM, .int v39] g37 (a2_ua r38 fM_extra ((r38 fM_extra).1, (upd (r38 fM_extra).2 (v39 : Int32).toNatClampNeg (g37 fM_subject))))) fun g40 r41 => (some (.inl (some (.int v39)), g40, r41))) else none)) else (fn_v (ev L xs m d nM_fail [.ref cM, .int 1, .int (g7 fM_at)] g7 r8) fun v44 g42 r43 => (some (.inl (some (.int 0)), g42, r43)))))) else (fn_n (ev L xs m d nM_deeper [.ref cM, .int (-1)] g4 r5) fun g45 r46 => (fn_n (ev L xs m d nM_joint [.ref cM] g45 r46) fun g47 r48 => (some (.inl (some (.int 0)), g47, r48)))))) : Option fn_Z)
  refine (fs_r (n := n + 40) 4 (pc' := 42) (L' := [some (.ref cM), none, none]) (S' := [.int 0, .int (g fM_at), .ref cM]) rfl).trans ?_
  refine (fs_cv (n := n + 39) (N := nm_m203) (as := [.ref cM, .int (g fM_at), .int 0]) (rest := []) rfl rfl (Or.inl rfl) rfl rfl rfl rfl rfl).trans (fs_fv fun v6 g4 r5 => ?_)
  refine (fs_i (n := n + 38) rfl (t := 59) rfl (by decide)).trans (fs_ite ?_ ?_)
  · skip
    refine (fs_r (n := n + 37) 1 (pc' := 60) (L' := [some (.ref cM), none, none]) (S' := [.ref cM]) rfl).trans ?_
    refine (fs_cv (n := n + 36) (N := nm_m204) (as := [.ref cM]) (rest := []) rfl rfl (Or.inl rfl) rfl rfl rfl rfl rfl).trans (fs_fv fun v9 g7 r8 => ?_)
    refine (fs_i (n := n + 35) rfl (t := 114) rfl (by decide)).trans (fs_ite ?_ ?_)
    · skip
      refine (fs_r (n := n + 34) 1 (pc' := 115) (L' := [some (.ref cM), none, none]) (S' := [.ref cM]) rfl).trans ?_
      refine (fs_cv (n := n + 33) (N := nm_m176) (as := [.ref cM]) (rest := []) rfl rfl (Or.inl rfl) rfl rfl rfl rfl rfl).trans (fs_fv fun v12 g10 r11 => ?_)
      refine (fs_r (n := n + 30) 3 (pc' := 123) (L' := [some (.ref cM), some (.int v12), none]) (S' := [.int (g10 fM_bad)]) rfl).trans ?_
      refine (fs_i (n := n + 29) rfl (t := 128) rfl (by decide)).trans (fs_ite ?_ ?_)
      · skip
        refine (fs_r (n := n + 28) 1 (pc' := 129) (L' := [some (.ref cM), some (.int v12), none]) (S' := [.ref cM]) rfl).trans ?_
        refine (fs_cv (n := n + 27) (N := nm_m204) (as := [.ref cM]) (rest := []) rfl rfl (Or.inl rfl) rfl rfl rfl rfl rfl).trans (fs_fv fun v15 g13 r14 => ?_)
        refine (fs_i (n := n + 26) rfl (t := 174) rfl (by decide)).trans (fs_ite ?_ ?_)
        · skip
          refine (fs_r (n := n + 24) 2 (pc' := 178) (L' := [some (.ref cM), some (.int v12), none]) (S' := [.int (g13 fM_subject)]) rfl).trans ?_
          refine (fs_i (n := n + 23) rfl (t := 216) rfl (by decide)).trans (fs_ite ?_ ?_)
          · skip
            refine (fs_r (n := n + 17) 6 (pc' := 224) (L' := [some (.ref cM), some (.int v12), none]) (S' := [.int 1, .int ((g13 fM_at) - 1), .ref cM]) rfl).trans ?_
            refine (fs_cv (n := n + 16) (N := nm_m166) (as := [.ref cM, .int ((g13 fM_at) - 1), .int 1]) (rest := []) rfl rfl (Or.inl rfl) rfl rfl rfl rfl rfl).trans (fs_fv fun v18 g16 r17 => ?_)
            refine (fs_i (n := n + 15) rfl (t := 242) rfl (by decide)).trans (fs_ite ?_ ?_)
            · skip
              refine (fs_r (n := n + 11) 4 (pc' := 249) (L' := [some (.ref cM), some (.int v12), none]) (S' := [.int 54, .int v12, .ref 10909]) rfl).trans ?_
              refine (fs_is (n := n + 10) (k := 909) rfl rfl).trans (fs_ite ?_ rfl)
              refine (fs_r (n := n + 6) 4 (pc' := 256) (L' := [some (.ref cM), some (.int v12), none]) (S' := [.ref cM, .int v12, .ref 10910]) rfl).trans ?_
              refine (fs_cv (n := n + 5) (N := nm_m171) (as := [.ref cM]) (rest := [.int v12, .ref 10910]) rfl rfl (Or.inl rfl) rfl rfl rfl rfl rfl).trans (fs_fv fun v21 g19 r20 => ?_)
              refine (fs_is (n := n + 4) (k := 910) rfl rfl).trans (fs_ite ?_ rfl)
              refine (fs_r (n := n + 3) 1 (pc' := 261) (L' := [some (.ref cM), some (.int v12), none]) (S' := [.int v12]) rfl).trans ?_
              exact (fs_ri (n := n + 2) rfl rfl).trans rfl
            · skip
              refine (fs_r (n := n + 11) 4 (pc' := 236) (L' := [some (.ref cM), some (.int v12), none]) (S' := [.int (g16 fM_at), .int 1, .ref cM]) rfl).trans ?_
              refine (fs_cv (n := n + 10) (N := nm_m164) (as := [.ref cM, .int 1, .int (g16 fM_at)]) (rest := []) rfl rfl (Or.inl rfl) rfl rfl rfl rfl rfl).trans (fs_fv fun v24 g22 r23 => ?_)
              refine (fs_r (n := n + 8) 2 (pc' := 241) (L' := [some (.ref cM), some (.int v12), none]) (S' := [.int 0]) rfl).trans ?_
              exact (fs_ri (n := n + 7) rfl rfl).trans rfl
          · skip
            refine (fs_r (n := n + 16) 7 (pc' := 193) (L' := [some (.ref cM), some (.int v12), none]) (S' := [.int v12, .ref 10911, .int (g13 fM_compared), .int 53, .ref cM]) rfl).trans ?_
            refine (fs_il (n := n + 15) (k := 911) rfl rfl).trans (fs_ite ?_ rfl)
            refine (fs_cv (n := n + 14) (N := nm_m160) (as := [.ref cM, .int 53, .int (g13 fM_compared), .int ((r14 fM_place).2 (v12 : Int32).toNatClampNeg)]) (rest := []) rfl rfl (Or.inl rfl) rfl rfl rfl rfl rfl).trans (fs_fv fun v27 g25 r26 => ?_)
            refine (fs_r (n := n + 8) 6 (pc' := 207) (L' := [some (.ref cM), some (.int v12), some (.int v27)]) (S' := [.int (g25 fM_subject), .int v27, .ref 10912]) rfl).trans ?_
            refine (fs_is (n := n + 7) (k := 912) rfl rfl).trans (fs_ite ?_ rfl)
            refine (fs_r (n := n + 4) 3 (pc' := 211) (L' := [some (.ref cM), some (.int v12), some (.int v27)]) (S' := [.int v12, .int v27, .ref cM]) rfl).trans ?_
            refine (fs_cn (n := n + 3) (N := nm_m173) (as := [.ref cM, .int v27, .int v12]) (rest := []) rfl rfl (Or.inl rfl) rfl rfl rfl rfl rfl).trans (fs_fn fun g28 r29 => ?_)
            refine (fs_r (n := n + 2) 1 (pc' := 215) (L' := [some (.ref cM), some (.int v12), some (.int v27)]) (S' := [.int v27]) rfl).trans ?_
            exact (fs_ri (n := n + 1) rfl rfl).trans rfl
        · skip
          refine (fs_r (n := n + 20) 6 (pc' := 144) (L' := [some (.ref cM), some (.int v12), none]) (S' := [.int v12, .ref 10911, .int 0, .int 53, .ref cM]) rfl).trans ?_
          refine (fs_il (n := n + 19) (k := 911) rfl rfl).trans (fs_ite ?_ rfl)
          refine (fs_cv (n := n + 18) (N := nm_m160) (as := [.ref cM, .int 53, .int 0, .int ((r14 fM_place).2 (v12 : Int32).toNatClampNeg)]) (rest := []) rfl rfl (Or.inl rfl) rfl rfl rfl rfl rfl).trans (fs_fv fun v32 g30 r31 => ?_)
          refine (fs_r (n := n + 14) 4 (pc' := 152) (L' := [some (.ref cM), some (.int v12), some (.int v32)]) (S' := [.int v12, .int v32, .ref cM]) rfl).trans ?_
          refine (fs_cn (n := n + 13) (N := nm_m173) (as := [.ref cM, .int v32, .int v12]) (rest := []) rfl rfl (Or.inl rfl) rfl rfl rfl rfl rfl).trans (fs_fn fun g33 r34 => ?_)
          refine (fs_r (n := n + 9) 4 (pc' := 161) (L' := [some (.ref cM), some (.int v12), some (.int v32)]) (S' := [.int v12, .int v32, .ref 10912]) rfl).trans ?_
          refine (fs_is (n := n + 8) (k := 912) rfl rfl).trans (fs_ite ?_ rfl)
          refine (fs_r (n := n + 6) 2 (pc' := 164) (L' := [some (.ref cM), some (.int v12), some (.int v32)]) (S' := [.int v12, .ref cM]) rfl).trans ?_
          refine (fs_pf (n := n + 5) (ci := 9) (j := 55) rfl rfl rfl rfl).trans ?_
          refine (fs_r (n := n + 3) 2 (pc' := 169) (L' := [some (.ref cM), some (.int v12), some (.int v32)]) (S' := [.int v32, .ref cM]) rfl).trans ?_
          refine (fs_cn (n := n + 2) (N := nm_m205) (as := [.ref cM, .int v32]) (rest := []) rfl rfl (Or.inl rfl) rfl rfl rfl rfl rfl).trans (fs_fn fun g35 r36 => ?_)
          refine (fs_r (n := n + 1) 1 (pc' := 173) (L' := [some (.ref cM), some (.int v12), some (.int v32)]) (S' := [.int v32]) rfl).trans ?_
          exact (fs_ri (n := n + 0) rfl rfl).trans rfl
      · skip
        refine (fs_r (n := n + 28) 1 (pc' := 127) (L' := [some (.ref cM), some (.int v12), none]) (S' := [.int 0]) rfl).trans ?_
        exact (fs_ri (n := n + 27) rfl rfl).trans rfl
    · skip
      refine (fs_r (n := n + 33) 2 (pc' := 70) (L' := [some (.ref cM), none, none]) (S' := [.int (g7 fM_subject)]) rfl).trans ?_
      refine (fs_i (n := n + 32) rfl (t := 85) rfl (by decide)).trans (fs_ite ?_ ?_)
      · skip
        refine (fs_r (n := n + 27) 5 (pc' := 93) (L' := [some (.ref cM), none, none]) (S' := [.int (g7 fM_at), .int 0, .int 53, .ref cM]) rfl).trans ?_
        refine (fs_cv (n := n + 26) (N := nm_m160) (as := [.ref cM, .int 53, .int 0, .int (g7 fM_at)]) (rest := []) rfl rfl (Or.inl rfl) rfl rfl rfl rfl rfl).trans (fs_fv fun v39 g37 r38 => ?_)
        refine (fs_r (n := n + 20) 6 (pc' := 106) (L' := [some (.ref cM), some (.int v39), none]) (S' := [.int (g37 fM_subject), .int v39, .ref 10912]) rfl).trans ?_
        refine (fs_is (n := n + 19) (k := 912) rfl rfl).trans (fs_ite ?_ rfl)
        refine (fs_r (n := n + 17) 2 (pc' := 109) (L' := [some (.ref cM), some (.int v39), none]) (S' := [.int v39, .ref cM]) rfl).trans ?_
        refine (fs_cn (n := n + 16) (N := nm_m205) (as := [.ref cM, .int v39]) (rest := []) rfl rfl (Or.inl rfl) rfl rfl rfl rfl rfl).trans (fs_fn fun g40 r41 => ?_)
        refine (fs_r (n := n + 15) 1 (pc' := 113) (L' := [some (.ref cM), some (.int v39), none]) (S' := [.int v39]) rfl).trans ?_
        exact (fs_ri (n := n + 14) rfl rfl).trans rfl
      · skip
        refine (fs_r (n := n + 28) 4 (pc' := 79) (L' := [some (.ref cM), none, none]) (S' := [.int (g7 fM_at), .int 1, .ref cM]) rfl).trans ?_
        refine (fs_cv (n := n + 27) (N := nm_m164) (as := [.ref cM, .int 1, .int (g7 fM_at)]) (rest := []) rfl rfl (Or.inl rfl) rfl rfl rfl rfl rfl).trans (fs_fv fun v44 g42 r43 => ?_)
        refine (fs_r (n := n + 25) 2 (pc' := 84) (L' := [some (.ref cM), none, none]) (S' := [.int 0]) rfl).trans ?_
        exact (fs_ri (n := n + 24) rfl rfl).trans rfl
  · skip
    refine (fs_r (n := n + 36) 2 (pc' := 50) (L' := [some (.ref cM), none, none]) (S' := [.int (-1), .ref cM]) rfl).trans ?_
    refine (fs_cn (n := n + 35) (N := nm_m202) (as := [.ref cM, .int (-1)]) (rest := []) rfl rfl (Or.inl rfl) rfl rfl rfl rfl rfl).trans (fs_fn fun g45 r46 => ?_)
    refine (fs_r (n := n + 34) 1 (pc' := 54) (L' := [some (.ref cM), none, none]) (S' := [.ref cM]) rfl).trans ?_
    refine (fs_cn (n := n + 33) (N := nm_m199) (as := [.ref cM]) (rest := []) rfl rfl (Or.inl rfl) rfl rfl rfl rfl rfl).trans (fs_fn fun g47 r48 => ?_)
    refine (fs_r (n := n + 32) 1 (pc' := 58) (L' := [some (.ref cM), none, none]) (S' := [.int 0]) rfl).trans ?_
    exact (fs_ri (n := n + 31) rfl rfl).trans rfl
theorem eM_factor (L : Nat) (xs : Nat → Int32) (m d k : Nat) (n : Nat) (g : a2_G) (r : a2_A) : bk L xs nM_factor nm_m200 m d k (n + 57) 0 [some (.ref cM), none, none] [] g r = (fn_v (ev L xs m d nM_isWord [.ref cM, .int (g fM_at), .int 64] g r) fun v3 g1 r2 => (if am_c2 .eq v3 0 = true then (BM_factor_36 L xs m d k g1 r2) else (fn_v (ev L xs m d nM_isComparing [.ref cM, .int ((g1 fM_at) + 1)] g1 r2) fun v51 g49 r50 => (if am_c2 .ne v51 0 = true then (BM_factor_36 L xs m d k g49 r50) else (fn_n (ev L xs m d nM_deeper [.ref cM, .int (g49 fM_at)] g49 r50) fun g52 r53 => (some (.inl (some (.int 0)), g52, r53))))))) := by
  refine (fs_r (n := n + 53) 4 (pc' := 7) (L' := [some (.ref cM), none, none]) (S' := [.int 64, .int (g fM_at), .ref cM]) rfl).trans ?_
  refine (fs_cv (n := n + 52) (N := nm_m167) (as := [.ref cM, .int (g fM_at), .int 64]) (rest := []) rfl rfl (Or.inl rfl) rfl rfl rfl rfl rfl).trans (fs_fv fun v3 g1 r2 => ?_)
  refine (fs_i (n := n + 51) rfl (t := 36) rfl (by decide)).trans (fs_ite ?_ ?_)
  · skip
    exact bM_factor_36 L xs m d k (n + 7) g1 r2
  · skip
    refine (fs_r (n := n + 46) 5 (pc' := 20) (L' := [some (.ref cM), none, none]) (S' := [.int ((g1 fM_at) + 1), .ref cM]) rfl).trans ?_
    refine (fs_cv (n := n + 45) (N := nm_m201) (as := [.ref cM, .int ((g1 fM_at) + 1)]) (rest := []) rfl rfl (Or.inl rfl) rfl rfl rfl rfl rfl).trans (fs_fv fun v51 g49 r50 => ?_)
    refine (fs_i (n := n + 44) rfl (t := 36) rfl (by decide)).trans (fs_ite ?_ ?_)
    · skip
      exact bM_factor_36 L xs m d k (n + 0) g49 r50
    · skip
      refine (fs_r (n := n + 41) 3 (pc' := 31) (L' := [some (.ref cM), none, none]) (S' := [.int (g49 fM_at), .ref cM]) rfl).trans ?_
      refine (fs_cn (n := n + 40) (N := nm_m202) (as := [.ref cM, .int (g49 fM_at)]) (rest := []) rfl rfl (Or.inl rfl) rfl rfl rfl rfl rfl).trans (fs_fn fun g52 r53 => ?_)
      refine (fs_r (n := n + 39) 1 (pc' := 35) (L' := [some (.ref cM), none, none]) (S' := [.int 0]) rfl).trans ?_
      exact (fs_ri (n := n + 38) rfl rfl).trans rfl
theorem qM_factor (L : Nat) (xs : Nat → Int32) (m d : Nat) (g : a2_G) (r : a2_A) : ev L xs (m + 1) (d + 1) nM_factor [.ref cM] g r = (fn_v (ev L xs (m + 1) d nM_isWord [.ref cM, .int (g fM_at), .int 64] g r) fun v3 g1 r2 => (if am_c2 .eq v3 0 = true then (BM_factor_36 L xs (m + 1) d m g1 r2) else (fn_v (ev L xs (m + 1) d nM_isComparing [.ref cM, .int ((g1 fM_at) + 1)] g1 r2) fun v51 g49 r50 => (if am_c2 .ne v51 0 = true then (BM_factor_36 L xs (m + 1) d m g49 r50) else (fn_n (ev L xs (m + 1) d nM_deeper [.ref cM, .int (g49 fM_at)] g49 r50) fun g52 r53 => (some (.inl (some (.int 0)), g52, r53))))))) := (fs_ev (M := nm_m200) rfl rfl).trans (eM_factor L xs (m + 1) d m 843 g r)
/-- CobolParserModel.isComparing(I)Z -/
def BM_isComparing_53 (L : Nat) (xs : Nat → Int32) (m d k : Nat) (x1 x2 : Int32) (g : a2_G) (r : a2_A) : Option fn_Z := (if x2 = 0 ∨ x2 = 1 then some (.inl (some (.int x2)), g, r) else none)
theorem bM_isComparing_53 (L : Nat) (xs : Nat → Int32) (m d k : Nat) (n : Nat) (x1 x2 : Int32) (g : a2_G) (r : a2_A) : bk L xs nM_isComparing nm_m201 m d k (n + 1) 53 [some (.ref cM), some (.int x1)] [.int x2] g r = BM_isComparing_53 L xs m d k x1 x2 g r := by
  show _ = ((if x2 = 0 ∨ x2 = 1 then some (.inl (some (.int x2)), g, r) else none) : Option fn_Z)
  exact (fs_rb (n := n + 0) rfl rfl).trans rfl
def BM_isComparing_52 (L : Nat) (xs : Nat → Int32) (m d k : Nat) (x1 : Int32) (g : a2_G) (r : a2_A) : Option fn_Z := (BM_isComparing_53 L xs m d k x1 0 g r)
theorem bM_isComparing_52 (L : Nat) (xs : Nat → Int32) (m d k : Nat) (n : Nat) (x1 : Int32) (g : a2_G) (r : a2_A) : bk L xs nM_isComparing nm_m201 m d k (n + 2) 52 [some (.ref cM), some (.int x1)] [] g r = BM_isComparing_52 L xs m d k x1 g r := by
  show _ = ((BM_isComparing_53 L xs m d k x1 0 g r) : Option fn_Z)
  refine (fs_r (n := n + 1) 1 (pc' := 53) (L' := [some (.ref cM), some (.int x1)]) (S' := [.int 0]) rfl).trans ?_
  exact bM_isComparing_53 L xs m d k (n + 0) x1 0 g r
def BM_isComparing_48 (L : Nat) (xs : Nat → Int32) (m d k : Nat) (x1 : Int32) (g : a2_G) (r : a2_A) : Option fn_Z := (BM_isComparing_53 L xs m d k x1 1 g r)
theorem bM_isComparing_48 (L : Nat) (xs : Nat → Int32) (m d k : Nat) (n : Nat) (x1 : Int32) (g : a2_G) (r : a2_A) : bk L xs nM_isComparing nm_m201 m d k (n + 3) 48 [some (.ref cM), some (.int x1)] [] g r = BM_isComparing_48 L xs m d k x1 g r := by
  show _ = ((BM_isComparing_53 L xs m d k x1 1 g r) : Option fn_Z)
  refine (fs_r (n := n + 2) 1 (pc' := 49) (L' := [some (.ref cM), some (.int x1)]) (S' := [.int 1]) rfl).trans ?_
  refine (fs_go (n := n + 1) rfl (t := 53) rfl (by decide)).trans ?_
  exact bM_isComparing_53 L xs m d k (n + 0) x1 1 g r
def BM_isComparing_23 (L : Nat) (xs : Nat → Int32) (m d k : Nat) (x1 : Int32) (g : a2_G) (r : a2_A) : Option fn_Z := (fn_v (ev L xs m d nM_isKind [.ref cM, .int x1, .int 0] g r) fun v6 g4 r5 => (if am_c2 .eq v6 0 = true then (BM_isComparing_52 L xs m d k x1 g4 r5) else (if am_inr x1 (r5 fM_values).1 = true then (fn_v (ev L xs m d nM_in [.int ((r5 fM_values).2 (x1 : Int32).toNatClampNeg), .int 68, .int 70] g4 r5) fun v9 g7 r8 => (if am_c2 .eq v9 0 = true then (BM_isComparing_52 L xs m d k x1 g7 r8) else (BM_isComparing_48 L xs m d k x1 g7 r8))) else none)))
theorem bM_isComparing_23 (L : Nat) (xs : Nat → Int32) (m d k : Nat) (n : Nat) (x1 : Int32) (g : a2_G) (r : a2_A) : bk L xs nM_isComparing nm_m201 m d k (n + 16) 23 [some (.ref cM), some (.int x1)] [] g r = BM_isComparing_23 L xs m d k x1 g r := by
  show _ = ((fn_v (ev L xs m d nM_isKind [.ref cM, .int x1, .int 0] g r) fun v6 g4 r5 => (if am_c2 .eq v6 0 = true then (BM_isComparing_52 L xs m d k x1 g4 r5) else (if am_inr x1 (r5 fM_values).1 = true then (fn_v (ev L xs m d nM_in [.int ((r5 fM_values).2 (x1 : Int32).toNatClampNeg), .int 68, .int 70] g4 r5) fun v9 g7 r8 => (if am_c2 .eq v9 0 = true then (BM_isComparing_52 L xs m d k x1 g7 r8) else (BM_isComparing_48 L xs m d k x1 g7 r8))) else none))) : Option fn_Z)
  refine (fs_r (n := n + 13) 3 (pc' := 26) (L' := [some (.ref cM), some (.int x1)]) (S' := [.int 0, .int x1, .ref cM]) rfl).trans ?_
  refine (fs_cv (n := n + 12) (N := nm_m166) (as := [.ref cM, .int x1, .int 0]) (rest := []) rfl rfl (Or.inl rfl) rfl rfl rfl rfl rfl).trans (fs_fv fun v6 g4 r5 => ?_)
  refine (fs_i (n := n + 11) rfl (t := 52) rfl (by decide)).trans (fs_ite ?_ ?_)
  · skip
    exact bM_isComparing_52 L xs m d k (n + 9) x1 g4 r5
  · skip
    refine (fs_r (n := n + 8) 3 (pc' := 37) (L' := [some (.ref cM), some (.int x1)]) (S' := [.int x1, .ref 10903]) rfl).trans ?_
    refine (fs_il (n := n + 7) (k := 903) rfl rfl).trans (fs_ite ?_ rfl)
    refine (fs_r (n := n + 5) 2 (pc' := 42) (L' := [some (.ref cM), some (.int x1)]) (S' := [.int 70, .int 68, .int ((r5 fM_values).2 (x1 : Int32).toNatClampNeg)]) rfl).trans ?_
    refine (fs_sv (n := n + 4) (N := nm_m158) (as := [.int ((r5 fM_values).2 (x1 : Int32).toNatClampNeg), .int 68, .int 70]) (rest := []) rfl rfl (by decide) rfl rfl rfl rfl rfl).trans (fs_fv fun v9 g7 r8 => ?_)
    refine (fs_i (n := n + 3) rfl (t := 52) rfl (by decide)).trans (fs_ite ?_ ?_)
    · skip
      exact bM_isComparing_52 L xs m d k (n + 1) x1 g7 r8
    · skip
      exact bM_isComparing_48 L xs m d k (n + 0) x1 g7 r8
theorem eM_isComparing (L : Nat) (xs : Nat → Int32) (m d k : Nat) (n : Nat) (a1 : Int32) (g : a2_G) (r : a2_A) : bk L xs nM_isComparing nm_m201 m d k (n + 29) 0 [some (.ref cM), some (.int a1)] [] g r = (fn_v (ev L xs m d nM_isKind [.ref cM, .int a1, .int 5] g r) fun v3 g1 r2 => (if am_c2 .eq v3 0 = true then (BM_isComparing_23 L xs m d k a1 g1 r2) else (if am_inr a1 (r2 fM_values).1 = true then (fn_v (ev L xs m d nM_in [.int ((r2 fM_values).2 (a1 : Int32).toNatClampNeg), .int 2, .int 4] g1 r2) fun v12 g10 r11 => (if am_c2 .ne v12 0 = true then (BM_isComparing_48 L xs m d k a1 g10 r11) else (BM_isComparing_23 L xs m d k a1 g10 r11))) else none))) := by
  refine (fs_r (n := n + 26) 3 (pc' := 3) (L' := [some (.ref cM), some (.int a1)]) (S' := [.int 5, .int a1, .ref cM]) rfl).trans ?_
  refine (fs_cv (n := n + 25) (N := nm_m166) (as := [.ref cM, .int a1, .int 5]) (rest := []) rfl rfl (Or.inl rfl) rfl rfl rfl rfl rfl).trans (fs_fv fun v3 g1 r2 => ?_)
  refine (fs_i (n := n + 24) rfl (t := 23) rfl (by decide)).trans (fs_ite ?_ ?_)
  · skip
    exact bM_isComparing_23 L xs m d k (n + 8) a1 g1 r2
  · skip
    refine (fs_r (n := n + 21) 3 (pc' := 14) (L' := [some (.ref cM), some (.int a1)]) (S' := [.int a1, .ref 10903]) rfl).trans ?_
    refine (fs_il (n := n + 20) (k := 903) rfl rfl).trans (fs_ite ?_ rfl)
    refine (fs_r (n := n + 18) 2 (pc' := 17) (L' := [some (.ref cM), some (.int a1)]) (S' := [.int 4, .int 2, .int ((r2 fM_values).2 (a1 : Int32).toNatClampNeg)]) rfl).trans ?_
    refine (fs_sv (n := n + 17) (N := nm_m158) (as := [.int ((r2 fM_values).2 (a1 : Int32).toNatClampNeg), .int 2, .int 4]) (rest := []) rfl rfl (by decide) rfl rfl rfl rfl rfl).trans (fs_fv fun v12 g10 r11 => ?_)
    refine (fs_i (n := n + 16) rfl (t := 48) rfl (by decide)).trans (fs_ite ?_ ?_)
    · skip
      exact bM_isComparing_48 L xs m d k (n + 13) a1 g10 r11
    · skip
      exact bM_isComparing_23 L xs m d k (n + 0) a1 g10 r11
theorem qM_isComparing (L : Nat) (xs : Nat → Int32) (m d : Nat) (a1 : Int32) (g : a2_G) (r : a2_A) : ev L xs (m + 1) (d + 1) nM_isComparing [.ref cM, .int a1] g r = (fn_v (ev L xs (m + 1) d nM_isKind [.ref cM, .int a1, .int 5] g r) fun v3 g1 r2 => (if am_c2 .eq v3 0 = true then (BM_isComparing_23 L xs (m + 1) d m a1 g1 r2) else (if am_inr a1 (r2 fM_values).1 = true then (fn_v (ev L xs (m + 1) d nM_in [.int ((r2 fM_values).2 (a1 : Int32).toNatClampNeg), .int 2, .int 4] g1 r2) fun v12 g10 r11 => (if am_c2 .ne v12 0 = true then (BM_isComparing_48 L xs (m + 1) d m a1 g10 r11) else (BM_isComparing_23 L xs (m + 1) d m a1 g10 r11))) else none))) := (fs_ev (M := nm_m201) rfl rfl).trans (eM_isComparing L xs (m + 1) d m 871 a1 g r)
/-- CobolParserModel.deeper(I)V -/
theorem eM_deeper (L : Nat) (xs : Nat → Int32) (m d k : Nat) (n : Nat) (a1 : Int32) (g : a2_G) (r : a2_A) : bk L xs nM_deeper nm_m202 m d k (n + 29) 0 [some (.ref cM), some (.int a1)] [] g r = (if am_c2 .ne (g fM_level) 40 = true then (if am_inr (g fM_marks) (r fM_mark).1 = true then (some (.inl none, (upd (upd (upd g fM_level ((g fM_level) + 1)) fM_marks ((g fM_marks) + 1)) fM_at ((g fM_at) + 1)), (a2_ua r fM_mark ((r fM_mark).1, (upd (r fM_mark).2 ((g fM_marks) : Int32).toNatClampNeg a1))))) else none) else (fn_v (ev L xs m d nM_fail [.ref cM, .int 3, .int (g fM_at)] g r) fun v3 g1 r2 => (some (.inl none, g1, r2)))) := by
  refine (fs_r (n := n + 26) 3 (pc' := 6) (L' := [some (.ref cM), some (.int a1)]) (S' := [.int 40, .int (g fM_level)]) rfl).trans ?_
  refine (fs_j (n := n + 25) rfl (t := 20) rfl (by decide)).trans (fs_ite ?_ ?_)
  · skip
    refine (fs_r (n := n + 20) 5 (pc' := 27) (L' := [some (.ref cM), some (.int a1)]) (S' := [.int ((g fM_level) + 1), .ref cM]) rfl).trans ?_
    refine (fs_pf (n := n + 19) (ci := 9) (j := 44) rfl rfl rfl rfl).trans ?_
    refine (fs_r (n := n + 14) 5 (pc' := 39) (L' := [some (.ref cM), some (.int a1)]) (S' := [.int a1, .int (g fM_marks), .ref 10958]) rfl).trans ?_
    refine (fs_is (n := n + 13) (k := 958) rfl rfl).trans (fs_ite ?_ rfl)
    refine (fs_r (n := n + 8) 5 (pc' := 47) (L' := [some (.ref cM), some (.int a1)]) (S' := [.int ((g fM_marks) + 1), .ref cM]) rfl).trans ?_
    refine (fs_pf (n := n + 7) (ci := 9) (j := 54) rfl rfl rfl rfl).trans ?_
    refine (fs_r (n := n + 2) 5 (pc' := 57) (L' := [some (.ref cM), some (.int a1)]) (S' := [.int ((g fM_at) + 1), .ref cM]) rfl).trans ?_
    refine (fs_pf (n := n + 1) (ci := 9) (j := 41) rfl rfl rfl rfl).trans ?_
    exact (fs_rv (n := n + 0) rfl rfl).trans rfl
  · skip
    refine (fs_r (n := n + 21) 4 (pc' := 15) (L' := [some (.ref cM), some (.int a1)]) (S' := [.int (g fM_at), .int 3, .ref cM]) rfl).trans ?_
    refine (fs_cv (n := n + 20) (N := nm_m164) (as := [.ref cM, .int 3, .int (g fM_at)]) (rest := []) rfl rfl (Or.inl rfl) rfl rfl rfl rfl rfl).trans (fs_fv fun v3 g1 r2 => ?_)
    refine (fs_r (n := n + 19) 1 (pc' := 19) (L' := [some (.ref cM), some (.int a1)]) (S' := []) rfl).trans ?_
    exact (fs_rv (n := n + 18) rfl rfl).trans rfl
theorem qM_deeper (L : Nat) (xs : Nat → Int32) (m d : Nat) (a1 : Int32) (g : a2_G) (r : a2_A) : ev L xs (m + 1) (d + 1) nM_deeper [.ref cM, .int a1] g r = (if am_c2 .ne (g fM_level) 40 = true then (if am_inr (g fM_marks) (r fM_mark).1 = true then (some (.inl none, (upd (upd (upd g fM_level ((g fM_level) + 1)) fM_marks ((g fM_marks) + 1)) fM_at ((g fM_at) + 1)), (a2_ua r fM_mark ((r fM_mark).1, (upd (r fM_mark).2 ((g fM_marks) : Int32).toNatClampNeg a1))))) else none) else (fn_v (ev L xs (m + 1) d nM_fail [.ref cM, .int 3, .int (g fM_at)] g r) fun v3 g1 r2 => (some (.inl none, g1, r2)))) := (fs_ev (M := nm_m202) rfl rfl).trans (eM_deeper L xs (m + 1) d m 871 a1 g r)
/-- CobolParserModel.isSign(II)Z -/
def BM_isSign_24 (L : Nat) (xs : Nat → Int32) (m d k : Nat) (x1 x2 x3 : Int32) (g : a2_G) (r : a2_A) : Option fn_Z := (if x3 = 0 ∨ x3 = 1 then some (.inl (some (.int x3)), g, r) else none)
theorem bM_isSign_24 (L : Nat) (xs : Nat → Int32) (m d k : Nat) (n : Nat) (x1 x2 x3 : Int32) (g : a2_G) (r : a2_A) : bk L xs nM_isSign nm_m203 m d k (n + 1) 24 [some (.ref cM), some (.int x1), some (.int x2)] [.int x3] g r = BM_isSign_24 L xs m d k x1 x2 x3 g r := by
  show _ = ((if x3 = 0 ∨ x3 = 1 then some (.inl (some (.int x3)), g, r) else none) : Option fn_Z)
  exact (fs_rb (n := n + 0) rfl rfl).trans rfl
def BM_isSign_23 (L : Nat) (xs : Nat → Int32) (m d k : Nat) (x1 x2 : Int32) (g : a2_G) (r : a2_A) : Option fn_Z := (BM_isSign_24 L xs m d k x1 x2 0 g r)
theorem bM_isSign_23 (L : Nat) (xs : Nat → Int32) (m d k : Nat) (n : Nat) (x1 x2 : Int32) (g : a2_G) (r : a2_A) : bk L xs nM_isSign nm_m203 m d k (n + 2) 23 [some (.ref cM), some (.int x1), some (.int x2)] [] g r = BM_isSign_23 L xs m d k x1 x2 g r := by
  show _ = ((BM_isSign_24 L xs m d k x1 x2 0 g r) : Option fn_Z)
  refine (fs_r (n := n + 1) 1 (pc' := 24) (L' := [some (.ref cM), some (.int x1), some (.int x2)]) (S' := [.int 0]) rfl).trans ?_
  exact bM_isSign_24 L xs m d k (n + 0) x1 x2 0 g r
theorem eM_isSign (L : Nat) (xs : Nat → Int32) (m d k : Nat) (n : Nat) (a1 a2 : Int32) (g : a2_G) (r : a2_A) : bk L xs nM_isSign nm_m203 m d k (n + 14) 0 [some (.ref cM), some (.int a1), some (.int a2)] [] g r = (fn_v (ev L xs m d nM_isKind [.ref cM, .int a1, .int 5] g r) fun v3 g1 r2 => (if am_c2 .eq v3 0 = true then (BM_isSign_23 L xs m d k a1 a2 g1 r2) else (if am_inr a1 (r2 fM_values).1 = true then (if am_c2 .ne ((r2 fM_values).2 (a1 : Int32).toNatClampNeg) a2 = true then (BM_isSign_23 L xs m d k a1 a2 g1 r2) else (BM_isSign_24 L xs m d k a1 a2 1 g1 r2)) else none))) := by
  refine (fs_r (n := n + 11) 3 (pc' := 3) (L' := [some (.ref cM), some (.int a1), some (.int a2)]) (S' := [.int 5, .int a1, .ref cM]) rfl).trans ?_
  refine (fs_cv (n := n + 10) (N := nm_m166) (as := [.ref cM, .int a1, .int 5]) (rest := []) rfl rfl (Or.inl rfl) rfl rfl rfl rfl rfl).trans (fs_fv fun v3 g1 r2 => ?_)
  refine (fs_i (n := n + 9) rfl (t := 23) rfl (by decide)).trans (fs_ite ?_ ?_)
  · skip
    exact bM_isSign_23 L xs m d k (n + 7) a1 a2 g1 r2
  · skip
    refine (fs_r (n := n + 6) 3 (pc' := 14) (L' := [some (.ref cM), some (.int a1), some (.int a2)]) (S' := [.int a1, .ref 10903]) rfl).trans ?_
    refine (fs_il (n := n + 5) (k := 903) rfl rfl).trans (fs_ite ?_ rfl)
    refine (fs_r (n := n + 4) 1 (pc' := 16) (L' := [some (.ref cM), some (.int a1), some (.int a2)]) (S' := [.int a2, .int ((r2 fM_values).2 (a1 : Int32).toNatClampNeg)]) rfl).trans ?_
    refine (fs_j (n := n + 3) rfl (t := 23) rfl (by decide)).trans (fs_ite ?_ ?_)
    · skip
      exact bM_isSign_23 L xs m d k (n + 1) a1 a2 g1 r2
    · skip
      refine (fs_r (n := n + 2) 1 (pc' := 20) (L' := [some (.ref cM), some (.int a1), some (.int a2)]) (S' := [.int 1]) rfl).trans ?_
      refine (fs_go (n := n + 1) rfl (t := 24) rfl (by decide)).trans ?_
      exact bM_isSign_24 L xs m d k (n + 0) a1 a2 1 g1 r2
theorem qM_isSign (L : Nat) (xs : Nat → Int32) (m d : Nat) (a1 a2 : Int32) (g : a2_G) (r : a2_A) : ev L xs (m + 1) (d + 1) nM_isSign [.ref cM, .int a1, .int a2] g r = (fn_v (ev L xs (m + 1) d nM_isKind [.ref cM, .int a1, .int 5] g r) fun v3 g1 r2 => (if am_c2 .eq v3 0 = true then (BM_isSign_23 L xs (m + 1) d m a1 a2 g1 r2) else (if am_inr a1 (r2 fM_values).1 = true then (if am_c2 .ne ((r2 fM_values).2 (a1 : Int32).toNatClampNeg) a2 = true then (BM_isSign_23 L xs (m + 1) d m a1 a2 g1 r2) else (BM_isSign_24 L xs (m + 1) d m a1 a2 1 g1 r2)) else none))) := (fs_ev (M := nm_m203) rfl rfl).trans (eM_isSign L xs (m + 1) d m 886 a1 a2 g r)
/-- CobolParserModel.isBehind()Z -/
def BM_isBehind_55 (L : Nat) (xs : Nat → Int32) (m d k : Nat) (x1 : Int32) (g : a2_G) (r : a2_A) : Option fn_Z := (if x1 = 0 ∨ x1 = 1 then some (.inl (some (.int x1)), g, r) else none)
theorem bM_isBehind_55 (L : Nat) (xs : Nat → Int32) (m d k : Nat) (n : Nat) (x1 : Int32) (g : a2_G) (r : a2_A) : bk L xs nM_isBehind nm_m204 m d k (n + 1) 55 [some (.ref cM)] [.int x1] g r = BM_isBehind_55 L xs m d k x1 g r := by
  show _ = ((if x1 = 0 ∨ x1 = 1 then some (.inl (some (.int x1)), g, r) else none) : Option fn_Z)
  exact (fs_rb (n := n + 0) rfl rfl).trans rfl
def BM_isBehind_50 (L : Nat) (xs : Nat → Int32) (m d k : Nat) (g : a2_G) (r : a2_A) : Option fn_Z := (BM_isBehind_55 L xs m d k 1 g r)
theorem bM_isBehind_50 (L : Nat) (xs : Nat → Int32) (m d k : Nat) (n : Nat) (g : a2_G) (r : a2_A) : bk L xs nM_isBehind nm_m204 m d k (n + 3) 50 [some (.ref cM)] [] g r = BM_isBehind_50 L xs m d k g r := by
  show _ = ((BM_isBehind_55 L xs m d k 1 g r) : Option fn_Z)
  refine (fs_r (n := n + 2) 1 (pc' := 51) (L' := [some (.ref cM)]) (S' := [.int 1]) rfl).trans ?_
  refine (fs_go (n := n + 1) rfl (t := 55) rfl (by decide)).trans ?_
  exact bM_isBehind_55 L xs m d k (n + 0) 1 g r
def BM_isBehind_39 (L : Nat) (xs : Nat → Int32) (m d k : Nat) (g : a2_G) (r : a2_A) : Option fn_Z := (fn_v (ev L xs m d nM_isComparing [.ref cM, .int (g fM_at)] g r) fun v9 g7 r8 => (if am_c2 .eq v9 0 = true then (BM_isBehind_55 L xs m d k 0 g7 r8) else (BM_isBehind_50 L xs m d k g7 r8)))
theorem bM_isBehind_39 (L : Nat) (xs : Nat → Int32) (m d k : Nat) (n : Nat) (g : a2_G) (r : a2_A) : bk L xs nM_isBehind nm_m204 m d k (n + 8) 39 [some (.ref cM)] [] g r = BM_isBehind_39 L xs m d k g r := by
  show _ = ((fn_v (ev L xs m d nM_isComparing [.ref cM, .int (g fM_at)] g r) fun v9 g7 r8 => (if am_c2 .eq v9 0 = true then (BM_isBehind_55 L xs m d k 0 g7 r8) else (BM_isBehind_50 L xs m d k g7 r8))) : Option fn_Z)
  refine (fs_r (n := n + 5) 3 (pc' := 44) (L' := [some (.ref cM)]) (S' := [.int (g fM_at), .ref cM]) rfl).trans ?_
  refine (fs_cv (n := n + 4) (N := nm_m201) (as := [.ref cM, .int (g fM_at)]) (rest := []) rfl rfl (Or.inl rfl) rfl rfl rfl rfl rfl).trans (fs_fv fun v9 g7 r8 => ?_)
  refine (fs_i (n := n + 3) rfl (t := 54) rfl (by decide)).trans (fs_ite ?_ ?_)
  · skip
    refine (fs_r (n := n + 2) 1 (pc' := 55) (L' := [some (.ref cM)]) (S' := [.int 0]) rfl).trans ?_
    exact bM_isBehind_55 L xs m d k (n + 1) 0 g7 r8
  · skip
    exact bM_isBehind_50 L xs m d k (n + 0) g7 r8
theorem eM_isBehind (L : Nat) (xs : Nat → Int32) (m d k : Nat) (n : Nat) (g : a2_G) (r : a2_A) : bk L xs nM_isBehind nm_m204 m d k (n + 27) 0 [some (.ref cM)] [] g r = (fn_v (ev L xs m d nM_isWord [.ref cM, .int (g fM_at), .int 67] g r) fun v3 g1 r2 => (if am_c2 .ne v3 0 = true then (BM_isBehind_50 L xs m d k g1 r2) else (fn_v (ev L xs m d nM_isWord [.ref cM, .int (g1 fM_at), .int 64] g1 r2) fun v6 g4 r5 => (if am_c2 .eq v6 0 = true then (BM_isBehind_39 L xs m d k g4 r5) else (fn_v (ev L xs m d nM_isComparing [.ref cM, .int ((g4 fM_at) + 1)] g4 r5) fun v12 g10 r11 => (if am_c2 .ne v12 0 = true then (BM_isBehind_50 L xs m d k g10 r11) else (BM_isBehind_39 L xs m d k g10 r11))))))) := by
  refine (fs_r (n := n + 23) 4 (pc' := 7) (L' := [some (.ref cM)]) (S' := [.int 67, .int (g fM_at), .ref cM]) rfl).trans ?_
  refine (fs_cv (n := n + 22) (N := nm_m167) (as := [.ref cM, .int (g fM_at), .int 67]) (rest := []) rfl rfl (Or.inl rfl) rfl rfl rfl rfl rfl).trans (fs_fv fun v3 g1 r2 => ?_)
  refine (fs_i (n := n + 21) rfl (t := 50) rfl (by decide)).trans (fs_ite ?_ ?_)
  · skip
    exact bM_isBehind_50 L xs m d k (n + 18) g1 r2
  · skip
    refine (fs_r (n := n + 17) 4 (pc' := 20) (L' := [some (.ref cM)]) (S' := [.int 64, .int (g1 fM_at), .ref cM]) rfl).trans ?_
    refine (fs_cv (n := n + 16) (N := nm_m167) (as := [.ref cM, .int (g1 fM_at), .int 64]) (rest := []) rfl rfl (Or.inl rfl) rfl rfl rfl rfl rfl).trans (fs_fv fun v6 g4 r5 => ?_)
    refine (fs_i (n := n + 15) rfl (t := 39) rfl (by decide)).trans (fs_ite ?_ ?_)
    · skip
      exact bM_isBehind_39 L xs m d k (n + 7) g4 r5
    · skip
      refine (fs_r (n := n + 10) 5 (pc' := 33) (L' := [some (.ref cM)]) (S' := [.int ((g4 fM_at) + 1), .ref cM]) rfl).trans ?_
      refine (fs_cv (n := n + 9) (N := nm_m201) (as := [.ref cM, .int ((g4 fM_at) + 1)]) (rest := []) rfl rfl (Or.inl rfl) rfl rfl rfl rfl rfl).trans (fs_fv fun v12 g10 r11 => ?_)
      refine (fs_i (n := n + 8) rfl (t := 50) rfl (by decide)).trans (fs_ite ?_ ?_)
      · skip
        exact bM_isBehind_50 L xs m d k (n + 5) g10 r11
      · skip
        exact bM_isBehind_39 L xs m d k (n + 0) g10 r11
theorem qM_isBehind (L : Nat) (xs : Nat → Int32) (m d : Nat) (g : a2_G) (r : a2_A) : ev L xs (m + 1) (d + 1) nM_isBehind [.ref cM] g r = (fn_v (ev L xs (m + 1) d nM_isWord [.ref cM, .int (g fM_at), .int 67] g r) fun v3 g1 r2 => (if am_c2 .ne v3 0 = true then (BM_isBehind_50 L xs (m + 1) d m g1 r2) else (fn_v (ev L xs (m + 1) d nM_isWord [.ref cM, .int (g1 fM_at), .int 64] g1 r2) fun v6 g4 r5 => (if am_c2 .eq v6 0 = true then (BM_isBehind_39 L xs (m + 1) d m g4 r5) else (fn_v (ev L xs (m + 1) d nM_isComparing [.ref cM, .int ((g4 fM_at) + 1)] g4 r5) fun v12 g10 r11 => (if am_c2 .ne v12 0 = true then (BM_isBehind_50 L xs (m + 1) d m g10 r11) else (BM_isBehind_39 L xs (m + 1) d m g10 r11))))))) := (fs_ev (M := nm_m204) rfl rfl).trans (eM_isBehind L xs (m + 1) d m 873 g r)
/-- CobolParserModel.compare(I)V -/
def BM_compare_40 (L : Nat) (xs : Nat → Int32) (m d k : Nat) (x1 x2 x3 : Int32) (g : a2_G) (r : a2_A) : Option fn_Z := (fn_v (ev L xs m d nM_fail [.ref cM, .int 1, .int (g fM_at)] g r) fun v9 g7 r8 => (some (.inl none, g7, r8)))
theorem bM_compare_40 (L : Nat) (xs : Nat → Int32) (m d k : Nat) (n : Nat) (x1 x2 x3 : Int32) (g : a2_G) (r : a2_A) : bk L xs nM_compare nm_m205 m d k (n + 7) 40 [some (.ref cM), some (.int x1), some (.int x2), some (.int x3), none, none, none] [] g r = BM_compare_40 L xs m d k x1 x2 x3 g r := by
  show _ = ((fn_v (ev L xs m d nM_fail [.ref cM, .int 1, .int (g fM_at)] g r) fun v9 g7 r8 => (some (.inl none, g7, r8))) : Option fn_Z)
  refine (fs_r (n := n + 3) 4 (pc' := 46) (L' := [some (.ref cM), some (.int x1), some (.int x2), some (.int x3), none, none, none]) (S' := [.int (g fM_at), .int 1, .ref cM]) rfl).trans ?_
  refine (fs_cv (n := n + 2) (N := nm_m164) (as := [.ref cM, .int 1, .int (g fM_at)]) (rest := []) rfl rfl (Or.inl rfl) rfl rfl rfl rfl rfl).trans (fs_fv fun v9 g7 r8 => ?_)
  refine (fs_r (n := n + 1) 1 (pc' := 50) (L' := [some (.ref cM), some (.int x1), some (.int x2), some (.int x3), none, none, none]) (S' := []) rfl).trans ?_
  exact (fs_rv (n := n + 0) rfl rfl).trans rfl
def BM_compare_153 (L : Nat) (xs : Nat → Int32) (m d k : Nat) (x1 x2 x3 x4 x5 x6 : Int32) (g : a2_G) (r : a2_A) : Option fn_Z := (if am_inr x1 (r fM_value).1 = true then (fn_n (ev L xs m d nM_operandOf [.ref cM, .int x1] (upd g fM_compared (x6 + x3)) (a2_ua r fM_value ((r fM_value).1, (upd (r fM_value).2 (x1 : Int32).toNatClampNeg (x6 + x3))))) fun g13 r14 => (some (.inl none, g13, r14))) else none)
theorem bM_compare_153 (L : Nat) (xs : Nat → Int32) (m d k : Nat) (n : Nat) (x1 x2 x3 x4 x5 x6 : Int32) (g : a2_G) (r : a2_A) : bk L xs nM_compare nm_m205 m d k (n + 15) 153 [some (.ref cM), some (.int x1), some (.int x2), some (.int x3), some (.int x4), some (.int x5), some (.int x6)] [] g r = BM_compare_153 L xs m d k x1 x2 x3 x4 x5 x6 g r := by
  show _ = ((if am_inr x1 (r fM_value).1 = true then (fn_n (ev L xs m d nM_operandOf [.ref cM, .int x1] (upd g fM_compared (x6 + x3)) (a2_ua r fM_value ((r fM_value).1, (upd (r fM_value).2 (x1 : Int32).toNatClampNeg (x6 + x3))))) fun g13 r14 => (some (.inl none, g13, r14))) else none) : Option fn_Z)
  refine (fs_r (n := n + 11) 4 (pc' := 158) (L' := [some (.ref cM), some (.int x1), some (.int x2), some (.int x3), some (.int x4), some (.int x5), some (.int x6)]) (S' := [.int (x6 + x3), .ref cM]) rfl).trans ?_
  refine (fs_pf (n := n + 10) (ci := 9) (j := 56) rfl rfl rfl rfl).trans ?_
  refine (fs_r (n := n + 5) 5 (pc' := 170) (L' := [some (.ref cM), some (.int x1), some (.int x2), some (.int x3), some (.int x4), some (.int x5), some (.int x6)]) (S' := [.int (x6 + x3), .int x1, .ref 10910]) rfl).trans ?_
  refine (fs_is (n := n + 4) (k := 910) rfl rfl).trans (fs_ite ?_ rfl)
  refine (fs_r (n := n + 2) 2 (pc' := 173) (L' := [some (.ref cM), some (.int x1), some (.int x2), some (.int x3), some (.int x4), some (.int x5), some (.int x6)]) (S' := [.int x1, .ref cM]) rfl).trans ?_
  refine (fs_cn (n := n + 1) (N := nm_m175) (as := [.ref cM, .int x1]) (rest := []) rfl rfl (Or.inl rfl) rfl rfl rfl rfl rfl).trans (fs_fn fun g13 r14 => ?_)
  exact (fs_rv (n := n + 0) rfl rfl).trans rfl
def BM_compare_149 (L : Nat) (xs : Nat → Int32) (m d k : Nat) (x1 x2 x3 x4 x5 x6 x7 : Int32) (g : a2_G) (r : a2_A) : Option fn_Z := (fn_v (ev L xs m d nM_meets [.ref cM, .int x7] g r) fun v17 g15 r16 => (BM_compare_153 L xs m d k x1 v17 x3 x4 x5 x6 g15 r16))
theorem bM_compare_149 (L : Nat) (xs : Nat → Int32) (m d k : Nat) (n : Nat) (x1 x2 x3 x4 x5 x6 x7 : Int32) (g : a2_G) (r : a2_A) : bk L xs nM_compare nm_m205 m d k (n + 17) 149 [some (.ref cM), some (.int x1), some (.int x2), some (.int x3), some (.int x4), some (.int x5), some (.int x6)] [.int x7, .ref cM] g r = BM_compare_149 L xs m d k x1 x2 x3 x4 x5 x6 x7 g r := by
  show _ = ((fn_v (ev L xs m d nM_meets [.ref cM, .int x7] g r) fun v17 g15 r16 => (BM_compare_153 L xs m d k x1 v17 x3 x4 x5 x6 g15 r16)) : Option fn_Z)
  refine (fs_cv (n := n + 16) (N := nm_m169) (as := [.ref cM, .int x7]) (rest := []) rfl rfl (Or.inl rfl) rfl rfl rfl rfl rfl).trans (fs_fv fun v17 g15 r16 => ?_)
  refine (fs_r (n := n + 15) 1 (pc' := 153) (L' := [some (.ref cM), some (.int x1), some (.int v17), some (.int x3), some (.int x4), some (.int x5), some (.int x6)]) (S' := []) rfl).trans ?_
  exact bM_compare_153 L xs m d k (n + 0) x1 v17 x3 x4 x5 x6 g15 r16
def BM_compare_127 (L : Nat) (xs : Nat → Int32) (m d k : Nat) (x1 x2 x3 x4 x5 x6 : Int32) (g : a2_G) (r : a2_A) : Option fn_Z := (if am_c2 .ne x4 0 = true then (BM_compare_153 L xs m d k x1 x2 x3 x4 x5 x6 g r) else (if am_c2 .ne x5 68 = true then (BM_compare_149 L xs m d k x1 x2 x3 x4 x5 x6 71 g r) else (BM_compare_149 L xs m d k x1 x2 x3 x4 x5 x6 48 g r)))
theorem bM_compare_127 (L : Nat) (xs : Nat → Int32) (m d k : Nat) (n : Nat) (x1 x2 x3 x4 x5 x6 : Int32) (g : a2_G) (r : a2_A) : bk L xs nM_compare nm_m205 m d k (n + 26) 127 [some (.ref cM), some (.int x1), some (.int x2), some (.int x3), some (.int x4), some (.int x5), none] [.int x6] g r = BM_compare_127 L xs m d k x1 x2 x3 x4 x5 x6 g r := by
  show _ = ((if am_c2 .ne x4 0 = true then (BM_compare_153 L xs m d k x1 x2 x3 x4 x5 x6 g r) else (if am_c2 .ne x5 68 = true then (BM_compare_149 L xs m d k x1 x2 x3 x4 x5 x6 71 g r) else (BM_compare_149 L xs m d k x1 x2 x3 x4 x5 x6 48 g r))) : Option fn_Z)
  refine (fs_r (n := n + 24) 2 (pc' := 131) (L' := [some (.ref cM), some (.int x1), some (.int x2), some (.int x3), some (.int x4), some (.int x5), some (.int x6)]) (S' := [.int x4]) rfl).trans ?_
  refine (fs_i (n := n + 23) rfl (t := 153) rfl (by decide)).trans (fs_ite ?_ ?_)
  · skip
    exact bM_compare_153 L xs m d k (n + 8) x1 x2 x3 x4 x5 x6 g r
  · skip
    refine (fs_r (n := n + 20) 3 (pc' := 139) (L' := [some (.ref cM), some (.int x1), some (.int x2), some (.int x3), some (.int x4), some (.int x5), some (.int x6)]) (S' := [.int 68, .int x5, .ref cM]) rfl).trans ?_
    refine (fs_j (n := n + 19) rfl (t := 147) rfl (by decide)).trans (fs_ite ?_ ?_)
    · skip
      refine (fs_r (n := n + 18) 1 (pc' := 149) (L' := [some (.ref cM), some (.int x1), some (.int x2), some (.int x3), some (.int x4), some (.int x5), some (.int x6)]) (S' := [.int 71, .ref cM]) rfl).trans ?_
      exact bM_compare_149 L xs m d k (n + 1) x1 x2 x3 x4 x5 x6 71 g r
    · skip
      refine (fs_r (n := n + 18) 1 (pc' := 144) (L' := [some (.ref cM), some (.int x1), some (.int x2), some (.int x3), some (.int x4), some (.int x5), some (.int x6)]) (S' := [.int 48, .ref cM]) rfl).trans ?_
      refine (fs_go (n := n + 17) rfl (t := 149) rfl (by decide)).trans ?_
      exact bM_compare_149 L xs m d k (n + 0) x1 x2 x3 x4 x5 x6 48 g r
def BM_compare_69 (L : Nat) (xs : Nat → Int32) (m d k : Nat) (x1 x2 x3 x4 : Int32) (g : a2_G) (r : a2_A) : Option fn_Z := (if am_inr (g fM_at) (r fM_values).1 = true then (if am_c2 .eq x4 0 = true then (if am_c2 .ne ((r fM_values).2 ((g fM_at) : Int32).toNatClampNeg) 68 = true then (if am_c2 .ne ((r fM_values).2 ((g fM_at) : Int32).toNatClampNeg) 69 = true then (BM_compare_127 L xs m d k x1 x2 x3 x4 ((r fM_values).2 ((g fM_at) : Int32).toNatClampNeg) 1 (upd g fM_at ((g fM_at) + 1)) r) else (BM_compare_127 L xs m d k x1 x2 x3 x4 ((r fM_values).2 ((g fM_at) : Int32).toNatClampNeg) 2 (upd g fM_at ((g fM_at) + 1)) r)) else (BM_compare_127 L xs m d k x1 x2 x3 x4 ((r fM_values).2 ((g fM_at) : Int32).toNatClampNeg) 0 (upd g fM_at ((g fM_at) + 1)) r)) else (BM_compare_127 L xs m d k x1 x2 x3 x4 ((r fM_values).2 ((g fM_at) : Int32).toNatClampNeg) (((r fM_values).2 ((g fM_at) : Int32).toNatClampNeg) - 2) (upd g fM_at ((g fM_at) + 1)) r)) else none)
theorem bM_compare_69 (L : Nat) (xs : Nat → Int32) (m d k : Nat) (n : Nat) (x1 x2 x3 x4 : Int32) (g : a2_G) (r : a2_A) : bk L xs nM_compare nm_m205 m d k (n + 49) 69 [some (.ref cM), some (.int x1), some (.int x2), some (.int x3), none, none, none] [.int x4] g r = BM_compare_69 L xs m d k x1 x2 x3 x4 g r := by
  show _ = ((if am_inr (g fM_at) (r fM_values).1 = true then (if am_c2 .eq x4 0 = true then (if am_c2 .ne ((r fM_values).2 ((g fM_at) : Int32).toNatClampNeg) 68 = true then (if am_c2 .ne ((r fM_values).2 ((g fM_at) : Int32).toNatClampNeg) 69 = true then (BM_compare_127 L xs m d k x1 x2 x3 x4 ((r fM_values).2 ((g fM_at) : Int32).toNatClampNeg) 1 (upd g fM_at ((g fM_at) + 1)) r) else (BM_compare_127 L xs m d k x1 x2 x3 x4 ((r fM_values).2 ((g fM_at) : Int32).toNatClampNeg) 2 (upd g fM_at ((g fM_at) + 1)) r)) else (BM_compare_127 L xs m d k x1 x2 x3 x4 ((r fM_values).2 ((g fM_at) : Int32).toNatClampNeg) 0 (upd g fM_at ((g fM_at) + 1)) r)) else (BM_compare_127 L xs m d k x1 x2 x3 x4 ((r fM_values).2 ((g fM_at) : Int32).toNatClampNeg) (((r fM_values).2 ((g fM_at) : Int32).toNatClampNeg) - 2) (upd g fM_at ((g fM_at) + 1)) r)) else none) : Option fn_Z)
  refine (fs_r (n := n + 44) 5 (pc' := 79) (L' := [some (.ref cM), some (.int x1), some (.int x2), some (.int x3), some (.int x4), none, none]) (S' := [.int (g fM_at), .ref 10903]) rfl).trans ?_
  refine (fs_il (n := n + 43) (k := 903) rfl rfl).trans (fs_ite ?_ rfl)
  refine (fs_r (n := n + 37) 6 (pc' := 89) (L' := [some (.ref cM), some (.int x1), some (.int x2), some (.int x3), some (.int x4), some (.int ((r fM_values).2 ((g fM_at) : Int32).toNatClampNeg)), none]) (S' := [.int ((g fM_at) + 1), .ref cM]) rfl).trans ?_
  refine (fs_pf (n := n + 36) (ci := 9) (j := 41) rfl rfl rfl rfl).trans ?_
  refine (fs_r (n := n + 35) 1 (pc' := 94) (L' := [some (.ref cM), some (.int x1), some (.int x2), some (.int x3), some (.int x4), some (.int ((r fM_values).2 ((g fM_at) : Int32).toNatClampNeg)), none]) (S' := [.int x4]) rfl).trans ?_
  refine (fs_i (n := n + 34) rfl (t := 104) rfl (by decide)).trans (fs_ite ?_ ?_)
  · skip
    refine (fs_r (n := n + 32) 2 (pc' := 108) (L' := [some (.ref cM), some (.int x1), some (.int x2), some (.int x3), some (.int x4), some (.int ((r fM_values).2 ((g fM_at) : Int32).toNatClampNeg)), none]) (S' := [.int 68, .int ((r fM_values).2 ((g fM_at) : Int32).toNatClampNeg)]) rfl).trans ?_
    refine (fs_j (n := n + 31) rfl (t := 115) rfl (by decide)).trans (fs_ite ?_ ?_)
    · skip
      refine (fs_r (n := n + 29) 2 (pc' := 119) (L' := [some (.ref cM), some (.int x1), some (.int x2), some (.int x3), some (.int x4), some (.int ((r fM_values).2 ((g fM_at) : Int32).toNatClampNeg)), none]) (S' := [.int 69, .int ((r fM_values).2 ((g fM_at) : Int32).toNatClampNeg)]) rfl).trans ?_
      refine (fs_j (n := n + 28) rfl (t := 126) rfl (by decide)).trans (fs_ite ?_ ?_)
      · skip
        refine (fs_r (n := n + 27) 1 (pc' := 127) (L' := [some (.ref cM), some (.int x1), some (.int x2), some (.int x3), some (.int x4), some (.int ((r fM_values).2 ((g fM_at) : Int32).toNatClampNeg)), none]) (S' := [.int 1]) rfl).trans ?_
        exact bM_compare_127 L xs m d k (n + 1) x1 x2 x3 x4 ((r fM_values).2 ((g fM_at) : Int32).toNatClampNeg) 1 (upd g fM_at ((g fM_at) + 1)) r
      · skip
        refine (fs_r (n := n + 27) 1 (pc' := 123) (L' := [some (.ref cM), some (.int x1), some (.int x2), some (.int x3), some (.int x4), some (.int ((r fM_values).2 ((g fM_at) : Int32).toNatClampNeg)), none]) (S' := [.int 2]) rfl).trans ?_
        refine (fs_go (n := n + 26) rfl (t := 127) rfl (by decide)).trans ?_
        exact bM_compare_127 L xs m d k (n + 0) x1 x2 x3 x4 ((r fM_values).2 ((g fM_at) : Int32).toNatClampNeg) 2 (upd g fM_at ((g fM_at) + 1)) r
    · skip
      refine (fs_r (n := n + 30) 1 (pc' := 112) (L' := [some (.ref cM), some (.int x1), some (.int x2), some (.int x3), some (.int x4), some (.int ((r fM_values).2 ((g fM_at) : Int32).toNatClampNeg)), none]) (S' := [.int 0]) rfl).trans ?_
      refine (fs_go (n := n + 29) rfl (t := 127) rfl (by decide)).trans ?_
      exact bM_compare_127 L xs m d k (n + 3) x1 x2 x3 x4 ((r fM_values).2 ((g fM_at) : Int32).toNatClampNeg) 0 (upd g fM_at ((g fM_at) + 1)) r
  · skip
    refine (fs_r (n := n + 31) 3 (pc' := 101) (L' := [some (.ref cM), some (.int x1), some (.int x2), some (.int x3), some (.int x4), some (.int ((r fM_values).2 ((g fM_at) : Int32).toNatClampNeg)), none]) (S' := [.int (((r fM_values).2 ((g fM_at) : Int32).toNatClampNeg) - 2)]) rfl).trans ?_
    refine (fs_go (n := n + 30) rfl (t := 127) rfl (by decide)).trans ?_
    exact bM_compare_127 L xs m d k (n + 4) x1 x2 x3 x4 ((r fM_values).2 ((g fM_at) : Int32).toNatClampNeg) (((r fM_values).2 ((g fM_at) : Int32).toNatClampNeg) - 2) (upd g fM_at ((g fM_at) + 1)) r
def BM_compare_21 (L : Nat) (xs : Nat → Int32) (m d k : Nat) (x1 x2 x3 : Int32) (g : a2_G) (r : a2_A) : Option fn_Z := (if am_c2 .ne (g fM_bad) 0 = true then (BM_compare_40 L xs m d k x1 x2 x3 g r) else (fn_v (ev L xs m d nM_isComparing [.ref cM, .int (g fM_at)] g r) fun v12 g10 r11 => (if am_c2 .ne v12 0 = true then (if am_inr (g10 fM_at) (r11 fM_kinds).1 = true then (if am_c2 .ne ((r11 fM_kinds).2 ((g10 fM_at) : Int32).toNatClampNeg) 5 = true then (BM_compare_69 L xs m d k x1 x2 x3 0 g10 r11) else (BM_compare_69 L xs m d k x1 x2 x3 1 g10 r11)) else none) else (BM_compare_40 L xs m d k x1 x2 x3 g10 r11))))
theorem bM_compare_21 (L : Nat) (xs : Nat → Int32) (m d k : Nat) (n : Nat) (x1 x2 x3 : Int32) (g : a2_G) (r : a2_A) : bk L xs nM_compare nm_m205 m d k (n + 67) 21 [some (.ref cM), some (.int x1), some (.int x2), none, none, none, none] [.int x3] g r = BM_compare_21 L xs m d k x1 x2 x3 g r := by
  show _ = ((if am_c2 .ne (g fM_bad) 0 = true then (BM_compare_40 L xs m d k x1 x2 x3 g r) else (fn_v (ev L xs m d nM_isComparing [.ref cM, .int (g fM_at)] g r) fun v12 g10 r11 => (if am_c2 .ne v12 0 = true then (if am_inr (g10 fM_at) (r11 fM_kinds).1 = true then (if am_c2 .ne ((r11 fM_kinds).2 ((g10 fM_at) : Int32).toNatClampNeg) 5 = true then (BM_compare_69 L xs m d k x1 x2 x3 0 g10 r11) else (BM_compare_69 L xs m d k x1 x2 x3 1 g10 r11)) else none) else (BM_compare_40 L xs m d k x1 x2 x3 g10 r11)))) : Option fn_Z)
  refine (fs_r (n := n + 64) 3 (pc' := 26) (L' := [some (.ref cM), some (.int x1), some (.int x2), some (.int x3), none, none, none]) (S' := [.int (g fM_bad)]) rfl).trans ?_
  refine (fs_i (n := n + 63) rfl (t := 40) rfl (by decide)).trans (fs_ite ?_ ?_)
  · skip
    exact bM_compare_40 L xs m d k (n + 56) x1 x2 x3 g r
  · skip
    refine (fs_r (n := n + 60) 3 (pc' := 34) (L' := [some (.ref cM), some (.int x1), some (.int x2), some (.int x3), none, none, none]) (S' := [.int (g fM_at), .ref cM]) rfl).trans ?_
    refine (fs_cv (n := n + 59) (N := nm_m201) (as := [.ref cM, .int (g fM_at)]) (rest := []) rfl rfl (Or.inl rfl) rfl rfl rfl rfl rfl).trans (fs_fv fun v12 g10 r11 => ?_)
    refine (fs_i (n := n + 58) rfl (t := 51) rfl (by decide)).trans (fs_ite ?_ ?_)
    · skip
      refine (fs_r (n := n + 54) 4 (pc' := 59) (L' := [some (.ref cM), some (.int x1), some (.int x2), some (.int x3), none, none, none]) (S' := [.int (g10 fM_at), .ref 10902]) rfl).trans ?_
      refine (fs_il (n := n + 53) (k := 902) rfl rfl).trans (fs_ite ?_ rfl)
      refine (fs_r (n := n + 52) 1 (pc' := 61) (L' := [some (.ref cM), some (.int x1), some (.int x2), some (.int x3), none, none, none]) (S' := [.int 5, .int ((r11 fM_kinds).2 ((g10 fM_at) : Int32).toNatClampNeg)]) rfl).trans ?_
      refine (fs_j (n := n + 51) rfl (t := 68) rfl (by decide)).trans (fs_ite ?_ ?_)
      · skip
        refine (fs_r (n := n + 50) 1 (pc' := 69) (L' := [some (.ref cM), some (.int x1), some (.int x2), some (.int x3), none, none, none]) (S' := [.int 0]) rfl).trans ?_
        exact bM_compare_69 L xs m d k (n + 1) x1 x2 x3 0 g10 r11
      · skip
        refine (fs_r (n := n + 50) 1 (pc' := 65) (L' := [some (.ref cM), some (.int x1), some (.int x2), some (.int x3), none, none, none]) (S' := [.int 1]) rfl).trans ?_
        refine (fs_go (n := n + 49) rfl (t := 69) rfl (by decide)).trans ?_
        exact bM_compare_69 L xs m d k (n + 0) x1 x2 x3 1 g10 r11
    · skip
      exact bM_compare_40 L xs m d k (n + 51) x1 x2 x3 g10 r11
theorem eM_compare (L : Nat) (xs : Nat → Int32) (m d k : Nat) (n : Nat) (a1 : Int32) (g : a2_G) (r : a2_A) : bk L xs nM_compare nm_m205 m d k (n + 77) 0 [some (.ref cM), some (.int a1), none, none, none, none, none] [] g r = (fn_v (ev L xs m d nM_meets [.ref cM, .int 67] g r) fun v3 g1 r2 => (fn_v (ev L xs m d nM_meets [.ref cM, .int 64] g1 r2) fun v6 g4 r5 => (if am_c2 .eq v6 0 = true then (BM_compare_21 L xs m d k a1 v3 0 g4 r5) else (BM_compare_21 L xs m d k a1 v3 3 g4 r5)))) := by
  refine (fs_r (n := n + 75) 2 (pc' := 3) (L' := [some (.ref cM), some (.int a1), none, none, none, none, none]) (S' := [.int 67, .ref cM]) rfl).trans ?_
  refine (fs_cv (n := n + 74) (N := nm_m169) (as := [.ref cM, .int 67]) (rest := []) rfl rfl (Or.inl rfl) rfl rfl rfl rfl rfl).trans (fs_fv fun v3 g1 r2 => ?_)
  refine (fs_r (n := n + 71) 3 (pc' := 10) (L' := [some (.ref cM), some (.int a1), some (.int v3), none, none, none, none]) (S' := [.int 64, .ref cM]) rfl).trans ?_
  refine (fs_cv (n := n + 70) (N := nm_m169) (as := [.ref cM, .int 64]) (rest := []) rfl rfl (Or.inl rfl) rfl rfl rfl rfl rfl).trans (fs_fv fun v6 g4 r5 => ?_)
  refine (fs_i (n := n + 69) rfl (t := 20) rfl (by decide)).trans (fs_ite ?_ ?_)
  · skip
    refine (fs_r (n := n + 68) 1 (pc' := 21) (L' := [some (.ref cM), some (.int a1), some (.int v3), none, none, none, none]) (S' := [.int 0]) rfl).trans ?_
    exact bM_compare_21 L xs m d k (n + 1) a1 v3 0 g4 r5
  · skip
    refine (fs_r (n := n + 68) 1 (pc' := 17) (L' := [some (.ref cM), some (.int a1), some (.int v3), none, none, none, none]) (S' := [.int 3]) rfl).trans ?_
    refine (fs_go (n := n + 67) rfl (t := 21) rfl (by decide)).trans ?_
    exact bM_compare_21 L xs m d k (n + 0) a1 v3 3 g4 r5
theorem qM_compare (L : Nat) (xs : Nat → Int32) (m d : Nat) (a1 : Int32) (g : a2_G) (r : a2_A) : ev L xs (m + 1) (d + 1) nM_compare [.ref cM, .int a1] g r = (fn_v (ev L xs (m + 1) d nM_meets [.ref cM, .int 67] g r) fun v3 g1 r2 => (fn_v (ev L xs (m + 1) d nM_meets [.ref cM, .int 64] g1 r2) fun v6 g4 r5 => (if am_c2 .eq v6 0 = true then (BM_compare_21 L xs (m + 1) d m a1 v3 0 g4 r5) else (BM_compare_21 L xs (m + 1) d m a1 v3 3 g4 r5)))) := (fs_ev (M := nm_m205) rfl rfl).trans (eM_compare L xs (m + 1) d m 823 a1 g r)
/-- CobolParserModel.behindFactor(I)I -/
def BM_behindFactor_117 (L : Nat) (xs : Nat → Int32) (m d k : Nat) (x1 x2 x3 : Int32) (g : a2_G) (r : a2_A) : Option fn_Z := (if am_inr x3 (r fM_andLast).1 = true then (if am_inr x3 (r fM_andMany).1 = true then (if am_inr x3 (r fM_andMany).1 = true then (fn_v (ev L xs m d nM_meets [.ref cM, .int 65] g (a2_ua (a2_ua r fM_andLast ((r fM_andLast).1, (upd (r fM_andLast).2 (x3 : Int32).toNatClampNeg x2))) fM_andMany ((r fM_andMany).1, (upd (r fM_andMany).2 (x3 : Int32).toNatClampNeg (((r fM_andMany).2 (x3 : Int32).toNatClampNeg) + 1))))) fun v3 g1 r2 => (if am_c2 .eq v3 0 = true then (fn_n (ev L xs m d nM_closeAnds [.ref cM] g1 r2) fun g4 r5 => (fn_v (ev L xs m d nM_meets [.ref cM, .int 66] g4 r5) fun v8 g6 r7 => (if am_c2 .eq v8 0 = true then (if am_inr x3 (r7 fM_orFirst).1 = true then (if am_inr x3 (r7 fM_orLast).1 = true then (if am_inr x3 (r7 fM_orMany).1 = true then (fn_v (ev L xs m d nM_whole [.ref cM, .int 50, .int ((r7 fM_orFirst).2 (x3 : Int32).toNatClampNeg), .int ((r7 fM_orLast).2 (x3 : Int32).toNatClampNeg), .int ((r7 fM_orMany).2 (x3 : Int32).toNatClampNeg)] g6 r7) fun v11 g9 r10 => (if am_c2 .ne (g9 fM_marks) 0 = true then (fn_v (ev L xs m d nM_isSign [.ref cM, .int (g9 fM_at), .int 1] g9 r10) fun v14 g12 r13 => (if am_c2 .ne v14 0 = true then (lp L xs nM_behindFactor nm_m206 m d k 2 [some (.ref cM), some (.int x1), some (.int v11), some (.int x3), some (.int v11)] (upd (upd (upd (upd (upd g12 fM_at ((g12 fM_at) + 1)) fM_marks ((g12 fM_marks) - 1)) fM_level ((g12 fM_level) - 1)) fM_joints ((g12 fM_joints) - 1)) fM_subject 0) r13) else (fn_v (ev L xs m d nM_fail [.ref cM, .int 1, .int (g12 fM_at)] g12 r13) fun v17 g15 r16 => (some (.inl (some (.int 0)), g15, r16))))) else (some (.inl (some (.int v11)), g9, r10)))) else none) else none) else none) else (some (.inl (some (.int 0)), g6, r7))))) else (some (.inl (some (.int 0)), g1, r2)))) else none) else none) else none)
theorem bM_behindFactor_117 (L : Nat) (xs : Nat → Int32) (m d k : Nat) (n : Nat) (x1 x2 x3 : Int32) (g : a2_G) (r : a2_A) : bk L xs nM_behindFactor nm_m206 m d k (n + 78) 117 [some (.ref cM), some (.int x1), some (.int x2), some (.int x3), none] [] g r = BM_behindFactor_117 L xs m d k x1 x2 x3 g r := by
  show _ = ((if am_inr x3 (r fM_andLast).1 = true then (if am_inr x3 (r fM_andMany).1 = true then (if am_inr x3 (r fM_andMany).1 = true then (fn_v (ev L xs m d nM_meets [.ref cM, .int 65] g (a2_ua (a2_ua r fM_andLast ((r fM_andLast).1, (upd (r fM_andLast).2 (x3 : Int32).toNatClampNeg x2))) fM_andMany ((r fM_andMany).1, (upd (r fM_andMany).2 (x3 : Int32).toNatClampNeg (((r fM_andMany).2 (x3 : Int32).toNatClampNeg) + 1))))) fun v3 g1 r2 => (if am_c2 .eq v3 0 = true then (fn_n (ev L xs m d nM_closeAnds [.ref cM] g1 r2) fun g4 r5 => (fn_v (ev L xs m d nM_meets [.ref cM, .int 66] g4 r5) fun v8 g6 r7 => (if am_c2 .eq v8 0 = true then (if am_inr x3 (r7 fM_orFirst).1 = true then (if am_inr x3 (r7 fM_orLast).1 = true then (if am_inr x3 (r7 fM_orMany).1 = true then (fn_v (ev L xs m d nM_whole [.ref cM, .int 50, .int ((r7 fM_orFirst).2 (x3 : Int32).toNatClampNeg), .int ((r7 fM_orLast).2 (x3 : Int32).toNatClampNeg), .int ((r7 fM_orMany).2 (x3 : Int32).toNatClampNeg)] g6 r7) fun v11 g9 r10 => (if am_c2 .ne (g9 fM_marks) 0 = true then (fn_v (ev L xs m d nM_isSign [.ref cM, .int (g9 fM_at), .int 1] g9 r10) fun v14 g12 r13 => (if am_c2 .ne v14 0 = true then (lp L xs nM_behindFactor nm_m206 m d k 2 [some (.ref cM), some (.int x1), some (.int v11), some (.int x3), some (.int v11)] (upd (upd (upd (upd (upd g12 fM_at ((g12 fM_at) + 1)) fM_marks ((g12 fM_marks) - 1)) fM_level ((g12 fM_level) - 1)) fM_joints ((g12 fM_joints) - 1)) fM_subject 0) r13) else (fn_v (ev L xs m d nM_fail [.ref cM, .int 1, .int (g12 fM_at)] g12 r13) fun v17 g15 r16 => (some (.inl (some (.int 0)), g15, r16))))) else (some (.inl (some (.int v11)), g9, r10)))) else none) else none) else none) else (some (.inl (some (.int 0)), g6, r7))))) else (some (.inl (some (.int 0)), g1, r2)))) else none) else none) else none) : Option fn_Z)
  refine (fs_r (n := n + 74) 4 (pc' := 123) (L' := [some (.ref cM), some (.int x1), some (.int x2), some (.int x3), none]) (S' := [.int x2, .int x3, .ref 10960]) rfl).trans ?_
  refine (fs_is (n := n + 73) (k := 960) rfl rfl).trans (fs_ite ?_ rfl)
  refine (fs_r (n := n + 69) 4 (pc' := 130) (L' := [some (.ref cM), some (.int x1), some (.int x2), some (.int x3), none]) (S' := [.int x3, .ref 10961, .int x3, .ref 10961]) rfl).trans ?_
  refine (fs_il (n := n + 68) (k := 961) rfl rfl).trans (fs_ite ?_ rfl)
  refine (fs_r (n := n + 66) 2 (pc' := 133) (L' := [some (.ref cM), some (.int x1), some (.int x2), some (.int x3), none]) (S' := [.int (((r fM_andMany).2 (x3 : Int32).toNatClampNeg) + 1), .int x3, .ref 10961]) rfl).trans ?_
  refine (fs_is (n := n + 65) (k := 961) rfl rfl).trans (fs_ite ?_ rfl)
  refine (fs_r (n := n + 63) 2 (pc' := 137) (L' := [some (.ref cM), some (.int x1), some (.int x2), some (.int x3), none]) (S' := [.int 65, .ref cM]) rfl).trans ?_
  refine (fs_cv (n := n + 62) (N := nm_m169) (as := [.ref cM, .int 65]) (rest := []) rfl rfl (Or.inl rfl) rfl rfl rfl rfl rfl).trans (fs_fv fun v3 g1 r2 => ?_)
  refine (fs_i (n := n + 61) rfl (t := 145) rfl (by decide)).trans (fs_ite ?_ ?_)
  · skip
    refine (fs_r (n := n + 60) 1 (pc' := 146) (L' := [some (.ref cM), some (.int x1), some (.int x2), some (.int x3), none]) (S' := [.ref cM]) rfl).trans ?_
    refine (fs_cn (n := n + 59) (N := nm_m207) (as := [.ref cM]) (rest := []) rfl rfl (Or.inl rfl) rfl rfl rfl rfl rfl).trans (fs_fn fun g4 r5 => ?_)
    refine (fs_r (n := n + 57) 2 (pc' := 152) (L' := [some (.ref cM), some (.int x1), some (.int x2), some (.int x3), none]) (S' := [.int 66, .ref cM]) rfl).trans ?_
    refine (fs_cv (n := n + 56) (N := nm_m169) (as := [.ref cM, .int 66]) (rest := []) rfl rfl (Or.inl rfl) rfl rfl rfl rfl rfl).trans (fs_fv fun v8 g6 r7 => ?_)
    refine (fs_i (n := n + 55) rfl (t := 160) rfl (by decide)).trans (fs_ite ?_ ?_)
    · skip
      refine (fs_r (n := n + 50) 5 (pc' := 168) (L' := [some (.ref cM), some (.int x1), some (.int x2), some (.int x3), none]) (S' := [.int x3, .ref 10962, .int 50, .ref cM]) rfl).trans ?_
      refine (fs_il (n := n + 49) (k := 962) rfl rfl).trans (fs_ite ?_ rfl)
      refine (fs_r (n := n + 46) 3 (pc' := 174) (L' := [some (.ref cM), some (.int x1), some (.int x2), some (.int x3), none]) (S' := [.int x3, .ref 10963, .int ((r7 fM_orFirst).2 (x3 : Int32).toNatClampNeg), .int 50, .ref cM]) rfl).trans ?_
      refine (fs_il (n := n + 45) (k := 963) rfl rfl).trans (fs_ite ?_ rfl)
      refine (fs_r (n := n + 42) 3 (pc' := 180) (L' := [some (.ref cM), some (.int x1), some (.int x2), some (.int x3), none]) (S' := [.int x3, .ref 10964, .int ((r7 fM_orLast).2 (x3 : Int32).toNatClampNeg), .int ((r7 fM_orFirst).2 (x3 : Int32).toNatClampNeg), .int 50, .ref cM]) rfl).trans ?_
      refine (fs_il (n := n + 41) (k := 964) rfl rfl).trans (fs_ite ?_ rfl)
      refine (fs_cv (n := n + 40) (N := nm_m208) (as := [.ref cM, .int 50, .int ((r7 fM_orFirst).2 (x3 : Int32).toNatClampNeg), .int ((r7 fM_orLast).2 (x3 : Int32).toNatClampNeg), .int ((r7 fM_orMany).2 (x3 : Int32).toNatClampNeg)]) (rest := []) rfl rfl (Or.inl rfl) rfl rfl rfl rfl rfl).trans (fs_fv fun v11 g9 r10 => ?_)
      refine (fs_r (n := n + 37) 3 (pc' := 190) (L' := [some (.ref cM), some (.int x1), some (.int x2), some (.int x3), some (.int v11)]) (S' := [.int (g9 fM_marks)]) rfl).trans ?_
      refine (fs_i (n := n + 36) rfl (t := 196) rfl (by decide)).trans (fs_ite ?_ ?_)
      · skip
        refine (fs_r (n := n + 32) 4 (pc' := 202) (L' := [some (.ref cM), some (.int x1), some (.int x2), some (.int x3), some (.int v11)]) (S' := [.int 1, .int (g9 fM_at), .ref cM]) rfl).trans ?_
        refine (fs_cv (n := n + 31) (N := nm_m203) (as := [.ref cM, .int (g9 fM_at), .int 1]) (rest := []) rfl rfl (Or.inl rfl) rfl rfl rfl rfl rfl).trans (fs_fv fun v14 g12 r13 => ?_)
        refine (fs_i (n := n + 30) rfl (t := 220) rfl (by decide)).trans (fs_ite ?_ ?_)
        · skip
          refine (fs_r (n := n + 25) 5 (pc' := 227) (L' := [some (.ref cM), some (.int x1), some (.int x2), some (.int x3), some (.int v11)]) (S' := [.int ((g12 fM_at) + 1), .ref cM]) rfl).trans ?_
          refine (fs_pf (n := n + 24) (ci := 9) (j := 41) rfl rfl rfl rfl).trans ?_
          refine (fs_r (n := n + 19) 5 (pc' := 237) (L' := [some (.ref cM), some (.int x1), some (.int x2), some (.int x3), some (.int v11)]) (S' := [.int ((g12 fM_marks) - 1), .ref cM]) rfl).trans ?_
          refine (fs_pf (n := n + 18) (ci := 9) (j := 54) rfl rfl rfl rfl).trans ?_
          refine (fs_r (n := n + 13) 5 (pc' := 247) (L' := [some (.ref cM), some (.int x1), some (.int x2), some (.int x3), some (.int v11)]) (S' := [.int ((g12 fM_level) - 1), .ref cM]) rfl).trans ?_
          refine (fs_pf (n := n + 12) (ci := 9) (j := 44) rfl rfl rfl rfl).trans ?_
          refine (fs_r (n := n + 7) 5 (pc' := 257) (L' := [some (.ref cM), some (.int x1), some (.int x2), some (.int x3), some (.int v11)]) (S' := [.int ((g12 fM_joints) - 1), .ref cM]) rfl).trans ?_
          refine (fs_pf (n := n + 6) (ci := 9) (j := 57) rfl rfl rfl rfl).trans ?_
          refine (fs_r (n := n + 4) 2 (pc' := 262) (L' := [some (.ref cM), some (.int x1), some (.int x2), some (.int x3), some (.int v11)]) (S' := [.int 0, .ref cM]) rfl).trans ?_
          refine (fs_pf (n := n + 3) (ci := 9) (j := 55) rfl rfl rfl rfl).trans ?_
          refine (fs_r (n := n + 1) 2 (pc' := 268) (L' := [some (.ref cM), some (.int x1), some (.int v11), some (.int x3), some (.int v11)]) (S' := []) rfl).trans ?_
          exact (fs_gb (n := n + 0) rfl (t := 2) rfl (by decide)).trans rfl
        · skip
          refine (fs_r (n := n + 26) 4 (pc' := 214) (L' := [some (.ref cM), some (.int x1), some (.int x2), some (.int x3), some (.int v11)]) (S' := [.int (g12 fM_at), .int 1, .ref cM]) rfl).trans ?_
          refine (fs_cv (n := n + 25) (N := nm_m164) (as := [.ref cM, .int 1, .int (g12 fM_at)]) (rest := []) rfl rfl (Or.inl rfl) rfl rfl rfl rfl rfl).trans (fs_fv fun v17 g15 r16 => ?_)
          refine (fs_r (n := n + 23) 2 (pc' := 219) (L' := [some (.ref cM), some (.int x1), some (.int x2), some (.int x3), some (.int v11)]) (S' := [.int 0]) rfl).trans ?_
          exact (fs_ri (n := n + 22) rfl rfl).trans rfl
      · skip
        refine (fs_r (n := n + 35) 1 (pc' := 195) (L' := [some (.ref cM), some (.int x1), some (.int x2), some (.int x3), some (.int v11)]) (S' := [.int v11]) rfl).trans ?_
        exact (fs_ri (n := n + 34) rfl rfl).trans rfl
    · skip
      refine (fs_r (n := n + 54) 1 (pc' := 159) (L' := [some (.ref cM), some (.int x1), some (.int x2), some (.int x3), none]) (S' := [.int 0]) rfl).trans ?_
      exact (fs_ri (n := n + 53) rfl rfl).trans rfl
  · skip
    refine (fs_r (n := n + 60) 1 (pc' := 144) (L' := [some (.ref cM), some (.int x1), some (.int x2), some (.int x3), none]) (S' := [.int 0]) rfl).trans ?_
    exact (fs_ri (n := n + 59) rfl rfl).trans rfl
def BM_behindFactor_72 (L : Nat) (xs : Nat → Int32) (m d k : Nat) (x1 x2 : Int32) (g : a2_G) (r : a2_A) : Option fn_Z := (if am_inr x2 (r fM_next).1 = true then (if am_inr ((g fM_joints) - 1) (r fM_andMany).1 = true then (if am_c2 .ne ((r fM_andMany).2 (((g fM_joints) - 1) : Int32).toNatClampNeg) 0 = true then (if am_inr ((g fM_joints) - 1) (r fM_andLast).1 = true then (if am_inr ((r fM_andLast).2 (((g fM_joints) - 1) : Int32).toNatClampNeg) (r fM_next).1 = true then (BM_behindFactor_117 L xs m d k x1 x2 ((g fM_joints) - 1) g (a2_ua (a2_ua r fM_next ((r fM_next).1, (upd (r fM_next).2 (x2 : Int32).toNatClampNeg 0))) fM_next ((r fM_next).1, (upd (upd (r fM_next).2 (x2 : Int32).toNatClampNeg 0) (((r fM_andLast).2 (((g fM_joints) - 1) : Int32).toNatClampNeg) : Int32).toNatClampNeg x2)))) else none) else none) else (if am_inr ((g fM_joints) - 1) (r fM_andFirst).1 = true then (BM_behindFactor_117 L xs m d k x1 x2 ((g fM_joints) - 1) g (a2_ua (a2_ua r fM_next ((r fM_next).1, (upd (r fM_next).2 (x2 : Int32).toNatClampNeg 0))) fM_andFirst ((r fM_andFirst).1, (upd (r fM_andFirst).2 (((g fM_joints) - 1) : Int32).toNatClampNeg x2)))) else none)) else none) else none)
theorem bM_behindFactor_72 (L : Nat) (xs : Nat → Int32) (m d k : Nat) (n : Nat) (x1 x2 : Int32) (g : a2_G) (r : a2_A) : bk L xs nM_behindFactor nm_m206 m d k (n + 101) 72 [some (.ref cM), some (.int x1), some (.int x2), none, none] [] g r = BM_behindFactor_72 L xs m d k x1 x2 g r := by
  show _ = ((if am_inr x2 (r fM_next).1 = true then (if am_inr ((g fM_joints) - 1) (r fM_andMany).1 = true then (if am_c2 .ne ((r fM_andMany).2 (((g fM_joints) - 1) : Int32).toNatClampNeg) 0 = true then (if am_inr ((g fM_joints) - 1) (r fM_andLast).1 = true then (if am_inr ((r fM_andLast).2 (((g fM_joints) - 1) : Int32).toNatClampNeg) (r fM_next).1 = true then (BM_behindFactor_117 L xs m d k x1 x2 ((g fM_joints) - 1) g (a2_ua (a2_ua r fM_next ((r fM_next).1, (upd (r fM_next).2 (x2 : Int32).toNatClampNeg 0))) fM_next ((r fM_next).1, (upd (upd (r fM_next).2 (x2 : Int32).toNatClampNeg 0) (((r fM_andLast).2 (((g fM_joints) - 1) : Int32).toNatClampNeg) : Int32).toNatClampNeg x2)))) else none) else none) else (if am_inr ((g fM_joints) - 1) (r fM_andFirst).1 = true then (BM_behindFactor_117 L xs m d k x1 x2 ((g fM_joints) - 1) g (a2_ua (a2_ua r fM_next ((r fM_next).1, (upd (r fM_next).2 (x2 : Int32).toNatClampNeg 0))) fM_andFirst ((r fM_andFirst).1, (upd (r fM_andFirst).2 (((g fM_joints) - 1) : Int32).toNatClampNeg x2)))) else none)) else none) else none) : Option fn_Z)
  refine (fs_r (n := n + 92) 9 (pc' := 85) (L' := [some (.ref cM), some (.int x1), some (.int x2), some (.int ((g fM_joints) - 1)), none]) (S' := [.int 0, .int x2, .ref 10915]) rfl).trans ?_
  refine (fs_is (n := n + 91) (k := 915) rfl rfl).trans (fs_ite ?_ rfl)
  refine (fs_r (n := n + 88) 3 (pc' := 91) (L' := [some (.ref cM), some (.int x1), some (.int x2), some (.int ((g fM_joints) - 1)), none]) (S' := [.int ((g fM_joints) - 1), .ref 10961]) rfl).trans ?_
  refine (fs_il (n := n + 87) (k := 961) rfl rfl).trans (fs_ite ?_ rfl)
  refine (fs_i (n := n + 86) rfl (t := 105) rfl (by decide)).trans (fs_ite ?_ ?_)
  · skip
    refine (fs_r (n := n + 81) 5 (pc' := 114) (L' := [some (.ref cM), some (.int x1), some (.int x2), some (.int ((g fM_joints) - 1)), none]) (S' := [.int ((g fM_joints) - 1), .ref 10960, .ref 10915]) rfl).trans ?_
    refine (fs_il (n := n + 80) (k := 960) rfl rfl).trans (fs_ite ?_ rfl)
    refine (fs_r (n := n + 79) 1 (pc' := 116) (L' := [some (.ref cM), some (.int x1), some (.int x2), some (.int ((g fM_joints) - 1)), none]) (S' := [.int x2, .int ((r fM_andLast).2 (((g fM_joints) - 1) : Int32).toNatClampNeg), .ref 10915]) rfl).trans ?_
    refine (fs_is (n := n + 78) (k := 915) rfl rfl).trans (fs_ite ?_ rfl)
    exact bM_behindFactor_117 L xs m d k (n + 0) x1 x2 ((g fM_joints) - 1) g (a2_ua (a2_ua r fM_next ((r fM_next).1, (upd (r fM_next).2 (x2 : Int32).toNatClampNeg 0))) fM_next ((r fM_next).1, (upd (upd (r fM_next).2 (x2 : Int32).toNatClampNeg 0) (((r fM_andLast).2 (((g fM_joints) - 1) : Int32).toNatClampNeg) : Int32).toNatClampNeg x2)))
  · skip
    refine (fs_r (n := n + 82) 4 (pc' := 101) (L' := [some (.ref cM), some (.int x1), some (.int x2), some (.int ((g fM_joints) - 1)), none]) (S' := [.int x2, .int ((g fM_joints) - 1), .ref 10959]) rfl).trans ?_
    refine (fs_is (n := n + 81) (k := 959) rfl rfl).trans (fs_ite ?_ rfl)
    refine (fs_go (n := n + 80) rfl (t := 117) rfl (by decide)).trans ?_
    exact bM_behindFactor_117 L xs m d k (n + 2) x1 x2 ((g fM_joints) - 1) g (a2_ua (a2_ua r fM_next ((r fM_next).1, (upd (r fM_next).2 (x2 : Int32).toNatClampNeg 0))) fM_andFirst ((r fM_andFirst).1, (upd (r fM_andFirst).2 (((g fM_joints) - 1) : Int32).toNatClampNeg x2)))
def BM_behindFactor_2 (L : Nat) (xs : Nat → Int32) (m d k : Nat) (x1 x2 : Int32) (g : a2_G) (r : a2_A) : Option fn_Z := (if am_c2 .le (g fM_marks) 0 = true then (BM_behindFactor_72 L xs m d k x1 x2 g r) else (if am_inr ((g fM_marks) - 1) (r fM_mark).1 = true then (if am_c2 .eq ((r fM_mark).2 (((g fM_marks) - 1) : Int32).toNatClampNeg) (-1) = true then (BM_behindFactor_72 L xs m d k x1 x2 g r) else (if am_inr ((g fM_marks) - 1) (r fM_mark).1 = true then (fn_v (ev L xs m d nM_make [.ref cM, .int 52, .int 0, .int ((r fM_mark).2 (((g fM_marks) - 1) : Int32).toNatClampNeg)] (upd (upd g fM_marks ((g fM_marks) - 1)) fM_level ((g fM_level) - 1)) r) fun v20 g18 r19 => (fn_n (ev L xs m d nM_attach [.ref cM, .int v20, .int x2] g18 r19) fun g21 r22 => (lp L xs nM_behindFactor nm_m206 m d k 2 [some (.ref cM), some (.int x1), some (.int v20), some (.int v20), none] g21 r22))) else none)) else none))
theorem bM_behindFactor_2 (L : Nat) (xs : Nat → Int32) (m d k : Nat) (n : Nat) (x1 x2 : Int32) (g : a2_G) (r : a2_A) : bk L xs nM_behindFactor nm_m206 m d k (n + 113) 2 [some (.ref cM), some (.int x1), some (.int x2), none, none] [] g r = BM_behindFactor_2 L xs m d k x1 x2 g r := by
  show _ = ((if am_c2 .le (g fM_marks) 0 = true then (BM_behindFactor_72 L xs m d k x1 x2 g r) else (if am_inr ((g fM_marks) - 1) (r fM_mark).1 = true then (if am_c2 .eq ((r fM_mark).2 (((g fM_marks) - 1) : Int32).toNatClampNeg) (-1) = true then (BM_behindFactor_72 L xs m d k x1 x2 g r) else (if am_inr ((g fM_marks) - 1) (r fM_mark).1 = true then (fn_v (ev L xs m d nM_make [.ref cM, .int 52, .int 0, .int ((r fM_mark).2 (((g fM_marks) - 1) : Int32).toNatClampNeg)] (upd (upd g fM_marks ((g fM_marks) - 1)) fM_level ((g fM_level) - 1)) r) fun v20 g18 r19 => (fn_n (ev L xs m d nM_attach [.ref cM, .int v20, .int x2] g18 r19) fun g21 r22 => (lp L xs nM_behindFactor nm_m206 m d k 2 [some (.ref cM), some (.int x1), some (.int v20), some (.int v20), none] g21 r22))) else none)) else none)) : Option fn_Z)
  refine (fs_r (n := n + 111) 2 (pc' := 6) (L' := [some (.ref cM), some (.int x1), some (.int x2), none, none]) (S' := [.int (g fM_marks)]) rfl).trans ?_
  refine (fs_i (n := n + 110) rfl (t := 72) rfl (by decide)).trans (fs_ite ?_ ?_)
  · skip
    exact bM_behindFactor_72 L xs m d k (n + 9) x1 x2 g r
  · skip
    refine (fs_r (n := n + 104) 6 (pc' := 19) (L' := [some (.ref cM), some (.int x1), some (.int x2), none, none]) (S' := [.int ((g fM_marks) - 1), .ref 10958]) rfl).trans ?_
    refine (fs_il (n := n + 103) (k := 958) rfl rfl).trans (fs_ite ?_ rfl)
    refine (fs_r (n := n + 102) 1 (pc' := 21) (L' := [some (.ref cM), some (.int x1), some (.int x2), none, none]) (S' := [.int (-1), .int ((r fM_mark).2 (((g fM_marks) - 1) : Int32).toNatClampNeg)]) rfl).trans ?_
    refine (fs_j (n := n + 101) rfl (t := 72) rfl (by decide)).trans (fs_ite ?_ ?_)
    · skip
      exact bM_behindFactor_72 L xs m d k (n + 0) x1 x2 g r
    · skip
      refine (fs_r (n := n + 96) 5 (pc' := 31) (L' := [some (.ref cM), some (.int x1), some (.int x2), none, none]) (S' := [.int ((g fM_marks) - 1), .ref cM]) rfl).trans ?_
      refine (fs_pf (n := n + 95) (ci := 9) (j := 54) rfl rfl rfl rfl).trans ?_
      refine (fs_r (n := n + 90) 5 (pc' := 41) (L' := [some (.ref cM), some (.int x1), some (.int x2), none, none]) (S' := [.int ((g fM_level) - 1), .ref cM]) rfl).trans ?_
      refine (fs_pf (n := n + 89) (ci := 9) (j := 44) rfl rfl rfl rfl).trans ?_
      refine (fs_r (n := n + 82) 7 (pc' := 56) (L' := [some (.ref cM), some (.int x1), some (.int x2), none, none]) (S' := [.int ((g fM_marks) - 1), .ref 10958, .int 0, .int 52, .ref cM]) rfl).trans ?_
      refine (fs_il (n := n + 81) (k := 958) rfl rfl).trans (fs_ite ?_ rfl)
      refine (fs_cv (n := n + 80) (N := nm_m160) (as := [.ref cM, .int 52, .int 0, .int ((r fM_mark).2 (((g fM_marks) - 1) : Int32).toNatClampNeg)]) (rest := []) rfl rfl (Or.inl rfl) rfl rfl rfl rfl rfl).trans (fs_fv fun v20 g18 r19 => ?_)
      refine (fs_r (n := n + 76) 4 (pc' := 64) (L' := [some (.ref cM), some (.int x1), some (.int x2), some (.int v20), none]) (S' := [.int x2, .int v20, .ref cM]) rfl).trans ?_
      refine (fs_cn (n := n + 75) (N := nm_m173) (as := [.ref cM, .int v20, .int x2]) (rest := []) rfl rfl (Or.inl rfl) rfl rfl rfl rfl rfl).trans (fs_fn fun g21 r22 => ?_)
      refine (fs_r (n := n + 73) 2 (pc' := 69) (L' := [some (.ref cM), some (.int x1), some (.int v20), some (.int v20), none]) (S' := []) rfl).trans ?_
      exact (fs_gb (n := n + 72) rfl (t := 2) rfl (by decide)).trans rfl
theorem lM_behindFactor_2 (L : Nat) (xs : Nat → Int32) (m d k : Nat) (x1 x2 : Int32) (g : a2_G) (r : a2_A) : lp L xs nM_behindFactor nm_m206 m d (k + 1) 2 [some (.ref cM), some (.int x1), some (.int x2), none, none] g r = BM_behindFactor_2 L xs m d k x1 x2 g r := fs_lp.trans (bM_behindFactor_2 L xs m d k 787 x1 x2 g r)
def BM_behindFactor_117_1 (L : Nat) (xs : Nat → Int32) (m d k : Nat) (x1 x2 x3 x4 : Int32) (g : a2_G) (r : a2_A) : Option fn_Z := (if am_inr x3 (r fM_andLast).1 = true then (if am_inr x3 (r fM_andMany).1 = true then (if am_inr x3 (r fM_andMany).1 = true then (fn_v (ev L xs m d nM_meets [.ref cM, .int 65] g (a2_ua (a2_ua r fM_andLast ((r fM_andLast).1, (upd (r fM_andLast).2 (x3 : Int32).toNatClampNeg x2))) fM_andMany ((r fM_andMany).1, (upd (r fM_andMany).2 (x3 : Int32).toNatClampNeg (((r fM_andMany).2 (x3 : Int32).toNatClampNeg) + 1))))) fun v25 g23 r24 => (if am_c2 .eq v25 0 = true then (fn_n (ev L xs m d nM_closeAnds [.ref cM] g23 r24) fun g26 r27 => (fn_v (ev L xs m d nM_meets [.ref cM, .int 66] g26 r27) fun v30 g28 r29 => (if am_c2 .eq v30 0 = true then (if am_inr x3 (r29 fM_orFirst).1 = true then (if am_inr x3 (r29 fM_orLast).1 = true then (if am_inr x3 (r29 fM_orMany).1 = true then (fn_v (ev L xs m d nM_whole [.ref cM, .int 50, .int ((r29 fM_orFirst).2 (x3 : Int32).toNatClampNeg), .int ((r29 fM_orLast).2 (x3 : Int32).toNatClampNeg), .int ((r29 fM_orMany).2 (x3 : Int32).toNatClampNeg)] g28 r29) fun v33 g31 r32 => (if am_c2 .ne (g31 fM_marks) 0 = true then (fn_v (ev L xs m d nM_isSign [.ref cM, .int (g31 fM_at), .int 1] g31 r32) fun v36 g34 r35 => (if am_c2 .ne v36 0 = true then (lp L xs nM_behindFactor nm_m206 m d k 2 [some (.ref cM), some (.int x1), some (.int v33), some (.int x3), some (.int v33)] (upd (upd (upd (upd (upd g34 fM_at ((g34 fM_at) + 1)) fM_marks ((g34 fM_marks) - 1)) fM_level ((g34 fM_level) - 1)) fM_joints ((g34 fM_joints) - 1)) fM_subject 0) r35) else (fn_v (ev L xs m d nM_fail [.ref cM, .int 1, .int (g34 fM_at)] g34 r35) fun v39 g37 r38 => (some (.inl (some (.int 0)), g37, r38))))) else (some (.inl (some (.int v33)), g31, r32)))) else none) else none) else none) else (some (.inl (some (.int 0)), g28, r29))))) else (some (.inl (some (.int 0)), g23, r24)))) else none) else none) else none)
theorem bM_behindFactor_117_1 (L : Nat) (xs : Nat → Int32) (m d k : Nat) (n : Nat) (x1 x2 x3 x4 : Int32) (g : a2_G) (r : a2_A) : bk L xs nM_behindFactor nm_m206 m d k (n + 78) 117 [some (.ref cM), some (.int x1), some (.int x2), some (.int x3), some (.int x4)] [] g r = BM_behindFactor_117_1 L xs m d k x1 x2 x3 x4 g r := by
  show _ = ((if am_inr x3 (r fM_andLast).1 = true then (if am_inr x3 (r fM_andMany).1 = true then (if am_inr x3 (r fM_andMany).1 = true then (fn_v (ev L xs m d nM_meets [.ref cM, .int 65] g (a2_ua (a2_ua r fM_andLast ((r fM_andLast).1, (upd (r fM_andLast).2 (x3 : Int32).toNatClampNeg x2))) fM_andMany ((r fM_andMany).1, (upd (r fM_andMany).2 (x3 : Int32).toNatClampNeg (((r fM_andMany).2 (x3 : Int32).toNatClampNeg) + 1))))) fun v25 g23 r24 => (if am_c2 .eq v25 0 = true then (fn_n (ev L xs m d nM_closeAnds [.ref cM] g23 r24) fun g26 r27 => (fn_v (ev L xs m d nM_meets [.ref cM, .int 66] g26 r27) fun v30 g28 r29 => (if am_c2 .eq v30 0 = true then (if am_inr x3 (r29 fM_orFirst).1 = true then (if am_inr x3 (r29 fM_orLast).1 = true then (if am_inr x3 (r29 fM_orMany).1 = true then (fn_v (ev L xs m d nM_whole [.ref cM, .int 50, .int ((r29 fM_orFirst).2 (x3 : Int32).toNatClampNeg), .int ((r29 fM_orLast).2 (x3 : Int32).toNatClampNeg), .int ((r29 fM_orMany).2 (x3 : Int32).toNatClampNeg)] g28 r29) fun v33 g31 r32 => (if am_c2 .ne (g31 fM_marks) 0 = true then (fn_v (ev L xs m d nM_isSign [.ref cM, .int (g31 fM_at), .int 1] g31 r32) fun v36 g34 r35 => (if am_c2 .ne v36 0 = true then (lp L xs nM_behindFactor nm_m206 m d k 2 [some (.ref cM), some (.int x1), some (.int v33), some (.int x3), some (.int v33)] (upd (upd (upd (upd (upd g34 fM_at ((g34 fM_at) + 1)) fM_marks ((g34 fM_marks) - 1)) fM_level ((g34 fM_level) - 1)) fM_joints ((g34 fM_joints) - 1)) fM_subject 0) r35) else (fn_v (ev L xs m d nM_fail [.ref cM, .int 1, .int (g34 fM_at)] g34 r35) fun v39 g37 r38 => (some (.inl (some (.int 0)), g37, r38))))) else (some (.inl (some (.int v33)), g31, r32)))) else none) else none) else none) else (some (.inl (some (.int 0)), g28, r29))))) else (some (.inl (some (.int 0)), g23, r24)))) else none) else none) else none) : Option fn_Z)
  refine (fs_r (n := n + 74) 4 (pc' := 123) (L' := [some (.ref cM), some (.int x1), some (.int x2), some (.int x3), some (.int x4)]) (S' := [.int x2, .int x3, .ref 10960]) rfl).trans ?_
  refine (fs_is (n := n + 73) (k := 960) rfl rfl).trans (fs_ite ?_ rfl)
  refine (fs_r (n := n + 69) 4 (pc' := 130) (L' := [some (.ref cM), some (.int x1), some (.int x2), some (.int x3), some (.int x4)]) (S' := [.int x3, .ref 10961, .int x3, .ref 10961]) rfl).trans ?_
  refine (fs_il (n := n + 68) (k := 961) rfl rfl).trans (fs_ite ?_ rfl)
  refine (fs_r (n := n + 66) 2 (pc' := 133) (L' := [some (.ref cM), some (.int x1), some (.int x2), some (.int x3), some (.int x4)]) (S' := [.int (((r fM_andMany).2 (x3 : Int32).toNatClampNeg) + 1), .int x3, .ref 10961]) rfl).trans ?_
  refine (fs_is (n := n + 65) (k := 961) rfl rfl).trans (fs_ite ?_ rfl)
  refine (fs_r (n := n + 63) 2 (pc' := 137) (L' := [some (.ref cM), some (.int x1), some (.int x2), some (.int x3), some (.int x4)]) (S' := [.int 65, .ref cM]) rfl).trans ?_
  refine (fs_cv (n := n + 62) (N := nm_m169) (as := [.ref cM, .int 65]) (rest := []) rfl rfl (Or.inl rfl) rfl rfl rfl rfl rfl).trans (fs_fv fun v25 g23 r24 => ?_)
  refine (fs_i (n := n + 61) rfl (t := 145) rfl (by decide)).trans (fs_ite ?_ ?_)
  · skip
    refine (fs_r (n := n + 60) 1 (pc' := 146) (L' := [some (.ref cM), some (.int x1), some (.int x2), some (.int x3), some (.int x4)]) (S' := [.ref cM]) rfl).trans ?_
    refine (fs_cn (n := n + 59) (N := nm_m207) (as := [.ref cM]) (rest := []) rfl rfl (Or.inl rfl) rfl rfl rfl rfl rfl).trans (fs_fn fun g26 r27 => ?_)
    refine (fs_r (n := n + 57) 2 (pc' := 152) (L' := [some (.ref cM), some (.int x1), some (.int x2), some (.int x3), some (.int x4)]) (S' := [.int 66, .ref cM]) rfl).trans ?_
    refine (fs_cv (n := n + 56) (N := nm_m169) (as := [.ref cM, .int 66]) (rest := []) rfl rfl (Or.inl rfl) rfl rfl rfl rfl rfl).trans (fs_fv fun v30 g28 r29 => ?_)
    refine (fs_i (n := n + 55) rfl (t := 160) rfl (by decide)).trans (fs_ite ?_ ?_)
    · skip
      refine (fs_r (n := n + 50) 5 (pc' := 168) (L' := [some (.ref cM), some (.int x1), some (.int x2), some (.int x3), some (.int x4)]) (S' := [.int x3, .ref 10962, .int 50, .ref cM]) rfl).trans ?_
      refine (fs_il (n := n + 49) (k := 962) rfl rfl).trans (fs_ite ?_ rfl)
      refine (fs_r (n := n + 46) 3 (pc' := 174) (L' := [some (.ref cM), some (.int x1), some (.int x2), some (.int x3), some (.int x4)]) (S' := [.int x3, .ref 10963, .int ((r29 fM_orFirst).2 (x3 : Int32).toNatClampNeg), .int 50, .ref cM]) rfl).trans ?_
      refine (fs_il (n := n + 45) (k := 963) rfl rfl).trans (fs_ite ?_ rfl)
      refine (fs_r (n := n + 42) 3 (pc' := 180) (L' := [some (.ref cM), some (.int x1), some (.int x2), some (.int x3), some (.int x4)]) (S' := [.int x3, .ref 10964, .int ((r29 fM_orLast).2 (x3 : Int32).toNatClampNeg), .int ((r29 fM_orFirst).2 (x3 : Int32).toNatClampNeg), .int 50, .ref cM]) rfl).trans ?_
      refine (fs_il (n := n + 41) (k := 964) rfl rfl).trans (fs_ite ?_ rfl)
      refine (fs_cv (n := n + 40) (N := nm_m208) (as := [.ref cM, .int 50, .int ((r29 fM_orFirst).2 (x3 : Int32).toNatClampNeg), .int ((r29 fM_orLast).2 (x3 : Int32).toNatClampNeg), .int ((r29 fM_orMany).2 (x3 : Int32).toNatClampNeg)]) (rest := []) rfl rfl (Or.inl rfl) rfl rfl rfl rfl rfl).trans (fs_fv fun v33 g31 r32 => ?_)
      refine (fs_r (n := n + 37) 3 (pc' := 190) (L' := [some (.ref cM), some (.int x1), some (.int x2), some (.int x3), some (.int v33)]) (S' := [.int (g31 fM_marks)]) rfl).trans ?_
      refine (fs_i (n := n + 36) rfl (t := 196) rfl (by decide)).trans (fs_ite ?_ ?_)
      · skip
        refine (fs_r (n := n + 32) 4 (pc' := 202) (L' := [some (.ref cM), some (.int x1), some (.int x2), some (.int x3), some (.int v33)]) (S' := [.int 1, .int (g31 fM_at), .ref cM]) rfl).trans ?_
        refine (fs_cv (n := n + 31) (N := nm_m203) (as := [.ref cM, .int (g31 fM_at), .int 1]) (rest := []) rfl rfl (Or.inl rfl) rfl rfl rfl rfl rfl).trans (fs_fv fun v36 g34 r35 => ?_)
        refine (fs_i (n := n + 30) rfl (t := 220) rfl (by decide)).trans (fs_ite ?_ ?_)
        · skip
          refine (fs_r (n := n + 25) 5 (pc' := 227) (L' := [some (.ref cM), some (.int x1), some (.int x2), some (.int x3), some (.int v33)]) (S' := [.int ((g34 fM_at) + 1), .ref cM]) rfl).trans ?_
          refine (fs_pf (n := n + 24) (ci := 9) (j := 41) rfl rfl rfl rfl).trans ?_
          refine (fs_r (n := n + 19) 5 (pc' := 237) (L' := [some (.ref cM), some (.int x1), some (.int x2), some (.int x3), some (.int v33)]) (S' := [.int ((g34 fM_marks) - 1), .ref cM]) rfl).trans ?_
          refine (fs_pf (n := n + 18) (ci := 9) (j := 54) rfl rfl rfl rfl).trans ?_
          refine (fs_r (n := n + 13) 5 (pc' := 247) (L' := [some (.ref cM), some (.int x1), some (.int x2), some (.int x3), some (.int v33)]) (S' := [.int ((g34 fM_level) - 1), .ref cM]) rfl).trans ?_
          refine (fs_pf (n := n + 12) (ci := 9) (j := 44) rfl rfl rfl rfl).trans ?_
          refine (fs_r (n := n + 7) 5 (pc' := 257) (L' := [some (.ref cM), some (.int x1), some (.int x2), some (.int x3), some (.int v33)]) (S' := [.int ((g34 fM_joints) - 1), .ref cM]) rfl).trans ?_
          refine (fs_pf (n := n + 6) (ci := 9) (j := 57) rfl rfl rfl rfl).trans ?_
          refine (fs_r (n := n + 4) 2 (pc' := 262) (L' := [some (.ref cM), some (.int x1), some (.int x2), some (.int x3), some (.int v33)]) (S' := [.int 0, .ref cM]) rfl).trans ?_
          refine (fs_pf (n := n + 3) (ci := 9) (j := 55) rfl rfl rfl rfl).trans ?_
          refine (fs_r (n := n + 1) 2 (pc' := 268) (L' := [some (.ref cM), some (.int x1), some (.int v33), some (.int x3), some (.int v33)]) (S' := []) rfl).trans ?_
          exact (fs_gb (n := n + 0) rfl (t := 2) rfl (by decide)).trans rfl
        · skip
          refine (fs_r (n := n + 26) 4 (pc' := 214) (L' := [some (.ref cM), some (.int x1), some (.int x2), some (.int x3), some (.int v33)]) (S' := [.int (g34 fM_at), .int 1, .ref cM]) rfl).trans ?_
          refine (fs_cv (n := n + 25) (N := nm_m164) (as := [.ref cM, .int 1, .int (g34 fM_at)]) (rest := []) rfl rfl (Or.inl rfl) rfl rfl rfl rfl rfl).trans (fs_fv fun v39 g37 r38 => ?_)
          refine (fs_r (n := n + 23) 2 (pc' := 219) (L' := [some (.ref cM), some (.int x1), some (.int x2), some (.int x3), some (.int v33)]) (S' := [.int 0]) rfl).trans ?_
          exact (fs_ri (n := n + 22) rfl rfl).trans rfl
      · skip
        refine (fs_r (n := n + 35) 1 (pc' := 195) (L' := [some (.ref cM), some (.int x1), some (.int x2), some (.int x3), some (.int v33)]) (S' := [.int v33]) rfl).trans ?_
        exact (fs_ri (n := n + 34) rfl rfl).trans rfl
    · skip
      refine (fs_r (n := n + 54) 1 (pc' := 159) (L' := [some (.ref cM), some (.int x1), some (.int x2), some (.int x3), some (.int x4)]) (S' := [.int 0]) rfl).trans ?_
      exact (fs_ri (n := n + 53) rfl rfl).trans rfl
  · skip
    refine (fs_r (n := n + 60) 1 (pc' := 144) (L' := [some (.ref cM), some (.int x1), some (.int x2), some (.int x3), some (.int x4)]) (S' := [.int 0]) rfl).trans ?_
    exact (fs_ri (n := n + 59) rfl rfl).trans rfl
def BM_behindFactor_72_1 (L : Nat) (xs : Nat → Int32) (m d k : Nat) (x1 x2 x3 x4 : Int32) (g : a2_G) (r : a2_A) : Option fn_Z := (if am_inr x2 (r fM_next).1 = true then (if am_inr ((g fM_joints) - 1) (r fM_andMany).1 = true then (if am_c2 .ne ((r fM_andMany).2 (((g fM_joints) - 1) : Int32).toNatClampNeg) 0 = true then (if am_inr ((g fM_joints) - 1) (r fM_andLast).1 = true then (if am_inr ((r fM_andLast).2 (((g fM_joints) - 1) : Int32).toNatClampNeg) (r fM_next).1 = true then (BM_behindFactor_117_1 L xs m d k x1 x2 ((g fM_joints) - 1) x4 g (a2_ua (a2_ua r fM_next ((r fM_next).1, (upd (r fM_next).2 (x2 : Int32).toNatClampNeg 0))) fM_next ((r fM_next).1, (upd (upd (r fM_next).2 (x2 : Int32).toNatClampNeg 0) (((r fM_andLast).2 (((g fM_joints) - 1) : Int32).toNatClampNeg) : Int32).toNatClampNeg x2)))) else none) else none) else (if am_inr ((g fM_joints) - 1) (r fM_andFirst).1 = true then (BM_behindFactor_117_1 L xs m d k x1 x2 ((g fM_joints) - 1) x4 g (a2_ua (a2_ua r fM_next ((r fM_next).1, (upd (r fM_next).2 (x2 : Int32).toNatClampNeg 0))) fM_andFirst ((r fM_andFirst).1, (upd (r fM_andFirst).2 (((g fM_joints) - 1) : Int32).toNatClampNeg x2)))) else none)) else none) else none)
theorem bM_behindFactor_72_1 (L : Nat) (xs : Nat → Int32) (m d k : Nat) (n : Nat) (x1 x2 x3 x4 : Int32) (g : a2_G) (r : a2_A) : bk L xs nM_behindFactor nm_m206 m d k (n + 101) 72 [some (.ref cM), some (.int x1), some (.int x2), some (.int x3), some (.int x4)] [] g r = BM_behindFactor_72_1 L xs m d k x1 x2 x3 x4 g r := by
  show _ = ((if am_inr x2 (r fM_next).1 = true then (if am_inr ((g fM_joints) - 1) (r fM_andMany).1 = true then (if am_c2 .ne ((r fM_andMany).2 (((g fM_joints) - 1) : Int32).toNatClampNeg) 0 = true then (if am_inr ((g fM_joints) - 1) (r fM_andLast).1 = true then (if am_inr ((r fM_andLast).2 (((g fM_joints) - 1) : Int32).toNatClampNeg) (r fM_next).1 = true then (BM_behindFactor_117_1 L xs m d k x1 x2 ((g fM_joints) - 1) x4 g (a2_ua (a2_ua r fM_next ((r fM_next).1, (upd (r fM_next).2 (x2 : Int32).toNatClampNeg 0))) fM_next ((r fM_next).1, (upd (upd (r fM_next).2 (x2 : Int32).toNatClampNeg 0) (((r fM_andLast).2 (((g fM_joints) - 1) : Int32).toNatClampNeg) : Int32).toNatClampNeg x2)))) else none) else none) else (if am_inr ((g fM_joints) - 1) (r fM_andFirst).1 = true then (BM_behindFactor_117_1 L xs m d k x1 x2 ((g fM_joints) - 1) x4 g (a2_ua (a2_ua r fM_next ((r fM_next).1, (upd (r fM_next).2 (x2 : Int32).toNatClampNeg 0))) fM_andFirst ((r fM_andFirst).1, (upd (r fM_andFirst).2 (((g fM_joints) - 1) : Int32).toNatClampNeg x2)))) else none)) else none) else none) : Option fn_Z)
  refine (fs_r (n := n + 92) 9 (pc' := 85) (L' := [some (.ref cM), some (.int x1), some (.int x2), some (.int ((g fM_joints) - 1)), some (.int x4)]) (S' := [.int 0, .int x2, .ref 10915]) rfl).trans ?_
  refine (fs_is (n := n + 91) (k := 915) rfl rfl).trans (fs_ite ?_ rfl)
  refine (fs_r (n := n + 88) 3 (pc' := 91) (L' := [some (.ref cM), some (.int x1), some (.int x2), some (.int ((g fM_joints) - 1)), some (.int x4)]) (S' := [.int ((g fM_joints) - 1), .ref 10961]) rfl).trans ?_
  refine (fs_il (n := n + 87) (k := 961) rfl rfl).trans (fs_ite ?_ rfl)
  refine (fs_i (n := n + 86) rfl (t := 105) rfl (by decide)).trans (fs_ite ?_ ?_)
  · skip
    refine (fs_r (n := n + 81) 5 (pc' := 114) (L' := [some (.ref cM), some (.int x1), some (.int x2), some (.int ((g fM_joints) - 1)), some (.int x4)]) (S' := [.int ((g fM_joints) - 1), .ref 10960, .ref 10915]) rfl).trans ?_
    refine (fs_il (n := n + 80) (k := 960) rfl rfl).trans (fs_ite ?_ rfl)
    refine (fs_r (n := n + 79) 1 (pc' := 116) (L' := [some (.ref cM), some (.int x1), some (.int x2), some (.int ((g fM_joints) - 1)), some (.int x4)]) (S' := [.int x2, .int ((r fM_andLast).2 (((g fM_joints) - 1) : Int32).toNatClampNeg), .ref 10915]) rfl).trans ?_
    refine (fs_is (n := n + 78) (k := 915) rfl rfl).trans (fs_ite ?_ rfl)
    exact bM_behindFactor_117_1 L xs m d k (n + 0) x1 x2 ((g fM_joints) - 1) x4 g (a2_ua (a2_ua r fM_next ((r fM_next).1, (upd (r fM_next).2 (x2 : Int32).toNatClampNeg 0))) fM_next ((r fM_next).1, (upd (upd (r fM_next).2 (x2 : Int32).toNatClampNeg 0) (((r fM_andLast).2 (((g fM_joints) - 1) : Int32).toNatClampNeg) : Int32).toNatClampNeg x2)))
  · skip
    refine (fs_r (n := n + 82) 4 (pc' := 101) (L' := [some (.ref cM), some (.int x1), some (.int x2), some (.int ((g fM_joints) - 1)), some (.int x4)]) (S' := [.int x2, .int ((g fM_joints) - 1), .ref 10959]) rfl).trans ?_
    refine (fs_is (n := n + 81) (k := 959) rfl rfl).trans (fs_ite ?_ rfl)
    refine (fs_go (n := n + 80) rfl (t := 117) rfl (by decide)).trans ?_
    exact bM_behindFactor_117_1 L xs m d k (n + 2) x1 x2 ((g fM_joints) - 1) x4 g (a2_ua (a2_ua r fM_next ((r fM_next).1, (upd (r fM_next).2 (x2 : Int32).toNatClampNeg 0))) fM_andFirst ((r fM_andFirst).1, (upd (r fM_andFirst).2 (((g fM_joints) - 1) : Int32).toNatClampNeg x2)))
def BM_behindFactor_2_1 (L : Nat) (xs : Nat → Int32) (m d k : Nat) (x1 x2 x3 x4 : Int32) (g : a2_G) (r : a2_A) : Option fn_Z := (if am_c2 .le (g fM_marks) 0 = true then (BM_behindFactor_72_1 L xs m d k x1 x2 x3 x4 g r) else (if am_inr ((g fM_marks) - 1) (r fM_mark).1 = true then (if am_c2 .eq ((r fM_mark).2 (((g fM_marks) - 1) : Int32).toNatClampNeg) (-1) = true then (BM_behindFactor_72_1 L xs m d k x1 x2 x3 x4 g r) else (if am_inr ((g fM_marks) - 1) (r fM_mark).1 = true then (fn_v (ev L xs m d nM_make [.ref cM, .int 52, .int 0, .int ((r fM_mark).2 (((g fM_marks) - 1) : Int32).toNatClampNeg)] (upd (upd g fM_marks ((g fM_marks) - 1)) fM_level ((g fM_level) - 1)) r) fun v42 g40 r41 => (fn_n (ev L xs m d nM_attach [.ref cM, .int v42, .int x2] g40 r41) fun g43 r44 => (lp L xs nM_behindFactor nm_m206 m d k 2 [some (.ref cM), some (.int x1), some (.int v42), some (.int v42), some (.int x4)] g43 r44))) else none)) else none))
theorem bM_behindFactor_2_1 (L : Nat) (xs : Nat → Int32) (m d k : Nat) (n : Nat) (x1 x2 x3 x4 : Int32) (g : a2_G) (r : a2_A) : bk L xs nM_behindFactor nm_m206 m d k (n + 113) 2 [some (.ref cM), some (.int x1), some (.int x2), some (.int x3), some (.int x4)] [] g r = BM_behindFactor_2_1 L xs m d k x1 x2 x3 x4 g r := by
  show _ = ((if am_c2 .le (g fM_marks) 0 = true then (BM_behindFactor_72_1 L xs m d k x1 x2 x3 x4 g r) else (if am_inr ((g fM_marks) - 1) (r fM_mark).1 = true then (if am_c2 .eq ((r fM_mark).2 (((g fM_marks) - 1) : Int32).toNatClampNeg) (-1) = true then (BM_behindFactor_72_1 L xs m d k x1 x2 x3 x4 g r) else (if am_inr ((g fM_marks) - 1) (r fM_mark).1 = true then (fn_v (ev L xs m d nM_make [.ref cM, .int 52, .int 0, .int ((r fM_mark).2 (((g fM_marks) - 1) : Int32).toNatClampNeg)] (upd (upd g fM_marks ((g fM_marks) - 1)) fM_level ((g fM_level) - 1)) r) fun v42 g40 r41 => (fn_n (ev L xs m d nM_attach [.ref cM, .int v42, .int x2] g40 r41) fun g43 r44 => (lp L xs nM_behindFactor nm_m206 m d k 2 [some (.ref cM), some (.int x1), some (.int v42), some (.int v42), some (.int x4)] g43 r44))) else none)) else none)) : Option fn_Z)
  refine (fs_r (n := n + 111) 2 (pc' := 6) (L' := [some (.ref cM), some (.int x1), some (.int x2), some (.int x3), some (.int x4)]) (S' := [.int (g fM_marks)]) rfl).trans ?_
  refine (fs_i (n := n + 110) rfl (t := 72) rfl (by decide)).trans (fs_ite ?_ ?_)
  · skip
    exact bM_behindFactor_72_1 L xs m d k (n + 9) x1 x2 x3 x4 g r
  · skip
    refine (fs_r (n := n + 104) 6 (pc' := 19) (L' := [some (.ref cM), some (.int x1), some (.int x2), some (.int x3), some (.int x4)]) (S' := [.int ((g fM_marks) - 1), .ref 10958]) rfl).trans ?_
    refine (fs_il (n := n + 103) (k := 958) rfl rfl).trans (fs_ite ?_ rfl)
    refine (fs_r (n := n + 102) 1 (pc' := 21) (L' := [some (.ref cM), some (.int x1), some (.int x2), some (.int x3), some (.int x4)]) (S' := [.int (-1), .int ((r fM_mark).2 (((g fM_marks) - 1) : Int32).toNatClampNeg)]) rfl).trans ?_
    refine (fs_j (n := n + 101) rfl (t := 72) rfl (by decide)).trans (fs_ite ?_ ?_)
    · skip
      exact bM_behindFactor_72_1 L xs m d k (n + 0) x1 x2 x3 x4 g r
    · skip
      refine (fs_r (n := n + 96) 5 (pc' := 31) (L' := [some (.ref cM), some (.int x1), some (.int x2), some (.int x3), some (.int x4)]) (S' := [.int ((g fM_marks) - 1), .ref cM]) rfl).trans ?_
      refine (fs_pf (n := n + 95) (ci := 9) (j := 54) rfl rfl rfl rfl).trans ?_
      refine (fs_r (n := n + 90) 5 (pc' := 41) (L' := [some (.ref cM), some (.int x1), some (.int x2), some (.int x3), some (.int x4)]) (S' := [.int ((g fM_level) - 1), .ref cM]) rfl).trans ?_
      refine (fs_pf (n := n + 89) (ci := 9) (j := 44) rfl rfl rfl rfl).trans ?_
      refine (fs_r (n := n + 82) 7 (pc' := 56) (L' := [some (.ref cM), some (.int x1), some (.int x2), some (.int x3), some (.int x4)]) (S' := [.int ((g fM_marks) - 1), .ref 10958, .int 0, .int 52, .ref cM]) rfl).trans ?_
      refine (fs_il (n := n + 81) (k := 958) rfl rfl).trans (fs_ite ?_ rfl)
      refine (fs_cv (n := n + 80) (N := nm_m160) (as := [.ref cM, .int 52, .int 0, .int ((r fM_mark).2 (((g fM_marks) - 1) : Int32).toNatClampNeg)]) (rest := []) rfl rfl (Or.inl rfl) rfl rfl rfl rfl rfl).trans (fs_fv fun v42 g40 r41 => ?_)
      refine (fs_r (n := n + 76) 4 (pc' := 64) (L' := [some (.ref cM), some (.int x1), some (.int x2), some (.int v42), some (.int x4)]) (S' := [.int x2, .int v42, .ref cM]) rfl).trans ?_
      refine (fs_cn (n := n + 75) (N := nm_m173) (as := [.ref cM, .int v42, .int x2]) (rest := []) rfl rfl (Or.inl rfl) rfl rfl rfl rfl rfl).trans (fs_fn fun g43 r44 => ?_)
      refine (fs_r (n := n + 73) 2 (pc' := 69) (L' := [some (.ref cM), some (.int x1), some (.int v42), some (.int v42), some (.int x4)]) (S' := []) rfl).trans ?_
      exact (fs_gb (n := n + 72) rfl (t := 2) rfl (by decide)).trans rfl
theorem lM_behindFactor_2_1 (L : Nat) (xs : Nat → Int32) (m d k : Nat) (x1 x2 x3 x4 : Int32) (g : a2_G) (r : a2_A) : lp L xs nM_behindFactor nm_m206 m d (k + 1) 2 [some (.ref cM), some (.int x1), some (.int x2), some (.int x3), some (.int x4)] g r = BM_behindFactor_2_1 L xs m d k x1 x2 x3 x4 g r := fs_lp.trans (bM_behindFactor_2_1 L xs m d k 787 x1 x2 x3 x4 g r)
def BM_behindFactor_72_2 (L : Nat) (xs : Nat → Int32) (m d k : Nat) (x1 x2 x3 : Int32) (g : a2_G) (r : a2_A) : Option fn_Z := (if am_inr x2 (r fM_next).1 = true then (if am_inr ((g fM_joints) - 1) (r fM_andMany).1 = true then (if am_c2 .ne ((r fM_andMany).2 (((g fM_joints) - 1) : Int32).toNatClampNeg) 0 = true then (if am_inr ((g fM_joints) - 1) (r fM_andLast).1 = true then (if am_inr ((r fM_andLast).2 (((g fM_joints) - 1) : Int32).toNatClampNeg) (r fM_next).1 = true then (BM_behindFactor_117 L xs m d k x1 x2 ((g fM_joints) - 1) g (a2_ua (a2_ua r fM_next ((r fM_next).1, (upd (r fM_next).2 (x2 : Int32).toNatClampNeg 0))) fM_next ((r fM_next).1, (upd (upd (r fM_next).2 (x2 : Int32).toNatClampNeg 0) (((r fM_andLast).2 (((g fM_joints) - 1) : Int32).toNatClampNeg) : Int32).toNatClampNeg x2)))) else none) else none) else (if am_inr ((g fM_joints) - 1) (r fM_andFirst).1 = true then (BM_behindFactor_117 L xs m d k x1 x2 ((g fM_joints) - 1) g (a2_ua (a2_ua r fM_next ((r fM_next).1, (upd (r fM_next).2 (x2 : Int32).toNatClampNeg 0))) fM_andFirst ((r fM_andFirst).1, (upd (r fM_andFirst).2 (((g fM_joints) - 1) : Int32).toNatClampNeg x2)))) else none)) else none) else none)
theorem bM_behindFactor_72_2 (L : Nat) (xs : Nat → Int32) (m d k : Nat) (n : Nat) (x1 x2 x3 : Int32) (g : a2_G) (r : a2_A) : bk L xs nM_behindFactor nm_m206 m d k (n + 101) 72 [some (.ref cM), some (.int x1), some (.int x2), some (.int x3), none] [] g r = BM_behindFactor_72_2 L xs m d k x1 x2 x3 g r := by
  show _ = ((if am_inr x2 (r fM_next).1 = true then (if am_inr ((g fM_joints) - 1) (r fM_andMany).1 = true then (if am_c2 .ne ((r fM_andMany).2 (((g fM_joints) - 1) : Int32).toNatClampNeg) 0 = true then (if am_inr ((g fM_joints) - 1) (r fM_andLast).1 = true then (if am_inr ((r fM_andLast).2 (((g fM_joints) - 1) : Int32).toNatClampNeg) (r fM_next).1 = true then (BM_behindFactor_117 L xs m d k x1 x2 ((g fM_joints) - 1) g (a2_ua (a2_ua r fM_next ((r fM_next).1, (upd (r fM_next).2 (x2 : Int32).toNatClampNeg 0))) fM_next ((r fM_next).1, (upd (upd (r fM_next).2 (x2 : Int32).toNatClampNeg 0) (((r fM_andLast).2 (((g fM_joints) - 1) : Int32).toNatClampNeg) : Int32).toNatClampNeg x2)))) else none) else none) else (if am_inr ((g fM_joints) - 1) (r fM_andFirst).1 = true then (BM_behindFactor_117 L xs m d k x1 x2 ((g fM_joints) - 1) g (a2_ua (a2_ua r fM_next ((r fM_next).1, (upd (r fM_next).2 (x2 : Int32).toNatClampNeg 0))) fM_andFirst ((r fM_andFirst).1, (upd (r fM_andFirst).2 (((g fM_joints) - 1) : Int32).toNatClampNeg x2)))) else none)) else none) else none) : Option fn_Z)
  refine (fs_r (n := n + 92) 9 (pc' := 85) (L' := [some (.ref cM), some (.int x1), some (.int x2), some (.int ((g fM_joints) - 1)), none]) (S' := [.int 0, .int x2, .ref 10915]) rfl).trans ?_
  refine (fs_is (n := n + 91) (k := 915) rfl rfl).trans (fs_ite ?_ rfl)
  refine (fs_r (n := n + 88) 3 (pc' := 91) (L' := [some (.ref cM), some (.int x1), some (.int x2), some (.int ((g fM_joints) - 1)), none]) (S' := [.int ((g fM_joints) - 1), .ref 10961]) rfl).trans ?_
  refine (fs_il (n := n + 87) (k := 961) rfl rfl).trans (fs_ite ?_ rfl)
  refine (fs_i (n := n + 86) rfl (t := 105) rfl (by decide)).trans (fs_ite ?_ ?_)
  · skip
    refine (fs_r (n := n + 81) 5 (pc' := 114) (L' := [some (.ref cM), some (.int x1), some (.int x2), some (.int ((g fM_joints) - 1)), none]) (S' := [.int ((g fM_joints) - 1), .ref 10960, .ref 10915]) rfl).trans ?_
    refine (fs_il (n := n + 80) (k := 960) rfl rfl).trans (fs_ite ?_ rfl)
    refine (fs_r (n := n + 79) 1 (pc' := 116) (L' := [some (.ref cM), some (.int x1), some (.int x2), some (.int ((g fM_joints) - 1)), none]) (S' := [.int x2, .int ((r fM_andLast).2 (((g fM_joints) - 1) : Int32).toNatClampNeg), .ref 10915]) rfl).trans ?_
    refine (fs_is (n := n + 78) (k := 915) rfl rfl).trans (fs_ite ?_ rfl)
    exact bM_behindFactor_117 L xs m d k (n + 0) x1 x2 ((g fM_joints) - 1) g (a2_ua (a2_ua r fM_next ((r fM_next).1, (upd (r fM_next).2 (x2 : Int32).toNatClampNeg 0))) fM_next ((r fM_next).1, (upd (upd (r fM_next).2 (x2 : Int32).toNatClampNeg 0) (((r fM_andLast).2 (((g fM_joints) - 1) : Int32).toNatClampNeg) : Int32).toNatClampNeg x2)))
  · skip
    refine (fs_r (n := n + 82) 4 (pc' := 101) (L' := [some (.ref cM), some (.int x1), some (.int x2), some (.int ((g fM_joints) - 1)), none]) (S' := [.int x2, .int ((g fM_joints) - 1), .ref 10959]) rfl).trans ?_
    refine (fs_is (n := n + 81) (k := 959) rfl rfl).trans (fs_ite ?_ rfl)
    refine (fs_go (n := n + 80) rfl (t := 117) rfl (by decide)).trans ?_
    exact bM_behindFactor_117 L xs m d k (n + 2) x1 x2 ((g fM_joints) - 1) g (a2_ua (a2_ua r fM_next ((r fM_next).1, (upd (r fM_next).2 (x2 : Int32).toNatClampNeg 0))) fM_andFirst ((r fM_andFirst).1, (upd (r fM_andFirst).2 (((g fM_joints) - 1) : Int32).toNatClampNeg x2)))
def BM_behindFactor_2_2 (L : Nat) (xs : Nat → Int32) (m d k : Nat) (x1 x2 x3 : Int32) (g : a2_G) (r : a2_A) : Option fn_Z := (if am_c2 .le (g fM_marks) 0 = true then (BM_behindFactor_72_2 L xs m d k x1 x2 x3 g r) else (if am_inr ((g fM_marks) - 1) (r fM_mark).1 = true then (if am_c2 .eq ((r fM_mark).2 (((g fM_marks) - 1) : Int32).toNatClampNeg) (-1) = true then (BM_behindFactor_72_2 L xs m d k x1 x2 x3 g r) else (if am_inr ((g fM_marks) - 1) (r fM_mark).1 = true then (fn_v (ev L xs m d nM_make [.ref cM, .int 52, .int 0, .int ((r fM_mark).2 (((g fM_marks) - 1) : Int32).toNatClampNeg)] (upd (upd g fM_marks ((g fM_marks) - 1)) fM_level ((g fM_level) - 1)) r) fun v47 g45 r46 => (fn_n (ev L xs m d nM_attach [.ref cM, .int v47, .int x2] g45 r46) fun g48 r49 => (lp L xs nM_behindFactor nm_m206 m d k 2 [some (.ref cM), some (.int x1), some (.int v47), some (.int v47), none] g48 r49))) else none)) else none))
theorem bM_behindFactor_2_2 (L : Nat) (xs : Nat → Int32) (m d k : Nat) (n : Nat) (x1 x2 x3 : Int32) (g : a2_G) (r : a2_A) : bk L xs nM_behindFactor nm_m206 m d k (n + 113) 2 [some (.ref cM), some (.int x1), some (.int x2), some (.int x3), none] [] g r = BM_behindFactor_2_2 L xs m d k x1 x2 x3 g r := by
  show _ = ((if am_c2 .le (g fM_marks) 0 = true then (BM_behindFactor_72_2 L xs m d k x1 x2 x3 g r) else (if am_inr ((g fM_marks) - 1) (r fM_mark).1 = true then (if am_c2 .eq ((r fM_mark).2 (((g fM_marks) - 1) : Int32).toNatClampNeg) (-1) = true then (BM_behindFactor_72_2 L xs m d k x1 x2 x3 g r) else (if am_inr ((g fM_marks) - 1) (r fM_mark).1 = true then (fn_v (ev L xs m d nM_make [.ref cM, .int 52, .int 0, .int ((r fM_mark).2 (((g fM_marks) - 1) : Int32).toNatClampNeg)] (upd (upd g fM_marks ((g fM_marks) - 1)) fM_level ((g fM_level) - 1)) r) fun v47 g45 r46 => (fn_n (ev L xs m d nM_attach [.ref cM, .int v47, .int x2] g45 r46) fun g48 r49 => (lp L xs nM_behindFactor nm_m206 m d k 2 [some (.ref cM), some (.int x1), some (.int v47), some (.int v47), none] g48 r49))) else none)) else none)) : Option fn_Z)
  refine (fs_r (n := n + 111) 2 (pc' := 6) (L' := [some (.ref cM), some (.int x1), some (.int x2), some (.int x3), none]) (S' := [.int (g fM_marks)]) rfl).trans ?_
  refine (fs_i (n := n + 110) rfl (t := 72) rfl (by decide)).trans (fs_ite ?_ ?_)
  · skip
    exact bM_behindFactor_72_2 L xs m d k (n + 9) x1 x2 x3 g r
  · skip
    refine (fs_r (n := n + 104) 6 (pc' := 19) (L' := [some (.ref cM), some (.int x1), some (.int x2), some (.int x3), none]) (S' := [.int ((g fM_marks) - 1), .ref 10958]) rfl).trans ?_
    refine (fs_il (n := n + 103) (k := 958) rfl rfl).trans (fs_ite ?_ rfl)
    refine (fs_r (n := n + 102) 1 (pc' := 21) (L' := [some (.ref cM), some (.int x1), some (.int x2), some (.int x3), none]) (S' := [.int (-1), .int ((r fM_mark).2 (((g fM_marks) - 1) : Int32).toNatClampNeg)]) rfl).trans ?_
    refine (fs_j (n := n + 101) rfl (t := 72) rfl (by decide)).trans (fs_ite ?_ ?_)
    · skip
      exact bM_behindFactor_72_2 L xs m d k (n + 0) x1 x2 x3 g r
    · skip
      refine (fs_r (n := n + 96) 5 (pc' := 31) (L' := [some (.ref cM), some (.int x1), some (.int x2), some (.int x3), none]) (S' := [.int ((g fM_marks) - 1), .ref cM]) rfl).trans ?_
      refine (fs_pf (n := n + 95) (ci := 9) (j := 54) rfl rfl rfl rfl).trans ?_
      refine (fs_r (n := n + 90) 5 (pc' := 41) (L' := [some (.ref cM), some (.int x1), some (.int x2), some (.int x3), none]) (S' := [.int ((g fM_level) - 1), .ref cM]) rfl).trans ?_
      refine (fs_pf (n := n + 89) (ci := 9) (j := 44) rfl rfl rfl rfl).trans ?_
      refine (fs_r (n := n + 82) 7 (pc' := 56) (L' := [some (.ref cM), some (.int x1), some (.int x2), some (.int x3), none]) (S' := [.int ((g fM_marks) - 1), .ref 10958, .int 0, .int 52, .ref cM]) rfl).trans ?_
      refine (fs_il (n := n + 81) (k := 958) rfl rfl).trans (fs_ite ?_ rfl)
      refine (fs_cv (n := n + 80) (N := nm_m160) (as := [.ref cM, .int 52, .int 0, .int ((r fM_mark).2 (((g fM_marks) - 1) : Int32).toNatClampNeg)]) (rest := []) rfl rfl (Or.inl rfl) rfl rfl rfl rfl rfl).trans (fs_fv fun v47 g45 r46 => ?_)
      refine (fs_r (n := n + 76) 4 (pc' := 64) (L' := [some (.ref cM), some (.int x1), some (.int x2), some (.int v47), none]) (S' := [.int x2, .int v47, .ref cM]) rfl).trans ?_
      refine (fs_cn (n := n + 75) (N := nm_m173) (as := [.ref cM, .int v47, .int x2]) (rest := []) rfl rfl (Or.inl rfl) rfl rfl rfl rfl rfl).trans (fs_fn fun g48 r49 => ?_)
      refine (fs_r (n := n + 73) 2 (pc' := 69) (L' := [some (.ref cM), some (.int x1), some (.int v47), some (.int v47), none]) (S' := []) rfl).trans ?_
      exact (fs_gb (n := n + 72) rfl (t := 2) rfl (by decide)).trans rfl
theorem lM_behindFactor_2_2 (L : Nat) (xs : Nat → Int32) (m d k : Nat) (x1 x2 x3 : Int32) (g : a2_G) (r : a2_A) : lp L xs nM_behindFactor nm_m206 m d (k + 1) 2 [some (.ref cM), some (.int x1), some (.int x2), some (.int x3), none] g r = BM_behindFactor_2_2 L xs m d k x1 x2 x3 g r := fs_lp.trans (bM_behindFactor_2_2 L xs m d k 787 x1 x2 x3 g r)
theorem eM_behindFactor (L : Nat) (xs : Nat → Int32) (m d k : Nat) (n : Nat) (a1 : Int32) (g : a2_G) (r : a2_A) : bk L xs nM_behindFactor nm_m206 m d k (n + 115) 0 [some (.ref cM), some (.int a1), none, none, none] [] g r = (BM_behindFactor_2 L xs m d k a1 a1 g r) := by
  refine (fs_r (n := n + 113) 2 (pc' := 2) (L' := [some (.ref cM), some (.int a1), some (.int a1), none, none]) (S' := []) rfl).trans ?_
  exact bM_behindFactor_2 L xs m d k (n + 0) a1 a1 g r
theorem qM_behindFactor (L : Nat) (xs : Nat → Int32) (m d : Nat) (a1 : Int32) (g : a2_G) (r : a2_A) : ev L xs (m + 1) (d + 1) nM_behindFactor [.ref cM, .int a1] g r = (BM_behindFactor_2 L xs (m + 1) d m a1 a1 g r) := (fs_ev (M := nm_m206) rfl rfl).trans (eM_behindFactor L xs (m + 1) d m 785 a1 g r)
/-- CobolParserModel.closeAnds()V -/
def BM_closeAnds_77 (L : Nat) (xs : Nat → Int32) (m d k : Nat) (x1 x2 : Int32) (g : a2_G) (r : a2_A) : Option fn_Z := (if am_inr x1 (r fM_orLast).1 = true then (if am_inr x1 (r fM_orMany).1 = true then (if am_inr x1 (r fM_orMany).1 = true then (some (.inl none, g, (a2_ua (a2_ua r fM_orLast ((r fM_orLast).1, (upd (r fM_orLast).2 (x1 : Int32).toNatClampNeg x2))) fM_orMany ((r fM_orMany).1, (upd (r fM_orMany).2 (x1 : Int32).toNatClampNeg (((r fM_orMany).2 (x1 : Int32).toNatClampNeg) + 1)))))) else none) else none) else none)
theorem bM_closeAnds_77 (L : Nat) (xs : Nat → Int32) (m d k : Nat) (n : Nat) (x1 x2 : Int32) (g : a2_G) (r : a2_A) : bk L xs nM_closeAnds nm_m207 m d k (n + 14) 77 [some (.ref cM), some (.int x1), some (.int x2)] [] g r = BM_closeAnds_77 L xs m d k x1 x2 g r := by
  show _ = ((if am_inr x1 (r fM_orLast).1 = true then (if am_inr x1 (r fM_orMany).1 = true then (if am_inr x1 (r fM_orMany).1 = true then (some (.inl none, g, (a2_ua (a2_ua r fM_orLast ((r fM_orLast).1, (upd (r fM_orLast).2 (x1 : Int32).toNatClampNeg x2))) fM_orMany ((r fM_orMany).1, (upd (r fM_orMany).2 (x1 : Int32).toNatClampNeg (((r fM_orMany).2 (x1 : Int32).toNatClampNeg) + 1)))))) else none) else none) else none) : Option fn_Z)
  refine (fs_r (n := n + 10) 4 (pc' := 83) (L' := [some (.ref cM), some (.int x1), some (.int x2)]) (S' := [.int x2, .int x1, .ref 10963]) rfl).trans ?_
  refine (fs_is (n := n + 9) (k := 963) rfl rfl).trans (fs_ite ?_ rfl)
  refine (fs_r (n := n + 5) 4 (pc' := 90) (L' := [some (.ref cM), some (.int x1), some (.int x2)]) (S' := [.int x1, .ref 10964, .int x1, .ref 10964]) rfl).trans ?_
  refine (fs_il (n := n + 4) (k := 964) rfl rfl).trans (fs_ite ?_ rfl)
  refine (fs_r (n := n + 2) 2 (pc' := 93) (L' := [some (.ref cM), some (.int x1), some (.int x2)]) (S' := [.int (((r fM_orMany).2 (x1 : Int32).toNatClampNeg) + 1), .int x1, .ref 10964]) rfl).trans ?_
  refine (fs_is (n := n + 1) (k := 964) rfl rfl).trans (fs_ite ?_ rfl)
  exact (fs_rv (n := n + 0) rfl rfl).trans rfl
theorem eM_closeAnds (L : Nat) (xs : Nat → Int32) (m d k : Nat) (n : Nat) (g : a2_G) (r : a2_A) : bk L xs nM_closeAnds nm_m207 m d k (n + 58) 0 [some (.ref cM), none, none] [] g r = (if am_inr ((g fM_joints) - 1) (r fM_andFirst).1 = true then (if am_inr ((g fM_joints) - 1) (r fM_andLast).1 = true then (if am_inr ((g fM_joints) - 1) (r fM_andMany).1 = true then (fn_v (ev L xs m d nM_whole [.ref cM, .int 51, .int ((r fM_andFirst).2 (((g fM_joints) - 1) : Int32).toNatClampNeg), .int ((r fM_andLast).2 (((g fM_joints) - 1) : Int32).toNatClampNeg), .int ((r fM_andMany).2 (((g fM_joints) - 1) : Int32).toNatClampNeg)] g r) fun v3 g1 r2 => (if am_inr ((g fM_joints) - 1) (r2 fM_andMany).1 = true then (if am_inr v3 (r2 fM_next).1 = true then (if am_inr ((g fM_joints) - 1) (r2 fM_orMany).1 = true then (if am_c2 .ne ((r2 fM_orMany).2 (((g fM_joints) - 1) : Int32).toNatClampNeg) 0 = true then (if am_inr ((g fM_joints) - 1) (r2 fM_orLast).1 = true then (if am_inr ((r2 fM_orLast).2 (((g fM_joints) - 1) : Int32).toNatClampNeg) (r2 fM_next).1 = true then (BM_closeAnds_77 L xs m d k ((g fM_joints) - 1) v3 g1 (a2_ua (a2_ua (a2_ua r2 fM_andMany ((r2 fM_andMany).1, (upd (r2 fM_andMany).2 (((g fM_joints) - 1) : Int32).toNatClampNeg 0))) fM_next ((r2 fM_next).1, (upd (r2 fM_next).2 (v3 : Int32).toNatClampNeg 0))) fM_next ((r2 fM_next).1, (upd (upd (r2 fM_next).2 (v3 : Int32).toNatClampNeg 0) (((r2 fM_orLast).2 (((g fM_joints) - 1) : Int32).toNatClampNeg) : Int32).toNatClampNeg v3)))) else none) else none) else (if am_inr ((g fM_joints) - 1) (r2 fM_orFirst).1 = true then (BM_closeAnds_77 L xs m d k ((g fM_joints) - 1) v3 g1 (a2_ua (a2_ua (a2_ua r2 fM_andMany ((r2 fM_andMany).1, (upd (r2 fM_andMany).2 (((g fM_joints) - 1) : Int32).toNatClampNeg 0))) fM_next ((r2 fM_next).1, (upd (r2 fM_next).2 (v3 : Int32).toNatClampNeg 0))) fM_orFirst ((r2 fM_orFirst).1, (upd (r2 fM_orFirst).2 (((g fM_joints) - 1) : Int32).toNatClampNeg v3)))) else none)) else none) else none) else none)) else none) else none) else none) := by
  refine (fs_r (n := n + 48) 10 (pc' := 15) (L' := [some (.ref cM), some (.int ((g fM_joints) - 1)), none]) (S' := [.int ((g fM_joints) - 1), .ref 10959, .int 51, .ref cM]) rfl).trans ?_
  refine (fs_il (n := n + 47) (k := 959) rfl rfl).trans (fs_ite ?_ rfl)
  refine (fs_r (n := n + 44) 3 (pc' := 21) (L' := [some (.ref cM), some (.int ((g fM_joints) - 1)), none]) (S' := [.int ((g fM_joints) - 1), .ref 10960, .int ((r fM_andFirst).2 (((g fM_joints) - 1) : Int32).toNatClampNeg), .int 51, .ref cM]) rfl).trans ?_
  refine (fs_il (n := n + 43) (k := 960) rfl rfl).trans (fs_ite ?_ rfl)
  refine (fs_r (n := n + 40) 3 (pc' := 27) (L' := [some (.ref cM), some (.int ((g fM_joints) - 1)), none]) (S' := [.int ((g fM_joints) - 1), .ref 10961, .int ((r fM_andLast).2 (((g fM_joints) - 1) : Int32).toNatClampNeg), .int ((r fM_andFirst).2 (((g fM_joints) - 1) : Int32).toNatClampNeg), .int 51, .ref cM]) rfl).trans ?_
  refine (fs_il (n := n + 39) (k := 961) rfl rfl).trans (fs_ite ?_ rfl)
  refine (fs_cv (n := n + 38) (N := nm_m208) (as := [.ref cM, .int 51, .int ((r fM_andFirst).2 (((g fM_joints) - 1) : Int32).toNatClampNeg), .int ((r fM_andLast).2 (((g fM_joints) - 1) : Int32).toNatClampNeg), .int ((r fM_andMany).2 (((g fM_joints) - 1) : Int32).toNatClampNeg)]) (rest := []) rfl rfl (Or.inl rfl) rfl rfl rfl rfl rfl).trans (fs_fv fun v3 g1 r2 => ?_)
  refine (fs_r (n := n + 33) 5 (pc' := 38) (L' := [some (.ref cM), some (.int ((g fM_joints) - 1)), some (.int v3)]) (S' := [.int 0, .int ((g fM_joints) - 1), .ref 10961]) rfl).trans ?_
  refine (fs_is (n := n + 32) (k := 961) rfl rfl).trans (fs_ite ?_ rfl)
  refine (fs_r (n := n + 28) 4 (pc' := 45) (L' := [some (.ref cM), some (.int ((g fM_joints) - 1)), some (.int v3)]) (S' := [.int 0, .int v3, .ref 10915]) rfl).trans ?_
  refine (fs_is (n := n + 27) (k := 915) rfl rfl).trans (fs_ite ?_ rfl)
  refine (fs_r (n := n + 24) 3 (pc' := 51) (L' := [some (.ref cM), some (.int ((g fM_joints) - 1)), some (.int v3)]) (S' := [.int ((g fM_joints) - 1), .ref 10964]) rfl).trans ?_
  refine (fs_il (n := n + 23) (k := 964) rfl rfl).trans (fs_ite ?_ rfl)
  refine (fs_i (n := n + 22) rfl (t := 65) rfl (by decide)).trans (fs_ite ?_ ?_)
  · skip
    refine (fs_r (n := n + 17) 5 (pc' := 74) (L' := [some (.ref cM), some (.int ((g fM_joints) - 1)), some (.int v3)]) (S' := [.int ((g fM_joints) - 1), .ref 10963, .ref 10915]) rfl).trans ?_
    refine (fs_il (n := n + 16) (k := 963) rfl rfl).trans (fs_ite ?_ rfl)
    refine (fs_r (n := n + 15) 1 (pc' := 76) (L' := [some (.ref cM), some (.int ((g fM_joints) - 1)), some (.int v3)]) (S' := [.int v3, .int ((r2 fM_orLast).2 (((g fM_joints) - 1) : Int32).toNatClampNeg), .ref 10915]) rfl).trans ?_
    refine (fs_is (n := n + 14) (k := 915) rfl rfl).trans (fs_ite ?_ rfl)
    exact bM_closeAnds_77 L xs m d k (n + 0) ((g fM_joints) - 1) v3 g1 (a2_ua (a2_ua (a2_ua r2 fM_andMany ((r2 fM_andMany).1, (upd (r2 fM_andMany).2 (((g fM_joints) - 1) : Int32).toNatClampNeg 0))) fM_next ((r2 fM_next).1, (upd (r2 fM_next).2 (v3 : Int32).toNatClampNeg 0))) fM_next ((r2 fM_next).1, (upd (upd (r2 fM_next).2 (v3 : Int32).toNatClampNeg 0) (((r2 fM_orLast).2 (((g fM_joints) - 1) : Int32).toNatClampNeg) : Int32).toNatClampNeg v3)))
  · skip
    refine (fs_r (n := n + 18) 4 (pc' := 61) (L' := [some (.ref cM), some (.int ((g fM_joints) - 1)), some (.int v3)]) (S' := [.int v3, .int ((g fM_joints) - 1), .ref 10962]) rfl).trans ?_
    refine (fs_is (n := n + 17) (k := 962) rfl rfl).trans (fs_ite ?_ rfl)
    refine (fs_go (n := n + 16) rfl (t := 77) rfl (by decide)).trans ?_
    exact bM_closeAnds_77 L xs m d k (n + 2) ((g fM_joints) - 1) v3 g1 (a2_ua (a2_ua (a2_ua r2 fM_andMany ((r2 fM_andMany).1, (upd (r2 fM_andMany).2 (((g fM_joints) - 1) : Int32).toNatClampNeg 0))) fM_next ((r2 fM_next).1, (upd (r2 fM_next).2 (v3 : Int32).toNatClampNeg 0))) fM_orFirst ((r2 fM_orFirst).1, (upd (r2 fM_orFirst).2 (((g fM_joints) - 1) : Int32).toNatClampNeg v3)))
theorem qM_closeAnds (L : Nat) (xs : Nat → Int32) (m d : Nat) (g : a2_G) (r : a2_A) : ev L xs (m + 1) (d + 1) nM_closeAnds [.ref cM] g r = (if am_inr ((g fM_joints) - 1) (r fM_andFirst).1 = true then (if am_inr ((g fM_joints) - 1) (r fM_andLast).1 = true then (if am_inr ((g fM_joints) - 1) (r fM_andMany).1 = true then (fn_v (ev L xs (m + 1) d nM_whole [.ref cM, .int 51, .int ((r fM_andFirst).2 (((g fM_joints) - 1) : Int32).toNatClampNeg), .int ((r fM_andLast).2 (((g fM_joints) - 1) : Int32).toNatClampNeg), .int ((r fM_andMany).2 (((g fM_joints) - 1) : Int32).toNatClampNeg)] g r) fun v3 g1 r2 => (if am_inr ((g fM_joints) - 1) (r2 fM_andMany).1 = true then (if am_inr v3 (r2 fM_next).1 = true then (if am_inr ((g fM_joints) - 1) (r2 fM_orMany).1 = true then (if am_c2 .ne ((r2 fM_orMany).2 (((g fM_joints) - 1) : Int32).toNatClampNeg) 0 = true then (if am_inr ((g fM_joints) - 1) (r2 fM_orLast).1 = true then (if am_inr ((r2 fM_orLast).2 (((g fM_joints) - 1) : Int32).toNatClampNeg) (r2 fM_next).1 = true then (BM_closeAnds_77 L xs (m + 1) d m ((g fM_joints) - 1) v3 g1 (a2_ua (a2_ua (a2_ua r2 fM_andMany ((r2 fM_andMany).1, (upd (r2 fM_andMany).2 (((g fM_joints) - 1) : Int32).toNatClampNeg 0))) fM_next ((r2 fM_next).1, (upd (r2 fM_next).2 (v3 : Int32).toNatClampNeg 0))) fM_next ((r2 fM_next).1, (upd (upd (r2 fM_next).2 (v3 : Int32).toNatClampNeg 0) (((r2 fM_orLast).2 (((g fM_joints) - 1) : Int32).toNatClampNeg) : Int32).toNatClampNeg v3)))) else none) else none) else (if am_inr ((g fM_joints) - 1) (r2 fM_orFirst).1 = true then (BM_closeAnds_77 L xs (m + 1) d m ((g fM_joints) - 1) v3 g1 (a2_ua (a2_ua (a2_ua r2 fM_andMany ((r2 fM_andMany).1, (upd (r2 fM_andMany).2 (((g fM_joints) - 1) : Int32).toNatClampNeg 0))) fM_next ((r2 fM_next).1, (upd (r2 fM_next).2 (v3 : Int32).toNatClampNeg 0))) fM_orFirst ((r2 fM_orFirst).1, (upd (r2 fM_orFirst).2 (((g fM_joints) - 1) : Int32).toNatClampNeg v3)))) else none)) else none) else none) else none)) else none) else none) else none) := (fs_ev (M := nm_m207) rfl rfl).trans (eM_closeAnds L xs (m + 1) d m 842 g r)
/-- CobolParserModel.whole(IIII)I -/
def BM_whole_28 (L : Nat) (xs : Nat → Int32) (m d k : Nat) (x1 x2 x3 x4 x5 x6 x7 : Int32) (g : a2_G) (r : a2_A) : Option fn_Z := (if am_c2 .ge x7 x4 = true then (some (.inl (some (.int x5)), g, r)) else (if am_inr x6 (r fM_next).1 = true then (fn_n (ev L xs m d nM_attach [.ref cM, .int x5, .int x6] g r) fun g4 r5 => (lp L xs nM_whole nm_m208 m d k 28 [some (.ref cM), some (.int x1), some (.int x2), some (.int x3), some (.int x4), some (.int x5), some (.int ((r fM_next).2 (x6 : Int32).toNatClampNeg)), some (.int (x7 + 1)), some (.int ((r fM_next).2 (x6 : Int32).toNatClampNeg))] g4 r5)) else none))
theorem bM_whole_28 (L : Nat) (xs : Nat → Int32) (m d k : Nat) (n : Nat) (x1 x2 x3 x4 x5 x6 x7 : Int32) (g : a2_G) (r : a2_A) : bk L xs nM_whole nm_m208 m d k (n + 16) 28 [some (.ref cM), some (.int x1), some (.int x2), some (.int x3), some (.int x4), some (.int x5), some (.int x6), some (.int x7), none] [] g r = BM_whole_28 L xs m d k x1 x2 x3 x4 x5 x6 x7 g r := by
  show _ = ((if am_c2 .ge x7 x4 = true then (some (.inl (some (.int x5)), g, r)) else (if am_inr x6 (r fM_next).1 = true then (fn_n (ev L xs m d nM_attach [.ref cM, .int x5, .int x6] g r) fun g4 r5 => (lp L xs nM_whole nm_m208 m d k 28 [some (.ref cM), some (.int x1), some (.int x2), some (.int x3), some (.int x4), some (.int x5), some (.int ((r fM_next).2 (x6 : Int32).toNatClampNeg)), some (.int (x7 + 1)), some (.int ((r fM_next).2 (x6 : Int32).toNatClampNeg))] g4 r5)) else none)) : Option fn_Z)
  refine (fs_r (n := n + 14) 2 (pc' := 32) (L' := [some (.ref cM), some (.int x1), some (.int x2), some (.int x3), some (.int x4), some (.int x5), some (.int x6), some (.int x7), none]) (S' := [.int x4, .int x7]) rfl).trans ?_
  refine (fs_j (n := n + 13) rfl (t := 62) rfl (by decide)).trans (fs_ite ?_ ?_)
  · skip
    refine (fs_r (n := n + 12) 1 (pc' := 64) (L' := [some (.ref cM), some (.int x1), some (.int x2), some (.int x3), some (.int x4), some (.int x5), some (.int x6), some (.int x7), none]) (S' := [.int x5]) rfl).trans ?_
    exact (fs_ri (n := n + 11) rfl rfl).trans rfl
  · skip
    refine (fs_r (n := n + 10) 3 (pc' := 41) (L' := [some (.ref cM), some (.int x1), some (.int x2), some (.int x3), some (.int x4), some (.int x5), some (.int x6), some (.int x7), none]) (S' := [.int x6, .ref 10915]) rfl).trans ?_
    refine (fs_il (n := n + 9) (k := 915) rfl rfl).trans (fs_ite ?_ rfl)
    refine (fs_r (n := n + 5) 4 (pc' := 49) (L' := [some (.ref cM), some (.int x1), some (.int x2), some (.int x3), some (.int x4), some (.int x5), some (.int x6), some (.int x7), some (.int ((r fM_next).2 (x6 : Int32).toNatClampNeg))]) (S' := [.int x6, .int x5, .ref cM]) rfl).trans ?_
    refine (fs_cn (n := n + 4) (N := nm_m173) (as := [.ref cM, .int x5, .int x6]) (rest := []) rfl rfl (Or.inl rfl) rfl rfl rfl rfl rfl).trans (fs_fn fun g4 r5 => ?_)
    refine (fs_r (n := n + 1) 3 (pc' := 59) (L' := [some (.ref cM), some (.int x1), some (.int x2), some (.int x3), some (.int x4), some (.int x5), some (.int ((r fM_next).2 (x6 : Int32).toNatClampNeg)), some (.int (x7 + 1)), some (.int ((r fM_next).2 (x6 : Int32).toNatClampNeg))]) (S' := []) rfl).trans ?_
    exact (fs_gb (n := n + 0) rfl (t := 28) rfl (by decide)).trans rfl
theorem lM_whole_28 (L : Nat) (xs : Nat → Int32) (m d k : Nat) (x1 x2 x3 x4 x5 x6 x7 : Int32) (g : a2_G) (r : a2_A) : lp L xs nM_whole nm_m208 m d (k + 1) 28 [some (.ref cM), some (.int x1), some (.int x2), some (.int x3), some (.int x4), some (.int x5), some (.int x6), some (.int x7), none] g r = BM_whole_28 L xs m d k x1 x2 x3 x4 x5 x6 x7 g r := fs_lp.trans (bM_whole_28 L xs m d k 884 x1 x2 x3 x4 x5 x6 x7 g r)
def BM_whole_28_1 (L : Nat) (xs : Nat → Int32) (m d k : Nat) (x1 x2 x3 x4 x5 x6 x7 x8 : Int32) (g : a2_G) (r : a2_A) : Option fn_Z := (if am_c2 .ge x7 x4 = true then (some (.inl (some (.int x5)), g, r)) else (if am_inr x6 (r fM_next).1 = true then (fn_n (ev L xs m d nM_attach [.ref cM, .int x5, .int x6] g r) fun g6 r7 => (lp L xs nM_whole nm_m208 m d k 28 [some (.ref cM), some (.int x1), some (.int x2), some (.int x3), some (.int x4), some (.int x5), some (.int ((r fM_next).2 (x6 : Int32).toNatClampNeg)), some (.int (x7 + 1)), some (.int ((r fM_next).2 (x6 : Int32).toNatClampNeg))] g6 r7)) else none))
theorem bM_whole_28_1 (L : Nat) (xs : Nat → Int32) (m d k : Nat) (n : Nat) (x1 x2 x3 x4 x5 x6 x7 x8 : Int32) (g : a2_G) (r : a2_A) : bk L xs nM_whole nm_m208 m d k (n + 16) 28 [some (.ref cM), some (.int x1), some (.int x2), some (.int x3), some (.int x4), some (.int x5), some (.int x6), some (.int x7), some (.int x8)] [] g r = BM_whole_28_1 L xs m d k x1 x2 x3 x4 x5 x6 x7 x8 g r := by
  show _ = ((if am_c2 .ge x7 x4 = true then (some (.inl (some (.int x5)), g, r)) else (if am_inr x6 (r fM_next).1 = true then (fn_n (ev L xs m d nM_attach [.ref cM, .int x5, .int x6] g r) fun g6 r7 => (lp L xs nM_whole nm_m208 m d k 28 [some (.ref cM), some (.int x1), some (.int x2), some (.int x3), some (.int x4), some (.int x5), some (.int ((r fM_next).2 (x6 : Int32).toNatClampNeg)), some (.int (x7 + 1)), some (.int ((r fM_next).2 (x6 : Int32).toNatClampNeg))] g6 r7)) else none)) : Option fn_Z)
  refine (fs_r (n := n + 14) 2 (pc' := 32) (L' := [some (.ref cM), some (.int x1), some (.int x2), some (.int x3), some (.int x4), some (.int x5), some (.int x6), some (.int x7), some (.int x8)]) (S' := [.int x4, .int x7]) rfl).trans ?_
  refine (fs_j (n := n + 13) rfl (t := 62) rfl (by decide)).trans (fs_ite ?_ ?_)
  · skip
    refine (fs_r (n := n + 12) 1 (pc' := 64) (L' := [some (.ref cM), some (.int x1), some (.int x2), some (.int x3), some (.int x4), some (.int x5), some (.int x6), some (.int x7), some (.int x8)]) (S' := [.int x5]) rfl).trans ?_
    exact (fs_ri (n := n + 11) rfl rfl).trans rfl
  · skip
    refine (fs_r (n := n + 10) 3 (pc' := 41) (L' := [some (.ref cM), some (.int x1), some (.int x2), some (.int x3), some (.int x4), some (.int x5), some (.int x6), some (.int x7), some (.int x8)]) (S' := [.int x6, .ref 10915]) rfl).trans ?_
    refine (fs_il (n := n + 9) (k := 915) rfl rfl).trans (fs_ite ?_ rfl)
    refine (fs_r (n := n + 5) 4 (pc' := 49) (L' := [some (.ref cM), some (.int x1), some (.int x2), some (.int x3), some (.int x4), some (.int x5), some (.int x6), some (.int x7), some (.int ((r fM_next).2 (x6 : Int32).toNatClampNeg))]) (S' := [.int x6, .int x5, .ref cM]) rfl).trans ?_
    refine (fs_cn (n := n + 4) (N := nm_m173) (as := [.ref cM, .int x5, .int x6]) (rest := []) rfl rfl (Or.inl rfl) rfl rfl rfl rfl rfl).trans (fs_fn fun g6 r7 => ?_)
    refine (fs_r (n := n + 1) 3 (pc' := 59) (L' := [some (.ref cM), some (.int x1), some (.int x2), some (.int x3), some (.int x4), some (.int x5), some (.int ((r fM_next).2 (x6 : Int32).toNatClampNeg)), some (.int (x7 + 1)), some (.int ((r fM_next).2 (x6 : Int32).toNatClampNeg))]) (S' := []) rfl).trans ?_
    exact (fs_gb (n := n + 0) rfl (t := 28) rfl (by decide)).trans rfl
theorem lM_whole_28_1 (L : Nat) (xs : Nat → Int32) (m d k : Nat) (x1 x2 x3 x4 x5 x6 x7 x8 : Int32) (g : a2_G) (r : a2_A) : lp L xs nM_whole nm_m208 m d (k + 1) 28 [some (.ref cM), some (.int x1), some (.int x2), some (.int x3), some (.int x4), some (.int x5), some (.int x6), some (.int x7), some (.int x8)] g r = BM_whole_28_1 L xs m d k x1 x2 x3 x4 x5 x6 x7 x8 g r := fs_lp.trans (bM_whole_28_1 L xs m d k 884 x1 x2 x3 x4 x5 x6 x7 x8 g r)
theorem eM_whole (L : Nat) (xs : Nat → Int32) (m d k : Nat) (n : Nat) (a1 a2 a3 a4 : Int32) (g : a2_G) (r : a2_A) : bk L xs nM_whole nm_m208 m d k (n + 32) 0 [some (.ref cM), some (.int a1), some (.int a2), some (.int a3), some (.int a4), none, none, none, none] [] g r = (if am_c2 .ne a4 1 = true then (if am_inr a2 (r fM_place).1 = true then (fn_v (ev L xs m d nM_make [.ref cM, .int a1, .int 0, .int ((r fM_place).2 (a2 : Int32).toNatClampNeg)] g r) fun v3 g1 r2 => (BM_whole_28 L xs m d k a1 a2 a3 a4 v3 a2 0 g1 r2)) else none) else (some (.inl (some (.int a2)), g, r))) := by
  refine (fs_r (n := n + 30) 2 (pc' := 3) (L' := [some (.ref cM), some (.int a1), some (.int a2), some (.int a3), some (.int a4), none, none, none, none]) (S' := [.int 1, .int a4]) rfl).trans ?_
  refine (fs_j (n := n + 29) rfl (t := 8) rfl (by decide)).trans (fs_ite ?_ ?_)
  · skip
    refine (fs_r (n := n + 23) 6 (pc' := 16) (L' := [some (.ref cM), some (.int a1), some (.int a2), some (.int a3), some (.int a4), none, none, none, none]) (S' := [.int a2, .ref 10911, .int 0, .int a1, .ref cM]) rfl).trans ?_
    refine (fs_il (n := n + 22) (k := 911) rfl rfl).trans (fs_ite ?_ rfl)
    refine (fs_cv (n := n + 21) (N := nm_m160) (as := [.ref cM, .int a1, .int 0, .int ((r fM_place).2 (a2 : Int32).toNatClampNeg)]) (rest := []) rfl rfl (Or.inl rfl) rfl rfl rfl rfl rfl).trans (fs_fv fun v3 g1 r2 => ?_)
    refine (fs_r (n := n + 16) 5 (pc' := 28) (L' := [some (.ref cM), some (.int a1), some (.int a2), some (.int a3), some (.int a4), some (.int v3), some (.int a2), some (.int 0), none]) (S' := []) rfl).trans ?_
    exact bM_whole_28 L xs m d k (n + 0) a1 a2 a3 a4 v3 a2 0 g1 r2
  · skip
    refine (fs_r (n := n + 28) 1 (pc' := 7) (L' := [some (.ref cM), some (.int a1), some (.int a2), some (.int a3), some (.int a4), none, none, none, none]) (S' := [.int a2]) rfl).trans ?_
    exact (fs_ri (n := n + 27) rfl rfl).trans rfl
theorem qM_whole (L : Nat) (xs : Nat → Int32) (m d : Nat) (a1 a2 a3 a4 : Int32) (g : a2_G) (r : a2_A) : ev L xs (m + 1) (d + 1) nM_whole [.ref cM, .int a1, .int a2, .int a3, .int a4] g r = (if am_c2 .ne a4 1 = true then (if am_inr a2 (r fM_place).1 = true then (fn_v (ev L xs (m + 1) d nM_make [.ref cM, .int a1, .int 0, .int ((r fM_place).2 (a2 : Int32).toNatClampNeg)] g r) fun v3 g1 r2 => (BM_whole_28 L xs (m + 1) d m a1 a2 a3 a4 v3 a2 0 g1 r2)) else none) else (some (.inl (some (.int a2)), g, r))) := (fs_ev (M := nm_m208) rfl rfl).trans (eM_whole L xs (m + 1) d m 868 a1 a2 a3 a4 g r)
/-- CobolParserModel.perform(I)V -/
def BM_perform_79 (L : Nat) (xs : Nat → Int32) (m d k : Nat) (x1 x2 : Int32) (g : a2_G) (r : a2_A) : Option fn_Z := (fn_n (ev L xs m d nM_phrase [.ref cM, .int x1] g r) fun g4 r5 => (if am_c2 .eq x2 0 = true then (if am_inr x1 (r5 fM_value).1 = true then (fn_n (ev L xs m d nM_pile [.ref cM, .int 39, .int x1] g4 (a2_ua r5 fM_value ((r5 fM_value).1, (upd (r5 fM_value).2 (x1 : Int32).toNatClampNeg 1)))) fun g6 r7 => (some (.inl none, g6, r7))) else none) else (some (.inl none, g4, r5))))
theorem bM_perform_79 (L : Nat) (xs : Nat → Int32) (m d k : Nat) (n : Nat) (x1 x2 : Int32) (g : a2_G) (r : a2_A) : bk L xs nM_perform nm_m209 m d k (n + 15) 79 [some (.ref cM), some (.int x1), some (.int x2)] [] g r = BM_perform_79 L xs m d k x1 x2 g r := by
  show _ = ((fn_n (ev L xs m d nM_phrase [.ref cM, .int x1] g r) fun g4 r5 => (if am_c2 .eq x2 0 = true then (if am_inr x1 (r5 fM_value).1 = true then (fn_n (ev L xs m d nM_pile [.ref cM, .int 39, .int x1] g4 (a2_ua r5 fM_value ((r5 fM_value).1, (upd (r5 fM_value).2 (x1 : Int32).toNatClampNeg 1)))) fun g6 r7 => (some (.inl none, g6, r7))) else none) else (some (.inl none, g4, r5)))) : Option fn_Z)
  refine (fs_r (n := n + 13) 2 (pc' := 81) (L' := [some (.ref cM), some (.int x1), some (.int x2)]) (S' := [.int x1, .ref cM]) rfl).trans ?_
  refine (fs_cn (n := n + 12) (N := nm_m210) (as := [.ref cM, .int x1]) (rest := []) rfl rfl (Or.inl rfl) rfl rfl rfl rfl rfl).trans (fs_fn fun g4 r5 => ?_)
  refine (fs_r (n := n + 11) 1 (pc' := 85) (L' := [some (.ref cM), some (.int x1), some (.int x2)]) (S' := [.int x2]) rfl).trans ?_
  refine (fs_i (n := n + 10) rfl (t := 89) rfl (by decide)).trans (fs_ite ?_ ?_)
  · skip
    refine (fs_r (n := n + 6) 4 (pc' := 95) (L' := [some (.ref cM), some (.int x1), some (.int x2)]) (S' := [.int 1, .int x1, .ref 10910]) rfl).trans ?_
    refine (fs_is (n := n + 5) (k := 910) rfl rfl).trans (fs_ite ?_ rfl)
    refine (fs_r (n := n + 2) 3 (pc' := 100) (L' := [some (.ref cM), some (.int x1), some (.int x2)]) (S' := [.int x1, .int 39, .ref cM]) rfl).trans ?_
    refine (fs_cn (n := n + 1) (N := nm_m187) (as := [.ref cM, .int 39, .int x1]) (rest := []) rfl rfl (Or.inl rfl) rfl rfl rfl rfl rfl).trans (fs_fn fun g6 r7 => ?_)
    exact (fs_rv (n := n + 0) rfl rfl).trans rfl
  · skip
    exact (fs_rv (n := n + 9) rfl rfl).trans rfl
def BM_perform_32 (L : Nat) (xs : Nat → Int32) (m d k : Nat) (x1 x2 : Int32) (g : a2_G) (r : a2_A) : Option fn_Z := (if am_c2 .eq x2 0 = true then (BM_perform_79 L xs m d k x1 x2 g r) else (fn_n (ev L xs m d nM_operandOf [.ref cM, .int x1] g r) fun g8 r9 => (fn_v (ev L xs m d nM_meets [.ref cM, .int 21] g8 r9) fun v12 g10 r11 => (if am_c2 .eq v12 0 = true then (BM_perform_79 L xs m d k x1 x2 g10 r11) else (fn_v (ev L xs m d nM_mustBe [.ref cM, .int 1] g10 r11) fun v15 g13 r14 => (if am_c2 .eq v15 0 = true then (BM_perform_79 L xs m d k x1 x2 g13 r14) else (fn_v (ev L xs m d nM_passed [.ref cM] g13 r14) fun v18 g16 r17 => (fn_n (ev L xs m d nM_child4 [.ref cM, .int x1, .int 41, .int (100000 + v18), .int ((g16 fM_at) - 1)] g16 r17) fun g19 r20 => (BM_perform_79 L xs m d k x1 x2 g19 r20)))))))))
theorem bM_perform_32 (L : Nat) (xs : Nat → Int32) (m d k : Nat) (n : Nat) (x1 x2 : Int32) (g : a2_G) (r : a2_A) : bk L xs nM_perform nm_m209 m d k (n + 41) 32 [some (.ref cM), some (.int x1), none] [.int x2] g r = BM_perform_32 L xs m d k x1 x2 g r := by
  show _ = ((if am_c2 .eq x2 0 = true then (BM_perform_79 L xs m d k x1 x2 g r) else (fn_n (ev L xs m d nM_operandOf [.ref cM, .int x1] g r) fun g8 r9 => (fn_v (ev L xs m d nM_meets [.ref cM, .int 21] g8 r9) fun v12 g10 r11 => (if am_c2 .eq v12 0 = true then (BM_perform_79 L xs m d k x1 x2 g10 r11) else (fn_v (ev L xs m d nM_mustBe [.ref cM, .int 1] g10 r11) fun v15 g13 r14 => (if am_c2 .eq v15 0 = true then (BM_perform_79 L xs m d k x1 x2 g13 r14) else (fn_v (ev L xs m d nM_passed [.ref cM] g13 r14) fun v18 g16 r17 => (fn_n (ev L xs m d nM_child4 [.ref cM, .int x1, .int 41, .int (100000 + v18), .int ((g16 fM_at) - 1)] g16 r17) fun g19 r20 => (BM_perform_79 L xs m d k x1 x2 g19 r20))))))))) : Option fn_Z)
  refine (fs_r (n := n + 39) 2 (pc' := 34) (L' := [some (.ref cM), some (.int x1), some (.int x2)]) (S' := [.int x2]) rfl).trans ?_
  refine (fs_i (n := n + 38) rfl (t := 79) rfl (by decide)).trans (fs_ite ?_ ?_)
  · skip
    exact bM_perform_79 L xs m d k (n + 23) x1 x2 g r
  · skip
    refine (fs_r (n := n + 36) 2 (pc' := 39) (L' := [some (.ref cM), some (.int x1), some (.int x2)]) (S' := [.int x1, .ref cM]) rfl).trans ?_
    refine (fs_cn (n := n + 35) (N := nm_m175) (as := [.ref cM, .int x1]) (rest := []) rfl rfl (Or.inl rfl) rfl rfl rfl rfl rfl).trans (fs_fn fun g8 r9 => ?_)
    refine (fs_r (n := n + 33) 2 (pc' := 45) (L' := [some (.ref cM), some (.int x1), some (.int x2)]) (S' := [.int 21, .ref cM]) rfl).trans ?_
    refine (fs_cv (n := n + 32) (N := nm_m169) (as := [.ref cM, .int 21]) (rest := []) rfl rfl (Or.inl rfl) rfl rfl rfl rfl rfl).trans (fs_fv fun v12 g10 r11 => ?_)
    refine (fs_i (n := n + 31) rfl (t := 79) rfl (by decide)).trans (fs_ite ?_ ?_)
    · skip
      exact bM_perform_79 L xs m d k (n + 16) x1 x2 g10 r11
    · skip
      refine (fs_r (n := n + 29) 2 (pc' := 53) (L' := [some (.ref cM), some (.int x1), some (.int x2)]) (S' := [.int 1, .ref cM]) rfl).trans ?_
      refine (fs_cv (n := n + 28) (N := nm_m170) (as := [.ref cM, .int 1]) (rest := []) rfl rfl (Or.inl rfl) rfl rfl rfl rfl rfl).trans (fs_fv fun v15 g13 r14 => ?_)
      refine (fs_i (n := n + 27) rfl (t := 79) rfl (by decide)).trans (fs_ite ?_ ?_)
      · skip
        exact bM_perform_79 L xs m d k (n + 12) x1 x2 g13 r14
      · skip
        refine (fs_r (n := n + 22) 5 (pc' := 66) (L' := [some (.ref cM), some (.int x1), some (.int x2)]) (S' := [.ref cM, .int 100000, .int 41, .int x1, .ref cM]) rfl).trans ?_
        refine (fs_cv (n := n + 21) (N := nm_m171) (as := [.ref cM]) (rest := [.int 100000, .int 41, .int x1, .ref cM]) rfl rfl (Or.inl rfl) rfl rfl rfl rfl rfl).trans (fs_fv fun v18 g16 r17 => ?_)
        refine (fs_r (n := n + 16) 5 (pc' := 76) (L' := [some (.ref cM), some (.int x1), some (.int x2)]) (S' := [.int ((g16 fM_at) - 1), .int (100000 + v18), .int 41, .int x1, .ref cM]) rfl).trans ?_
        refine (fs_cn (n := n + 15) (N := nm_m172) (as := [.ref cM, .int x1, .int 41, .int (100000 + v18), .int ((g16 fM_at) - 1)]) (rest := []) rfl rfl (Or.inl rfl) rfl rfl rfl rfl rfl).trans (fs_fn fun g19 r20 => ?_)
        exact bM_perform_79 L xs m d k (n + 0) x1 x2 g19 r20
def BM_perform_31 (L : Nat) (xs : Nat → Int32) (m d k : Nat) (x1 : Int32) (g : a2_G) (r : a2_A) : Option fn_Z := (BM_perform_32 L xs m d k x1 0 g r)
theorem bM_perform_31 (L : Nat) (xs : Nat → Int32) (m d k : Nat) (n : Nat) (x1 : Int32) (g : a2_G) (r : a2_A) : bk L xs nM_perform nm_m209 m d k (n + 42) 31 [some (.ref cM), some (.int x1), none] [] g r = BM_perform_31 L xs m d k x1 g r := by
  show _ = ((BM_perform_32 L xs m d k x1 0 g r) : Option fn_Z)
  refine (fs_r (n := n + 41) 1 (pc' := 32) (L' := [some (.ref cM), some (.int x1), none]) (S' := [.int 0]) rfl).trans ?_
  exact bM_perform_32 L xs m d k (n + 0) x1 0 g r
theorem eM_perform (L : Nat) (xs : Nat → Int32) (m d k : Nat) (n : Nat) (a1 : Int32) (g : a2_G) (r : a2_A) : bk L xs nM_perform nm_m209 m d k (n + 57) 0 [some (.ref cM), some (.int a1), none] [] g r = (fn_v (ev L xs m d nM_isKind [.ref cM, .int (g fM_at), .int 1] g r) fun v3 g1 r2 => (if am_c2 .eq v3 0 = true then (BM_perform_31 L xs m d k a1 g1 r2) else (fn_v (ev L xs m d nM_isWord [.ref cM, .int ((g1 fM_at) + 1), .int 23] g1 r2) fun v23 g21 r22 => (if am_c2 .ne v23 0 = true then (BM_perform_31 L xs m d k a1 g21 r22) else (BM_perform_32 L xs m d k a1 1 g21 r22))))) := by
  refine (fs_r (n := n + 53) 4 (pc' := 6) (L' := [some (.ref cM), some (.int a1), none]) (S' := [.int 1, .int (g fM_at), .ref cM]) rfl).trans ?_
  refine (fs_cv (n := n + 52) (N := nm_m166) (as := [.ref cM, .int (g fM_at), .int 1]) (rest := []) rfl rfl (Or.inl rfl) rfl rfl rfl rfl rfl).trans (fs_fv fun v3 g1 r2 => ?_)
  refine (fs_i (n := n + 51) rfl (t := 31) rfl (by decide)).trans (fs_ite ?_ ?_)
  · skip
    exact bM_perform_31 L xs m d k (n + 9) a1 g1 r2
  · skip
    refine (fs_r (n := n + 45) 6 (pc' := 21) (L' := [some (.ref cM), some (.int a1), none]) (S' := [.int 23, .int ((g1 fM_at) + 1), .ref cM]) rfl).trans ?_
    refine (fs_cv (n := n + 44) (N := nm_m167) (as := [.ref cM, .int ((g1 fM_at) + 1), .int 23]) (rest := []) rfl rfl (Or.inl rfl) rfl rfl rfl rfl rfl).trans (fs_fv fun v23 g21 r22 => ?_)
    refine (fs_i (n := n + 43) rfl (t := 31) rfl (by decide)).trans (fs_ite ?_ ?_)
    · skip
      exact bM_perform_31 L xs m d k (n + 1) a1 g21 r22
    · skip
      refine (fs_r (n := n + 42) 1 (pc' := 28) (L' := [some (.ref cM), some (.int a1), none]) (S' := [.int 1]) rfl).trans ?_
      refine (fs_go (n := n + 41) rfl (t := 32) rfl (by decide)).trans ?_
      exact bM_perform_32 L xs m d k (n + 0) a1 1 g21 r22
theorem qM_perform (L : Nat) (xs : Nat → Int32) (m d : Nat) (a1 : Int32) (g : a2_G) (r : a2_A) : ev L xs (m + 1) (d + 1) nM_perform [.ref cM, .int a1] g r = (fn_v (ev L xs (m + 1) d nM_isKind [.ref cM, .int (g fM_at), .int 1] g r) fun v3 g1 r2 => (if am_c2 .eq v3 0 = true then (BM_perform_31 L xs (m + 1) d m a1 g1 r2) else (fn_v (ev L xs (m + 1) d nM_isWord [.ref cM, .int ((g1 fM_at) + 1), .int 23] g1 r2) fun v23 g21 r22 => (if am_c2 .ne v23 0 = true then (BM_perform_31 L xs (m + 1) d m a1 g21 r22) else (BM_perform_32 L xs (m + 1) d m a1 1 g21 r22))))) := (fs_ev (M := nm_m209) rfl rfl).trans (eM_perform L xs (m + 1) d m 843 a1 g r)
/-- CobolParserModel.phrase(I)V -/
def BM_phrase_177 (L : Nat) (xs : Nat → Int32) (m d k : Nat) (x1 x2 : Int32) (g : a2_G) (r : a2_A) : Option fn_Z := (some (.inl none, g, r))
theorem bM_phrase_177 (L : Nat) (xs : Nat → Int32) (m d k : Nat) (n : Nat) (x1 x2 : Int32) (g : a2_G) (r : a2_A) : bk L xs nM_phrase nm_m210 m d k (n + 1) 177 [some (.ref cM), some (.int x1), some (.int x2), none, none] [] g r = BM_phrase_177 L xs m d k x1 x2 g r := by
  show _ = ((some (.inl none, g, r)) : Option fn_Z)
  exact (fs_rv (n := n + 0) rfl rfl).trans rfl
def BM_phrase_177_1 (L : Nat) (xs : Nat → Int32) (m d k : Nat) (x1 x2 x3 : Int32) (g : a2_G) (r : a2_A) : Option fn_Z := (some (.inl none, g, r))
theorem bM_phrase_177_1 (L : Nat) (xs : Nat → Int32) (m d k : Nat) (n : Nat) (x1 x2 x3 : Int32) (g : a2_G) (r : a2_A) : bk L xs nM_phrase nm_m210 m d k (n + 1) 177 [some (.ref cM), some (.int x1), some (.int x2), some (.int x3), none] [] g r = BM_phrase_177_1 L xs m d k x1 x2 x3 g r := by
  show _ = ((some (.inl none, g, r)) : Option fn_Z)
  exact (fs_rv (n := n + 0) rfl rfl).trans rfl
def BM_phrase_163 (L : Nat) (xs : Nat → Int32) (m d k : Nat) (x1 x2 x3 : Int32) (g : a2_G) (r : a2_A) : Option fn_Z := (fn_v (ev L xs m d nM_must [.ref cM, .int 56] g r) fun v26 g24 r25 => (if am_c2 .eq v26 0 = true then (BM_phrase_177_1 L xs m d k x1 x2 x3 g24 r25) else (fn_n (ev L xs m d nM_conditionOf [.ref cM, .int x3] g24 r25) fun g27 r28 => (BM_phrase_177_1 L xs m d k x1 x2 x3 g27 r28))))
theorem bM_phrase_163 (L : Nat) (xs : Nat → Int32) (m d k : Nat) (n : Nat) (x1 x2 x3 : Int32) (g : a2_G) (r : a2_A) : bk L xs nM_phrase nm_m210 m d k (n + 8) 163 [some (.ref cM), some (.int x1), some (.int x2), some (.int x3), none] [] g r = BM_phrase_163 L xs m d k x1 x2 x3 g r := by
  show _ = ((fn_v (ev L xs m d nM_must [.ref cM, .int 56] g r) fun v26 g24 r25 => (if am_c2 .eq v26 0 = true then (BM_phrase_177_1 L xs m d k x1 x2 x3 g24 r25) else (fn_n (ev L xs m d nM_conditionOf [.ref cM, .int x3] g24 r25) fun g27 r28 => (BM_phrase_177_1 L xs m d k x1 x2 x3 g27 r28)))) : Option fn_Z)
  refine (fs_r (n := n + 6) 2 (pc' := 166) (L' := [some (.ref cM), some (.int x1), some (.int x2), some (.int x3), none]) (S' := [.int 56, .ref cM]) rfl).trans ?_
  refine (fs_cv (n := n + 5) (N := nm_m191) (as := [.ref cM, .int 56]) (rest := []) rfl rfl (Or.inl rfl) rfl rfl rfl rfl rfl).trans (fs_fv fun v26 g24 r25 => ?_)
  refine (fs_i (n := n + 4) rfl (t := 177) rfl (by decide)).trans (fs_ite ?_ ?_)
  · skip
    exact bM_phrase_177_1 L xs m d k (n + 3) x1 x2 x3 g24 r25
  · skip
    refine (fs_r (n := n + 2) 2 (pc' := 174) (L' := [some (.ref cM), some (.int x1), some (.int x2), some (.int x3), none]) (S' := [.int x3, .ref cM]) rfl).trans ?_
    refine (fs_cn (n := n + 1) (N := nm_m197) (as := [.ref cM, .int x3]) (rest := []) rfl rfl (Or.inl rfl) rfl rfl rfl rfl rfl).trans (fs_fn fun g27 r28 => ?_)
    exact bM_phrase_177_1 L xs m d k (n + 0) x1 x2 x3 g27 r28
def BM_phrase_149 (L : Nat) (xs : Nat → Int32) (m d k : Nat) (x1 x2 x3 : Int32) (g : a2_G) (r : a2_A) : Option fn_Z := (fn_v (ev L xs m d nM_must [.ref cM, .int 25] g r) fun v23 g21 r22 => (if am_c2 .eq v23 0 = true then (BM_phrase_163 L xs m d k x1 x2 x3 g21 r22) else (fn_n (ev L xs m d nM_operandOf [.ref cM, .int x3] g21 r22) fun g29 r30 => (BM_phrase_163 L xs m d k x1 x2 x3 g29 r30))))
theorem bM_phrase_149 (L : Nat) (xs : Nat → Int32) (m d k : Nat) (n : Nat) (x1 x2 x3 : Int32) (g : a2_G) (r : a2_A) : bk L xs nM_phrase nm_m210 m d k (n + 15) 149 [some (.ref cM), some (.int x1), some (.int x2), some (.int x3), none] [] g r = BM_phrase_149 L xs m d k x1 x2 x3 g r := by
  show _ = ((fn_v (ev L xs m d nM_must [.ref cM, .int 25] g r) fun v23 g21 r22 => (if am_c2 .eq v23 0 = true then (BM_phrase_163 L xs m d k x1 x2 x3 g21 r22) else (fn_n (ev L xs m d nM_operandOf [.ref cM, .int x3] g21 r22) fun g29 r30 => (BM_phrase_163 L xs m d k x1 x2 x3 g29 r30)))) : Option fn_Z)
  refine (fs_r (n := n + 13) 2 (pc' := 152) (L' := [some (.ref cM), some (.int x1), some (.int x2), some (.int x3), none]) (S' := [.int 25, .ref cM]) rfl).trans ?_
  refine (fs_cv (n := n + 12) (N := nm_m191) (as := [.ref cM, .int 25]) (rest := []) rfl rfl (Or.inl rfl) rfl rfl rfl rfl rfl).trans (fs_fv fun v23 g21 r22 => ?_)
  refine (fs_i (n := n + 11) rfl (t := 163) rfl (by decide)).trans (fs_ite ?_ ?_)
  · skip
    exact bM_phrase_163 L xs m d k (n + 3) x1 x2 x3 g21 r22
  · skip
    refine (fs_r (n := n + 9) 2 (pc' := 160) (L' := [some (.ref cM), some (.int x1), some (.int x2), some (.int x3), none]) (S' := [.int x3, .ref cM]) rfl).trans ?_
    refine (fs_cn (n := n + 8) (N := nm_m175) (as := [.ref cM, .int x3]) (rest := []) rfl rfl (Or.inl rfl) rfl rfl rfl rfl rfl).trans (fs_fn fun g29 r30 => ?_)
    exact bM_phrase_163 L xs m d k (n + 0) x1 x2 x3 g29 r30
def BM_phrase_135 (L : Nat) (xs : Nat → Int32) (m d k : Nat) (x1 x2 x3 : Int32) (g : a2_G) (r : a2_A) : Option fn_Z := (fn_v (ev L xs m d nM_must [.ref cM, .int 58] g r) fun v20 g18 r19 => (if am_c2 .eq v20 0 = true then (BM_phrase_149 L xs m d k x1 x2 x3 g18 r19) else (fn_n (ev L xs m d nM_operandOf [.ref cM, .int x3] g18 r19) fun g31 r32 => (BM_phrase_149 L xs m d k x1 x2 x3 g31 r32))))
theorem bM_phrase_135 (L : Nat) (xs : Nat → Int32) (m d k : Nat) (n : Nat) (x1 x2 x3 : Int32) (g : a2_G) (r : a2_A) : bk L xs nM_phrase nm_m210 m d k (n + 22) 135 [some (.ref cM), some (.int x1), some (.int x2), some (.int x3), none] [] g r = BM_phrase_135 L xs m d k x1 x2 x3 g r := by
  show _ = ((fn_v (ev L xs m d nM_must [.ref cM, .int 58] g r) fun v20 g18 r19 => (if am_c2 .eq v20 0 = true then (BM_phrase_149 L xs m d k x1 x2 x3 g18 r19) else (fn_n (ev L xs m d nM_operandOf [.ref cM, .int x3] g18 r19) fun g31 r32 => (BM_phrase_149 L xs m d k x1 x2 x3 g31 r32)))) : Option fn_Z)
  refine (fs_r (n := n + 20) 2 (pc' := 138) (L' := [some (.ref cM), some (.int x1), some (.int x2), some (.int x3), none]) (S' := [.int 58, .ref cM]) rfl).trans ?_
  refine (fs_cv (n := n + 19) (N := nm_m191) (as := [.ref cM, .int 58]) (rest := []) rfl rfl (Or.inl rfl) rfl rfl rfl rfl rfl).trans (fs_fv fun v20 g18 r19 => ?_)
  refine (fs_i (n := n + 18) rfl (t := 149) rfl (by decide)).trans (fs_ite ?_ ?_)
  · skip
    exact bM_phrase_149 L xs m d k (n + 3) x1 x2 x3 g18 r19
  · skip
    refine (fs_r (n := n + 16) 2 (pc' := 146) (L' := [some (.ref cM), some (.int x1), some (.int x2), some (.int x3), none]) (S' := [.int x3, .ref cM]) rfl).trans ?_
    refine (fs_cn (n := n + 15) (N := nm_m175) (as := [.ref cM, .int x3]) (rest := []) rfl rfl (Or.inl rfl) rfl rfl rfl rfl rfl).trans (fs_fn fun g31 r32 => ?_)
    exact bM_phrase_149 L xs m d k (n + 0) x1 x2 x3 g31 r32
def BM_phrase_177_2 (L : Nat) (xs : Nat → Int32) (m d k : Nat) (x1 x2 x3 x4 : Int32) (g : a2_G) (r : a2_A) : Option fn_Z := (some (.inl none, g, r))
theorem bM_phrase_177_2 (L : Nat) (xs : Nat → Int32) (m d k : Nat) (n : Nat) (x1 x2 x3 x4 : Int32) (g : a2_G) (r : a2_A) : bk L xs nM_phrase nm_m210 m d k (n + 1) 177 [some (.ref cM), some (.int x1), some (.int x2), some (.int x3), some (.int x4)] [] g r = BM_phrase_177_2 L xs m d k x1 x2 x3 x4 g r := by
  show _ = ((some (.inl none, g, r)) : Option fn_Z)
  exact (fs_rv (n := n + 0) rfl rfl).trans rfl
theorem eM_phrase (L : Nat) (xs : Nat → Int32) (m d k : Nat) (n : Nat) (a1 : Int32) (g : a2_G) (r : a2_A) : bk L xs nM_phrase nm_m210 m d k (n + 65) 0 [some (.ref cM), some (.int a1), none, none, none] [] g r = (if am_c2 .eq (g fM_bad) 0 = true then (fn_v (ev L xs m d nM_isTimes [.ref cM] g r) fun v3 g1 r2 => (if am_c2 .eq v3 0 = true then (fn_v (ev L xs m d nM_meets [.ref cM, .int 56] g1 r2) fun v6 g4 r5 => (if am_c2 .eq v6 0 = true then (fn_v (ev L xs m d nM_meets [.ref cM, .int 57] g4 r5) fun v9 g7 r8 => (if am_c2 .eq v9 0 = true then (BM_phrase_177 L xs m d k a1 (g fM_at) g7 r8) else (fn_v (ev L xs m d nM_make [.ref cM, .int 45, .int 0, .int (g fM_at)] g7 r8) fun v12 g10 r11 => (fn_n (ev L xs m d nM_attach [.ref cM, .int a1, .int v12] g10 r11) fun g13 r14 => (fn_v (ev L xs m d nM_mustBe [.ref cM, .int 1] g13 r14) fun v17 g15 r16 => (if am_c2 .eq v17 0 = true then (BM_phrase_135 L xs m d k a1 (g fM_at) v12 g15 r16) else (fn_v (ev L xs m d nM_passed [.ref cM] g15 r16) fun v35 g33 r34 => (fn_n (ev L xs m d nM_child4 [.ref cM, .int v12, .int 41, .int (100000 + v35), .int ((g33 fM_at) - 1)] g33 r34) fun g36 r37 => (BM_phrase_135 L xs m d k a1 (g fM_at) v12 g36 r37))))))))) else (fn_v (ev L xs m d nM_make [.ref cM, .int 44, .int 0, .int (g fM_at)] g4 r5) fun v40 g38 r39 => (fn_n (ev L xs m d nM_attach [.ref cM, .int a1, .int v40] g38 r39) fun g41 r42 => (fn_n (ev L xs m d nM_conditionOf [.ref cM, .int v40] g41 r42) fun g43 r44 => (BM_phrase_177_1 L xs m d k a1 (g fM_at) v40 g43 r44)))))) else (fn_v (ev L xs m d nM_make [.ref cM, .int 43, .int 0, .int (g fM_at)] g1 r2) fun v47 g45 r46 => (fn_n (ev L xs m d nM_attach [.ref cM, .int a1, .int v47] g45 r46) fun g48 r49 => (fn_n (ev L xs m d nM_operandOf [.ref cM, .int v47] g48 r49) fun g50 r51 => (fn_v (ev L xs m d nM_must [.ref cM, .int 23] g50 r51) fun v54 g52 r53 => (BM_phrase_177_2 L xs m d k a1 (g fM_at) v47 v54 g52 r53))))))) else (some (.inl none, g, r))) := by
  refine (fs_r (n := n + 63) 2 (pc' := 4) (L' := [some (.ref cM), some (.int a1), none, none, none]) (S' := [.int (g fM_bad)]) rfl).trans ?_
  refine (fs_i (n := n + 62) rfl (t := 8) rfl (by decide)).trans (fs_ite ?_ ?_)
  · skip
    refine (fs_r (n := n + 58) 4 (pc' := 14) (L' := [some (.ref cM), some (.int a1), some (.int (g fM_at)), none, none]) (S' := [.ref cM]) rfl).trans ?_
    refine (fs_cv (n := n + 57) (N := nm_m211) (as := [.ref cM]) (rest := []) rfl rfl (Or.inl rfl) rfl rfl rfl rfl rfl).trans (fs_fv fun v3 g1 r2 => ?_)
    refine (fs_i (n := n + 56) rfl (t := 51) rfl (by decide)).trans (fs_ite ?_ ?_)
    · skip
      refine (fs_r (n := n + 54) 2 (pc' := 54) (L' := [some (.ref cM), some (.int a1), some (.int (g fM_at)), none, none]) (S' := [.int 56, .ref cM]) rfl).trans ?_
      refine (fs_cv (n := n + 53) (N := nm_m169) (as := [.ref cM, .int 56]) (rest := []) rfl rfl (Or.inl rfl) rfl rfl rfl rfl rfl).trans (fs_fv fun v6 g4 r5 => ?_)
      refine (fs_i (n := n + 52) rfl (t := 83) rfl (by decide)).trans (fs_ite ?_ ?_)
      · skip
        refine (fs_r (n := n + 50) 2 (pc' := 86) (L' := [some (.ref cM), some (.int a1), some (.int (g fM_at)), none, none]) (S' := [.int 57, .ref cM]) rfl).trans ?_
        refine (fs_cv (n := n + 49) (N := nm_m169) (as := [.ref cM, .int 57]) (rest := []) rfl rfl (Or.inl rfl) rfl rfl rfl rfl rfl).trans (fs_fv fun v9 g7 r8 => ?_)
        refine (fs_i (n := n + 48) rfl (t := 177) rfl (by decide)).trans (fs_ite ?_ ?_)
        · skip
          exact bM_phrase_177 L xs m d k (n + 47) a1 (g fM_at) g7 r8
        · skip
          refine (fs_r (n := n + 44) 4 (pc' := 97) (L' := [some (.ref cM), some (.int a1), some (.int (g fM_at)), none, none]) (S' := [.int (g fM_at), .int 0, .int 45, .ref cM]) rfl).trans ?_
          refine (fs_cv (n := n + 43) (N := nm_m160) (as := [.ref cM, .int 45, .int 0, .int (g fM_at)]) (rest := []) rfl rfl (Or.inl rfl) rfl rfl rfl rfl rfl).trans (fs_fv fun v12 g10 r11 => ?_)
          refine (fs_r (n := n + 39) 4 (pc' := 104) (L' := [some (.ref cM), some (.int a1), some (.int (g fM_at)), some (.int v12), none]) (S' := [.int v12, .int a1, .ref cM]) rfl).trans ?_
          refine (fs_cn (n := n + 38) (N := nm_m173) (as := [.ref cM, .int a1, .int v12]) (rest := []) rfl rfl (Or.inl rfl) rfl rfl rfl rfl rfl).trans (fs_fn fun g13 r14 => ?_)
          refine (fs_r (n := n + 36) 2 (pc' := 109) (L' := [some (.ref cM), some (.int a1), some (.int (g fM_at)), some (.int v12), none]) (S' := [.int 1, .ref cM]) rfl).trans ?_
          refine (fs_cv (n := n + 35) (N := nm_m170) (as := [.ref cM, .int 1]) (rest := []) rfl rfl (Or.inl rfl) rfl rfl rfl rfl rfl).trans (fs_fv fun v17 g15 r16 => ?_)
          refine (fs_i (n := n + 34) rfl (t := 135) rfl (by decide)).trans (fs_ite ?_ ?_)
          · skip
            exact bM_phrase_135 L xs m d k (n + 12) a1 (g fM_at) v12 g15 r16
          · skip
            refine (fs_r (n := n + 29) 5 (pc' := 122) (L' := [some (.ref cM), some (.int a1), some (.int (g fM_at)), some (.int v12), none]) (S' := [.ref cM, .int 100000, .int 41, .int v12, .ref cM]) rfl).trans ?_
            refine (fs_cv (n := n + 28) (N := nm_m171) (as := [.ref cM]) (rest := [.int 100000, .int 41, .int v12, .ref cM]) rfl rfl (Or.inl rfl) rfl rfl rfl rfl rfl).trans (fs_fv fun v35 g33 r34 => ?_)
            refine (fs_r (n := n + 23) 5 (pc' := 132) (L' := [some (.ref cM), some (.int a1), some (.int (g fM_at)), some (.int v12), none]) (S' := [.int ((g33 fM_at) - 1), .int (100000 + v35), .int 41, .int v12, .ref cM]) rfl).trans ?_
            refine (fs_cn (n := n + 22) (N := nm_m172) (as := [.ref cM, .int v12, .int 41, .int (100000 + v35), .int ((g33 fM_at) - 1)]) (rest := []) rfl rfl (Or.inl rfl) rfl rfl rfl rfl rfl).trans (fs_fn fun g36 r37 => ?_)
            exact bM_phrase_135 L xs m d k (n + 0) a1 (g fM_at) v12 g36 r37
      · skip
        refine (fs_r (n := n + 48) 4 (pc' := 65) (L' := [some (.ref cM), some (.int a1), some (.int (g fM_at)), none, none]) (S' := [.int (g fM_at), .int 0, .int 44, .ref cM]) rfl).trans ?_
        refine (fs_cv (n := n + 47) (N := nm_m160) (as := [.ref cM, .int 44, .int 0, .int (g fM_at)]) (rest := []) rfl rfl (Or.inl rfl) rfl rfl rfl rfl rfl).trans (fs_fv fun v40 g38 r39 => ?_)
        refine (fs_r (n := n + 43) 4 (pc' := 72) (L' := [some (.ref cM), some (.int a1), some (.int (g fM_at)), some (.int v40), none]) (S' := [.int v40, .int a1, .ref cM]) rfl).trans ?_
        refine (fs_cn (n := n + 42) (N := nm_m173) (as := [.ref cM, .int a1, .int v40]) (rest := []) rfl rfl (Or.inl rfl) rfl rfl rfl rfl rfl).trans (fs_fn fun g41 r42 => ?_)
        refine (fs_r (n := n + 40) 2 (pc' := 77) (L' := [some (.ref cM), some (.int a1), some (.int (g fM_at)), some (.int v40), none]) (S' := [.int v40, .ref cM]) rfl).trans ?_
        refine (fs_cn (n := n + 39) (N := nm_m197) (as := [.ref cM, .int v40]) (rest := []) rfl rfl (Or.inl rfl) rfl rfl rfl rfl rfl).trans (fs_fn fun g43 r44 => ?_)
        refine (fs_go (n := n + 38) rfl (t := 177) rfl (by decide)).trans ?_
        exact bM_phrase_177_1 L xs m d k (n + 37) a1 (g fM_at) v40 g43 r44
    · skip
      refine (fs_r (n := n + 52) 4 (pc' := 25) (L' := [some (.ref cM), some (.int a1), some (.int (g fM_at)), none, none]) (S' := [.int (g fM_at), .int 0, .int 43, .ref cM]) rfl).trans ?_
      refine (fs_cv (n := n + 51) (N := nm_m160) (as := [.ref cM, .int 43, .int 0, .int (g fM_at)]) (rest := []) rfl rfl (Or.inl rfl) rfl rfl rfl rfl rfl).trans (fs_fv fun v47 g45 r46 => ?_)
      refine (fs_r (n := n + 47) 4 (pc' := 32) (L' := [some (.ref cM), some (.int a1), some (.int (g fM_at)), some (.int v47), none]) (S' := [.int v47, .int a1, .ref cM]) rfl).trans ?_
      refine (fs_cn (n := n + 46) (N := nm_m173) (as := [.ref cM, .int a1, .int v47]) (rest := []) rfl rfl (Or.inl rfl) rfl rfl rfl rfl rfl).trans (fs_fn fun g48 r49 => ?_)
      refine (fs_r (n := n + 44) 2 (pc' := 37) (L' := [some (.ref cM), some (.int a1), some (.int (g fM_at)), some (.int v47), none]) (S' := [.int v47, .ref cM]) rfl).trans ?_
      refine (fs_cn (n := n + 43) (N := nm_m175) (as := [.ref cM, .int v47]) (rest := []) rfl rfl (Or.inl rfl) rfl rfl rfl rfl rfl).trans (fs_fn fun g50 r51 => ?_)
      refine (fs_r (n := n + 41) 2 (pc' := 43) (L' := [some (.ref cM), some (.int a1), some (.int (g fM_at)), some (.int v47), none]) (S' := [.int 23, .ref cM]) rfl).trans ?_
      refine (fs_cv (n := n + 40) (N := nm_m191) (as := [.ref cM, .int 23]) (rest := []) rfl rfl (Or.inl rfl) rfl rfl rfl rfl rfl).trans (fs_fv fun v54 g52 r53 => ?_)
      refine (fs_r (n := n + 39) 1 (pc' := 48) (L' := [some (.ref cM), some (.int a1), some (.int (g fM_at)), some (.int v47), some (.int v54)]) (S' := []) rfl).trans ?_
      refine (fs_go (n := n + 38) rfl (t := 177) rfl (by decide)).trans ?_
      exact bM_phrase_177_2 L xs m d k (n + 37) a1 (g fM_at) v47 v54 g52 r53
  · skip
    exact (fs_rv (n := n + 61) rfl rfl).trans rfl
theorem qM_phrase (L : Nat) (xs : Nat → Int32) (m d : Nat) (a1 : Int32) (g : a2_G) (r : a2_A) : ev L xs (m + 1) (d + 1) nM_phrase [.ref cM, .int a1] g r = (if am_c2 .eq (g fM_bad) 0 = true then (fn_v (ev L xs (m + 1) d nM_isTimes [.ref cM] g r) fun v3 g1 r2 => (if am_c2 .eq v3 0 = true then (fn_v (ev L xs (m + 1) d nM_meets [.ref cM, .int 56] g1 r2) fun v6 g4 r5 => (if am_c2 .eq v6 0 = true then (fn_v (ev L xs (m + 1) d nM_meets [.ref cM, .int 57] g4 r5) fun v9 g7 r8 => (if am_c2 .eq v9 0 = true then (BM_phrase_177 L xs (m + 1) d m a1 (g fM_at) g7 r8) else (fn_v (ev L xs (m + 1) d nM_make [.ref cM, .int 45, .int 0, .int (g fM_at)] g7 r8) fun v12 g10 r11 => (fn_n (ev L xs (m + 1) d nM_attach [.ref cM, .int a1, .int v12] g10 r11) fun g13 r14 => (fn_v (ev L xs (m + 1) d nM_mustBe [.ref cM, .int 1] g13 r14) fun v17 g15 r16 => (if am_c2 .eq v17 0 = true then (BM_phrase_135 L xs (m + 1) d m a1 (g fM_at) v12 g15 r16) else (fn_v (ev L xs (m + 1) d nM_passed [.ref cM] g15 r16) fun v35 g33 r34 => (fn_n (ev L xs (m + 1) d nM_child4 [.ref cM, .int v12, .int 41, .int (100000 + v35), .int ((g33 fM_at) - 1)] g33 r34) fun g36 r37 => (BM_phrase_135 L xs (m + 1) d m a1 (g fM_at) v12 g36 r37))))))))) else (fn_v (ev L xs (m + 1) d nM_make [.ref cM, .int 44, .int 0, .int (g fM_at)] g4 r5) fun v40 g38 r39 => (fn_n (ev L xs (m + 1) d nM_attach [.ref cM, .int a1, .int v40] g38 r39) fun g41 r42 => (fn_n (ev L xs (m + 1) d nM_conditionOf [.ref cM, .int v40] g41 r42) fun g43 r44 => (BM_phrase_177_1 L xs (m + 1) d m a1 (g fM_at) v40 g43 r44)))))) else (fn_v (ev L xs (m + 1) d nM_make [.ref cM, .int 43, .int 0, .int (g fM_at)] g1 r2) fun v47 g45 r46 => (fn_n (ev L xs (m + 1) d nM_attach [.ref cM, .int a1, .int v47] g45 r46) fun g48 r49 => (fn_n (ev L xs (m + 1) d nM_operandOf [.ref cM, .int v47] g48 r49) fun g50 r51 => (fn_v (ev L xs (m + 1) d nM_must [.ref cM, .int 23] g50 r51) fun v54 g52 r53 => (BM_phrase_177_2 L xs (m + 1) d m a1 (g fM_at) v47 v54 g52 r53))))))) else (some (.inl none, g, r))) := (fs_ev (M := nm_m210) rfl rfl).trans (eM_phrase L xs (m + 1) d m 835 a1 g r)
/-- CobolParserModel.isTimes()Z -/
def BM_isTimes_44 (L : Nat) (xs : Nat → Int32) (m d k : Nat) (x1 : Int32) (g : a2_G) (r : a2_A) : Option fn_Z := (if x1 = 0 ∨ x1 = 1 then some (.inl (some (.int x1)), g, r) else none)
theorem bM_isTimes_44 (L : Nat) (xs : Nat → Int32) (m d k : Nat) (n : Nat) (x1 : Int32) (g : a2_G) (r : a2_A) : bk L xs nM_isTimes nm_m211 m d k (n + 1) 44 [some (.ref cM)] [.int x1] g r = BM_isTimes_44 L xs m d k x1 g r := by
  show _ = ((if x1 = 0 ∨ x1 = 1 then some (.inl (some (.int x1)), g, r) else none) : Option fn_Z)
  exact (fs_rb (n := n + 0) rfl rfl).trans rfl
def BM_isTimes_39 (L : Nat) (xs : Nat → Int32) (m d k : Nat) (g : a2_G) (r : a2_A) : Option fn_Z := (BM_isTimes_44 L xs m d k 1 g r)
theorem bM_isTimes_39 (L : Nat) (xs : Nat → Int32) (m d k : Nat) (n : Nat) (g : a2_G) (r : a2_A) : bk L xs nM_isTimes nm_m211 m d k (n + 3) 39 [some (.ref cM)] [] g r = BM_isTimes_39 L xs m d k g r := by
  show _ = ((BM_isTimes_44 L xs m d k 1 g r) : Option fn_Z)
  refine (fs_r (n := n + 2) 1 (pc' := 40) (L' := [some (.ref cM)]) (S' := [.int 1]) rfl).trans ?_
  refine (fs_go (n := n + 1) rfl (t := 44) rfl (by decide)).trans ?_
  exact bM_isTimes_44 L xs m d k (n + 0) 1 g r
def BM_isTimes_43 (L : Nat) (xs : Nat → Int32) (m d k : Nat) (g : a2_G) (r : a2_A) : Option fn_Z := (BM_isTimes_44 L xs m d k 0 g r)
theorem bM_isTimes_43 (L : Nat) (xs : Nat → Int32) (m d k : Nat) (n : Nat) (g : a2_G) (r : a2_A) : bk L xs nM_isTimes nm_m211 m d k (n + 2) 43 [some (.ref cM)] [] g r = BM_isTimes_43 L xs m d k g r := by
  show _ = ((BM_isTimes_44 L xs m d k 0 g r) : Option fn_Z)
  refine (fs_r (n := n + 1) 1 (pc' := 44) (L' := [some (.ref cM)]) (S' := [.int 0]) rfl).trans ?_
  exact bM_isTimes_44 L xs m d k (n + 0) 0 g r
theorem eM_isTimes (L : Nat) (xs : Nat → Int32) (m d k : Nat) (n : Nat) (g : a2_G) (r : a2_A) : bk L xs nM_isTimes nm_m211 m d k (n + 23) 0 [some (.ref cM)] [] g r = (fn_v (ev L xs m d nM_isKind [.ref cM, .int (g fM_at), .int 2] g r) fun v3 g1 r2 => (if am_c2 .ne v3 0 = true then (BM_isTimes_39 L xs m d k g1 r2) else (fn_v (ev L xs m d nM_isKind [.ref cM, .int (g1 fM_at), .int 1] g1 r2) fun v6 g4 r5 => (if am_c2 .eq v6 0 = true then (BM_isTimes_43 L xs m d k g4 r5) else (fn_v (ev L xs m d nM_isWord [.ref cM, .int ((g4 fM_at) + 1), .int 23] g4 r5) fun v9 g7 r8 => (if am_c2 .eq v9 0 = true then (BM_isTimes_43 L xs m d k g7 r8) else (BM_isTimes_39 L xs m d k g7 r8))))))) := by
  refine (fs_r (n := n + 19) 4 (pc' := 6) (L' := [some (.ref cM)]) (S' := [.int 2, .int (g fM_at), .ref cM]) rfl).trans ?_
  refine (fs_cv (n := n + 18) (N := nm_m166) (as := [.ref cM, .int (g fM_at), .int 2]) (rest := []) rfl rfl (Or.inl rfl) rfl rfl rfl rfl rfl).trans (fs_fv fun v3 g1 r2 => ?_)
  refine (fs_i (n := n + 17) rfl (t := 39) rfl (by decide)).trans (fs_ite ?_ ?_)
  · skip
    exact bM_isTimes_39 L xs m d k (n + 14) g1 r2
  · skip
    refine (fs_r (n := n + 13) 4 (pc' := 18) (L' := [some (.ref cM)]) (S' := [.int 1, .int (g1 fM_at), .ref cM]) rfl).trans ?_
    refine (fs_cv (n := n + 12) (N := nm_m166) (as := [.ref cM, .int (g1 fM_at), .int 1]) (rest := []) rfl rfl (Or.inl rfl) rfl rfl rfl rfl rfl).trans (fs_fv fun v6 g4 r5 => ?_)
    refine (fs_i (n := n + 11) rfl (t := 43) rfl (by decide)).trans (fs_ite ?_ ?_)
    · skip
      exact bM_isTimes_43 L xs m d k (n + 9) g4 r5
    · skip
      refine (fs_r (n := n + 5) 6 (pc' := 33) (L' := [some (.ref cM)]) (S' := [.int 23, .int ((g4 fM_at) + 1), .ref cM]) rfl).trans ?_
      refine (fs_cv (n := n + 4) (N := nm_m167) (as := [.ref cM, .int ((g4 fM_at) + 1), .int 23]) (rest := []) rfl rfl (Or.inl rfl) rfl rfl rfl rfl rfl).trans (fs_fv fun v9 g7 r8 => ?_)
      refine (fs_i (n := n + 3) rfl (t := 43) rfl (by decide)).trans (fs_ite ?_ ?_)
      · skip
        exact bM_isTimes_43 L xs m d k (n + 1) g7 r8
      · skip
        exact bM_isTimes_39 L xs m d k (n + 0) g7 r8
theorem qM_isTimes (L : Nat) (xs : Nat → Int32) (m d : Nat) (g : a2_G) (r : a2_A) : ev L xs (m + 1) (d + 1) nM_isTimes [.ref cM] g r = (fn_v (ev L xs (m + 1) d nM_isKind [.ref cM, .int (g fM_at), .int 2] g r) fun v3 g1 r2 => (if am_c2 .ne v3 0 = true then (BM_isTimes_39 L xs (m + 1) d m g1 r2) else (fn_v (ev L xs (m + 1) d nM_isKind [.ref cM, .int (g1 fM_at), .int 1] g1 r2) fun v6 g4 r5 => (if am_c2 .eq v6 0 = true then (BM_isTimes_43 L xs (m + 1) d m g4 r5) else (fn_v (ev L xs (m + 1) d nM_isWord [.ref cM, .int ((g4 fM_at) + 1), .int 23] g4 r5) fun v9 g7 r8 => (if am_c2 .eq v9 0 = true then (BM_isTimes_43 L xs (m + 1) d m g7 r8) else (BM_isTimes_39 L xs (m + 1) d m g7 r8))))))) := (fs_ev (M := nm_m211) rfl rfl).trans (eM_isTimes L xs (m + 1) d m 877 g r)
/-- CobolParserModel.call(I)V -/
def BM_call_65 (L : Nat) (xs : Nat → Int32) (m d k : Nat) (x1 : Int32) (g : a2_G) (r : a2_A) : Option fn_Z := (fn_n (ev L xs m d nM_pile [.ref cM, .int 42, .int x1] g r) fun g6 r7 => (some (.inl none, g6, r7)))
theorem bM_call_65 (L : Nat) (xs : Nat → Int32) (m d k : Nat) (n : Nat) (x1 : Int32) (g : a2_G) (r : a2_A) : bk L xs nM_call nm_m212 m d k (n + 5) 65 [some (.ref cM), some (.int x1)] [] g r = BM_call_65 L xs m d k x1 g r := by
  show _ = ((fn_n (ev L xs m d nM_pile [.ref cM, .int 42, .int x1] g r) fun g6 r7 => (some (.inl none, g6, r7))) : Option fn_Z)
  refine (fs_r (n := n + 2) 3 (pc' := 69) (L' := [some (.ref cM), some (.int x1)]) (S' := [.int x1, .int 42, .ref cM]) rfl).trans ?_
  refine (fs_cn (n := n + 1) (N := nm_m187) (as := [.ref cM, .int 42, .int x1]) (rest := []) rfl rfl (Or.inl rfl) rfl rfl rfl rfl rfl).trans (fs_fn fun g6 r7 => ?_)
  exact (fs_rv (n := n + 0) rfl rfl).trans rfl
def BM_call_49 (L : Nat) (xs : Nat → Int32) (m d k : Nat) (x1 : Int32) (g : a2_G) (r : a2_A) : Option fn_Z := (fn_v (ev L xs m d nM_meets [.ref cM, .int 31] g r) fun v5 g3 r4 => (if am_c2 .eq v5 0 = true then (BM_call_65 L xs m d k x1 g3 r4) else (fn_n (ev L xs m d nM_names [.ref cM, .int x1, .int 21] g3 r4) fun g8 r9 => (BM_call_65 L xs m d k x1 g8 r9))))
theorem bM_call_49 (L : Nat) (xs : Nat → Int32) (m d k : Nat) (n : Nat) (x1 : Int32) (g : a2_G) (r : a2_A) : bk L xs nM_call nm_m212 m d k (n + 13) 49 [some (.ref cM), some (.int x1)] [] g r = BM_call_49 L xs m d k x1 g r := by
  show _ = ((fn_v (ev L xs m d nM_meets [.ref cM, .int 31] g r) fun v5 g3 r4 => (if am_c2 .eq v5 0 = true then (BM_call_65 L xs m d k x1 g3 r4) else (fn_n (ev L xs m d nM_names [.ref cM, .int x1, .int 21] g3 r4) fun g8 r9 => (BM_call_65 L xs m d k x1 g8 r9)))) : Option fn_Z)
  refine (fs_r (n := n + 11) 2 (pc' := 52) (L' := [some (.ref cM), some (.int x1)]) (S' := [.int 31, .ref cM]) rfl).trans ?_
  refine (fs_cv (n := n + 10) (N := nm_m169) (as := [.ref cM, .int 31]) (rest := []) rfl rfl (Or.inl rfl) rfl rfl rfl rfl rfl).trans (fs_fv fun v5 g3 r4 => ?_)
  refine (fs_i (n := n + 9) rfl (t := 65) rfl (by decide)).trans (fs_ite ?_ ?_)
  · skip
    exact bM_call_65 L xs m d k (n + 4) x1 g3 r4
  · skip
    refine (fs_r (n := n + 6) 3 (pc' := 62) (L' := [some (.ref cM), some (.int x1)]) (S' := [.int 21, .int x1, .ref cM]) rfl).trans ?_
    refine (fs_cn (n := n + 5) (N := nm_m179) (as := [.ref cM, .int x1, .int 21]) (rest := []) rfl rfl (Or.inl rfl) rfl rfl rfl rfl rfl).trans (fs_fn fun g8 r9 => ?_)
    exact bM_call_65 L xs m d k (n + 0) x1 g8 r9
def BM_call_44 (L : Nat) (xs : Nat → Int32) (m d k : Nat) (x1 : Int32) (g : a2_G) (r : a2_A) : Option fn_Z := (fn_n (ev L xs m d nM_operandOf [.ref cM, .int x1] g r) fun g1 r2 => (BM_call_49 L xs m d k x1 g1 r2))
theorem bM_call_44 (L : Nat) (xs : Nat → Int32) (m d k : Nat) (n : Nat) (x1 : Int32) (g : a2_G) (r : a2_A) : bk L xs nM_call nm_m212 m d k (n + 16) 44 [some (.ref cM), some (.int x1)] [] g r = BM_call_44 L xs m d k x1 g r := by
  show _ = ((fn_n (ev L xs m d nM_operandOf [.ref cM, .int x1] g r) fun g1 r2 => (BM_call_49 L xs m d k x1 g1 r2)) : Option fn_Z)
  refine (fs_r (n := n + 14) 2 (pc' := 46) (L' := [some (.ref cM), some (.int x1)]) (S' := [.int x1, .ref cM]) rfl).trans ?_
  refine (fs_cn (n := n + 13) (N := nm_m175) (as := [.ref cM, .int x1]) (rest := []) rfl rfl (Or.inl rfl) rfl rfl rfl rfl rfl).trans (fs_fn fun g1 r2 => ?_)
  exact bM_call_49 L xs m d k (n + 0) x1 g1 r2
theorem eM_call (L : Nat) (xs : Nat → Int32) (m d k : Nat) (n : Nat) (a1 : Int32) (g : a2_G) (r : a2_A) : bk L xs nM_call nm_m212 m d k (n + 35) 0 [some (.ref cM), some (.int a1)] [] g r = (if am_c2 .ne (g fM_bad) 0 = true then (BM_call_44 L xs m d k a1 g r) else (fn_v (ev L xs m d nM_isKind [.ref cM, .int (g fM_at), .int 1] g r) fun v12 g10 r11 => (if am_c2 .ne v12 0 = true then (BM_call_44 L xs m d k a1 g10 r11) else (fn_v (ev L xs m d nM_isKind [.ref cM, .int (g10 fM_at), .int 3] g10 r11) fun v15 g13 r14 => (if am_c2 .ne v15 0 = true then (BM_call_44 L xs m d k a1 g13 r14) else (fn_v (ev L xs m d nM_fail [.ref cM, .int 1, .int (g13 fM_at)] g13 r14) fun v18 g16 r17 => (BM_call_49 L xs m d k a1 g16 r17))))))) := by
  refine (fs_r (n := n + 33) 2 (pc' := 4) (L' := [some (.ref cM), some (.int a1)]) (S' := [.int (g fM_bad)]) rfl).trans ?_
  refine (fs_i (n := n + 32) rfl (t := 44) rfl (by decide)).trans (fs_ite ?_ ?_)
  · skip
    exact bM_call_44 L xs m d k (n + 16) a1 g r
  · skip
    refine (fs_r (n := n + 28) 4 (pc' := 13) (L' := [some (.ref cM), some (.int a1)]) (S' := [.int 1, .int (g fM_at), .ref cM]) rfl).trans ?_
    refine (fs_cv (n := n + 27) (N := nm_m166) (as := [.ref cM, .int (g fM_at), .int 1]) (rest := []) rfl rfl (Or.inl rfl) rfl rfl rfl rfl rfl).trans (fs_fv fun v12 g10 r11 => ?_)
    refine (fs_i (n := n + 26) rfl (t := 44) rfl (by decide)).trans (fs_ite ?_ ?_)
    · skip
      exact bM_call_44 L xs m d k (n + 10) a1 g10 r11
    · skip
      refine (fs_r (n := n + 22) 4 (pc' := 25) (L' := [some (.ref cM), some (.int a1)]) (S' := [.int 3, .int (g10 fM_at), .ref cM]) rfl).trans ?_
      refine (fs_cv (n := n + 21) (N := nm_m166) (as := [.ref cM, .int (g10 fM_at), .int 3]) (rest := []) rfl rfl (Or.inl rfl) rfl rfl rfl rfl rfl).trans (fs_fv fun v15 g13 r14 => ?_)
      refine (fs_i (n := n + 20) rfl (t := 44) rfl (by decide)).trans (fs_ite ?_ ?_)
      · skip
        exact bM_call_44 L xs m d k (n + 4) a1 g13 r14
      · skip
        refine (fs_r (n := n + 16) 4 (pc' := 37) (L' := [some (.ref cM), some (.int a1)]) (S' := [.int (g13 fM_at), .int 1, .ref cM]) rfl).trans ?_
        refine (fs_cv (n := n + 15) (N := nm_m164) (as := [.ref cM, .int 1, .int (g13 fM_at)]) (rest := []) rfl rfl (Or.inl rfl) rfl rfl rfl rfl rfl).trans (fs_fv fun v18 g16 r17 => ?_)
        refine (fs_r (n := n + 14) 1 (pc' := 41) (L' := [some (.ref cM), some (.int a1)]) (S' := []) rfl).trans ?_
        refine (fs_go (n := n + 13) rfl (t := 49) rfl (by decide)).trans ?_
        exact bM_call_49 L xs m d k (n + 0) a1 g16 r17
theorem qM_call (L : Nat) (xs : Nat → Int32) (m d : Nat) (a1 : Int32) (g : a2_G) (r : a2_A) : ev L xs (m + 1) (d + 1) nM_call [.ref cM, .int a1] g r = (if am_c2 .ne (g fM_bad) 0 = true then (BM_call_44 L xs (m + 1) d m a1 g r) else (fn_v (ev L xs (m + 1) d nM_isKind [.ref cM, .int (g fM_at), .int 1] g r) fun v12 g10 r11 => (if am_c2 .ne v12 0 = true then (BM_call_44 L xs (m + 1) d m a1 g10 r11) else (fn_v (ev L xs (m + 1) d nM_isKind [.ref cM, .int (g10 fM_at), .int 3] g10 r11) fun v15 g13 r14 => (if am_c2 .ne v15 0 = true then (BM_call_44 L xs (m + 1) d m a1 g13 r14) else (fn_v (ev L xs (m + 1) d nM_fail [.ref cM, .int 1, .int (g13 fM_at)] g13 r14) fun v18 g16 r17 => (BM_call_49 L xs (m + 1) d m a1 g16 r17))))))) := (fs_ev (M := nm_m212) rfl rfl).trans (eM_call L xs (m + 1) d m 865 a1 g r)
/-- CobolParserModel.compute(I)V -/
def BM_compute_90 (L : Nat) (xs : Nat → Int32) (m d k : Nat) (x1 x2 x3 x4 : Int32) (g : a2_G) (r : a2_A) : Option fn_Z := (if am_inr x4 (r fM_extra).1 = true then (some (.inl none, g, (a2_ua r fM_extra ((r fM_extra).1, (upd (r fM_extra).2 (x4 : Int32).toNatClampNeg x3))))) else none)
theorem bM_compute_90 (L : Nat) (xs : Nat → Int32) (m d k : Nat) (n : Nat) (x1 x2 x3 x4 : Int32) (g : a2_G) (r : a2_A) : bk L xs nM_compute nm_m213 m d k (n + 2) 90 [some (.ref cM), some (.int x1), some (.int x2)] [.int x3, .int x4, .ref 10912] g r = BM_compute_90 L xs m d k x1 x2 x3 x4 g r := by
  show _ = ((if am_inr x4 (r fM_extra).1 = true then (some (.inl none, g, (a2_ua r fM_extra ((r fM_extra).1, (upd (r fM_extra).2 (x4 : Int32).toNatClampNeg x3))))) else none) : Option fn_Z)
  refine (fs_is (n := n + 1) (k := 912) rfl rfl).trans (fs_ite ?_ rfl)
  exact (fs_rv (n := n + 0) rfl rfl).trans rfl
theorem eM_compute (L : Nat) (xs : Nat → Int32) (m d k : Nat) (n : Nat) (a1 : Int32) (g : a2_G) (r : a2_A) : bk L xs nM_compute nm_m213 m d k (n + 43) 0 [some (.ref cM), some (.int a1), none] [] g r = (fn_v (ev L xs m d nM_mustBe [.ref cM, .int 1] g r) fun v3 g1 r2 => (if am_c2 .ne v3 0 = true then (fn_v (ev L xs m d nM_passed [.ref cM] g1 r2) fun v6 g4 r5 => (if am_inr a1 (r5 fM_value).1 = true then (fn_v (ev L xs m d nM_isSign [.ref cM, .int (g4 fM_at), .int 2] g4 (a2_ua r5 fM_value ((r5 fM_value).1, (upd (r5 fM_value).2 (a1 : Int32).toNatClampNeg v6)))) fun v9 g7 r8 => (if am_c2 .ne v9 0 = true then (fn_v (ev L xs m d nM_sum [.ref cM] (upd g7 fM_at ((g7 fM_at) + 1)) r8) fun v12 g10 r11 => (if am_c2 .eq (g10 fM_bad) 0 = true then (fn_n (ev L xs m d nM_attach [.ref cM, .int a1, .int v12] g10 r11) fun g13 r14 => (fn_v (ev L xs m d nM_meets [.ref cM, .int 78] g13 r14) fun v17 g15 r16 => (if am_c2 .eq v17 0 = true then (BM_compute_90 L xs m d k a1 v12 0 a1 g15 r16) else (BM_compute_90 L xs m d k a1 v12 1 a1 g15 r16)))) else (some (.inl none, g10, r11)))) else (fn_v (ev L xs m d nM_fail [.ref cM, .int 1, .int (g7 fM_at)] g7 r8) fun v20 g18 r19 => (some (.inl none, g18, r19))))) else none)) else (some (.inl none, g1, r2)))) := by
  refine (fs_r (n := n + 41) 2 (pc' := 2) (L' := [some (.ref cM), some (.int a1), none]) (S' := [.int 1, .ref cM]) rfl).trans ?_
  refine (fs_cv (n := n + 40) (N := nm_m170) (as := [.ref cM, .int 1]) (rest := []) rfl rfl (Or.inl rfl) rfl rfl rfl rfl rfl).trans (fs_fv fun v3 g1 r2 => ?_)
  refine (fs_i (n := n + 39) rfl (t := 9) rfl (by decide)).trans (fs_ite ?_ ?_)
  · skip
    refine (fs_r (n := n + 35) 4 (pc' := 15) (L' := [some (.ref cM), some (.int a1), none]) (S' := [.ref cM, .int a1, .ref 10910]) rfl).trans ?_
    refine (fs_cv (n := n + 34) (N := nm_m171) (as := [.ref cM]) (rest := [.int a1, .ref 10910]) rfl rfl (Or.inl rfl) rfl rfl rfl rfl rfl).trans (fs_fv fun v6 g4 r5 => ?_)
    refine (fs_is (n := n + 33) (k := 910) rfl rfl).trans (fs_ite ?_ rfl)
    refine (fs_r (n := n + 29) 4 (pc' := 25) (L' := [some (.ref cM), some (.int a1), none]) (S' := [.int 2, .int (g4 fM_at), .ref cM]) rfl).trans ?_
    refine (fs_cv (n := n + 28) (N := nm_m203) (as := [.ref cM, .int (g4 fM_at), .int 2]) (rest := []) rfl rfl (Or.inl rfl) rfl rfl rfl rfl rfl).trans (fs_fv fun v9 g7 r8 => ?_)
    refine (fs_i (n := n + 27) rfl (t := 42) rfl (by decide)).trans (fs_ite ?_ ?_)
    · skip
      refine (fs_r (n := n + 22) 5 (pc' := 49) (L' := [some (.ref cM), some (.int a1), none]) (S' := [.int ((g7 fM_at) + 1), .ref cM]) rfl).trans ?_
      refine (fs_pf (n := n + 21) (ci := 9) (j := 41) rfl rfl rfl rfl).trans ?_
      refine (fs_r (n := n + 20) 1 (pc' := 53) (L' := [some (.ref cM), some (.int a1), none]) (S' := [.ref cM]) rfl).trans ?_
      refine (fs_cv (n := n + 19) (N := nm_m214) (as := [.ref cM]) (rest := []) rfl rfl (Or.inl rfl) rfl rfl rfl rfl rfl).trans (fs_fv fun v12 g10 r11 => ?_)
      refine (fs_r (n := n + 16) 3 (pc' := 61) (L' := [some (.ref cM), some (.int a1), some (.int v12)]) (S' := [.int (g10 fM_bad)]) rfl).trans ?_
      refine (fs_i (n := n + 15) rfl (t := 65) rfl (by decide)).trans (fs_ite ?_ ?_)
      · skip
        refine (fs_r (n := n + 12) 3 (pc' := 68) (L' := [some (.ref cM), some (.int a1), some (.int v12)]) (S' := [.int v12, .int a1, .ref cM]) rfl).trans ?_
        refine (fs_cn (n := n + 11) (N := nm_m173) (as := [.ref cM, .int a1, .int v12]) (rest := []) rfl rfl (Or.inl rfl) rfl rfl rfl rfl rfl).trans (fs_fn fun g13 r14 => ?_)
        refine (fs_r (n := n + 6) 5 (pc' := 79) (L' := [some (.ref cM), some (.int a1), some (.int v12)]) (S' := [.int 78, .ref cM, .int a1, .ref 10912]) rfl).trans ?_
        refine (fs_cv (n := n + 5) (N := nm_m169) (as := [.ref cM, .int 78]) (rest := [.int a1, .ref 10912]) rfl rfl (Or.inl rfl) rfl rfl rfl rfl rfl).trans (fs_fv fun v17 g15 r16 => ?_)
        refine (fs_i (n := n + 4) rfl (t := 89) rfl (by decide)).trans (fs_ite ?_ ?_)
        · skip
          refine (fs_r (n := n + 3) 1 (pc' := 90) (L' := [some (.ref cM), some (.int a1), some (.int v12)]) (S' := [.int 0, .int a1, .ref 10912]) rfl).trans ?_
          exact bM_compute_90 L xs m d k (n + 1) a1 v12 0 a1 g15 r16
        · skip
          refine (fs_r (n := n + 3) 1 (pc' := 86) (L' := [some (.ref cM), some (.int a1), some (.int v12)]) (S' := [.int 1, .int a1, .ref 10912]) rfl).trans ?_
          refine (fs_go (n := n + 2) rfl (t := 90) rfl (by decide)).trans ?_
          exact bM_compute_90 L xs m d k (n + 0) a1 v12 1 a1 g15 r16
      · skip
        exact (fs_rv (n := n + 14) rfl rfl).trans rfl
    · skip
      refine (fs_r (n := n + 23) 4 (pc' := 37) (L' := [some (.ref cM), some (.int a1), none]) (S' := [.int (g7 fM_at), .int 1, .ref cM]) rfl).trans ?_
      refine (fs_cv (n := n + 22) (N := nm_m164) (as := [.ref cM, .int 1, .int (g7 fM_at)]) (rest := []) rfl rfl (Or.inl rfl) rfl rfl rfl rfl rfl).trans (fs_fv fun v20 g18 r19 => ?_)
      refine (fs_r (n := n + 21) 1 (pc' := 41) (L' := [some (.ref cM), some (.int a1), none]) (S' := []) rfl).trans ?_
      exact (fs_rv (n := n + 20) rfl rfl).trans rfl
  · skip
    exact (fs_rv (n := n + 38) rfl rfl).trans rfl
theorem qM_compute (L : Nat) (xs : Nat → Int32) (m d : Nat) (a1 : Int32) (g : a2_G) (r : a2_A) : ev L xs (m + 1) (d + 1) nM_compute [.ref cM, .int a1] g r = (fn_v (ev L xs (m + 1) d nM_mustBe [.ref cM, .int 1] g r) fun v3 g1 r2 => (if am_c2 .ne v3 0 = true then (fn_v (ev L xs (m + 1) d nM_passed [.ref cM] g1 r2) fun v6 g4 r5 => (if am_inr a1 (r5 fM_value).1 = true then (fn_v (ev L xs (m + 1) d nM_isSign [.ref cM, .int (g4 fM_at), .int 2] g4 (a2_ua r5 fM_value ((r5 fM_value).1, (upd (r5 fM_value).2 (a1 : Int32).toNatClampNeg v6)))) fun v9 g7 r8 => (if am_c2 .ne v9 0 = true then (fn_v (ev L xs (m + 1) d nM_sum [.ref cM] (upd g7 fM_at ((g7 fM_at) + 1)) r8) fun v12 g10 r11 => (if am_c2 .eq (g10 fM_bad) 0 = true then (fn_n (ev L xs (m + 1) d nM_attach [.ref cM, .int a1, .int v12] g10 r11) fun g13 r14 => (fn_v (ev L xs (m + 1) d nM_meets [.ref cM, .int 78] g13 r14) fun v17 g15 r16 => (if am_c2 .eq v17 0 = true then (BM_compute_90 L xs (m + 1) d m a1 v12 0 a1 g15 r16) else (BM_compute_90 L xs (m + 1) d m a1 v12 1 a1 g15 r16)))) else (some (.inl none, g10, r11)))) else (fn_v (ev L xs (m + 1) d nM_fail [.ref cM, .int 1, .int (g7 fM_at)] g7 r8) fun v20 g18 r19 => (some (.inl none, g18, r19))))) else none)) else (some (.inl none, g1, r2)))) := (fs_ev (M := nm_m213) rfl rfl).trans (eM_compute L xs (m + 1) d m 857 a1 g r)
/-- CobolParserModel.sum()I -/
def BM_sum_129 (L : Nat) (xs : Nat → Int32) (m d k : Nat) (x1 : Int32) (g : a2_G) (r : a2_A) : Option fn_Z := (some (.inl (some (.int x1)), g, r))
theorem bM_sum_129 (L : Nat) (xs : Nat → Int32) (m d k : Nat) (n : Nat) (x1 : Int32) (g : a2_G) (r : a2_A) : bk L xs nM_sum nm_m214 m d k (n + 2) 129 [some (.ref cM), some (.int x1)] [] g r = BM_sum_129 L xs m d k x1 g r := by
  show _ = ((some (.inl (some (.int x1)), g, r)) : Option fn_Z)
  refine (fs_r (n := n + 1) 1 (pc' := 130) (L' := [some (.ref cM), some (.int x1)]) (S' := [.int x1]) rfl).trans ?_
  exact (fs_ri (n := n + 0) rfl rfl).trans rfl
def BM_sum_117 (L : Nat) (xs : Nat → Int32) (m d k : Nat) (x1 : Int32) (g : a2_G) (r : a2_A) : Option fn_Z := (fn_v (ev L xs m d nM_operand [.ref cM] g r) fun v11 g9 r10 => (fn_v (ev L xs m d nM_behindUnit [.ref cM, .int v11] g9 r10) fun v14 g12 r13 => (lp L xs nM_sum nm_m214 m d k 11 [some (.ref cM), some (.int v14)] g12 r13)))
theorem bM_sum_117 (L : Nat) (xs : Nat → Int32) (m d k : Nat) (n : Nat) (x1 : Int32) (g : a2_G) (r : a2_A) : bk L xs nM_sum nm_m214 m d k (n + 6) 117 [some (.ref cM), some (.int x1)] [] g r = BM_sum_117 L xs m d k x1 g r := by
  show _ = ((fn_v (ev L xs m d nM_operand [.ref cM] g r) fun v11 g9 r10 => (fn_v (ev L xs m d nM_behindUnit [.ref cM, .int v11] g9 r10) fun v14 g12 r13 => (lp L xs nM_sum nm_m214 m d k 11 [some (.ref cM), some (.int v14)] g12 r13))) : Option fn_Z)
  refine (fs_r (n := n + 4) 2 (pc' := 119) (L' := [some (.ref cM), some (.int x1)]) (S' := [.ref cM, .ref cM]) rfl).trans ?_
  refine (fs_cv (n := n + 3) (N := nm_m176) (as := [.ref cM]) (rest := [.ref cM]) rfl rfl (Or.inl rfl) rfl rfl rfl rfl rfl).trans (fs_fv fun v11 g9 r10 => ?_)
  refine (fs_cv (n := n + 2) (N := nm_m216) (as := [.ref cM, .int v11]) (rest := []) rfl rfl (Or.inl rfl) rfl rfl rfl rfl rfl).trans (fs_fv fun v14 g12 r13 => ?_)
  refine (fs_r (n := n + 1) 1 (pc' := 126) (L' := [some (.ref cM), some (.int v14)]) (S' := []) rfl).trans ?_
  exact (fs_gb (n := n + 0) rfl (t := 11) rfl (by decide)).trans rfl
def BM_sum_53 (L : Nat) (xs : Nat → Int32) (m d k : Nat) (x1 : Int32) (g : a2_G) (r : a2_A) : Option fn_Z := (fn_n (ev L xs m d nM_context [.ref cM] (upd (upd g fM_level ((g fM_level) + 1)) fM_at ((g fM_at) + 1)) r) fun g21 r22 => (lp L xs nM_sum nm_m214 m d k 11 [some (.ref cM), some (.int x1)] g21 r22))
theorem bM_sum_53 (L : Nat) (xs : Nat → Int32) (m d k : Nat) (n : Nat) (x1 : Int32) (g : a2_G) (r : a2_A) : bk L xs nM_sum nm_m214 m d k (n + 15) 53 [some (.ref cM), some (.int x1)] [] g r = BM_sum_53 L xs m d k x1 g r := by
  show _ = ((fn_n (ev L xs m d nM_context [.ref cM] (upd (upd g fM_level ((g fM_level) + 1)) fM_at ((g fM_at) + 1)) r) fun g21 r22 => (lp L xs nM_sum nm_m214 m d k 11 [some (.ref cM), some (.int x1)] g21 r22)) : Option fn_Z)
  refine (fs_r (n := n + 10) 5 (pc' := 60) (L' := [some (.ref cM), some (.int x1)]) (S' := [.int ((g fM_level) + 1), .ref cM]) rfl).trans ?_
  refine (fs_pf (n := n + 9) (ci := 9) (j := 44) rfl rfl rfl rfl).trans ?_
  refine (fs_r (n := n + 4) 5 (pc' := 70) (L' := [some (.ref cM), some (.int x1)]) (S' := [.int ((g fM_at) + 1), .ref cM]) rfl).trans ?_
  refine (fs_pf (n := n + 3) (ci := 9) (j := 41) rfl rfl rfl rfl).trans ?_
  refine (fs_r (n := n + 2) 1 (pc' := 74) (L' := [some (.ref cM), some (.int x1)]) (S' := [.ref cM]) rfl).trans ?_
  refine (fs_cn (n := n + 1) (N := nm_m215) (as := [.ref cM]) (rest := []) rfl rfl (Or.inl rfl) rfl rfl rfl rfl rfl).trans (fs_fn fun g21 r22 => ?_)
  exact (fs_gb (n := n + 0) rfl (t := 11) rfl (by decide)).trans rfl
def BM_sum_11 (L : Nat) (xs : Nat → Int32) (m d k : Nat) (x1 : Int32) (g : a2_G) (r : a2_A) : Option fn_Z := (if am_c2 .ne x1 0 = true then (BM_sum_129 L xs m d k x1 g r) else (if am_c2 .ne (g fM_bad) 0 = true then (BM_sum_129 L xs m d k x1 g r) else (fn_v (ev L xs m d nM_isSign [.ref cM, .int (g fM_at), .int 0] g r) fun v5 g3 r4 => (if am_c2 .eq v5 0 = true then (fn_v (ev L xs m d nM_isKind [.ref cM, .int (g3 fM_at), .int 1] g3 r4) fun v8 g6 r7 => (if am_c2 .ne v8 0 = true then (BM_sum_117 L xs m d k x1 g6 r7) else (fn_v (ev L xs m d nM_isKind [.ref cM, .int (g6 fM_at), .int 2] g6 r7) fun v17 g15 r16 => (if am_c2 .ne v17 0 = true then (BM_sum_117 L xs m d k x1 g15 r16) else (fn_v (ev L xs m d nM_fail [.ref cM, .int 1, .int (g15 fM_at)] g15 r16) fun v20 g18 r19 => (lp L xs nM_sum nm_m214 m d k 11 [some (.ref cM), some (.int x1)] g18 r19)))))) else (if am_c2 .ne (g3 fM_level) 40 = true then (BM_sum_53 L xs m d k x1 g3 r4) else (fn_v (ev L xs m d nM_fail [.ref cM, .int 3, .int (g3 fM_at)] g3 r4) fun v25 g23 r24 => (BM_sum_53 L xs m d k x1 g23 r24)))))))
theorem bM_sum_11 (L : Nat) (xs : Nat → Int32) (m d k : Nat) (n : Nat) (x1 : Int32) (g : a2_G) (r : a2_A) : bk L xs nM_sum nm_m214 m d k (n + 36) 11 [some (.ref cM), some (.int x1)] [] g r = BM_sum_11 L xs m d k x1 g r := by
  show _ = ((if am_c2 .ne x1 0 = true then (BM_sum_129 L xs m d k x1 g r) else (if am_c2 .ne (g fM_bad) 0 = true then (BM_sum_129 L xs m d k x1 g r) else (fn_v (ev L xs m d nM_isSign [.ref cM, .int (g fM_at), .int 0] g r) fun v5 g3 r4 => (if am_c2 .eq v5 0 = true then (fn_v (ev L xs m d nM_isKind [.ref cM, .int (g3 fM_at), .int 1] g3 r4) fun v8 g6 r7 => (if am_c2 .ne v8 0 = true then (BM_sum_117 L xs m d k x1 g6 r7) else (fn_v (ev L xs m d nM_isKind [.ref cM, .int (g6 fM_at), .int 2] g6 r7) fun v17 g15 r16 => (if am_c2 .ne v17 0 = true then (BM_sum_117 L xs m d k x1 g15 r16) else (fn_v (ev L xs m d nM_fail [.ref cM, .int 1, .int (g15 fM_at)] g15 r16) fun v20 g18 r19 => (lp L xs nM_sum nm_m214 m d k 11 [some (.ref cM), some (.int x1)] g18 r19)))))) else (if am_c2 .ne (g3 fM_level) 40 = true then (BM_sum_53 L xs m d k x1 g3 r4) else (fn_v (ev L xs m d nM_fail [.ref cM, .int 3, .int (g3 fM_at)] g3 r4) fun v25 g23 r24 => (BM_sum_53 L xs m d k x1 g23 r24))))))) : Option fn_Z)
  refine (fs_r (n := n + 35) 1 (pc' := 12) (L' := [some (.ref cM), some (.int x1)]) (S' := [.int x1]) rfl).trans ?_
  refine (fs_i (n := n + 34) rfl (t := 129) rfl (by decide)).trans (fs_ite ?_ ?_)
  · skip
    exact bM_sum_129 L xs m d k (n + 32) x1 g r
  · skip
    refine (fs_r (n := n + 32) 2 (pc' := 19) (L' := [some (.ref cM), some (.int x1)]) (S' := [.int (g fM_bad)]) rfl).trans ?_
    refine (fs_i (n := n + 31) rfl (t := 129) rfl (by decide)).trans (fs_ite ?_ ?_)
    · skip
      exact bM_sum_129 L xs m d k (n + 29) x1 g r
    · skip
      refine (fs_r (n := n + 27) 4 (pc' := 28) (L' := [some (.ref cM), some (.int x1)]) (S' := [.int 0, .int (g fM_at), .ref cM]) rfl).trans ?_
      refine (fs_cv (n := n + 26) (N := nm_m203) (as := [.ref cM, .int (g fM_at), .int 0]) (rest := []) rfl rfl (Or.inl rfl) rfl rfl rfl rfl rfl).trans (fs_fv fun v5 g3 r4 => ?_)
      refine (fs_i (n := n + 25) rfl (t := 80) rfl (by decide)).trans (fs_ite ?_ ?_)
      · skip
        refine (fs_r (n := n + 21) 4 (pc' := 86) (L' := [some (.ref cM), some (.int x1)]) (S' := [.int 1, .int (g3 fM_at), .ref cM]) rfl).trans ?_
        refine (fs_cv (n := n + 20) (N := nm_m166) (as := [.ref cM, .int (g3 fM_at), .int 1]) (rest := []) rfl rfl (Or.inl rfl) rfl rfl rfl rfl rfl).trans (fs_fv fun v8 g6 r7 => ?_)
        refine (fs_i (n := n + 19) rfl (t := 117) rfl (by decide)).trans (fs_ite ?_ ?_)
        · skip
          exact bM_sum_117 L xs m d k (n + 13) x1 g6 r7
        · skip
          refine (fs_r (n := n + 15) 4 (pc' := 98) (L' := [some (.ref cM), some (.int x1)]) (S' := [.int 2, .int (g6 fM_at), .ref cM]) rfl).trans ?_
          refine (fs_cv (n := n + 14) (N := nm_m166) (as := [.ref cM, .int (g6 fM_at), .int 2]) (rest := []) rfl rfl (Or.inl rfl) rfl rfl rfl rfl rfl).trans (fs_fv fun v17 g15 r16 => ?_)
          refine (fs_i (n := n + 13) rfl (t := 117) rfl (by decide)).trans (fs_ite ?_ ?_)
          · skip
            exact bM_sum_117 L xs m d k (n + 7) x1 g15 r16
          · skip
            refine (fs_r (n := n + 9) 4 (pc' := 110) (L' := [some (.ref cM), some (.int x1)]) (S' := [.int (g15 fM_at), .int 1, .ref cM]) rfl).trans ?_
            refine (fs_cv (n := n + 8) (N := nm_m164) (as := [.ref cM, .int 1, .int (g15 fM_at)]) (rest := []) rfl rfl (Or.inl rfl) rfl rfl rfl rfl rfl).trans (fs_fv fun v20 g18 r19 => ?_)
            refine (fs_r (n := n + 7) 1 (pc' := 114) (L' := [some (.ref cM), some (.int x1)]) (S' := []) rfl).trans ?_
            exact (fs_gb (n := n + 6) rfl (t := 11) rfl (by decide)).trans rfl
      · skip
        refine (fs_r (n := n + 22) 3 (pc' := 40) (L' := [some (.ref cM), some (.int x1)]) (S' := [.int 40, .int (g3 fM_level)]) rfl).trans ?_
        refine (fs_j (n := n + 21) rfl (t := 53) rfl (by decide)).trans (fs_ite ?_ ?_)
        · skip
          exact bM_sum_53 L xs m d k (n + 6) x1 g3 r4
        · skip
          refine (fs_r (n := n + 17) 4 (pc' := 49) (L' := [some (.ref cM), some (.int x1)]) (S' := [.int (g3 fM_at), .int 3, .ref cM]) rfl).trans ?_
          refine (fs_cv (n := n + 16) (N := nm_m164) (as := [.ref cM, .int 3, .int (g3 fM_at)]) (rest := []) rfl rfl (Or.inl rfl) rfl rfl rfl rfl rfl).trans (fs_fv fun v25 g23 r24 => ?_)
          refine (fs_r (n := n + 15) 1 (pc' := 53) (L' := [some (.ref cM), some (.int x1)]) (S' := []) rfl).trans ?_
          exact bM_sum_53 L xs m d k (n + 0) x1 g23 r24
theorem lM_sum_11 (L : Nat) (xs : Nat → Int32) (m d k : Nat) (x1 : Int32) (g : a2_G) (r : a2_A) : lp L xs nM_sum nm_m214 m d (k + 1) 11 [some (.ref cM), some (.int x1)] g r = BM_sum_11 L xs m d k x1 g r := fs_lp.trans (bM_sum_11 L xs m d k 864 x1 g r)
theorem eM_sum (L : Nat) (xs : Nat → Int32) (m d k : Nat) (n : Nat) (g : a2_G) (r : a2_A) : bk L xs nM_sum nm_m214 m d k (n + 43) 0 [some (.ref cM), none] [] g r = (fn_n (ev L xs m d nM_context [.ref cM] (upd g fM_contexts 0) r) fun g1 r2 => (BM_sum_11 L xs m d k 0 g1 r2)) := by
  refine (fs_r (n := n + 41) 2 (pc' := 2) (L' := [some (.ref cM), none]) (S' := [.int 0, .ref cM]) rfl).trans ?_
  refine (fs_pf (n := n + 40) (ci := 9) (j := 49) rfl rfl rfl rfl).trans ?_
  refine (fs_r (n := n + 39) 1 (pc' := 6) (L' := [some (.ref cM), none]) (S' := [.ref cM]) rfl).trans ?_
  refine (fs_cn (n := n + 38) (N := nm_m215) (as := [.ref cM]) (rest := []) rfl rfl (Or.inl rfl) rfl rfl rfl rfl rfl).trans (fs_fn fun g1 r2 => ?_)
  refine (fs_r (n := n + 36) 2 (pc' := 11) (L' := [some (.ref cM), some (.int 0)]) (S' := []) rfl).trans ?_
  exact bM_sum_11 L xs m d k (n + 0) 0 g1 r2
theorem qM_sum (L : Nat) (xs : Nat → Int32) (m d : Nat) (g : a2_G) (r : a2_A) : ev L xs (m + 1) (d + 1) nM_sum [.ref cM] g r = (fn_n (ev L xs (m + 1) d nM_context [.ref cM] (upd g fM_contexts 0) r) fun g1 r2 => (BM_sum_11 L xs (m + 1) d m 0 g1 r2)) := (fs_ev (M := nm_m214) rfl rfl).trans (eM_sum L xs (m + 1) d m 857 g r)
/-- CobolParserModel.context()V -/
theorem eM_context (L : Nat) (xs : Nat → Int32) (m d k : Nat) (n : Nat) (g : a2_G) (r : a2_A) : bk L xs nM_context nm_m215 m d k (n + 19) 0 [some (.ref cM)] [] g r = (if am_inr (g fM_contexts) (r fM_sumSign).1 = true then (if am_inr (g fM_contexts) (r fM_productSign).1 = true then (some (.inl none, (upd g fM_contexts ((g fM_contexts) + 1)), (a2_ua (a2_ua r fM_sumSign ((r fM_sumSign).1, (upd (r fM_sumSign).2 ((g fM_contexts) : Int32).toNatClampNeg 0))) fM_productSign ((r fM_productSign).1, (upd (r fM_productSign).2 ((g fM_contexts) : Int32).toNatClampNeg 0))))) else none) else none) := by
  refine (fs_r (n := n + 14) 5 (pc' := 9) (L' := [some (.ref cM)]) (S' := [.int 0, .int (g fM_contexts), .ref 10951]) rfl).trans ?_
  refine (fs_is (n := n + 13) (k := 951) rfl rfl).trans (fs_ite ?_ rfl)
  refine (fs_r (n := n + 8) 5 (pc' := 19) (L' := [some (.ref cM)]) (S' := [.int 0, .int (g fM_contexts), .ref 10953]) rfl).trans ?_
  refine (fs_is (n := n + 7) (k := 953) rfl rfl).trans (fs_ite ?_ rfl)
  refine (fs_r (n := n + 2) 5 (pc' := 27) (L' := [some (.ref cM)]) (S' := [.int ((g fM_contexts) + 1), .ref cM]) rfl).trans ?_
  refine (fs_pf (n := n + 1) (ci := 9) (j := 49) rfl rfl rfl rfl).trans ?_
  exact (fs_rv (n := n + 0) rfl rfl).trans rfl
theorem qM_context (L : Nat) (xs : Nat → Int32) (m d : Nat) (g : a2_G) (r : a2_A) : ev L xs (m + 1) (d + 1) nM_context [.ref cM] g r = (if am_inr (g fM_contexts) (r fM_sumSign).1 = true then (if am_inr (g fM_contexts) (r fM_productSign).1 = true then (some (.inl none, (upd g fM_contexts ((g fM_contexts) + 1)), (a2_ua (a2_ua r fM_sumSign ((r fM_sumSign).1, (upd (r fM_sumSign).2 ((g fM_contexts) : Int32).toNatClampNeg 0))) fM_productSign ((r fM_productSign).1, (upd (r fM_productSign).2 ((g fM_contexts) : Int32).toNatClampNeg 0))))) else none) else none) := (fs_ev (M := nm_m215) rfl rfl).trans (eM_context L xs (m + 1) d m 881 g r)
/-- CobolParserModel.behindUnit(I)I -/
def BM_behindUnit_82 (L : Nat) (xs : Nat → Int32) (m d k : Nat) (x1 x2 x3 x4 : Int32) (g : a2_G) (r : a2_A) : Option fn_Z := (if am_c2 .le x4 6 = true then (if am_inr x3 (r fM_sums).1 = true then (if am_inr x3 (r fM_sumSign).1 = true then (if am_inr x3 (r fM_products).1 = true then (fn_v (ev L xs m d nM_joined [.ref cM, .int ((r fM_sums).2 (x3 : Int32).toNatClampNeg), .int ((r fM_sumSign).2 (x3 : Int32).toNatClampNeg), .int ((r fM_products).2 (x3 : Int32).toNatClampNeg)] g r) fun v9 g7 r8 => (if am_inr x3 (r8 fM_sums).1 = true then (if am_inr x3 (r8 fM_sumSign).1 = true then (if am_c2 .le x4 0 = true then (if am_c2 .ne x3 0 = true then (fn_v (ev L xs m d nM_isSign [.ref cM, .int (g7 fM_at), .int 1] g7 (a2_ua (a2_ua r8 fM_sums ((r8 fM_sums).1, (upd (r8 fM_sums).2 (x3 : Int32).toNatClampNeg v9))) fM_sumSign ((r8 fM_sumSign).1, (upd (r8 fM_sumSign).2 (x3 : Int32).toNatClampNeg x4)))) fun v12 g10 r11 => (if am_c2 .ne v12 0 = true then (if am_inr x3 (r11 fM_sums).1 = true then (lp L xs nM_behindUnit nm_m216 m d k 2 [some (.ref cM), some (.int x1), some (.int ((r11 fM_sums).2 (x3 : Int32).toNatClampNeg)), some (.int x3), some (.int x4)] (upd (upd (upd g10 fM_at ((g10 fM_at) + 1)) fM_contexts ((g10 fM_contexts) - 1)) fM_level ((g10 fM_level) - 1)) r11) else none) else (fn_v (ev L xs m d nM_fail [.ref cM, .int 1, .int (g10 fM_at)] g10 r11) fun v15 g13 r14 => (some (.inl (some (.int 0)), g13, r14))))) else (if am_inr 0 (r8 fM_sums).1 = true then (some (.inl (some (.int ((upd (r8 fM_sums).2 (x3 : Int32).toNatClampNeg v9) (0 : Int32).toNatClampNeg))), g7, (a2_ua (a2_ua r8 fM_sums ((r8 fM_sums).1, (upd (r8 fM_sums).2 (x3 : Int32).toNatClampNeg v9))) fM_sumSign ((r8 fM_sumSign).1, (upd (r8 fM_sumSign).2 (x3 : Int32).toNatClampNeg x4))))) else none)) else (some (.inl (some (.int 0)), (upd g7 fM_at ((g7 fM_at) + 1)), (a2_ua (a2_ua r8 fM_sums ((r8 fM_sums).1, (upd (r8 fM_sums).2 (x3 : Int32).toNatClampNeg v9))) fM_sumSign ((r8 fM_sumSign).1, (upd (r8 fM_sumSign).2 (x3 : Int32).toNatClampNeg x4)))))) else none) else none)) else none) else none) else none) else (if am_inr x3 (r fM_productSign).1 = true then (some (.inl (some (.int 0)), (upd g fM_at ((g fM_at) + 1)), (a2_ua r fM_productSign ((r fM_productSign).1, (upd (r fM_productSign).2 (x3 : Int32).toNatClampNeg x4))))) else none))
theorem bM_behindUnit_82 (L : Nat) (xs : Nat → Int32) (m d k : Nat) (n : Nat) (x1 x2 x3 x4 : Int32) (g : a2_G) (r : a2_A) : bk L xs nM_behindUnit nm_m216 m d k (n + 61) 82 [some (.ref cM), some (.int x1), some (.int x2), some (.int x3), none] [.int x4] g r = BM_behindUnit_82 L xs m d k x1 x2 x3 x4 g r := by
  show _ = ((if am_c2 .le x4 6 = true then (if am_inr x3 (r fM_sums).1 = true then (if am_inr x3 (r fM_sumSign).1 = true then (if am_inr x3 (r fM_products).1 = true then (fn_v (ev L xs m d nM_joined [.ref cM, .int ((r fM_sums).2 (x3 : Int32).toNatClampNeg), .int ((r fM_sumSign).2 (x3 : Int32).toNatClampNeg), .int ((r fM_products).2 (x3 : Int32).toNatClampNeg)] g r) fun v9 g7 r8 => (if am_inr x3 (r8 fM_sums).1 = true then (if am_inr x3 (r8 fM_sumSign).1 = true then (if am_c2 .le x4 0 = true then (if am_c2 .ne x3 0 = true then (fn_v (ev L xs m d nM_isSign [.ref cM, .int (g7 fM_at), .int 1] g7 (a2_ua (a2_ua r8 fM_sums ((r8 fM_sums).1, (upd (r8 fM_sums).2 (x3 : Int32).toNatClampNeg v9))) fM_sumSign ((r8 fM_sumSign).1, (upd (r8 fM_sumSign).2 (x3 : Int32).toNatClampNeg x4)))) fun v12 g10 r11 => (if am_c2 .ne v12 0 = true then (if am_inr x3 (r11 fM_sums).1 = true then (lp L xs nM_behindUnit nm_m216 m d k 2 [some (.ref cM), some (.int x1), some (.int ((r11 fM_sums).2 (x3 : Int32).toNatClampNeg)), some (.int x3), some (.int x4)] (upd (upd (upd g10 fM_at ((g10 fM_at) + 1)) fM_contexts ((g10 fM_contexts) - 1)) fM_level ((g10 fM_level) - 1)) r11) else none) else (fn_v (ev L xs m d nM_fail [.ref cM, .int 1, .int (g10 fM_at)] g10 r11) fun v15 g13 r14 => (some (.inl (some (.int 0)), g13, r14))))) else (if am_inr 0 (r8 fM_sums).1 = true then (some (.inl (some (.int ((upd (r8 fM_sums).2 (x3 : Int32).toNatClampNeg v9) (0 : Int32).toNatClampNeg))), g7, (a2_ua (a2_ua r8 fM_sums ((r8 fM_sums).1, (upd (r8 fM_sums).2 (x3 : Int32).toNatClampNeg v9))) fM_sumSign ((r8 fM_sumSign).1, (upd (r8 fM_sumSign).2 (x3 : Int32).toNatClampNeg x4))))) else none)) else (some (.inl (some (.int 0)), (upd g7 fM_at ((g7 fM_at) + 1)), (a2_ua (a2_ua r8 fM_sums ((r8 fM_sums).1, (upd (r8 fM_sums).2 (x3 : Int32).toNatClampNeg v9))) fM_sumSign ((r8 fM_sumSign).1, (upd (r8 fM_sumSign).2 (x3 : Int32).toNatClampNeg x4)))))) else none) else none)) else none) else none) else none) else (if am_inr x3 (r fM_productSign).1 = true then (some (.inl (some (.int 0)), (upd g fM_at ((g fM_at) + 1)), (a2_ua r fM_productSign ((r fM_productSign).1, (upd (r fM_productSign).2 (x3 : Int32).toNatClampNeg x4))))) else none)) : Option fn_Z)
  refine (fs_r (n := n + 58) 3 (pc' := 88) (L' := [some (.ref cM), some (.int x1), some (.int x2), some (.int x3), some (.int x4)]) (S' := [.int 6, .int x4]) rfl).trans ?_
  refine (fs_j (n := n + 57) rfl (t := 111) rfl (by decide)).trans (fs_ite ?_ ?_)
  · skip
    refine (fs_r (n := n + 50) 7 (pc' := 122) (L' := [some (.ref cM), some (.int x1), some (.int x2), some (.int x3), some (.int x4)]) (S' := [.int x3, .ref 10950, .ref cM, .int x3, .ref 10950]) rfl).trans ?_
    refine (fs_il (n := n + 49) (k := 950) rfl rfl).trans (fs_ite ?_ rfl)
    refine (fs_r (n := n + 46) 3 (pc' := 128) (L' := [some (.ref cM), some (.int x1), some (.int x2), some (.int x3), some (.int x4)]) (S' := [.int x3, .ref 10951, .int ((r fM_sums).2 (x3 : Int32).toNatClampNeg), .ref cM, .int x3, .ref 10950]) rfl).trans ?_
    refine (fs_il (n := n + 45) (k := 951) rfl rfl).trans (fs_ite ?_ rfl)
    refine (fs_r (n := n + 42) 3 (pc' := 134) (L' := [some (.ref cM), some (.int x1), some (.int x2), some (.int x3), some (.int x4)]) (S' := [.int x3, .ref 10952, .int ((r fM_sumSign).2 (x3 : Int32).toNatClampNeg), .int ((r fM_sums).2 (x3 : Int32).toNatClampNeg), .ref cM, .int x3, .ref 10950]) rfl).trans ?_
    refine (fs_il (n := n + 41) (k := 952) rfl rfl).trans (fs_ite ?_ rfl)
    refine (fs_cv (n := n + 40) (N := nm_m217) (as := [.ref cM, .int ((r fM_sums).2 (x3 : Int32).toNatClampNeg), .int ((r fM_sumSign).2 (x3 : Int32).toNatClampNeg), .int ((r fM_products).2 (x3 : Int32).toNatClampNeg)]) (rest := [.int x3, .ref 10950]) rfl rfl (Or.inl rfl) rfl rfl rfl rfl rfl).trans (fs_fv fun v9 g7 r8 => ?_)
    refine (fs_is (n := n + 39) (k := 950) rfl rfl).trans (fs_ite ?_ rfl)
    refine (fs_r (n := n + 35) 4 (pc' := 146) (L' := [some (.ref cM), some (.int x1), some (.int x2), some (.int x3), some (.int x4)]) (S' := [.int x4, .int x3, .ref 10951]) rfl).trans ?_
    refine (fs_is (n := n + 34) (k := 951) rfl rfl).trans (fs_ite ?_ rfl)
    refine (fs_r (n := n + 33) 1 (pc' := 149) (L' := [some (.ref cM), some (.int x1), some (.int x2), some (.int x3), some (.int x4)]) (S' := [.int x4]) rfl).trans ?_
    refine (fs_i (n := n + 32) rfl (t := 164) rfl (by decide)).trans (fs_ite ?_ ?_)
    · skip
      refine (fs_r (n := n + 31) 1 (pc' := 165) (L' := [some (.ref cM), some (.int x1), some (.int x2), some (.int x3), some (.int x4)]) (S' := [.int x3]) rfl).trans ?_
      refine (fs_i (n := n + 30) rfl (t := 175) rfl (by decide)).trans (fs_ite ?_ ?_)
      · skip
        refine (fs_r (n := n + 26) 4 (pc' := 181) (L' := [some (.ref cM), some (.int x1), some (.int x2), some (.int x3), some (.int x4)]) (S' := [.int 1, .int (g7 fM_at), .ref cM]) rfl).trans ?_
        refine (fs_cv (n := n + 25) (N := nm_m203) (as := [.ref cM, .int (g7 fM_at), .int 1]) (rest := []) rfl rfl (Or.inl rfl) rfl rfl rfl rfl rfl).trans (fs_fv fun v12 g10 r11 => ?_)
        refine (fs_i (n := n + 24) rfl (t := 199) rfl (by decide)).trans (fs_ite ?_ ?_)
        · skip
          refine (fs_r (n := n + 19) 5 (pc' := 206) (L' := [some (.ref cM), some (.int x1), some (.int x2), some (.int x3), some (.int x4)]) (S' := [.int ((g10 fM_at) + 1), .ref cM]) rfl).trans ?_
          refine (fs_pf (n := n + 18) (ci := 9) (j := 41) rfl rfl rfl rfl).trans ?_
          refine (fs_r (n := n + 15) 3 (pc' := 214) (L' := [some (.ref cM), some (.int x1), some (.int x2), some (.int x3), some (.int x4)]) (S' := [.int x3, .ref 10950]) rfl).trans ?_
          refine (fs_il (n := n + 14) (k := 950) rfl rfl).trans (fs_ite ?_ rfl)
          refine (fs_r (n := n + 8) 6 (pc' := 223) (L' := [some (.ref cM), some (.int x1), some (.int ((r11 fM_sums).2 (x3 : Int32).toNatClampNeg)), some (.int x3), some (.int x4)]) (S' := [.int ((g10 fM_contexts) - 1), .ref cM]) rfl).trans ?_
          refine (fs_pf (n := n + 7) (ci := 9) (j := 49) rfl rfl rfl rfl).trans ?_
          refine (fs_r (n := n + 2) 5 (pc' := 233) (L' := [some (.ref cM), some (.int x1), some (.int ((r11 fM_sums).2 (x3 : Int32).toNatClampNeg)), some (.int x3), some (.int x4)]) (S' := [.int ((g10 fM_level) - 1), .ref cM]) rfl).trans ?_
          refine (fs_pf (n := n + 1) (ci := 9) (j := 44) rfl rfl rfl rfl).trans ?_
          exact (fs_gb (n := n + 0) rfl (t := 2) rfl (by decide)).trans rfl
        · skip
          refine (fs_r (n := n + 20) 4 (pc' := 193) (L' := [some (.ref cM), some (.int x1), some (.int x2), some (.int x3), some (.int x4)]) (S' := [.int (g10 fM_at), .int 1, .ref cM]) rfl).trans ?_
          refine (fs_cv (n := n + 19) (N := nm_m164) (as := [.ref cM, .int 1, .int (g10 fM_at)]) (rest := []) rfl rfl (Or.inl rfl) rfl rfl rfl rfl rfl).trans (fs_fv fun v15 g13 r14 => ?_)
          refine (fs_r (n := n + 17) 2 (pc' := 198) (L' := [some (.ref cM), some (.int x1), some (.int x2), some (.int x3), some (.int x4)]) (S' := [.int 0]) rfl).trans ?_
          exact (fs_ri (n := n + 16) rfl rfl).trans rfl
      · skip
        refine (fs_r (n := n + 27) 3 (pc' := 173) (L' := [some (.ref cM), some (.int x1), some (.int x2), some (.int x3), some (.int x4)]) (S' := [.int 0, .ref 10950]) rfl).trans ?_
        refine (fs_il (n := n + 26) (k := 950) rfl rfl).trans (fs_ite ?_ rfl)
        exact (fs_ri (n := n + 25) rfl rfl).trans rfl
    · skip
      refine (fs_r (n := n + 27) 5 (pc' := 159) (L' := [some (.ref cM), some (.int x1), some (.int x2), some (.int x3), some (.int x4)]) (S' := [.int ((g7 fM_at) + 1), .ref cM]) rfl).trans ?_
      refine (fs_pf (n := n + 26) (ci := 9) (j := 41) rfl rfl rfl rfl).trans ?_
      refine (fs_r (n := n + 25) 1 (pc' := 163) (L' := [some (.ref cM), some (.int x1), some (.int x2), some (.int x3), some (.int x4)]) (S' := [.int 0]) rfl).trans ?_
      exact (fs_ri (n := n + 24) rfl rfl).trans rfl
  · skip
    refine (fs_r (n := n + 53) 4 (pc' := 98) (L' := [some (.ref cM), some (.int x1), some (.int x2), some (.int x3), some (.int x4)]) (S' := [.int x4, .int x3, .ref 10953]) rfl).trans ?_
    refine (fs_is (n := n + 52) (k := 953) rfl rfl).trans (fs_ite ?_ rfl)
    refine (fs_r (n := n + 47) 5 (pc' := 106) (L' := [some (.ref cM), some (.int x1), some (.int x2), some (.int x3), some (.int x4)]) (S' := [.int ((g fM_at) + 1), .ref cM]) rfl).trans ?_
    refine (fs_pf (n := n + 46) (ci := 9) (j := 41) rfl rfl rfl rfl).trans ?_
    refine (fs_r (n := n + 45) 1 (pc' := 110) (L' := [some (.ref cM), some (.int x1), some (.int x2), some (.int x3), some (.int x4)]) (S' := [.int 0]) rfl).trans ?_
    exact (fs_ri (n := n + 44) rfl rfl).trans rfl
def BM_behindUnit_81 (L : Nat) (xs : Nat → Int32) (m d k : Nat) (x1 x2 x3 : Int32) (g : a2_G) (r : a2_A) : Option fn_Z := (BM_behindUnit_82 L xs m d k x1 x2 x3 0 g r)
theorem bM_behindUnit_81 (L : Nat) (xs : Nat → Int32) (m d k : Nat) (n : Nat) (x1 x2 x3 : Int32) (g : a2_G) (r : a2_A) : bk L xs nM_behindUnit nm_m216 m d k (n + 62) 81 [some (.ref cM), some (.int x1), some (.int x2), some (.int x3), none] [] g r = BM_behindUnit_81 L xs m d k x1 x2 x3 g r := by
  show _ = ((BM_behindUnit_82 L xs m d k x1 x2 x3 0 g r) : Option fn_Z)
  refine (fs_r (n := n + 61) 1 (pc' := 82) (L' := [some (.ref cM), some (.int x1), some (.int x2), some (.int x3), none]) (S' := [.int 0]) rfl).trans ?_
  exact bM_behindUnit_82 L xs m d k (n + 0) x1 x2 x3 0 g r
def BM_behindUnit_2 (L : Nat) (xs : Nat → Int32) (m d k : Nat) (x1 x2 : Int32) (g : a2_G) (r : a2_A) : Option fn_Z := (if am_inr ((g fM_contexts) - 1) (r fM_products).1 = true then (if am_inr ((g fM_contexts) - 1) (r fM_productSign).1 = true then (fn_v (ev L xs m d nM_joined [.ref cM, .int ((r fM_products).2 (((g fM_contexts) - 1) : Int32).toNatClampNeg), .int ((r fM_productSign).2 (((g fM_contexts) - 1) : Int32).toNatClampNeg), .int x2] g r) fun v3 g1 r2 => (if am_inr ((g fM_contexts) - 1) (r2 fM_products).1 = true then (if am_inr ((g fM_contexts) - 1) (r2 fM_productSign).1 = true then (fn_v (ev L xs m d nM_isKind [.ref cM, .int (g1 fM_at), .int 5] g1 (a2_ua (a2_ua r2 fM_products ((r2 fM_products).1, (upd (r2 fM_products).2 (((g fM_contexts) - 1) : Int32).toNatClampNeg v3))) fM_productSign ((r2 fM_productSign).1, (upd (r2 fM_productSign).2 (((g fM_contexts) - 1) : Int32).toNatClampNeg 0)))) fun v6 g4 r5 => (if am_c2 .eq v6 0 = true then (BM_behindUnit_81 L xs m d k x1 x2 ((g fM_contexts) - 1) g4 r5) else (if am_inr (g4 fM_at) (r5 fM_values).1 = true then (fn_v (ev L xs m d nM_in [.int ((r5 fM_values).2 ((g4 fM_at) : Int32).toNatClampNeg), .int 5, .int 8] g4 r5) fun v18 g16 r17 => (if am_c2 .eq v18 0 = true then (BM_behindUnit_81 L xs m d k x1 x2 ((g fM_contexts) - 1) g16 r17) else (if am_inr (g16 fM_at) (r17 fM_values).1 = true then (BM_behindUnit_82 L xs m d k x1 x2 ((g fM_contexts) - 1) ((r17 fM_values).2 ((g16 fM_at) : Int32).toNatClampNeg) g16 r17) else none))) else none))) else none) else none)) else none) else none)
theorem bM_behindUnit_2 (L : Nat) (xs : Nat → Int32) (m d k : Nat) (n : Nat) (x1 x2 : Int32) (g : a2_G) (r : a2_A) : bk L xs nM_behindUnit nm_m216 m d k (n + 107) 2 [some (.ref cM), some (.int x1), some (.int x2), none, none] [] g r = BM_behindUnit_2 L xs m d k x1 x2 g r := by
  show _ = ((if am_inr ((g fM_contexts) - 1) (r fM_products).1 = true then (if am_inr ((g fM_contexts) - 1) (r fM_productSign).1 = true then (fn_v (ev L xs m d nM_joined [.ref cM, .int ((r fM_products).2 (((g fM_contexts) - 1) : Int32).toNatClampNeg), .int ((r fM_productSign).2 (((g fM_contexts) - 1) : Int32).toNatClampNeg), .int x2] g r) fun v3 g1 r2 => (if am_inr ((g fM_contexts) - 1) (r2 fM_products).1 = true then (if am_inr ((g fM_contexts) - 1) (r2 fM_productSign).1 = true then (fn_v (ev L xs m d nM_isKind [.ref cM, .int (g1 fM_at), .int 5] g1 (a2_ua (a2_ua r2 fM_products ((r2 fM_products).1, (upd (r2 fM_products).2 (((g fM_contexts) - 1) : Int32).toNatClampNeg v3))) fM_productSign ((r2 fM_productSign).1, (upd (r2 fM_productSign).2 (((g fM_contexts) - 1) : Int32).toNatClampNeg 0)))) fun v6 g4 r5 => (if am_c2 .eq v6 0 = true then (BM_behindUnit_81 L xs m d k x1 x2 ((g fM_contexts) - 1) g4 r5) else (if am_inr (g4 fM_at) (r5 fM_values).1 = true then (fn_v (ev L xs m d nM_in [.int ((r5 fM_values).2 ((g4 fM_at) : Int32).toNatClampNeg), .int 5, .int 8] g4 r5) fun v18 g16 r17 => (if am_c2 .eq v18 0 = true then (BM_behindUnit_81 L xs m d k x1 x2 ((g fM_contexts) - 1) g16 r17) else (if am_inr (g16 fM_at) (r17 fM_values).1 = true then (BM_behindUnit_82 L xs m d k x1 x2 ((g fM_contexts) - 1) ((r17 fM_values).2 ((g16 fM_at) : Int32).toNatClampNeg) g16 r17) else none))) else none))) else none) else none)) else none) else none) : Option fn_Z)
  refine (fs_r (n := n + 95) 12 (pc' := 20) (L' := [some (.ref cM), some (.int x1), some (.int x2), some (.int ((g fM_contexts) - 1)), none]) (S' := [.int ((g fM_contexts) - 1), .ref 10952, .ref cM, .int ((g fM_contexts) - 1), .ref 10952]) rfl).trans ?_
  refine (fs_il (n := n + 94) (k := 952) rfl rfl).trans (fs_ite ?_ rfl)
  refine (fs_r (n := n + 91) 3 (pc' := 26) (L' := [some (.ref cM), some (.int x1), some (.int x2), some (.int ((g fM_contexts) - 1)), none]) (S' := [.int ((g fM_contexts) - 1), .ref 10953, .int ((r fM_products).2 (((g fM_contexts) - 1) : Int32).toNatClampNeg), .ref cM, .int ((g fM_contexts) - 1), .ref 10952]) rfl).trans ?_
  refine (fs_il (n := n + 90) (k := 953) rfl rfl).trans (fs_ite ?_ rfl)
  refine (fs_r (n := n + 89) 1 (pc' := 28) (L' := [some (.ref cM), some (.int x1), some (.int x2), some (.int ((g fM_contexts) - 1)), none]) (S' := [.int x2, .int ((r fM_productSign).2 (((g fM_contexts) - 1) : Int32).toNatClampNeg), .int ((r fM_products).2 (((g fM_contexts) - 1) : Int32).toNatClampNeg), .ref cM, .int ((g fM_contexts) - 1), .ref 10952]) rfl).trans ?_
  refine (fs_cv (n := n + 88) (N := nm_m217) (as := [.ref cM, .int ((r fM_products).2 (((g fM_contexts) - 1) : Int32).toNatClampNeg), .int ((r fM_productSign).2 (((g fM_contexts) - 1) : Int32).toNatClampNeg), .int x2]) (rest := [.int ((g fM_contexts) - 1), .ref 10952]) rfl rfl (Or.inl rfl) rfl rfl rfl rfl rfl).trans (fs_fv fun v3 g1 r2 => ?_)
  refine (fs_is (n := n + 87) (k := 952) rfl rfl).trans (fs_ite ?_ rfl)
  refine (fs_r (n := n + 83) 4 (pc' := 38) (L' := [some (.ref cM), some (.int x1), some (.int x2), some (.int ((g fM_contexts) - 1)), none]) (S' := [.int 0, .int ((g fM_contexts) - 1), .ref 10953]) rfl).trans ?_
  refine (fs_is (n := n + 82) (k := 953) rfl rfl).trans (fs_ite ?_ rfl)
  refine (fs_r (n := n + 78) 4 (pc' := 45) (L' := [some (.ref cM), some (.int x1), some (.int x2), some (.int ((g fM_contexts) - 1)), none]) (S' := [.int 5, .int (g1 fM_at), .ref cM]) rfl).trans ?_
  refine (fs_cv (n := n + 77) (N := nm_m166) (as := [.ref cM, .int (g1 fM_at), .int 5]) (rest := []) rfl rfl (Or.inl rfl) rfl rfl rfl rfl rfl).trans (fs_fv fun v6 g4 r5 => ?_)
  refine (fs_i (n := n + 76) rfl (t := 81) rfl (by decide)).trans (fs_ite ?_ ?_)
  · skip
    exact bM_behindUnit_81 L xs m d k (n + 14) x1 x2 ((g fM_contexts) - 1) g4 r5
  · skip
    refine (fs_r (n := n + 72) 4 (pc' := 59) (L' := [some (.ref cM), some (.int x1), some (.int x2), some (.int ((g fM_contexts) - 1)), none]) (S' := [.int (g4 fM_at), .ref 10903]) rfl).trans ?_
    refine (fs_il (n := n + 71) (k := 903) rfl rfl).trans (fs_ite ?_ rfl)
    refine (fs_r (n := n + 69) 2 (pc' := 63) (L' := [some (.ref cM), some (.int x1), some (.int x2), some (.int ((g fM_contexts) - 1)), none]) (S' := [.int 8, .int 5, .int ((r5 fM_values).2 ((g4 fM_at) : Int32).toNatClampNeg)]) rfl).trans ?_
    refine (fs_sv (n := n + 68) (N := nm_m158) (as := [.int ((r5 fM_values).2 ((g4 fM_at) : Int32).toNatClampNeg), .int 5, .int 8]) (rest := []) rfl rfl (by decide) rfl rfl rfl rfl rfl).trans (fs_fv fun v18 g16 r17 => ?_)
    refine (fs_i (n := n + 67) rfl (t := 81) rfl (by decide)).trans (fs_ite ?_ ?_)
    · skip
      exact bM_behindUnit_81 L xs m d k (n + 5) x1 x2 ((g fM_contexts) - 1) g16 r17
    · skip
      refine (fs_r (n := n + 63) 4 (pc' := 77) (L' := [some (.ref cM), some (.int x1), some (.int x2), some (.int ((g fM_contexts) - 1)), none]) (S' := [.int (g16 fM_at), .ref 10903]) rfl).trans ?_
      refine (fs_il (n := n + 62) (k := 903) rfl rfl).trans (fs_ite ?_ rfl)
      refine (fs_go (n := n + 61) rfl (t := 82) rfl (by decide)).trans ?_
      exact bM_behindUnit_82 L xs m d k (n + 0) x1 x2 ((g fM_contexts) - 1) ((r17 fM_values).2 ((g16 fM_at) : Int32).toNatClampNeg) g16 r17
theorem lM_behindUnit_2 (L : Nat) (xs : Nat → Int32) (m d k : Nat) (x1 x2 : Int32) (g : a2_G) (r : a2_A) : lp L xs nM_behindUnit nm_m216 m d (k + 1) 2 [some (.ref cM), some (.int x1), some (.int x2), none, none] g r = BM_behindUnit_2 L xs m d k x1 x2 g r := fs_lp.trans (bM_behindUnit_2 L xs m d k 793 x1 x2 g r)
def BM_behindUnit_82_1 (L : Nat) (xs : Nat → Int32) (m d k : Nat) (x1 x2 x3 x4 x5 : Int32) (g : a2_G) (r : a2_A) : Option fn_Z := (if am_c2 .le x5 6 = true then (if am_inr x3 (r fM_sums).1 = true then (if am_inr x3 (r fM_sumSign).1 = true then (if am_inr x3 (r fM_products).1 = true then (fn_v (ev L xs m d nM_joined [.ref cM, .int ((r fM_sums).2 (x3 : Int32).toNatClampNeg), .int ((r fM_sumSign).2 (x3 : Int32).toNatClampNeg), .int ((r fM_products).2 (x3 : Int32).toNatClampNeg)] g r) fun v27 g25 r26 => (if am_inr x3 (r26 fM_sums).1 = true then (if am_inr x3 (r26 fM_sumSign).1 = true then (if am_c2 .le x5 0 = true then (if am_c2 .ne x3 0 = true then (fn_v (ev L xs m d nM_isSign [.ref cM, .int (g25 fM_at), .int 1] g25 (a2_ua (a2_ua r26 fM_sums ((r26 fM_sums).1, (upd (r26 fM_sums).2 (x3 : Int32).toNatClampNeg v27))) fM_sumSign ((r26 fM_sumSign).1, (upd (r26 fM_sumSign).2 (x3 : Int32).toNatClampNeg x5)))) fun v30 g28 r29 => (if am_c2 .ne v30 0 = true then (if am_inr x3 (r29 fM_sums).1 = true then (lp L xs nM_behindUnit nm_m216 m d k 2 [some (.ref cM), some (.int x1), some (.int ((r29 fM_sums).2 (x3 : Int32).toNatClampNeg)), some (.int x3), some (.int x5)] (upd (upd (upd g28 fM_at ((g28 fM_at) + 1)) fM_contexts ((g28 fM_contexts) - 1)) fM_level ((g28 fM_level) - 1)) r29) else none) else (fn_v (ev L xs m d nM_fail [.ref cM, .int 1, .int (g28 fM_at)] g28 r29) fun v33 g31 r32 => (some (.inl (some (.int 0)), g31, r32))))) else (if am_inr 0 (r26 fM_sums).1 = true then (some (.inl (some (.int ((upd (r26 fM_sums).2 (x3 : Int32).toNatClampNeg v27) (0 : Int32).toNatClampNeg))), g25, (a2_ua (a2_ua r26 fM_sums ((r26 fM_sums).1, (upd (r26 fM_sums).2 (x3 : Int32).toNatClampNeg v27))) fM_sumSign ((r26 fM_sumSign).1, (upd (r26 fM_sumSign).2 (x3 : Int32).toNatClampNeg x5))))) else none)) else (some (.inl (some (.int 0)), (upd g25 fM_at ((g25 fM_at) + 1)), (a2_ua (a2_ua r26 fM_sums ((r26 fM_sums).1, (upd (r26 fM_sums).2 (x3 : Int32).toNatClampNeg v27))) fM_sumSign ((r26 fM_sumSign).1, (upd (r26 fM_sumSign).2 (x3 : Int32).toNatClampNeg x5)))))) else none) else none)) else none) else none) else none) else (if am_inr x3 (r fM_productSign).1 = true then (some (.inl (some (.int 0)), (upd g fM_at ((g fM_at) + 1)), (a2_ua r fM_productSign ((r fM_productSign).1, (upd (r fM_productSign).2 (x3 : Int32).toNatClampNeg x5))))) else none))
theorem bM_behindUnit_82_1 (L : Nat) (xs : Nat → Int32) (m d k : Nat) (n : Nat) (x1 x2 x3 x4 x5 : Int32) (g : a2_G) (r : a2_A) : bk L xs nM_behindUnit nm_m216 m d k (n + 61) 82 [some (.ref cM), some (.int x1), some (.int x2), some (.int x3), some (.int x4)] [.int x5] g r = BM_behindUnit_82_1 L xs m d k x1 x2 x3 x4 x5 g r := by
  show _ = ((if am_c2 .le x5 6 = true then (if am_inr x3 (r fM_sums).1 = true then (if am_inr x3 (r fM_sumSign).1 = true then (if am_inr x3 (r fM_products).1 = true then (fn_v (ev L xs m d nM_joined [.ref cM, .int ((r fM_sums).2 (x3 : Int32).toNatClampNeg), .int ((r fM_sumSign).2 (x3 : Int32).toNatClampNeg), .int ((r fM_products).2 (x3 : Int32).toNatClampNeg)] g r) fun v27 g25 r26 => (if am_inr x3 (r26 fM_sums).1 = true then (if am_inr x3 (r26 fM_sumSign).1 = true then (if am_c2 .le x5 0 = true then (if am_c2 .ne x3 0 = true then (fn_v (ev L xs m d nM_isSign [.ref cM, .int (g25 fM_at), .int 1] g25 (a2_ua (a2_ua r26 fM_sums ((r26 fM_sums).1, (upd (r26 fM_sums).2 (x3 : Int32).toNatClampNeg v27))) fM_sumSign ((r26 fM_sumSign).1, (upd (r26 fM_sumSign).2 (x3 : Int32).toNatClampNeg x5)))) fun v30 g28 r29 => (if am_c2 .ne v30 0 = true then (if am_inr x3 (r29 fM_sums).1 = true then (lp L xs nM_behindUnit nm_m216 m d k 2 [some (.ref cM), some (.int x1), some (.int ((r29 fM_sums).2 (x3 : Int32).toNatClampNeg)), some (.int x3), some (.int x5)] (upd (upd (upd g28 fM_at ((g28 fM_at) + 1)) fM_contexts ((g28 fM_contexts) - 1)) fM_level ((g28 fM_level) - 1)) r29) else none) else (fn_v (ev L xs m d nM_fail [.ref cM, .int 1, .int (g28 fM_at)] g28 r29) fun v33 g31 r32 => (some (.inl (some (.int 0)), g31, r32))))) else (if am_inr 0 (r26 fM_sums).1 = true then (some (.inl (some (.int ((upd (r26 fM_sums).2 (x3 : Int32).toNatClampNeg v27) (0 : Int32).toNatClampNeg))), g25, (a2_ua (a2_ua r26 fM_sums ((r26 fM_sums).1, (upd (r26 fM_sums).2 (x3 : Int32).toNatClampNeg v27))) fM_sumSign ((r26 fM_sumSign).1, (upd (r26 fM_sumSign).2 (x3 : Int32).toNatClampNeg x5))))) else none)) else (some (.inl (some (.int 0)), (upd g25 fM_at ((g25 fM_at) + 1)), (a2_ua (a2_ua r26 fM_sums ((r26 fM_sums).1, (upd (r26 fM_sums).2 (x3 : Int32).toNatClampNeg v27))) fM_sumSign ((r26 fM_sumSign).1, (upd (r26 fM_sumSign).2 (x3 : Int32).toNatClampNeg x5)))))) else none) else none)) else none) else none) else none) else (if am_inr x3 (r fM_productSign).1 = true then (some (.inl (some (.int 0)), (upd g fM_at ((g fM_at) + 1)), (a2_ua r fM_productSign ((r fM_productSign).1, (upd (r fM_productSign).2 (x3 : Int32).toNatClampNeg x5))))) else none)) : Option fn_Z)
  refine (fs_r (n := n + 58) 3 (pc' := 88) (L' := [some (.ref cM), some (.int x1), some (.int x2), some (.int x3), some (.int x5)]) (S' := [.int 6, .int x5]) rfl).trans ?_
  refine (fs_j (n := n + 57) rfl (t := 111) rfl (by decide)).trans (fs_ite ?_ ?_)
  · skip
    refine (fs_r (n := n + 50) 7 (pc' := 122) (L' := [some (.ref cM), some (.int x1), some (.int x2), some (.int x3), some (.int x5)]) (S' := [.int x3, .ref 10950, .ref cM, .int x3, .ref 10950]) rfl).trans ?_
    refine (fs_il (n := n + 49) (k := 950) rfl rfl).trans (fs_ite ?_ rfl)
    refine (fs_r (n := n + 46) 3 (pc' := 128) (L' := [some (.ref cM), some (.int x1), some (.int x2), some (.int x3), some (.int x5)]) (S' := [.int x3, .ref 10951, .int ((r fM_sums).2 (x3 : Int32).toNatClampNeg), .ref cM, .int x3, .ref 10950]) rfl).trans ?_
    refine (fs_il (n := n + 45) (k := 951) rfl rfl).trans (fs_ite ?_ rfl)
    refine (fs_r (n := n + 42) 3 (pc' := 134) (L' := [some (.ref cM), some (.int x1), some (.int x2), some (.int x3), some (.int x5)]) (S' := [.int x3, .ref 10952, .int ((r fM_sumSign).2 (x3 : Int32).toNatClampNeg), .int ((r fM_sums).2 (x3 : Int32).toNatClampNeg), .ref cM, .int x3, .ref 10950]) rfl).trans ?_
    refine (fs_il (n := n + 41) (k := 952) rfl rfl).trans (fs_ite ?_ rfl)
    refine (fs_cv (n := n + 40) (N := nm_m217) (as := [.ref cM, .int ((r fM_sums).2 (x3 : Int32).toNatClampNeg), .int ((r fM_sumSign).2 (x3 : Int32).toNatClampNeg), .int ((r fM_products).2 (x3 : Int32).toNatClampNeg)]) (rest := [.int x3, .ref 10950]) rfl rfl (Or.inl rfl) rfl rfl rfl rfl rfl).trans (fs_fv fun v27 g25 r26 => ?_)
    refine (fs_is (n := n + 39) (k := 950) rfl rfl).trans (fs_ite ?_ rfl)
    refine (fs_r (n := n + 35) 4 (pc' := 146) (L' := [some (.ref cM), some (.int x1), some (.int x2), some (.int x3), some (.int x5)]) (S' := [.int x5, .int x3, .ref 10951]) rfl).trans ?_
    refine (fs_is (n := n + 34) (k := 951) rfl rfl).trans (fs_ite ?_ rfl)
    refine (fs_r (n := n + 33) 1 (pc' := 149) (L' := [some (.ref cM), some (.int x1), some (.int x2), some (.int x3), some (.int x5)]) (S' := [.int x5]) rfl).trans ?_
    refine (fs_i (n := n + 32) rfl (t := 164) rfl (by decide)).trans (fs_ite ?_ ?_)
    · skip
      refine (fs_r (n := n + 31) 1 (pc' := 165) (L' := [some (.ref cM), some (.int x1), some (.int x2), some (.int x3), some (.int x5)]) (S' := [.int x3]) rfl).trans ?_
      refine (fs_i (n := n + 30) rfl (t := 175) rfl (by decide)).trans (fs_ite ?_ ?_)
      · skip
        refine (fs_r (n := n + 26) 4 (pc' := 181) (L' := [some (.ref cM), some (.int x1), some (.int x2), some (.int x3), some (.int x5)]) (S' := [.int 1, .int (g25 fM_at), .ref cM]) rfl).trans ?_
        refine (fs_cv (n := n + 25) (N := nm_m203) (as := [.ref cM, .int (g25 fM_at), .int 1]) (rest := []) rfl rfl (Or.inl rfl) rfl rfl rfl rfl rfl).trans (fs_fv fun v30 g28 r29 => ?_)
        refine (fs_i (n := n + 24) rfl (t := 199) rfl (by decide)).trans (fs_ite ?_ ?_)
        · skip
          refine (fs_r (n := n + 19) 5 (pc' := 206) (L' := [some (.ref cM), some (.int x1), some (.int x2), some (.int x3), some (.int x5)]) (S' := [.int ((g28 fM_at) + 1), .ref cM]) rfl).trans ?_
          refine (fs_pf (n := n + 18) (ci := 9) (j := 41) rfl rfl rfl rfl).trans ?_
          refine (fs_r (n := n + 15) 3 (pc' := 214) (L' := [some (.ref cM), some (.int x1), some (.int x2), some (.int x3), some (.int x5)]) (S' := [.int x3, .ref 10950]) rfl).trans ?_
          refine (fs_il (n := n + 14) (k := 950) rfl rfl).trans (fs_ite ?_ rfl)
          refine (fs_r (n := n + 8) 6 (pc' := 223) (L' := [some (.ref cM), some (.int x1), some (.int ((r29 fM_sums).2 (x3 : Int32).toNatClampNeg)), some (.int x3), some (.int x5)]) (S' := [.int ((g28 fM_contexts) - 1), .ref cM]) rfl).trans ?_
          refine (fs_pf (n := n + 7) (ci := 9) (j := 49) rfl rfl rfl rfl).trans ?_
          refine (fs_r (n := n + 2) 5 (pc' := 233) (L' := [some (.ref cM), some (.int x1), some (.int ((r29 fM_sums).2 (x3 : Int32).toNatClampNeg)), some (.int x3), some (.int x5)]) (S' := [.int ((g28 fM_level) - 1), .ref cM]) rfl).trans ?_
          refine (fs_pf (n := n + 1) (ci := 9) (j := 44) rfl rfl rfl rfl).trans ?_
          exact (fs_gb (n := n + 0) rfl (t := 2) rfl (by decide)).trans rfl
        · skip
          refine (fs_r (n := n + 20) 4 (pc' := 193) (L' := [some (.ref cM), some (.int x1), some (.int x2), some (.int x3), some (.int x5)]) (S' := [.int (g28 fM_at), .int 1, .ref cM]) rfl).trans ?_
          refine (fs_cv (n := n + 19) (N := nm_m164) (as := [.ref cM, .int 1, .int (g28 fM_at)]) (rest := []) rfl rfl (Or.inl rfl) rfl rfl rfl rfl rfl).trans (fs_fv fun v33 g31 r32 => ?_)
          refine (fs_r (n := n + 17) 2 (pc' := 198) (L' := [some (.ref cM), some (.int x1), some (.int x2), some (.int x3), some (.int x5)]) (S' := [.int 0]) rfl).trans ?_
          exact (fs_ri (n := n + 16) rfl rfl).trans rfl
      · skip
        refine (fs_r (n := n + 27) 3 (pc' := 173) (L' := [some (.ref cM), some (.int x1), some (.int x2), some (.int x3), some (.int x5)]) (S' := [.int 0, .ref 10950]) rfl).trans ?_
        refine (fs_il (n := n + 26) (k := 950) rfl rfl).trans (fs_ite ?_ rfl)
        exact (fs_ri (n := n + 25) rfl rfl).trans rfl
    · skip
      refine (fs_r (n := n + 27) 5 (pc' := 159) (L' := [some (.ref cM), some (.int x1), some (.int x2), some (.int x3), some (.int x5)]) (S' := [.int ((g25 fM_at) + 1), .ref cM]) rfl).trans ?_
      refine (fs_pf (n := n + 26) (ci := 9) (j := 41) rfl rfl rfl rfl).trans ?_
      refine (fs_r (n := n + 25) 1 (pc' := 163) (L' := [some (.ref cM), some (.int x1), some (.int x2), some (.int x3), some (.int x5)]) (S' := [.int 0]) rfl).trans ?_
      exact (fs_ri (n := n + 24) rfl rfl).trans rfl
  · skip
    refine (fs_r (n := n + 53) 4 (pc' := 98) (L' := [some (.ref cM), some (.int x1), some (.int x2), some (.int x3), some (.int x5)]) (S' := [.int x5, .int x3, .ref 10953]) rfl).trans ?_
    refine (fs_is (n := n + 52) (k := 953) rfl rfl).trans (fs_ite ?_ rfl)
    refine (fs_r (n := n + 47) 5 (pc' := 106) (L' := [some (.ref cM), some (.int x1), some (.int x2), some (.int x3), some (.int x5)]) (S' := [.int ((g fM_at) + 1), .ref cM]) rfl).trans ?_
    refine (fs_pf (n := n + 46) (ci := 9) (j := 41) rfl rfl rfl rfl).trans ?_
    refine (fs_r (n := n + 45) 1 (pc' := 110) (L' := [some (.ref cM), some (.int x1), some (.int x2), some (.int x3), some (.int x5)]) (S' := [.int 0]) rfl).trans ?_
    exact (fs_ri (n := n + 44) rfl rfl).trans rfl
def BM_behindUnit_81_1 (L : Nat) (xs : Nat → Int32) (m d k : Nat) (x1 x2 x3 x4 : Int32) (g : a2_G) (r : a2_A) : Option fn_Z := (BM_behindUnit_82_1 L xs m d k x1 x2 x3 x4 0 g r)
theorem bM_behindUnit_81_1 (L : Nat) (xs : Nat → Int32) (m d k : Nat) (n : Nat) (x1 x2 x3 x4 : Int32) (g : a2_G) (r : a2_A) : bk L xs nM_behindUnit nm_m216 m d k (n + 62) 81 [some (.ref cM), some (.int x1), some (.int x2), some (.int x3), some (.int x4)] [] g r = BM_behindUnit_81_1 L xs m d k x1 x2 x3 x4 g r := by
  show _ = ((BM_behindUnit_82_1 L xs m d k x1 x2 x3 x4 0 g r) : Option fn_Z)
  refine (fs_r (n := n + 61) 1 (pc' := 82) (L' := [some (.ref cM), some (.int x1), some (.int x2), some (.int x3), some (.int x4)]) (S' := [.int 0]) rfl).trans ?_
  exact bM_behindUnit_82_1 L xs m d k (n + 0) x1 x2 x3 x4 0 g r
def BM_behindUnit_2_1 (L : Nat) (xs : Nat → Int32) (m d k : Nat) (x1 x2 x3 x4 : Int32) (g : a2_G) (r : a2_A) : Option fn_Z := (if am_inr ((g fM_contexts) - 1) (r fM_products).1 = true then (if am_inr ((g fM_contexts) - 1) (r fM_productSign).1 = true then (fn_v (ev L xs m d nM_joined [.ref cM, .int ((r fM_products).2 (((g fM_contexts) - 1) : Int32).toNatClampNeg), .int ((r fM_productSign).2 (((g fM_contexts) - 1) : Int32).toNatClampNeg), .int x2] g r) fun v21 g19 r20 => (if am_inr ((g fM_contexts) - 1) (r20 fM_products).1 = true then (if am_inr ((g fM_contexts) - 1) (r20 fM_productSign).1 = true then (fn_v (ev L xs m d nM_isKind [.ref cM, .int (g19 fM_at), .int 5] g19 (a2_ua (a2_ua r20 fM_products ((r20 fM_products).1, (upd (r20 fM_products).2 (((g fM_contexts) - 1) : Int32).toNatClampNeg v21))) fM_productSign ((r20 fM_productSign).1, (upd (r20 fM_productSign).2 (((g fM_contexts) - 1) : Int32).toNatClampNeg 0)))) fun v24 g22 r23 => (if am_c2 .eq v24 0 = true then (BM_behindUnit_81_1 L xs m d k x1 x2 ((g fM_contexts) - 1) x4 g22 r23) else (if am_inr (g22 fM_at) (r23 fM_values).1 = true then (fn_v (ev L xs m d nM_in [.int ((r23 fM_values).2 ((g22 fM_at) : Int32).toNatClampNeg), .int 5, .int 8] g22 r23) fun v36 g34 r35 => (if am_c2 .eq v36 0 = true then (BM_behindUnit_81_1 L xs m d k x1 x2 ((g fM_contexts) - 1) x4 g34 r35) else (if am_inr (g34 fM_at) (r35 fM_values).1 = true then (BM_behindUnit_82_1 L xs m d k x1 x2 ((g fM_contexts) - 1) x4 ((r35 fM_values).2 ((g34 fM_at) : Int32).toNatClampNeg) g34 r35) else none))) else none))) else none) else none)) else none) else none)
theorem bM_behindUnit_2_1 (L : Nat) (xs : Nat → Int32) (m d k : Nat) (n : Nat) (x1 x2 x3 x4 : Int32) (g : a2_G) (r : a2_A) : bk L xs nM_behindUnit nm_m216 m d k (n + 107) 2 [some (.ref cM), some (.int x1), some (.int x2), some (.int x3), some (.int x4)] [] g r = BM_behindUnit_2_1 L xs m d k x1 x2 x3 x4 g r := by
  show _ = ((if am_inr ((g fM_contexts) - 1) (r fM_products).1 = true then (if am_inr ((g fM_contexts) - 1) (r fM_productSign).1 = true then (fn_v (ev L xs m d nM_joined [.ref cM, .int ((r fM_products).2 (((g fM_contexts) - 1) : Int32).toNatClampNeg), .int ((r fM_productSign).2 (((g fM_contexts) - 1) : Int32).toNatClampNeg), .int x2] g r) fun v21 g19 r20 => (if am_inr ((g fM_contexts) - 1) (r20 fM_products).1 = true then (if am_inr ((g fM_contexts) - 1) (r20 fM_productSign).1 = true then (fn_v (ev L xs m d nM_isKind [.ref cM, .int (g19 fM_at), .int 5] g19 (a2_ua (a2_ua r20 fM_products ((r20 fM_products).1, (upd (r20 fM_products).2 (((g fM_contexts) - 1) : Int32).toNatClampNeg v21))) fM_productSign ((r20 fM_productSign).1, (upd (r20 fM_productSign).2 (((g fM_contexts) - 1) : Int32).toNatClampNeg 0)))) fun v24 g22 r23 => (if am_c2 .eq v24 0 = true then (BM_behindUnit_81_1 L xs m d k x1 x2 ((g fM_contexts) - 1) x4 g22 r23) else (if am_inr (g22 fM_at) (r23 fM_values).1 = true then (fn_v (ev L xs m d nM_in [.int ((r23 fM_values).2 ((g22 fM_at) : Int32).toNatClampNeg), .int 5, .int 8] g22 r23) fun v36 g34 r35 => (if am_c2 .eq v36 0 = true then (BM_behindUnit_81_1 L xs m d k x1 x2 ((g fM_contexts) - 1) x4 g34 r35) else (if am_inr (g34 fM_at) (r35 fM_values).1 = true then (BM_behindUnit_82_1 L xs m d k x1 x2 ((g fM_contexts) - 1) x4 ((r35 fM_values).2 ((g34 fM_at) : Int32).toNatClampNeg) g34 r35) else none))) else none))) else none) else none)) else none) else none) : Option fn_Z)
  refine (fs_r (n := n + 95) 12 (pc' := 20) (L' := [some (.ref cM), some (.int x1), some (.int x2), some (.int ((g fM_contexts) - 1)), some (.int x4)]) (S' := [.int ((g fM_contexts) - 1), .ref 10952, .ref cM, .int ((g fM_contexts) - 1), .ref 10952]) rfl).trans ?_
  refine (fs_il (n := n + 94) (k := 952) rfl rfl).trans (fs_ite ?_ rfl)
  refine (fs_r (n := n + 91) 3 (pc' := 26) (L' := [some (.ref cM), some (.int x1), some (.int x2), some (.int ((g fM_contexts) - 1)), some (.int x4)]) (S' := [.int ((g fM_contexts) - 1), .ref 10953, .int ((r fM_products).2 (((g fM_contexts) - 1) : Int32).toNatClampNeg), .ref cM, .int ((g fM_contexts) - 1), .ref 10952]) rfl).trans ?_
  refine (fs_il (n := n + 90) (k := 953) rfl rfl).trans (fs_ite ?_ rfl)
  refine (fs_r (n := n + 89) 1 (pc' := 28) (L' := [some (.ref cM), some (.int x1), some (.int x2), some (.int ((g fM_contexts) - 1)), some (.int x4)]) (S' := [.int x2, .int ((r fM_productSign).2 (((g fM_contexts) - 1) : Int32).toNatClampNeg), .int ((r fM_products).2 (((g fM_contexts) - 1) : Int32).toNatClampNeg), .ref cM, .int ((g fM_contexts) - 1), .ref 10952]) rfl).trans ?_
  refine (fs_cv (n := n + 88) (N := nm_m217) (as := [.ref cM, .int ((r fM_products).2 (((g fM_contexts) - 1) : Int32).toNatClampNeg), .int ((r fM_productSign).2 (((g fM_contexts) - 1) : Int32).toNatClampNeg), .int x2]) (rest := [.int ((g fM_contexts) - 1), .ref 10952]) rfl rfl (Or.inl rfl) rfl rfl rfl rfl rfl).trans (fs_fv fun v21 g19 r20 => ?_)
  refine (fs_is (n := n + 87) (k := 952) rfl rfl).trans (fs_ite ?_ rfl)
  refine (fs_r (n := n + 83) 4 (pc' := 38) (L' := [some (.ref cM), some (.int x1), some (.int x2), some (.int ((g fM_contexts) - 1)), some (.int x4)]) (S' := [.int 0, .int ((g fM_contexts) - 1), .ref 10953]) rfl).trans ?_
  refine (fs_is (n := n + 82) (k := 953) rfl rfl).trans (fs_ite ?_ rfl)
  refine (fs_r (n := n + 78) 4 (pc' := 45) (L' := [some (.ref cM), some (.int x1), some (.int x2), some (.int ((g fM_contexts) - 1)), some (.int x4)]) (S' := [.int 5, .int (g19 fM_at), .ref cM]) rfl).trans ?_
  refine (fs_cv (n := n + 77) (N := nm_m166) (as := [.ref cM, .int (g19 fM_at), .int 5]) (rest := []) rfl rfl (Or.inl rfl) rfl rfl rfl rfl rfl).trans (fs_fv fun v24 g22 r23 => ?_)
  refine (fs_i (n := n + 76) rfl (t := 81) rfl (by decide)).trans (fs_ite ?_ ?_)
  · skip
    exact bM_behindUnit_81_1 L xs m d k (n + 14) x1 x2 ((g fM_contexts) - 1) x4 g22 r23
  · skip
    refine (fs_r (n := n + 72) 4 (pc' := 59) (L' := [some (.ref cM), some (.int x1), some (.int x2), some (.int ((g fM_contexts) - 1)), some (.int x4)]) (S' := [.int (g22 fM_at), .ref 10903]) rfl).trans ?_
    refine (fs_il (n := n + 71) (k := 903) rfl rfl).trans (fs_ite ?_ rfl)
    refine (fs_r (n := n + 69) 2 (pc' := 63) (L' := [some (.ref cM), some (.int x1), some (.int x2), some (.int ((g fM_contexts) - 1)), some (.int x4)]) (S' := [.int 8, .int 5, .int ((r23 fM_values).2 ((g22 fM_at) : Int32).toNatClampNeg)]) rfl).trans ?_
    refine (fs_sv (n := n + 68) (N := nm_m158) (as := [.int ((r23 fM_values).2 ((g22 fM_at) : Int32).toNatClampNeg), .int 5, .int 8]) (rest := []) rfl rfl (by decide) rfl rfl rfl rfl rfl).trans (fs_fv fun v36 g34 r35 => ?_)
    refine (fs_i (n := n + 67) rfl (t := 81) rfl (by decide)).trans (fs_ite ?_ ?_)
    · skip
      exact bM_behindUnit_81_1 L xs m d k (n + 5) x1 x2 ((g fM_contexts) - 1) x4 g34 r35
    · skip
      refine (fs_r (n := n + 63) 4 (pc' := 77) (L' := [some (.ref cM), some (.int x1), some (.int x2), some (.int ((g fM_contexts) - 1)), some (.int x4)]) (S' := [.int (g34 fM_at), .ref 10903]) rfl).trans ?_
      refine (fs_il (n := n + 62) (k := 903) rfl rfl).trans (fs_ite ?_ rfl)
      refine (fs_go (n := n + 61) rfl (t := 82) rfl (by decide)).trans ?_
      exact bM_behindUnit_82_1 L xs m d k (n + 0) x1 x2 ((g fM_contexts) - 1) x4 ((r35 fM_values).2 ((g34 fM_at) : Int32).toNatClampNeg) g34 r35
theorem lM_behindUnit_2_1 (L : Nat) (xs : Nat → Int32) (m d k : Nat) (x1 x2 x3 x4 : Int32) (g : a2_G) (r : a2_A) : lp L xs nM_behindUnit nm_m216 m d (k + 1) 2 [some (.ref cM), some (.int x1), some (.int x2), some (.int x3), some (.int x4)] g r = BM_behindUnit_2_1 L xs m d k x1 x2 x3 x4 g r := fs_lp.trans (bM_behindUnit_2_1 L xs m d k 793 x1 x2 x3 x4 g r)
theorem eM_behindUnit (L : Nat) (xs : Nat → Int32) (m d k : Nat) (n : Nat) (a1 : Int32) (g : a2_G) (r : a2_A) : bk L xs nM_behindUnit nm_m216 m d k (n + 109) 0 [some (.ref cM), some (.int a1), none, none, none] [] g r = (BM_behindUnit_2 L xs m d k a1 a1 g r) := by
  refine (fs_r (n := n + 107) 2 (pc' := 2) (L' := [some (.ref cM), some (.int a1), some (.int a1), none, none]) (S' := []) rfl).trans ?_
  exact bM_behindUnit_2 L xs m d k (n + 0) a1 a1 g r
theorem qM_behindUnit (L : Nat) (xs : Nat → Int32) (m d : Nat) (a1 : Int32) (g : a2_G) (r : a2_A) : ev L xs (m + 1) (d + 1) nM_behindUnit [.ref cM, .int a1] g r = (BM_behindUnit_2 L xs (m + 1) d m a1 a1 g r) := (fs_ev (M := nm_m216) rfl rfl).trans (eM_behindUnit L xs (m + 1) d m 791 a1 g r)
/-- CobolParserModel.joined(III)I -/
theorem eM_joined (L : Nat) (xs : Nat → Int32) (m d k : Nat) (n : Nat) (a1 a2 a3 : Int32) (g : a2_G) (r : a2_A) : bk L xs nM_joined nm_m217 m d k (n + 21) 0 [some (.ref cM), some (.int a1), some (.int a2), some (.int a3), none] [] g r = (if am_c2 .ne a2 0 = true then (if am_inr a1 (r fM_place).1 = true then (fn_v (ev L xs m d nM_make [.ref cM, .int 55, .int a2, .int ((r fM_place).2 (a1 : Int32).toNatClampNeg)] g r) fun v3 g1 r2 => (fn_n (ev L xs m d nM_attach [.ref cM, .int v3, .int a1] g1 r2) fun g4 r5 => (fn_n (ev L xs m d nM_attach [.ref cM, .int v3, .int a3] g4 r5) fun g6 r7 => (some (.inl (some (.int v3)), g6, r7))))) else none) else (some (.inl (some (.int a3)), g, r))) := by
  refine (fs_r (n := n + 20) 1 (pc' := 1) (L' := [some (.ref cM), some (.int a1), some (.int a2), some (.int a3), none]) (S' := [.int a2]) rfl).trans ?_
  refine (fs_i (n := n + 19) rfl (t := 6) rfl (by decide)).trans (fs_ite ?_ ?_)
  · skip
    refine (fs_r (n := n + 13) 6 (pc' := 15) (L' := [some (.ref cM), some (.int a1), some (.int a2), some (.int a3), none]) (S' := [.int a1, .ref 10911, .int a2, .int 55, .ref cM]) rfl).trans ?_
    refine (fs_il (n := n + 12) (k := 911) rfl rfl).trans (fs_ite ?_ rfl)
    refine (fs_cv (n := n + 11) (N := nm_m160) (as := [.ref cM, .int 55, .int a2, .int ((r fM_place).2 (a1 : Int32).toNatClampNeg)]) (rest := []) rfl rfl (Or.inl rfl) rfl rfl rfl rfl rfl).trans (fs_fv fun v3 g1 r2 => ?_)
    refine (fs_r (n := n + 7) 4 (pc' := 25) (L' := [some (.ref cM), some (.int a1), some (.int a2), some (.int a3), some (.int v3)]) (S' := [.int a1, .int v3, .ref cM]) rfl).trans ?_
    refine (fs_cn (n := n + 6) (N := nm_m173) (as := [.ref cM, .int v3, .int a1]) (rest := []) rfl rfl (Or.inl rfl) rfl rfl rfl rfl rfl).trans (fs_fn fun g4 r5 => ?_)
    refine (fs_r (n := n + 3) 3 (pc' := 32) (L' := [some (.ref cM), some (.int a1), some (.int a2), some (.int a3), some (.int v3)]) (S' := [.int a3, .int v3, .ref cM]) rfl).trans ?_
    refine (fs_cn (n := n + 2) (N := nm_m173) (as := [.ref cM, .int v3, .int a3]) (rest := []) rfl rfl (Or.inl rfl) rfl rfl rfl rfl rfl).trans (fs_fn fun g6 r7 => ?_)
    refine (fs_r (n := n + 1) 1 (pc' := 37) (L' := [some (.ref cM), some (.int a1), some (.int a2), some (.int a3), some (.int v3)]) (S' := [.int v3]) rfl).trans ?_
    exact (fs_ri (n := n + 0) rfl rfl).trans rfl
  · skip
    refine (fs_r (n := n + 18) 1 (pc' := 5) (L' := [some (.ref cM), some (.int a1), some (.int a2), some (.int a3), none]) (S' := [.int a3]) rfl).trans ?_
    exact (fs_ri (n := n + 17) rfl rfl).trans rfl
theorem qM_joined (L : Nat) (xs : Nat → Int32) (m d : Nat) (a1 a2 a3 : Int32) (g : a2_G) (r : a2_A) : ev L xs (m + 1) (d + 1) nM_joined [.ref cM, .int a1, .int a2, .int a3] g r = (if am_c2 .ne a2 0 = true then (if am_inr a1 (r fM_place).1 = true then (fn_v (ev L xs (m + 1) d nM_make [.ref cM, .int 55, .int a2, .int ((r fM_place).2 (a1 : Int32).toNatClampNeg)] g r) fun v3 g1 r2 => (fn_n (ev L xs (m + 1) d nM_attach [.ref cM, .int v3, .int a1] g1 r2) fun g4 r5 => (fn_n (ev L xs (m + 1) d nM_attach [.ref cM, .int v3, .int a3] g4 r5) fun g6 r7 => (some (.inl (some (.int v3)), g6, r7))))) else none) else (some (.inl (some (.int a3)), g, r))) := (fs_ev (M := nm_m217) rfl rfl).trans (eM_joined L xs (m + 1) d m 879 a1 a2 a3 g r)
/-- CobolParserModel.identified(I)V -/
def BM_identified_71 (L : Nat) (xs : Nat → Int32) (m d k : Nat) (x1 x2 x3 : Int32) (g : a2_G) (r : a2_A) : Option fn_Z := (fn_v (ev L xs m d nM_fail [.ref cM, .int x3, .int (g fM_at)] g r) fun v3 g1 r2 => (some (.inl none, g1, r2)))
theorem bM_identified_71 (L : Nat) (xs : Nat → Int32) (m d k : Nat) (n : Nat) (x1 x2 x3 : Int32) (g : a2_G) (r : a2_A) : bk L xs nM_identified nm_m218 m d k (n + 5) 71 [some (.ref cM), some (.int x1), some (.int x2), none, none] [.int x3, .ref cM] g r = BM_identified_71 L xs m d k x1 x2 x3 g r := by
  show _ = ((fn_v (ev L xs m d nM_fail [.ref cM, .int x3, .int (g fM_at)] g r) fun v3 g1 r2 => (some (.inl none, g1, r2))) : Option fn_Z)
  refine (fs_r (n := n + 3) 2 (pc' := 75) (L' := [some (.ref cM), some (.int x1), some (.int x2), none, none]) (S' := [.int (g fM_at), .int x3, .ref cM]) rfl).trans ?_
  refine (fs_cv (n := n + 2) (N := nm_m164) (as := [.ref cM, .int x3, .int (g fM_at)]) (rest := []) rfl rfl (Or.inl rfl) rfl rfl rfl rfl rfl).trans (fs_fv fun v3 g1 r2 => ?_)
  refine (fs_r (n := n + 1) 1 (pc' := 79) (L' := [some (.ref cM), some (.int x1), some (.int x2), none, none]) (S' := []) rfl).trans ?_
  exact (fs_rv (n := n + 0) rfl rfl).trans rfl
def BM_identified_61 (L : Nat) (xs : Nat → Int32) (m d k : Nat) (x1 x2 : Int32) (g : a2_G) (r : a2_A) : Option fn_Z := (if am_c2 .eq x2 0 = true then (BM_identified_71 L xs m d k x1 x2 1 g r) else (BM_identified_71 L xs m d k x1 x2 3 g r))
theorem bM_identified_61 (L : Nat) (xs : Nat → Int32) (m d k : Nat) (n : Nat) (x1 x2 : Int32) (g : a2_G) (r : a2_A) : bk L xs nM_identified nm_m218 m d k (n + 10) 61 [some (.ref cM), some (.int x1), some (.int x2), none, none] [] g r = BM_identified_61 L xs m d k x1 x2 g r := by
  show _ = ((if am_c2 .eq x2 0 = true then (BM_identified_71 L xs m d k x1 x2 1 g r) else (BM_identified_71 L xs m d k x1 x2 3 g r)) : Option fn_Z)
  refine (fs_r (n := n + 8) 2 (pc' := 63) (L' := [some (.ref cM), some (.int x1), some (.int x2), none, none]) (S' := [.int x2, .ref cM]) rfl).trans ?_
  refine (fs_i (n := n + 7) rfl (t := 70) rfl (by decide)).trans (fs_ite ?_ ?_)
  · skip
    refine (fs_r (n := n + 6) 1 (pc' := 71) (L' := [some (.ref cM), some (.int x1), some (.int x2), none, none]) (S' := [.int 1, .ref cM]) rfl).trans ?_
    exact bM_identified_71 L xs m d k (n + 1) x1 x2 1 g r
  · skip
    refine (fs_r (n := n + 6) 1 (pc' := 67) (L' := [some (.ref cM), some (.int x1), some (.int x2), none, none]) (S' := [.int 3, .ref cM]) rfl).trans ?_
    refine (fs_go (n := n + 5) rfl (t := 71) rfl (by decide)).trans ?_
    exact bM_identified_71 L xs m d k (n + 0) x1 x2 3 g r
def BM_identified_111 (L : Nat) (xs : Nat → Int32) (m d k : Nat) (x1 x2 x3 : Int32) (g : a2_G) (r : a2_A) : Option fn_Z := (some (.inl none, g, r))
theorem bM_identified_111 (L : Nat) (xs : Nat → Int32) (m d k : Nat) (n : Nat) (x1 x2 x3 : Int32) (g : a2_G) (r : a2_A) : bk L xs nM_identified nm_m218 m d k (n + 1) 111 [some (.ref cM), some (.int x1), some (.int x2), some (.int x3), none] [] g r = BM_identified_111 L xs m d k x1 x2 x3 g r := by
  show _ = ((some (.inl none, g, r)) : Option fn_Z)
  exact (fs_rv (n := n + 0) rfl rfl).trans rfl
def BM_identified_172 (L : Nat) (xs : Nat → Int32) (m d k : Nat) (x1 x2 x3 x4 : Int32) (g : a2_G) (r : a2_A) : Option fn_Z := (if am_inr (g fM_units) (r fM_unitNode).1 = true then (if am_inr (g fM_units) (r fM_environment).1 = true then (if am_inr (g fM_units) (r fM_data).1 = true then (if am_inr (g fM_units) (r fM_procedure).1 = true then (if am_inr (g fM_open) (r fM_state).1 = true then (if am_inr (g fM_open) (r fM_its).1 = true then (if am_inr (g fM_open) (r fM_function).1 = true then (if am_inr (g fM_open) (r fM_had).1 = true then (some (.inl none, (upd (upd g fM_open ((g fM_open) + 1)) fM_units ((g fM_units) + 1)), (a2_ua (a2_ua (a2_ua (a2_ua (a2_ua (a2_ua (a2_ua (a2_ua r fM_unitNode ((r fM_unitNode).1, (upd (r fM_unitNode).2 ((g fM_units) : Int32).toNatClampNeg x4))) fM_environment ((r fM_environment).1, (upd (r fM_environment).2 ((g fM_units) : Int32).toNatClampNeg 0))) fM_data ((r fM_data).1, (upd (r fM_data).2 ((g fM_units) : Int32).toNatClampNeg 0))) fM_procedure ((r fM_procedure).1, (upd (r fM_procedure).2 ((g fM_units) : Int32).toNatClampNeg 0))) fM_state ((r fM_state).1, (upd (r fM_state).2 ((g fM_open) : Int32).toNatClampNeg 0))) fM_its ((r fM_its).1, (upd (r fM_its).2 ((g fM_open) : Int32).toNatClampNeg (g fM_units)))) fM_function ((r fM_function).1, (upd (r fM_function).2 ((g fM_open) : Int32).toNatClampNeg (vp_nar .boolean 0)))) fM_had ((r fM_had).1, (upd (r fM_had).2 ((g fM_open) : Int32).toNatClampNeg (vp_nar .boolean 0)))))) else none) else none) else none) else none) else none) else none) else none) else none)
theorem bM_identified_172 (L : Nat) (xs : Nat → Int32) (m d k : Nat) (n : Nat) (x1 x2 x3 x4 : Int32) (g : a2_G) (r : a2_A) : bk L xs nM_identified nm_m218 m d k (n + 62) 172 [some (.ref cM), some (.int x1), some (.int x2), some (.int x3), some (.int x4)] [] g r = BM_identified_172 L xs m d k x1 x2 x3 x4 g r := by
  show _ = ((if am_inr (g fM_units) (r fM_unitNode).1 = true then (if am_inr (g fM_units) (r fM_environment).1 = true then (if am_inr (g fM_units) (r fM_data).1 = true then (if am_inr (g fM_units) (r fM_procedure).1 = true then (if am_inr (g fM_open) (r fM_state).1 = true then (if am_inr (g fM_open) (r fM_its).1 = true then (if am_inr (g fM_open) (r fM_function).1 = true then (if am_inr (g fM_open) (r fM_had).1 = true then (some (.inl none, (upd (upd g fM_open ((g fM_open) + 1)) fM_units ((g fM_units) + 1)), (a2_ua (a2_ua (a2_ua (a2_ua (a2_ua (a2_ua (a2_ua (a2_ua r fM_unitNode ((r fM_unitNode).1, (upd (r fM_unitNode).2 ((g fM_units) : Int32).toNatClampNeg x4))) fM_environment ((r fM_environment).1, (upd (r fM_environment).2 ((g fM_units) : Int32).toNatClampNeg 0))) fM_data ((r fM_data).1, (upd (r fM_data).2 ((g fM_units) : Int32).toNatClampNeg 0))) fM_procedure ((r fM_procedure).1, (upd (r fM_procedure).2 ((g fM_units) : Int32).toNatClampNeg 0))) fM_state ((r fM_state).1, (upd (r fM_state).2 ((g fM_open) : Int32).toNatClampNeg 0))) fM_its ((r fM_its).1, (upd (r fM_its).2 ((g fM_open) : Int32).toNatClampNeg (g fM_units)))) fM_function ((r fM_function).1, (upd (r fM_function).2 ((g fM_open) : Int32).toNatClampNeg (vp_nar .boolean 0)))) fM_had ((r fM_had).1, (upd (r fM_had).2 ((g fM_open) : Int32).toNatClampNeg (vp_nar .boolean 0)))))) else none) else none) else none) else none) else none) else none) else none) else none) : Option fn_Z)
  refine (fs_r (n := n + 57) 5 (pc' := 182) (L' := [some (.ref cM), some (.int x1), some (.int x2), some (.int x3), some (.int x4)]) (S' := [.int x4, .int (g fM_units), .ref 10922]) rfl).trans ?_
  refine (fs_is (n := n + 56) (k := 922) rfl rfl).trans (fs_ite ?_ rfl)
  refine (fs_r (n := n + 51) 5 (pc' := 192) (L' := [some (.ref cM), some (.int x1), some (.int x2), some (.int x3), some (.int x4)]) (S' := [.int 0, .int (g fM_units), .ref 10923]) rfl).trans ?_
  refine (fs_is (n := n + 50) (k := 923) rfl rfl).trans (fs_ite ?_ rfl)
  refine (fs_r (n := n + 45) 5 (pc' := 202) (L' := [some (.ref cM), some (.int x1), some (.int x2), some (.int x3), some (.int x4)]) (S' := [.int 0, .int (g fM_units), .ref 10924]) rfl).trans ?_
  refine (fs_is (n := n + 44) (k := 924) rfl rfl).trans (fs_ite ?_ rfl)
  refine (fs_r (n := n + 39) 5 (pc' := 212) (L' := [some (.ref cM), some (.int x1), some (.int x2), some (.int x3), some (.int x4)]) (S' := [.int 0, .int (g fM_units), .ref 10925]) rfl).trans ?_
  refine (fs_is (n := n + 38) (k := 925) rfl rfl).trans (fs_ite ?_ rfl)
  refine (fs_r (n := n + 33) 5 (pc' := 222) (L' := [some (.ref cM), some (.int x1), some (.int x2), some (.int x3), some (.int x4)]) (S' := [.int 0, .int (g fM_open), .ref 10927]) rfl).trans ?_
  refine (fs_is (n := n + 32) (k := 927) rfl rfl).trans (fs_ite ?_ rfl)
  refine (fs_r (n := n + 26) 6 (pc' := 235) (L' := [some (.ref cM), some (.int x1), some (.int x2), some (.int x3), some (.int x4)]) (S' := [.int (g fM_units), .int (g fM_open), .ref 10929]) rfl).trans ?_
  refine (fs_is (n := n + 25) (k := 929) rfl rfl).trans (fs_ite ?_ rfl)
  refine (fs_r (n := n + 20) 5 (pc' := 245) (L' := [some (.ref cM), some (.int x1), some (.int x2), some (.int x3), some (.int x4)]) (S' := [.int 0, .int (g fM_open), .ref 10930]) rfl).trans ?_
  refine (fs_bs (n := n + 19) (k := 930) rfl rfl).trans (fs_ite ?_ rfl)
  refine (fs_r (n := n + 14) 5 (pc' := 255) (L' := [some (.ref cM), some (.int x1), some (.int x2), some (.int x3), some (.int x4)]) (S' := [.int 0, .int (g fM_open), .ref 10931]) rfl).trans ?_
  refine (fs_bs (n := n + 13) (k := 931) rfl rfl).trans (fs_ite ?_ rfl)
  refine (fs_r (n := n + 8) 5 (pc' := 263) (L' := [some (.ref cM), some (.int x1), some (.int x2), some (.int x3), some (.int x4)]) (S' := [.int ((g fM_open) + 1), .ref cM]) rfl).trans ?_
  refine (fs_pf (n := n + 7) (ci := 9) (j := 26) rfl rfl rfl rfl).trans ?_
  refine (fs_r (n := n + 2) 5 (pc' := 273) (L' := [some (.ref cM), some (.int x1), some (.int x2), some (.int x3), some (.int x4)]) (S' := [.int ((g fM_units) + 1), .ref cM]) rfl).trans ?_
  refine (fs_pf (n := n + 1) (ci := 9) (j := 20) rfl rfl rfl rfl).trans ?_
  exact (fs_rv (n := n + 0) rfl rfl).trans rfl
def BM_identified_142 (L : Nat) (xs : Nat → Int32) (m d k : Nat) (x1 x2 x3 x4 x5 : Int32) (g : a2_G) (r : a2_A) : Option fn_Z := (fn_n (ev L xs m d nM_attach [.ref cM, .int x5, .int x4] g r) fun g16 r17 => (if am_c2 .le (g16 fM_open) 0 = true then (BM_identified_172 L xs m d k x1 x2 x3 x4 g16 r17) else (fn_n (ev L xs m d nM_to [.ref cM, .int 12] g16 r17) fun g18 r19 => (if am_inr ((g18 fM_open) - 1) (r19 fM_had).1 = true then (BM_identified_172 L xs m d k x1 x2 x3 x4 g18 (a2_ua r19 fM_had ((r19 fM_had).1, (upd (r19 fM_had).2 (((g18 fM_open) - 1) : Int32).toNatClampNeg (vp_nar .boolean 1))))) else none))))
theorem bM_identified_142 (L : Nat) (xs : Nat → Int32) (m d k : Nat) (n : Nat) (x1 x2 x3 x4 x5 : Int32) (g : a2_G) (r : a2_A) : bk L xs nM_identified nm_m218 m d k (n + 78) 142 [some (.ref cM), some (.int x1), some (.int x2), some (.int x3), some (.int x4)] [.int x5, .ref cM] g r = BM_identified_142 L xs m d k x1 x2 x3 x4 x5 g r := by
  show _ = ((fn_n (ev L xs m d nM_attach [.ref cM, .int x5, .int x4] g r) fun g16 r17 => (if am_c2 .le (g16 fM_open) 0 = true then (BM_identified_172 L xs m d k x1 x2 x3 x4 g16 r17) else (fn_n (ev L xs m d nM_to [.ref cM, .int 12] g16 r17) fun g18 r19 => (if am_inr ((g18 fM_open) - 1) (r19 fM_had).1 = true then (BM_identified_172 L xs m d k x1 x2 x3 x4 g18 (a2_ua r19 fM_had ((r19 fM_had).1, (upd (r19 fM_had).2 (((g18 fM_open) - 1) : Int32).toNatClampNeg (vp_nar .boolean 1))))) else none)))) : Option fn_Z)
  refine (fs_r (n := n + 77) 1 (pc' := 144) (L' := [some (.ref cM), some (.int x1), some (.int x2), some (.int x3), some (.int x4)]) (S' := [.int x4, .int x5, .ref cM]) rfl).trans ?_
  refine (fs_cn (n := n + 76) (N := nm_m173) (as := [.ref cM, .int x5, .int x4]) (rest := []) rfl rfl (Or.inl rfl) rfl rfl rfl rfl rfl).trans (fs_fn fun g16 r17 => ?_)
  refine (fs_r (n := n + 74) 2 (pc' := 151) (L' := [some (.ref cM), some (.int x1), some (.int x2), some (.int x3), some (.int x4)]) (S' := [.int (g16 fM_open)]) rfl).trans ?_
  refine (fs_i (n := n + 73) rfl (t := 172) rfl (by decide)).trans (fs_ite ?_ ?_)
  · skip
    exact bM_identified_172 L xs m d k (n + 11) x1 x2 x3 x4 g16 r17
  · skip
    refine (fs_r (n := n + 71) 2 (pc' := 157) (L' := [some (.ref cM), some (.int x1), some (.int x2), some (.int x3), some (.int x4)]) (S' := [.int 12, .ref cM]) rfl).trans ?_
    refine (fs_cn (n := n + 70) (N := nm_m182) (as := [.ref cM, .int 12]) (rest := []) rfl rfl (Or.inl rfl) rfl rfl rfl rfl rfl).trans (fs_fn fun g18 r19 => ?_)
    refine (fs_r (n := n + 63) 7 (pc' := 171) (L' := [some (.ref cM), some (.int x1), some (.int x2), some (.int x3), some (.int x4)]) (S' := [.int 1, .int ((g18 fM_open) - 1), .ref 10931]) rfl).trans ?_
    refine (fs_bs (n := n + 62) (k := 931) rfl rfl).trans (fs_ite ?_ rfl)
    exact bM_identified_172 L xs m d k (n + 0) x1 x2 x3 x4 g18 (a2_ua r19 fM_had ((r19 fM_had).1, (upd (r19 fM_had).2 (((g18 fM_open) - 1) : Int32).toNatClampNeg (vp_nar .boolean 1))))
def BM_identified_47 (L : Nat) (xs : Nat → Int32) (m d k : Nat) (x1 x2 : Int32) (g : a2_G) (r : a2_A) : Option fn_Z := (if am_c2 .eq x2 0 = true then (BM_identified_61 L xs m d k x1 x2 g r) else (if am_c2 .ne (g fM_open) 10 = true then (fn_v (ev L xs m d nM_must [.ref cM, .int 1] (upd g fM_at ((g fM_at) + 1)) r) fun v6 g4 r5 => (if am_c2 .eq v6 0 = true then (BM_identified_111 L xs m d k x1 x2 (g fM_at) g4 r5) else (fn_v (ev L xs m d nM_mustBe [.ref cM, .int 4] g4 r5) fun v9 g7 r8 => (if am_c2 .ne v9 0 = true then (fn_v (ev L xs m d nM_make [.ref cM, .int 1, .int 0, .int (g fM_at)] g7 r8) fun v12 g10 r11 => (if am_c2 .ne (g10 fM_open) 0 = true then (fn_v (ev L xs m d nM_here [.ref cM] g10 r11) fun v15 g13 r14 => (if am_inr v15 (r14 fM_unitNode).1 = true then (BM_identified_142 L xs m d k x1 x2 (g fM_at) v12 ((r14 fM_unitNode).2 (v15 : Int32).toNatClampNeg) g13 r14) else none)) else (BM_identified_142 L xs m d k x1 x2 (g fM_at) v12 0 g10 r11))) else (BM_identified_111 L xs m d k x1 x2 (g fM_at) g7 r8))))) else (BM_identified_61 L xs m d k x1 x2 g r)))
theorem bM_identified_47 (L : Nat) (xs : Nat → Int32) (m d k : Nat) (n : Nat) (x1 x2 : Int32) (g : a2_G) (r : a2_A) : bk L xs nM_identified nm_m218 m d k (n + 117) 47 [some (.ref cM), some (.int x1), none, none, none] [.int x2] g r = BM_identified_47 L xs m d k x1 x2 g r := by
  show _ = ((if am_c2 .eq x2 0 = true then (BM_identified_61 L xs m d k x1 x2 g r) else (if am_c2 .ne (g fM_open) 10 = true then (fn_v (ev L xs m d nM_must [.ref cM, .int 1] (upd g fM_at ((g fM_at) + 1)) r) fun v6 g4 r5 => (if am_c2 .eq v6 0 = true then (BM_identified_111 L xs m d k x1 x2 (g fM_at) g4 r5) else (fn_v (ev L xs m d nM_mustBe [.ref cM, .int 4] g4 r5) fun v9 g7 r8 => (if am_c2 .ne v9 0 = true then (fn_v (ev L xs m d nM_make [.ref cM, .int 1, .int 0, .int (g fM_at)] g7 r8) fun v12 g10 r11 => (if am_c2 .ne (g10 fM_open) 0 = true then (fn_v (ev L xs m d nM_here [.ref cM] g10 r11) fun v15 g13 r14 => (if am_inr v15 (r14 fM_unitNode).1 = true then (BM_identified_142 L xs m d k x1 x2 (g fM_at) v12 ((r14 fM_unitNode).2 (v15 : Int32).toNatClampNeg) g13 r14) else none)) else (BM_identified_142 L xs m d k x1 x2 (g fM_at) v12 0 g10 r11))) else (BM_identified_111 L xs m d k x1 x2 (g fM_at) g7 r8))))) else (BM_identified_61 L xs m d k x1 x2 g r))) : Option fn_Z)
  refine (fs_r (n := n + 115) 2 (pc' := 49) (L' := [some (.ref cM), some (.int x1), some (.int x2), none, none]) (S' := [.int x2]) rfl).trans ?_
  refine (fs_i (n := n + 114) rfl (t := 61) rfl (by decide)).trans (fs_ite ?_ ?_)
  · skip
    exact bM_identified_61 L xs m d k (n + 104) x1 x2 g r
  · skip
    refine (fs_r (n := n + 111) 3 (pc' := 58) (L' := [some (.ref cM), some (.int x1), some (.int x2), none, none]) (S' := [.int 10, .int (g fM_open)]) rfl).trans ?_
    refine (fs_j (n := n + 110) rfl (t := 80) rfl (by decide)).trans (fs_ite ?_ ?_)
    · skip
      refine (fs_r (n := n + 102) 8 (pc' := 92) (L' := [some (.ref cM), some (.int x1), some (.int x2), some (.int (g fM_at)), none]) (S' := [.int ((g fM_at) + 1), .ref cM]) rfl).trans ?_
      refine (fs_pf (n := n + 101) (ci := 9) (j := 41) rfl rfl rfl rfl).trans ?_
      refine (fs_r (n := n + 99) 2 (pc' := 97) (L' := [some (.ref cM), some (.int x1), some (.int x2), some (.int (g fM_at)), none]) (S' := [.int 1, .ref cM]) rfl).trans ?_
      refine (fs_cv (n := n + 98) (N := nm_m191) (as := [.ref cM, .int 1]) (rest := []) rfl rfl (Or.inl rfl) rfl rfl rfl rfl rfl).trans (fs_fv fun v6 g4 r5 => ?_)
      refine (fs_i (n := n + 97) rfl (t := 111) rfl (by decide)).trans (fs_ite ?_ ?_)
      · skip
        exact bM_identified_111 L xs m d k (n + 96) x1 x2 (g fM_at) g4 r5
      · skip
        refine (fs_r (n := n + 95) 2 (pc' := 105) (L' := [some (.ref cM), some (.int x1), some (.int x2), some (.int (g fM_at)), none]) (S' := [.int 4, .ref cM]) rfl).trans ?_
        refine (fs_cv (n := n + 94) (N := nm_m170) (as := [.ref cM, .int 4]) (rest := []) rfl rfl (Or.inl rfl) rfl rfl rfl rfl rfl).trans (fs_fv fun v9 g7 r8 => ?_)
        refine (fs_i (n := n + 93) rfl (t := 112) rfl (by decide)).trans (fs_ite ?_ ?_)
        · skip
          refine (fs_r (n := n + 89) 4 (pc' := 116) (L' := [some (.ref cM), some (.int x1), some (.int x2), some (.int (g fM_at)), none]) (S' := [.int (g fM_at), .int 0, .int 1, .ref cM]) rfl).trans ?_
          refine (fs_cv (n := n + 88) (N := nm_m160) (as := [.ref cM, .int 1, .int 0, .int (g fM_at)]) (rest := []) rfl rfl (Or.inl rfl) rfl rfl rfl rfl rfl).trans (fs_fv fun v12 g10 r11 => ?_)
          refine (fs_r (n := n + 84) 4 (pc' := 126) (L' := [some (.ref cM), some (.int x1), some (.int x2), some (.int (g fM_at)), some (.int v12)]) (S' := [.int (g10 fM_open), .ref cM]) rfl).trans ?_
          refine (fs_i (n := n + 83) rfl (t := 133) rfl (by decide)).trans (fs_ite ?_ ?_)
          · skip
            refine (fs_r (n := n + 80) 3 (pc' := 138) (L' := [some (.ref cM), some (.int x1), some (.int x2), some (.int (g fM_at)), some (.int v12)]) (S' := [.ref cM, .ref 10922, .ref cM]) rfl).trans ?_
            refine (fs_cv (n := n + 79) (N := nm_m181) (as := [.ref cM]) (rest := [.ref 10922, .ref cM]) rfl rfl (Or.inl rfl) rfl rfl rfl rfl rfl).trans (fs_fv fun v15 g13 r14 => ?_)
            refine (fs_il (n := n + 78) (k := 922) rfl rfl).trans (fs_ite ?_ rfl)
            exact bM_identified_142 L xs m d k (n + 0) x1 x2 (g fM_at) v12 ((r14 fM_unitNode).2 (v15 : Int32).toNatClampNeg) g13 r14
          · skip
            refine (fs_r (n := n + 82) 1 (pc' := 130) (L' := [some (.ref cM), some (.int x1), some (.int x2), some (.int (g fM_at)), some (.int v12)]) (S' := [.int 0, .ref cM]) rfl).trans ?_
            refine (fs_go (n := n + 81) rfl (t := 142) rfl (by decide)).trans ?_
            exact bM_identified_142 L xs m d k (n + 3) x1 x2 (g fM_at) v12 0 g10 r11
        · skip
          exact bM_identified_111 L xs m d k (n + 92) x1 x2 (g fM_at) g7 r8
    · skip
      exact bM_identified_61 L xs m d k (n + 100) x1 x2 g r
def BM_identified_42 (L : Nat) (xs : Nat → Int32) (m d k : Nat) (x1 : Int32) (g : a2_G) (r : a2_A) : Option fn_Z := (BM_identified_47 L xs m d k x1 1 g r)
theorem bM_identified_42 (L : Nat) (xs : Nat → Int32) (m d k : Nat) (n : Nat) (x1 : Int32) (g : a2_G) (r : a2_A) : bk L xs nM_identified nm_m218 m d k (n + 119) 42 [some (.ref cM), some (.int x1), none, none, none] [] g r = BM_identified_42 L xs m d k x1 g r := by
  show _ = ((BM_identified_47 L xs m d k x1 1 g r) : Option fn_Z)
  refine (fs_r (n := n + 118) 1 (pc' := 43) (L' := [some (.ref cM), some (.int x1), none, none, none]) (S' := [.int 1]) rfl).trans ?_
  refine (fs_go (n := n + 117) rfl (t := 47) rfl (by decide)).trans ?_
  exact bM_identified_47 L xs m d k (n + 0) x1 1 g r
def BM_identified_46 (L : Nat) (xs : Nat → Int32) (m d k : Nat) (x1 : Int32) (g : a2_G) (r : a2_A) : Option fn_Z := (BM_identified_47 L xs m d k x1 0 g r)
theorem bM_identified_46 (L : Nat) (xs : Nat → Int32) (m d k : Nat) (n : Nat) (x1 : Int32) (g : a2_G) (r : a2_A) : bk L xs nM_identified nm_m218 m d k (n + 118) 46 [some (.ref cM), some (.int x1), none, none, none] [] g r = BM_identified_46 L xs m d k x1 g r := by
  show _ = ((BM_identified_47 L xs m d k x1 0 g r) : Option fn_Z)
  refine (fs_r (n := n + 117) 1 (pc' := 47) (L' := [some (.ref cM), some (.int x1), none, none, none]) (S' := [.int 0]) rfl).trans ?_
  exact bM_identified_47 L xs m d k (n + 0) x1 0 g r
theorem eM_identified (L : Nat) (xs : Nat → Int32) (m d k : Nat) (n : Nat) (a1 : Int32) (g : a2_G) (r : a2_A) : bk L xs nM_identified nm_m218 m d k (n + 140) 0 [some (.ref cM), some (.int a1), none, none, none] [] g r = (if am_c2 .eq (g fM_open) 0 = true then (BM_identified_42 L xs m d k a1 g r) else (if am_inr ((g fM_open) - 1) (r fM_function).1 = true then (if am_c2 .ne ((r fM_function).2 (((g fM_open) - 1) : Int32).toNatClampNeg) 0 = true then (BM_identified_46 L xs m d k a1 g r) else (fn_v (ev L xs m d nM_in [.int a1, .int 1, .int 8] g r) fun v22 g20 r21 => (if am_c2 .ne v22 0 = true then (BM_identified_42 L xs m d k a1 g20 r21) else (fn_v (ev L xs m d nM_in [.int a1, .int 10, .int 12] g20 r21) fun v25 g23 r24 => (if am_c2 .eq v25 0 = true then (BM_identified_46 L xs m d k a1 g23 r24) else (BM_identified_42 L xs m d k a1 g23 r24)))))) else none)) := by
  refine (fs_r (n := n + 138) 2 (pc' := 4) (L' := [some (.ref cM), some (.int a1), none, none, none]) (S' := [.int (g fM_open)]) rfl).trans ?_
  refine (fs_i (n := n + 137) rfl (t := 42) rfl (by decide)).trans (fs_ite ?_ ?_)
  · skip
    exact bM_identified_42 L xs m d k (n + 18) a1 g r
  · skip
    refine (fs_r (n := n + 131) 6 (pc' := 17) (L' := [some (.ref cM), some (.int a1), none, none, none]) (S' := [.int ((g fM_open) - 1), .ref 10930]) rfl).trans ?_
    refine (fs_bl (n := n + 130) (k := 930) rfl rfl).trans (fs_ite ?_ rfl)
    refine (fs_i (n := n + 129) rfl (t := 46) rfl (by decide)).trans (fs_ite ?_ ?_)
    · skip
      exact bM_identified_46 L xs m d k (n + 11) a1 g r
    · skip
      refine (fs_r (n := n + 126) 3 (pc' := 25) (L' := [some (.ref cM), some (.int a1), none, none, none]) (S' := [.int 8, .int 1, .int a1]) rfl).trans ?_
      refine (fs_sv (n := n + 125) (N := nm_m158) (as := [.int a1, .int 1, .int 8]) (rest := []) rfl rfl (by decide) rfl rfl rfl rfl rfl).trans (fs_fv fun v22 g20 r21 => ?_)
      refine (fs_i (n := n + 124) rfl (t := 42) rfl (by decide)).trans (fs_ite ?_ ?_)
      · skip
        exact bM_identified_42 L xs m d k (n + 5) a1 g20 r21
      · skip
        refine (fs_r (n := n + 121) 3 (pc' := 36) (L' := [some (.ref cM), some (.int a1), none, none, none]) (S' := [.int 12, .int 10, .int a1]) rfl).trans ?_
        refine (fs_sv (n := n + 120) (N := nm_m158) (as := [.int a1, .int 10, .int 12]) (rest := []) rfl rfl (by decide) rfl rfl rfl rfl rfl).trans (fs_fv fun v25 g23 r24 => ?_)
        refine (fs_i (n := n + 119) rfl (t := 46) rfl (by decide)).trans (fs_ite ?_ ?_)
        · skip
          exact bM_identified_46 L xs m d k (n + 1) a1 g23 r24
        · skip
          exact bM_identified_42 L xs m d k (n + 0) a1 g23 r24
theorem qM_identified (L : Nat) (xs : Nat → Int32) (m d : Nat) (a1 : Int32) (g : a2_G) (r : a2_A) : ev L xs (m + 1) (d + 1) nM_identified [.ref cM, .int a1] g r = (if am_c2 .eq (g fM_open) 0 = true then (BM_identified_42 L xs (m + 1) d m a1 g r) else (if am_inr ((g fM_open) - 1) (r fM_function).1 = true then (if am_c2 .ne ((r fM_function).2 (((g fM_open) - 1) : Int32).toNatClampNeg) 0 = true then (BM_identified_46 L xs (m + 1) d m a1 g r) else (fn_v (ev L xs (m + 1) d nM_in [.int a1, .int 1, .int 8] g r) fun v22 g20 r21 => (if am_c2 .ne v22 0 = true then (BM_identified_42 L xs (m + 1) d m a1 g20 r21) else (fn_v (ev L xs (m + 1) d nM_in [.int a1, .int 10, .int 12] g20 r21) fun v25 g23 r24 => (if am_c2 .eq v25 0 = true then (BM_identified_46 L xs (m + 1) d m a1 g23 r24) else (BM_identified_42 L xs (m + 1) d m a1 g23 r24)))))) else none)) := (fs_ev (M := nm_m218) rfl rfl).trans (eM_identified L xs (m + 1) d m 760 a1 g r)
/-- CobolParserModel.unitNamed(Z)V -/
def BM_unitNamed_45 (L : Nat) (xs : Nat → Int32) (m d k : Nat) (x1 x2 x3 x4 : Int32) (g : a2_G) (r : a2_A) : Option fn_Z := (if am_inr x4 (r fM_kind).1 = true then (fn_v (ev L xs m d nM_here [.ref cM] g (a2_ua r fM_kind ((r fM_kind).1, (upd (r fM_kind).2 (x4 : Int32).toNatClampNeg x3)))) fun v15 g13 r14 => (if am_inr v15 (r14 fM_unitNode).1 = true then (if am_inr ((r14 fM_unitNode).2 (v15 : Int32).toNatClampNeg) (r14 fM_value).1 = true then (if am_inr ((g13 fM_open) - 1) (r14 fM_unit).1 = true then (if am_inr ((g13 fM_open) - 1) (r14 fM_function).1 = true then (fn_n (ev L xs m d nM_to [.ref cM, .int 1] g13 (a2_ua (a2_ua (a2_ua r14 fM_value ((r14 fM_value).1, (upd (r14 fM_value).2 (((r14 fM_unitNode).2 (v15 : Int32).toNatClampNeg) : Int32).toNatClampNeg x2))) fM_unit ((r14 fM_unit).1, (upd (r14 fM_unit).2 (((g13 fM_open) - 1) : Int32).toNatClampNeg x2))) fM_function ((r14 fM_function).1, (upd (r14 fM_function).2 (((g13 fM_open) - 1) : Int32).toNatClampNeg (vp_nar .boolean x1))))) fun g16 r17 => (some (.inl none, g16, r17))) else none) else none) else none) else none)) else none)
theorem bM_unitNamed_45 (L : Nat) (xs : Nat → Int32) (m d k : Nat) (n : Nat) (x1 x2 x3 x4 : Int32) (g : a2_G) (r : a2_A) : bk L xs nM_unitNamed nm_m219 m d k (n + 30) 45 [some (.ref cM), some (.int x1), some (.int x2)] [.int x3, .int x4, .ref 10909] g r = BM_unitNamed_45 L xs m d k x1 x2 x3 x4 g r := by
  show _ = ((if am_inr x4 (r fM_kind).1 = true then (fn_v (ev L xs m d nM_here [.ref cM] g (a2_ua r fM_kind ((r fM_kind).1, (upd (r fM_kind).2 (x4 : Int32).toNatClampNeg x3)))) fun v15 g13 r14 => (if am_inr v15 (r14 fM_unitNode).1 = true then (if am_inr ((r14 fM_unitNode).2 (v15 : Int32).toNatClampNeg) (r14 fM_value).1 = true then (if am_inr ((g13 fM_open) - 1) (r14 fM_unit).1 = true then (if am_inr ((g13 fM_open) - 1) (r14 fM_function).1 = true then (fn_n (ev L xs m d nM_to [.ref cM, .int 1] g13 (a2_ua (a2_ua (a2_ua r14 fM_value ((r14 fM_value).1, (upd (r14 fM_value).2 (((r14 fM_unitNode).2 (v15 : Int32).toNatClampNeg) : Int32).toNatClampNeg x2))) fM_unit ((r14 fM_unit).1, (upd (r14 fM_unit).2 (((g13 fM_open) - 1) : Int32).toNatClampNeg x2))) fM_function ((r14 fM_function).1, (upd (r14 fM_function).2 (((g13 fM_open) - 1) : Int32).toNatClampNeg (vp_nar .boolean x1))))) fun g16 r17 => (some (.inl none, g16, r17))) else none) else none) else none) else none)) else none) : Option fn_Z)
  refine (fs_is (n := n + 29) (k := 909) rfl rfl).trans (fs_ite ?_ rfl)
  refine (fs_r (n := n + 24) 5 (pc' := 55) (L' := [some (.ref cM), some (.int x1), some (.int x2)]) (S' := [.ref cM, .ref 10922, .ref 10910]) rfl).trans ?_
  refine (fs_cv (n := n + 23) (N := nm_m181) (as := [.ref cM]) (rest := [.ref 10922, .ref 10910]) rfl rfl (Or.inl rfl) rfl rfl rfl rfl rfl).trans (fs_fv fun v15 g13 r14 => ?_)
  refine (fs_il (n := n + 22) (k := 922) rfl rfl).trans (fs_ite ?_ rfl)
  refine (fs_r (n := n + 21) 1 (pc' := 60) (L' := [some (.ref cM), some (.int x1), some (.int x2)]) (S' := [.int x2, .int ((r14 fM_unitNode).2 (v15 : Int32).toNatClampNeg), .ref 10910]) rfl).trans ?_
  refine (fs_is (n := n + 20) (k := 910) rfl rfl).trans (fs_ite ?_ rfl)
  refine (fs_r (n := n + 13) 7 (pc' := 72) (L' := [some (.ref cM), some (.int x1), some (.int x2)]) (S' := [.int x2, .int ((g13 fM_open) - 1), .ref 10928]) rfl).trans ?_
  refine (fs_is (n := n + 12) (k := 928) rfl rfl).trans (fs_ite ?_ rfl)
  refine (fs_r (n := n + 5) 7 (pc' := 84) (L' := [some (.ref cM), some (.int x1), some (.int x2)]) (S' := [.int x1, .int ((g13 fM_open) - 1), .ref 10930]) rfl).trans ?_
  refine (fs_bs (n := n + 4) (k := 930) rfl rfl).trans (fs_ite ?_ rfl)
  refine (fs_r (n := n + 2) 2 (pc' := 87) (L' := [some (.ref cM), some (.int x1), some (.int x2)]) (S' := [.int 1, .ref cM]) rfl).trans ?_
  refine (fs_cn (n := n + 1) (N := nm_m182) (as := [.ref cM, .int 1]) (rest := []) rfl rfl (Or.inl rfl) rfl rfl rfl rfl rfl).trans (fs_fn fun g16 r17 => ?_)
  exact (fs_rv (n := n + 0) rfl rfl).trans rfl
theorem eM_unitNamed (L : Nat) (xs : Nat → Int32) (m d k : Nat) (n : Nat) (a1 : Int32) (g : a2_G) (r : a2_A) : bk L xs nM_unitNamed nm_m219 m d k (n + 52) 0 [some (.ref cM), some (.int a1), none] [] g r = (fn_v (ev L xs m d nM_mustBe [.ref cM, .int 1] g r) fun v3 g1 r2 => (if am_c2 .ne v3 0 = true then (fn_v (ev L xs m d nM_passed [.ref cM] g1 r2) fun v6 g4 r5 => (fn_v (ev L xs m d nM_mustBe [.ref cM, .int 4] g4 r5) fun v9 g7 r8 => (if am_c2 .ne v9 0 = true then (fn_v (ev L xs m d nM_here [.ref cM] g7 r8) fun v12 g10 r11 => (if am_inr v12 (r11 fM_unitNode).1 = true then (if am_c2 .eq a1 0 = true then (BM_unitNamed_45 L xs m d k a1 v6 1 ((r11 fM_unitNode).2 (v12 : Int32).toNatClampNeg) g10 r11) else (BM_unitNamed_45 L xs m d k a1 v6 2 ((r11 fM_unitNode).2 (v12 : Int32).toNatClampNeg) g10 r11)) else none)) else (some (.inl none, g7, r8))))) else (some (.inl none, g1, r2)))) := by
  refine (fs_r (n := n + 50) 2 (pc' := 2) (L' := [some (.ref cM), some (.int a1), none]) (S' := [.int 1, .ref cM]) rfl).trans ?_
  refine (fs_cv (n := n + 49) (N := nm_m170) (as := [.ref cM, .int 1]) (rest := []) rfl rfl (Or.inl rfl) rfl rfl rfl rfl rfl).trans (fs_fv fun v3 g1 r2 => ?_)
  refine (fs_i (n := n + 48) rfl (t := 9) rfl (by decide)).trans (fs_ite ?_ ?_)
  · skip
    refine (fs_r (n := n + 47) 1 (pc' := 10) (L' := [some (.ref cM), some (.int a1), none]) (S' := [.ref cM]) rfl).trans ?_
    refine (fs_cv (n := n + 46) (N := nm_m171) (as := [.ref cM]) (rest := []) rfl rfl (Or.inl rfl) rfl rfl rfl rfl rfl).trans (fs_fv fun v6 g4 r5 => ?_)
    refine (fs_r (n := n + 43) 3 (pc' := 16) (L' := [some (.ref cM), some (.int a1), some (.int v6)]) (S' := [.int 4, .ref cM]) rfl).trans ?_
    refine (fs_cv (n := n + 42) (N := nm_m170) (as := [.ref cM, .int 4]) (rest := []) rfl rfl (Or.inl rfl) rfl rfl rfl rfl rfl).trans (fs_fv fun v9 g7 r8 => ?_)
    refine (fs_i (n := n + 41) rfl (t := 23) rfl (by decide)).trans (fs_ite ?_ ?_)
    · skip
      refine (fs_r (n := n + 36) 5 (pc' := 32) (L' := [some (.ref cM), some (.int a1), some (.int v6)]) (S' := [.ref cM, .ref 10922, .ref 10909]) rfl).trans ?_
      refine (fs_cv (n := n + 35) (N := nm_m181) (as := [.ref cM]) (rest := [.ref 10922, .ref 10909]) rfl rfl (Or.inl rfl) rfl rfl rfl rfl rfl).trans (fs_fv fun v12 g10 r11 => ?_)
      refine (fs_il (n := n + 34) (k := 922) rfl rfl).trans (fs_ite ?_ rfl)
      refine (fs_r (n := n + 33) 1 (pc' := 37) (L' := [some (.ref cM), some (.int a1), some (.int v6)]) (S' := [.int a1, .int ((r11 fM_unitNode).2 (v12 : Int32).toNatClampNeg), .ref 10909]) rfl).trans ?_
      refine (fs_i (n := n + 32) rfl (t := 44) rfl (by decide)).trans (fs_ite ?_ ?_)
      · skip
        refine (fs_r (n := n + 31) 1 (pc' := 45) (L' := [some (.ref cM), some (.int a1), some (.int v6)]) (S' := [.int 1, .int ((r11 fM_unitNode).2 (v12 : Int32).toNatClampNeg), .ref 10909]) rfl).trans ?_
        exact bM_unitNamed_45 L xs m d k (n + 1) a1 v6 1 ((r11 fM_unitNode).2 (v12 : Int32).toNatClampNeg) g10 r11
      · skip
        refine (fs_r (n := n + 31) 1 (pc' := 41) (L' := [some (.ref cM), some (.int a1), some (.int v6)]) (S' := [.int 2, .int ((r11 fM_unitNode).2 (v12 : Int32).toNatClampNeg), .ref 10909]) rfl).trans ?_
        refine (fs_go (n := n + 30) rfl (t := 45) rfl (by decide)).trans ?_
        exact bM_unitNamed_45 L xs m d k (n + 0) a1 v6 2 ((r11 fM_unitNode).2 (v12 : Int32).toNatClampNeg) g10 r11
    · skip
      exact (fs_rv (n := n + 40) rfl rfl).trans rfl
  · skip
    exact (fs_rv (n := n + 47) rfl rfl).trans rfl
theorem qM_unitNamed (L : Nat) (xs : Nat → Int32) (m d : Nat) (a1 : Int32) (g : a2_G) (r : a2_A) : ev L xs (m + 1) (d + 1) nM_unitNamed [.ref cM, .int a1] g r = (fn_v (ev L xs (m + 1) d nM_mustBe [.ref cM, .int 1] g r) fun v3 g1 r2 => (if am_c2 .ne v3 0 = true then (fn_v (ev L xs (m + 1) d nM_passed [.ref cM] g1 r2) fun v6 g4 r5 => (fn_v (ev L xs (m + 1) d nM_mustBe [.ref cM, .int 4] g4 r5) fun v9 g7 r8 => (if am_c2 .ne v9 0 = true then (fn_v (ev L xs (m + 1) d nM_here [.ref cM] g7 r8) fun v12 g10 r11 => (if am_inr v12 (r11 fM_unitNode).1 = true then (if am_c2 .eq a1 0 = true then (BM_unitNamed_45 L xs (m + 1) d m a1 v6 1 ((r11 fM_unitNode).2 (v12 : Int32).toNatClampNeg) g10 r11) else (BM_unitNamed_45 L xs (m + 1) d m a1 v6 2 ((r11 fM_unitNode).2 (v12 : Int32).toNatClampNeg) g10 r11)) else none)) else (some (.inl none, g7, r8))))) else (some (.inl none, g1, r2)))) := (fs_ev (M := nm_m219) rfl rfl).trans (eM_unitNamed L xs (m + 1) d m 848 a1 g r)
/-- CobolParserModel.select(I)V -/
def BM_select_255 (L : Nat) (xs : Nat → Int32) (m d k : Nat) (x1 x2 x3 x4 : Int32) (g : a2_G) (r : a2_A) : Option fn_Z := (some (.inl none, g, r))
theorem bM_select_255 (L : Nat) (xs : Nat → Int32) (m d k : Nat) (n : Nat) (x1 x2 x3 x4 : Int32) (g : a2_G) (r : a2_A) : bk L xs nM_select nm_m220 m d k (n + 1) 255 [some (.ref cM), some (.int x1), some (.int x2), some (.int x3), some (.int x4), none] [] g r = BM_select_255 L xs m d k x1 x2 x3 x4 g r := by
  show _ = ((some (.inl none, g, r)) : Option fn_Z)
  exact (fs_rv (n := n + 0) rfl rfl).trans rfl
def BM_select_233 (L : Nat) (xs : Nat → Int32) (m d k : Nat) (x1 x2 x3 x4 : Int32) (g : a2_G) (r : a2_A) : Option fn_Z := (fn_v (ev L xs m d nM_mustBe [.ref cM, .int 4] g r) fun v29 g27 r28 => (if am_c2 .eq v29 0 = true then (BM_select_255 L xs m d k x1 x2 x3 x4 g27 r28) else (fn_v (ev L xs m d nM_here [.ref cM] g27 r28) fun v32 g30 r31 => (if am_inr v32 (r31 fM_environment).1 = true then (fn_n (ev L xs m d nM_attach [.ref cM, .int ((r31 fM_environment).2 (v32 : Int32).toNatClampNeg), .int x2] g30 r31) fun g33 r34 => (BM_select_255 L xs m d k x1 x2 x3 x4 g33 r34)) else none))))
theorem bM_select_233 (L : Nat) (xs : Nat → Int32) (m d k : Nat) (n : Nat) (x1 x2 x3 x4 : Int32) (g : a2_G) (r : a2_A) : bk L xs nM_select nm_m220 m d k (n + 13) 233 [some (.ref cM), some (.int x1), some (.int x2), some (.int x3), some (.int x4), none] [] g r = BM_select_233 L xs m d k x1 x2 x3 x4 g r := by
  show _ = ((fn_v (ev L xs m d nM_mustBe [.ref cM, .int 4] g r) fun v29 g27 r28 => (if am_c2 .eq v29 0 = true then (BM_select_255 L xs m d k x1 x2 x3 x4 g27 r28) else (fn_v (ev L xs m d nM_here [.ref cM] g27 r28) fun v32 g30 r31 => (if am_inr v32 (r31 fM_environment).1 = true then (fn_n (ev L xs m d nM_attach [.ref cM, .int ((r31 fM_environment).2 (v32 : Int32).toNatClampNeg), .int x2] g30 r31) fun g33 r34 => (BM_select_255 L xs m d k x1 x2 x3 x4 g33 r34)) else none)))) : Option fn_Z)
  refine (fs_r (n := n + 11) 2 (pc' := 235) (L' := [some (.ref cM), some (.int x1), some (.int x2), some (.int x3), some (.int x4), none]) (S' := [.int 4, .ref cM]) rfl).trans ?_
  refine (fs_cv (n := n + 10) (N := nm_m170) (as := [.ref cM, .int 4]) (rest := []) rfl rfl (Or.inl rfl) rfl rfl rfl rfl rfl).trans (fs_fv fun v29 g27 r28 => ?_)
  refine (fs_i (n := n + 9) rfl (t := 255) rfl (by decide)).trans (fs_ite ?_ ?_)
  · skip
    exact bM_select_255 L xs m d k (n + 8) x1 x2 x3 x4 g27 r28
  · skip
    refine (fs_r (n := n + 5) 4 (pc' := 247) (L' := [some (.ref cM), some (.int x1), some (.int x2), some (.int x3), some (.int x4), none]) (S' := [.ref cM, .ref 10923, .ref cM]) rfl).trans ?_
    refine (fs_cv (n := n + 4) (N := nm_m181) (as := [.ref cM]) (rest := [.ref 10923, .ref cM]) rfl rfl (Or.inl rfl) rfl rfl rfl rfl rfl).trans (fs_fv fun v32 g30 r31 => ?_)
    refine (fs_il (n := n + 3) (k := 923) rfl rfl).trans (fs_ite ?_ rfl)
    refine (fs_r (n := n + 2) 1 (pc' := 252) (L' := [some (.ref cM), some (.int x1), some (.int x2), some (.int x3), some (.int x4), none]) (S' := [.int x2, .int ((r31 fM_environment).2 (v32 : Int32).toNatClampNeg), .ref cM]) rfl).trans ?_
    refine (fs_cn (n := n + 1) (N := nm_m173) (as := [.ref cM, .int ((r31 fM_environment).2 (v32 : Int32).toNatClampNeg), .int x2]) (rest := []) rfl rfl (Or.inl rfl) rfl rfl rfl rfl rfl).trans (fs_fn fun g33 r34 => ?_)
    exact bM_select_255 L xs m d k (n + 0) x1 x2 x3 x4 g33 r34
def BM_select_190 (L : Nat) (xs : Nat → Int32) (m d k : Nat) (x1 x2 x3 x4 : Int32) (g : a2_G) (r : a2_A) : Option fn_Z := (fn_v (ev L xs m d nM_meets [.ref cM, .int 11] g r) fun v26 g24 r25 => (if am_c2 .eq v26 0 = true then (BM_select_233 L xs m d k x1 x2 x3 (g fM_at) g24 r25) else (fn_v (ev L xs m d nM_meets [.ref cM, .int 67] g24 r25) fun v37 g35 r36 => (fn_v (ev L xs m d nM_mustBe [.ref cM, .int 1] g35 r36) fun v40 g38 r39 => (if am_c2 .eq v40 0 = true then (BM_select_233 L xs m d k x1 x2 v37 (g fM_at) g38 r39) else (fn_v (ev L xs m d nM_passed [.ref cM] g38 r39) fun v43 g41 r42 => (fn_n (ev L xs m d nM_child4 [.ref cM, .int x2, .int 6, .int v43, .int (g fM_at)] g41 r42) fun g44 r45 => (BM_select_233 L xs m d k x1 x2 v37 (g fM_at) g44 r45))))))))
theorem bM_select_190 (L : Nat) (xs : Nat → Int32) (m d k : Nat) (n : Nat) (x1 x2 x3 x4 : Int32) (g : a2_G) (r : a2_A) : bk L xs nM_select nm_m220 m d k (n + 35) 190 [some (.ref cM), some (.int x1), some (.int x2), some (.int x3), some (.int x4), none] [] g r = BM_select_190 L xs m d k x1 x2 x3 x4 g r := by
  show _ = ((fn_v (ev L xs m d nM_meets [.ref cM, .int 11] g r) fun v26 g24 r25 => (if am_c2 .eq v26 0 = true then (BM_select_233 L xs m d k x1 x2 x3 (g fM_at) g24 r25) else (fn_v (ev L xs m d nM_meets [.ref cM, .int 67] g24 r25) fun v37 g35 r36 => (fn_v (ev L xs m d nM_mustBe [.ref cM, .int 1] g35 r36) fun v40 g38 r39 => (if am_c2 .eq v40 0 = true then (BM_select_233 L xs m d k x1 x2 v37 (g fM_at) g38 r39) else (fn_v (ev L xs m d nM_passed [.ref cM] g38 r39) fun v43 g41 r42 => (fn_n (ev L xs m d nM_child4 [.ref cM, .int x2, .int 6, .int v43, .int (g fM_at)] g41 r42) fun g44 r45 => (BM_select_233 L xs m d k x1 x2 v37 (g fM_at) g44 r45)))))))) : Option fn_Z)
  refine (fs_r (n := n + 30) 5 (pc' := 199) (L' := [some (.ref cM), some (.int x1), some (.int x2), some (.int x3), some (.int (g fM_at)), none]) (S' := [.int 11, .ref cM]) rfl).trans ?_
  refine (fs_cv (n := n + 29) (N := nm_m169) (as := [.ref cM, .int 11]) (rest := []) rfl rfl (Or.inl rfl) rfl rfl rfl rfl rfl).trans (fs_fv fun v26 g24 r25 => ?_)
  refine (fs_i (n := n + 28) rfl (t := 233) rfl (by decide)).trans (fs_ite ?_ ?_)
  · skip
    exact bM_select_233 L xs m d k (n + 15) x1 x2 x3 (g fM_at) g24 r25
  · skip
    refine (fs_r (n := n + 26) 2 (pc' := 208) (L' := [some (.ref cM), some (.int x1), some (.int x2), some (.int x3), some (.int (g fM_at)), none]) (S' := [.int 67, .ref cM]) rfl).trans ?_
    refine (fs_cv (n := n + 25) (N := nm_m169) (as := [.ref cM, .int 67]) (rest := []) rfl rfl (Or.inl rfl) rfl rfl rfl rfl rfl).trans (fs_fv fun v37 g35 r36 => ?_)
    refine (fs_r (n := n + 22) 3 (pc' := 214) (L' := [some (.ref cM), some (.int x1), some (.int x2), some (.int v37), some (.int (g fM_at)), none]) (S' := [.int 1, .ref cM]) rfl).trans ?_
    refine (fs_cv (n := n + 21) (N := nm_m170) (as := [.ref cM, .int 1]) (rest := []) rfl rfl (Or.inl rfl) rfl rfl rfl rfl rfl).trans (fs_fv fun v40 g38 r39 => ?_)
    refine (fs_i (n := n + 20) rfl (t := 233) rfl (by decide)).trans (fs_ite ?_ ?_)
    · skip
      exact bM_select_233 L xs m d k (n + 7) x1 x2 v37 (g fM_at) g38 r39
    · skip
      refine (fs_r (n := n + 16) 4 (pc' := 225) (L' := [some (.ref cM), some (.int x1), some (.int x2), some (.int v37), some (.int (g fM_at)), none]) (S' := [.ref cM, .int 6, .int x2, .ref cM]) rfl).trans ?_
      refine (fs_cv (n := n + 15) (N := nm_m171) (as := [.ref cM]) (rest := [.int 6, .int x2, .ref cM]) rfl rfl (Or.inl rfl) rfl rfl rfl rfl rfl).trans (fs_fv fun v43 g41 r42 => ?_)
      refine (fs_r (n := n + 14) 1 (pc' := 230) (L' := [some (.ref cM), some (.int x1), some (.int x2), some (.int v37), some (.int (g fM_at)), none]) (S' := [.int (g fM_at), .int v43, .int 6, .int x2, .ref cM]) rfl).trans ?_
      refine (fs_cn (n := n + 13) (N := nm_m172) (as := [.ref cM, .int x2, .int 6, .int v43, .int (g fM_at)]) (rest := []) rfl rfl (Or.inl rfl) rfl rfl rfl rfl rfl).trans (fs_fn fun g44 r45 => ?_)
      exact bM_select_233 L xs m d k (n + 0) x1 x2 v37 (g fM_at) g44 r45
def BM_select_255_1 (L : Nat) (xs : Nat → Int32) (m d k : Nat) (x1 x2 x3 x4 x5 : Int32) (g : a2_G) (r : a2_A) : Option fn_Z := (some (.inl none, g, r))
theorem bM_select_255_1 (L : Nat) (xs : Nat → Int32) (m d k : Nat) (n : Nat) (x1 x2 x3 x4 x5 : Int32) (g : a2_G) (r : a2_A) : bk L xs nM_select nm_m220 m d k (n + 1) 255 [some (.ref cM), some (.int x1), some (.int x2), some (.int x3), some (.int x4), some (.int x5)] [] g r = BM_select_255_1 L xs m d k x1 x2 x3 x4 x5 g r := by
  show _ = ((some (.inl none, g, r)) : Option fn_Z)
  exact (fs_rv (n := n + 0) rfl rfl).trans rfl
def BM_select_233_1 (L : Nat) (xs : Nat → Int32) (m d k : Nat) (x1 x2 x3 x4 x5 : Int32) (g : a2_G) (r : a2_A) : Option fn_Z := (fn_v (ev L xs m d nM_mustBe [.ref cM, .int 4] g r) fun v60 g58 r59 => (if am_c2 .eq v60 0 = true then (BM_select_255_1 L xs m d k x1 x2 x3 x4 x5 g58 r59) else (fn_v (ev L xs m d nM_here [.ref cM] g58 r59) fun v63 g61 r62 => (if am_inr v63 (r62 fM_environment).1 = true then (fn_n (ev L xs m d nM_attach [.ref cM, .int ((r62 fM_environment).2 (v63 : Int32).toNatClampNeg), .int x2] g61 r62) fun g64 r65 => (BM_select_255_1 L xs m d k x1 x2 x3 x4 x5 g64 r65)) else none))))
theorem bM_select_233_1 (L : Nat) (xs : Nat → Int32) (m d k : Nat) (n : Nat) (x1 x2 x3 x4 x5 : Int32) (g : a2_G) (r : a2_A) : bk L xs nM_select nm_m220 m d k (n + 13) 233 [some (.ref cM), some (.int x1), some (.int x2), some (.int x3), some (.int x4), some (.int x5)] [] g r = BM_select_233_1 L xs m d k x1 x2 x3 x4 x5 g r := by
  show _ = ((fn_v (ev L xs m d nM_mustBe [.ref cM, .int 4] g r) fun v60 g58 r59 => (if am_c2 .eq v60 0 = true then (BM_select_255_1 L xs m d k x1 x2 x3 x4 x5 g58 r59) else (fn_v (ev L xs m d nM_here [.ref cM] g58 r59) fun v63 g61 r62 => (if am_inr v63 (r62 fM_environment).1 = true then (fn_n (ev L xs m d nM_attach [.ref cM, .int ((r62 fM_environment).2 (v63 : Int32).toNatClampNeg), .int x2] g61 r62) fun g64 r65 => (BM_select_255_1 L xs m d k x1 x2 x3 x4 x5 g64 r65)) else none)))) : Option fn_Z)
  refine (fs_r (n := n + 11) 2 (pc' := 235) (L' := [some (.ref cM), some (.int x1), some (.int x2), some (.int x3), some (.int x4), some (.int x5)]) (S' := [.int 4, .ref cM]) rfl).trans ?_
  refine (fs_cv (n := n + 10) (N := nm_m170) (as := [.ref cM, .int 4]) (rest := []) rfl rfl (Or.inl rfl) rfl rfl rfl rfl rfl).trans (fs_fv fun v60 g58 r59 => ?_)
  refine (fs_i (n := n + 9) rfl (t := 255) rfl (by decide)).trans (fs_ite ?_ ?_)
  · skip
    exact bM_select_255_1 L xs m d k (n + 8) x1 x2 x3 x4 x5 g58 r59
  · skip
    refine (fs_r (n := n + 5) 4 (pc' := 247) (L' := [some (.ref cM), some (.int x1), some (.int x2), some (.int x3), some (.int x4), some (.int x5)]) (S' := [.ref cM, .ref 10923, .ref cM]) rfl).trans ?_
    refine (fs_cv (n := n + 4) (N := nm_m181) (as := [.ref cM]) (rest := [.ref 10923, .ref cM]) rfl rfl (Or.inl rfl) rfl rfl rfl rfl rfl).trans (fs_fv fun v63 g61 r62 => ?_)
    refine (fs_il (n := n + 3) (k := 923) rfl rfl).trans (fs_ite ?_ rfl)
    refine (fs_r (n := n + 2) 1 (pc' := 252) (L' := [some (.ref cM), some (.int x1), some (.int x2), some (.int x3), some (.int x4), some (.int x5)]) (S' := [.int x2, .int ((r62 fM_environment).2 (v63 : Int32).toNatClampNeg), .ref cM]) rfl).trans ?_
    refine (fs_cn (n := n + 1) (N := nm_m173) (as := [.ref cM, .int ((r62 fM_environment).2 (v63 : Int32).toNatClampNeg), .int x2]) (rest := []) rfl rfl (Or.inl rfl) rfl rfl rfl rfl rfl).trans (fs_fn fun g64 r65 => ?_)
    exact bM_select_255_1 L xs m d k (n + 0) x1 x2 x3 x4 x5 g64 r65
def BM_select_190_1 (L : Nat) (xs : Nat → Int32) (m d k : Nat) (x1 x2 x3 x4 x5 : Int32) (g : a2_G) (r : a2_A) : Option fn_Z := (fn_v (ev L xs m d nM_meets [.ref cM, .int 11] g r) fun v57 g55 r56 => (if am_c2 .eq v57 0 = true then (BM_select_233_1 L xs m d k x1 x2 x3 (g fM_at) x5 g55 r56) else (fn_v (ev L xs m d nM_meets [.ref cM, .int 67] g55 r56) fun v68 g66 r67 => (fn_v (ev L xs m d nM_mustBe [.ref cM, .int 1] g66 r67) fun v71 g69 r70 => (if am_c2 .eq v71 0 = true then (BM_select_233_1 L xs m d k x1 x2 v68 (g fM_at) x5 g69 r70) else (fn_v (ev L xs m d nM_passed [.ref cM] g69 r70) fun v74 g72 r73 => (fn_n (ev L xs m d nM_child4 [.ref cM, .int x2, .int 6, .int v74, .int (g fM_at)] g72 r73) fun g75 r76 => (BM_select_233_1 L xs m d k x1 x2 v68 (g fM_at) x5 g75 r76))))))))
theorem bM_select_190_1 (L : Nat) (xs : Nat → Int32) (m d k : Nat) (n : Nat) (x1 x2 x3 x4 x5 : Int32) (g : a2_G) (r : a2_A) : bk L xs nM_select nm_m220 m d k (n + 35) 190 [some (.ref cM), some (.int x1), some (.int x2), some (.int x3), some (.int x4), some (.int x5)] [] g r = BM_select_190_1 L xs m d k x1 x2 x3 x4 x5 g r := by
  show _ = ((fn_v (ev L xs m d nM_meets [.ref cM, .int 11] g r) fun v57 g55 r56 => (if am_c2 .eq v57 0 = true then (BM_select_233_1 L xs m d k x1 x2 x3 (g fM_at) x5 g55 r56) else (fn_v (ev L xs m d nM_meets [.ref cM, .int 67] g55 r56) fun v68 g66 r67 => (fn_v (ev L xs m d nM_mustBe [.ref cM, .int 1] g66 r67) fun v71 g69 r70 => (if am_c2 .eq v71 0 = true then (BM_select_233_1 L xs m d k x1 x2 v68 (g fM_at) x5 g69 r70) else (fn_v (ev L xs m d nM_passed [.ref cM] g69 r70) fun v74 g72 r73 => (fn_n (ev L xs m d nM_child4 [.ref cM, .int x2, .int 6, .int v74, .int (g fM_at)] g72 r73) fun g75 r76 => (BM_select_233_1 L xs m d k x1 x2 v68 (g fM_at) x5 g75 r76)))))))) : Option fn_Z)
  refine (fs_r (n := n + 30) 5 (pc' := 199) (L' := [some (.ref cM), some (.int x1), some (.int x2), some (.int x3), some (.int (g fM_at)), some (.int x5)]) (S' := [.int 11, .ref cM]) rfl).trans ?_
  refine (fs_cv (n := n + 29) (N := nm_m169) (as := [.ref cM, .int 11]) (rest := []) rfl rfl (Or.inl rfl) rfl rfl rfl rfl rfl).trans (fs_fv fun v57 g55 r56 => ?_)
  refine (fs_i (n := n + 28) rfl (t := 233) rfl (by decide)).trans (fs_ite ?_ ?_)
  · skip
    exact bM_select_233_1 L xs m d k (n + 15) x1 x2 x3 (g fM_at) x5 g55 r56
  · skip
    refine (fs_r (n := n + 26) 2 (pc' := 208) (L' := [some (.ref cM), some (.int x1), some (.int x2), some (.int x3), some (.int (g fM_at)), some (.int x5)]) (S' := [.int 67, .ref cM]) rfl).trans ?_
    refine (fs_cv (n := n + 25) (N := nm_m169) (as := [.ref cM, .int 67]) (rest := []) rfl rfl (Or.inl rfl) rfl rfl rfl rfl rfl).trans (fs_fv fun v68 g66 r67 => ?_)
    refine (fs_r (n := n + 22) 3 (pc' := 214) (L' := [some (.ref cM), some (.int x1), some (.int x2), some (.int v68), some (.int (g fM_at)), some (.int x5)]) (S' := [.int 1, .ref cM]) rfl).trans ?_
    refine (fs_cv (n := n + 21) (N := nm_m170) (as := [.ref cM, .int 1]) (rest := []) rfl rfl (Or.inl rfl) rfl rfl rfl rfl rfl).trans (fs_fv fun v71 g69 r70 => ?_)
    refine (fs_i (n := n + 20) rfl (t := 233) rfl (by decide)).trans (fs_ite ?_ ?_)
    · skip
      exact bM_select_233_1 L xs m d k (n + 7) x1 x2 v68 (g fM_at) x5 g69 r70
    · skip
      refine (fs_r (n := n + 16) 4 (pc' := 225) (L' := [some (.ref cM), some (.int x1), some (.int x2), some (.int v68), some (.int (g fM_at)), some (.int x5)]) (S' := [.ref cM, .int 6, .int x2, .ref cM]) rfl).trans ?_
      refine (fs_cv (n := n + 15) (N := nm_m171) (as := [.ref cM]) (rest := [.int 6, .int x2, .ref cM]) rfl rfl (Or.inl rfl) rfl rfl rfl rfl rfl).trans (fs_fv fun v74 g72 r73 => ?_)
      refine (fs_r (n := n + 14) 1 (pc' := 230) (L' := [some (.ref cM), some (.int x1), some (.int x2), some (.int v68), some (.int (g fM_at)), some (.int x5)]) (S' := [.int (g fM_at), .int v74, .int 6, .int x2, .ref cM]) rfl).trans ?_
      refine (fs_cn (n := n + 13) (N := nm_m172) (as := [.ref cM, .int x2, .int 6, .int v74, .int (g fM_at)]) (rest := []) rfl rfl (Or.inl rfl) rfl rfl rfl rfl rfl).trans (fs_fn fun g75 r76 => ?_)
      exact bM_select_233_1 L xs m d k (n + 0) x1 x2 v68 (g fM_at) x5 g75 r76
def BM_select_162 (L : Nat) (xs : Nat → Int32) (m d k : Nat) (x1 x2 x3 x4 x5 : Int32) (g : a2_G) (r : a2_A) : Option fn_Z := (if am_c2 .eq x5 0 = true then (fn_v (ev L xs m d nM_fail [.ref cM, .int 1, .int (g fM_at)] g r) fun v54 g52 r53 => (BM_select_190_1 L xs m d k x1 x2 x3 x4 x5 g52 r53)) else (BM_select_190_1 L xs m d k x1 x2 x3 x4 x5 (upd g fM_at ((g fM_at) + 1)) r))
theorem bM_select_162 (L : Nat) (xs : Nat → Int32) (m d k : Nat) (n : Nat) (x1 x2 x3 x4 x5 : Int32) (g : a2_G) (r : a2_A) : bk L xs nM_select nm_m220 m d k (n + 44) 162 [some (.ref cM), some (.int x1), some (.int x2), some (.int x3), some (.int x4), some (.int x5)] [] g r = BM_select_162 L xs m d k x1 x2 x3 x4 x5 g r := by
  show _ = ((if am_c2 .eq x5 0 = true then (fn_v (ev L xs m d nM_fail [.ref cM, .int 1, .int (g fM_at)] g r) fun v54 g52 r53 => (BM_select_190_1 L xs m d k x1 x2 x3 x4 x5 g52 r53)) else (BM_select_190_1 L xs m d k x1 x2 x3 x4 x5 (upd g fM_at ((g fM_at) + 1)) r)) : Option fn_Z)
  refine (fs_r (n := n + 43) 1 (pc' := 164) (L' := [some (.ref cM), some (.int x1), some (.int x2), some (.int x3), some (.int x4), some (.int x5)]) (S' := [.int x5]) rfl).trans ?_
  refine (fs_i (n := n + 42) rfl (t := 180) rfl (by decide)).trans (fs_ite ?_ ?_)
  · skip
    refine (fs_r (n := n + 38) 4 (pc' := 186) (L' := [some (.ref cM), some (.int x1), some (.int x2), some (.int x3), some (.int x4), some (.int x5)]) (S' := [.int (g fM_at), .int 1, .ref cM]) rfl).trans ?_
    refine (fs_cv (n := n + 37) (N := nm_m164) (as := [.ref cM, .int 1, .int (g fM_at)]) (rest := []) rfl rfl (Or.inl rfl) rfl rfl rfl rfl rfl).trans (fs_fv fun v54 g52 r53 => ?_)
    refine (fs_r (n := n + 36) 1 (pc' := 190) (L' := [some (.ref cM), some (.int x1), some (.int x2), some (.int x3), some (.int x4), some (.int x5)]) (S' := []) rfl).trans ?_
    exact bM_select_190_1 L xs m d k (n + 1) x1 x2 x3 x4 x5 g52 r53
  · skip
    refine (fs_r (n := n + 37) 5 (pc' := 174) (L' := [some (.ref cM), some (.int x1), some (.int x2), some (.int x3), some (.int x4), some (.int x5)]) (S' := [.int ((g fM_at) + 1), .ref cM]) rfl).trans ?_
    refine (fs_pf (n := n + 36) (ci := 9) (j := 41) rfl rfl rfl rfl).trans ?_
    refine (fs_go (n := n + 35) rfl (t := 190) rfl (by decide)).trans ?_
    exact bM_select_190_1 L xs m d k (n + 0) x1 x2 x3 x4 x5 (upd g fM_at ((g fM_at) + 1)) r
def BM_select_135 (L : Nat) (xs : Nat → Int32) (m d k : Nat) (x1 x2 x3 x4 x5 : Int32) (g : a2_G) (r : a2_A) : Option fn_Z := (if am_c2 .eq x5 0 = true then (BM_select_162 L xs m d k x1 x2 x3 x4 x5 g r) else (if am_inr (g fM_at) (r fM_values).1 = true then (fn_n (ev L xs m d nM_child4 [.ref cM, .int x2, .int 5, .int (((r fM_values).2 ((g fM_at) : Int32).toNatClampNeg) - 8), .int x4] g r) fun g77 r78 => (BM_select_162 L xs m d k x1 x2 x3 x4 x5 g77 r78)) else none))
theorem bM_select_135 (L : Nat) (xs : Nat → Int32) (m d k : Nat) (n : Nat) (x1 x2 x3 x4 x5 : Int32) (g : a2_G) (r : a2_A) : bk L xs nM_select nm_m220 m d k (n + 59) 135 [some (.ref cM), some (.int x1), some (.int x2), some (.int x3), some (.int x4), none] [.int x5] g r = BM_select_135 L xs m d k x1 x2 x3 x4 x5 g r := by
  show _ = ((if am_c2 .eq x5 0 = true then (BM_select_162 L xs m d k x1 x2 x3 x4 x5 g r) else (if am_inr (g fM_at) (r fM_values).1 = true then (fn_n (ev L xs m d nM_child4 [.ref cM, .int x2, .int 5, .int (((r fM_values).2 ((g fM_at) : Int32).toNatClampNeg) - 8), .int x4] g r) fun g77 r78 => (BM_select_162 L xs m d k x1 x2 x3 x4 x5 g77 r78)) else none)) : Option fn_Z)
  refine (fs_r (n := n + 57) 2 (pc' := 139) (L' := [some (.ref cM), some (.int x1), some (.int x2), some (.int x3), some (.int x4), some (.int x5)]) (S' := [.int x5]) rfl).trans ?_
  refine (fs_i (n := n + 56) rfl (t := 162) rfl (by decide)).trans (fs_ite ?_ ?_)
  · skip
    exact bM_select_162 L xs m d k (n + 12) x1 x2 x3 x4 x5 g r
  · skip
    refine (fs_r (n := n + 49) 7 (pc' := 153) (L' := [some (.ref cM), some (.int x1), some (.int x2), some (.int x3), some (.int x4), some (.int x5)]) (S' := [.int (g fM_at), .ref 10903, .int 5, .int x2, .ref cM]) rfl).trans ?_
    refine (fs_il (n := n + 48) (k := 903) rfl rfl).trans (fs_ite ?_ rfl)
    refine (fs_r (n := n + 45) 3 (pc' := 159) (L' := [some (.ref cM), some (.int x1), some (.int x2), some (.int x3), some (.int x4), some (.int x5)]) (S' := [.int x4, .int (((r fM_values).2 ((g fM_at) : Int32).toNatClampNeg) - 8), .int 5, .int x2, .ref cM]) rfl).trans ?_
    refine (fs_cn (n := n + 44) (N := nm_m172) (as := [.ref cM, .int x2, .int 5, .int (((r fM_values).2 ((g fM_at) : Int32).toNatClampNeg) - 8), .int x4]) (rest := []) rfl rfl (Or.inl rfl) rfl rfl rfl rfl rfl).trans (fs_fn fun g77 r78 => ?_)
    exact bM_select_162 L xs m d k (n + 0) x1 x2 x3 x4 x5 g77 r78
def BM_select_134 (L : Nat) (xs : Nat → Int32) (m d k : Nat) (x1 x2 x3 x4 : Int32) (g : a2_G) (r : a2_A) : Option fn_Z := (BM_select_135 L xs m d k x1 x2 x3 x4 0 g r)
theorem bM_select_134 (L : Nat) (xs : Nat → Int32) (m d k : Nat) (n : Nat) (x1 x2 x3 x4 : Int32) (g : a2_G) (r : a2_A) : bk L xs nM_select nm_m220 m d k (n + 60) 134 [some (.ref cM), some (.int x1), some (.int x2), some (.int x3), some (.int x4), none] [] g r = BM_select_134 L xs m d k x1 x2 x3 x4 g r := by
  show _ = ((BM_select_135 L xs m d k x1 x2 x3 x4 0 g r) : Option fn_Z)
  refine (fs_r (n := n + 59) 1 (pc' := 135) (L' := [some (.ref cM), some (.int x1), some (.int x2), some (.int x3), some (.int x4), none]) (S' := [.int 0]) rfl).trans ?_
  exact bM_select_135 L xs m d k (n + 0) x1 x2 x3 x4 0 g r
def BM_select_72 (L : Nat) (xs : Nat → Int32) (m d k : Nat) (x1 x2 x3 : Int32) (g : a2_G) (r : a2_A) : Option fn_Z := (fn_n (ev L xs m d nM_operandOf [.ref cM, .int x2] g r) fun g19 r20 => (fn_v (ev L xs m d nM_meets [.ref cM, .int 7] g19 r20) fun v23 g21 r22 => (if am_c2 .eq v23 0 = true then (BM_select_190 L xs m d k x1 x2 x3 (g19 fM_at) g21 r22) else (fn_v (ev L xs m d nM_meets [.ref cM, .int 67] g21 r22) fun v48 g46 r47 => (fn_v (ev L xs m d nM_isKind [.ref cM, .int (g46 fM_at), .int 0] g46 r47) fun v51 g49 r50 => (if am_c2 .eq v51 0 = true then (BM_select_134 L xs m d k x1 x2 v48 (g19 fM_at) g49 r50) else (if am_inr (g49 fM_at) (r50 fM_values).1 = true then (fn_v (ev L xs m d nM_in [.int ((r50 fM_values).2 ((g49 fM_at) : Int32).toNatClampNeg), .int 8, .int 10] g49 r50) fun v81 g79 r80 => (if am_c2 .eq v81 0 = true then (BM_select_134 L xs m d k x1 x2 v48 (g19 fM_at) g79 r80) else (BM_select_135 L xs m d k x1 x2 v48 (g19 fM_at) 1 g79 r80))) else none)))))))
theorem bM_select_72 (L : Nat) (xs : Nat → Int32) (m d k : Nat) (n : Nat) (x1 x2 x3 : Int32) (g : a2_G) (r : a2_A) : bk L xs nM_select nm_m220 m d k (n + 90) 72 [some (.ref cM), some (.int x1), some (.int x2), some (.int x3), none, none] [] g r = BM_select_72 L xs m d k x1 x2 x3 g r := by
  show _ = ((fn_n (ev L xs m d nM_operandOf [.ref cM, .int x2] g r) fun g19 r20 => (fn_v (ev L xs m d nM_meets [.ref cM, .int 7] g19 r20) fun v23 g21 r22 => (if am_c2 .eq v23 0 = true then (BM_select_190 L xs m d k x1 x2 x3 (g19 fM_at) g21 r22) else (fn_v (ev L xs m d nM_meets [.ref cM, .int 67] g21 r22) fun v48 g46 r47 => (fn_v (ev L xs m d nM_isKind [.ref cM, .int (g46 fM_at), .int 0] g46 r47) fun v51 g49 r50 => (if am_c2 .eq v51 0 = true then (BM_select_134 L xs m d k x1 x2 v48 (g19 fM_at) g49 r50) else (if am_inr (g49 fM_at) (r50 fM_values).1 = true then (fn_v (ev L xs m d nM_in [.int ((r50 fM_values).2 ((g49 fM_at) : Int32).toNatClampNeg), .int 8, .int 10] g49 r50) fun v81 g79 r80 => (if am_c2 .eq v81 0 = true then (BM_select_134 L xs m d k x1 x2 v48 (g19 fM_at) g79 r80) else (BM_select_135 L xs m d k x1 x2 v48 (g19 fM_at) 1 g79 r80))) else none))))))) : Option fn_Z)
  refine (fs_r (n := n + 88) 2 (pc' := 74) (L' := [some (.ref cM), some (.int x1), some (.int x2), some (.int x3), none, none]) (S' := [.int x2, .ref cM]) rfl).trans ?_
  refine (fs_cn (n := n + 87) (N := nm_m175) (as := [.ref cM, .int x2]) (rest := []) rfl rfl (Or.inl rfl) rfl rfl rfl rfl rfl).trans (fs_fn fun g19 r20 => ?_)
  refine (fs_r (n := n + 82) 5 (pc' := 86) (L' := [some (.ref cM), some (.int x1), some (.int x2), some (.int x3), some (.int (g19 fM_at)), none]) (S' := [.int 7, .ref cM]) rfl).trans ?_
  refine (fs_cv (n := n + 81) (N := nm_m169) (as := [.ref cM, .int 7]) (rest := []) rfl rfl (Or.inl rfl) rfl rfl rfl rfl rfl).trans (fs_fv fun v23 g21 r22 => ?_)
  refine (fs_i (n := n + 80) rfl (t := 190) rfl (by decide)).trans (fs_ite ?_ ?_)
  · skip
    exact bM_select_190 L xs m d k (n + 45) x1 x2 x3 (g19 fM_at) g21 r22
  · skip
    refine (fs_r (n := n + 78) 2 (pc' := 95) (L' := [some (.ref cM), some (.int x1), some (.int x2), some (.int x3), some (.int (g19 fM_at)), none]) (S' := [.int 67, .ref cM]) rfl).trans ?_
    refine (fs_cv (n := n + 77) (N := nm_m169) (as := [.ref cM, .int 67]) (rest := []) rfl rfl (Or.inl rfl) rfl rfl rfl rfl rfl).trans (fs_fv fun v48 g46 r47 => ?_)
    refine (fs_r (n := n + 72) 5 (pc' := 105) (L' := [some (.ref cM), some (.int x1), some (.int x2), some (.int v48), some (.int (g19 fM_at)), none]) (S' := [.int 0, .int (g46 fM_at), .ref cM]) rfl).trans ?_
    refine (fs_cv (n := n + 71) (N := nm_m166) (as := [.ref cM, .int (g46 fM_at), .int 0]) (rest := []) rfl rfl (Or.inl rfl) rfl rfl rfl rfl rfl).trans (fs_fv fun v51 g49 r50 => ?_)
    refine (fs_i (n := n + 70) rfl (t := 134) rfl (by decide)).trans (fs_ite ?_ ?_)
    · skip
      exact bM_select_134 L xs m d k (n + 10) x1 x2 v48 (g19 fM_at) g49 r50
    · skip
      refine (fs_r (n := n + 66) 4 (pc' := 119) (L' := [some (.ref cM), some (.int x1), some (.int x2), some (.int v48), some (.int (g19 fM_at)), none]) (S' := [.int (g49 fM_at), .ref 10903]) rfl).trans ?_
      refine (fs_il (n := n + 65) (k := 903) rfl rfl).trans (fs_ite ?_ rfl)
      refine (fs_r (n := n + 63) 2 (pc' := 124) (L' := [some (.ref cM), some (.int x1), some (.int x2), some (.int v48), some (.int (g19 fM_at)), none]) (S' := [.int 10, .int 8, .int ((r50 fM_values).2 ((g49 fM_at) : Int32).toNatClampNeg)]) rfl).trans ?_
      refine (fs_sv (n := n + 62) (N := nm_m158) (as := [.int ((r50 fM_values).2 ((g49 fM_at) : Int32).toNatClampNeg), .int 8, .int 10]) (rest := []) rfl rfl (by decide) rfl rfl rfl rfl rfl).trans (fs_fv fun v81 g79 r80 => ?_)
      refine (fs_i (n := n + 61) rfl (t := 134) rfl (by decide)).trans (fs_ite ?_ ?_)
      · skip
        exact bM_select_134 L xs m d k (n + 1) x1 x2 v48 (g19 fM_at) g79 r80
      · skip
        refine (fs_r (n := n + 60) 1 (pc' := 131) (L' := [some (.ref cM), some (.int x1), some (.int x2), some (.int v48), some (.int (g19 fM_at)), none]) (S' := [.int 1]) rfl).trans ?_
        refine (fs_go (n := n + 59) rfl (t := 135) rfl (by decide)).trans ?_
        exact bM_select_135 L xs m d k (n + 0) x1 x2 v48 (g19 fM_at) 1 g79 r80
theorem eM_select (L : Nat) (xs : Nat → Int32) (m d k : Nat) (n : Nat) (a1 : Int32) (g : a2_G) (r : a2_A) : bk L xs nM_select nm_m220 m d k (n + 121) 0 [some (.ref cM), some (.int a1), none, none, none, none] [] g r = (fn_v (ev L xs m d nM_mustBe [.ref cM, .int 1] g r) fun v3 g1 r2 => (if am_c2 .ne v3 0 = true then (fn_v (ev L xs m d nM_passed [.ref cM] g1 r2) fun v6 g4 r5 => (fn_v (ev L xs m d nM_make [.ref cM, .int 4, .int v6, .int a1] g4 r5) fun v9 g7 r8 => (fn_v (ev L xs m d nM_must [.ref cM, .int 6] g7 r8) fun v12 g10 r11 => (if am_c2 .ne v12 0 = true then (fn_v (ev L xs m d nM_meets [.ref cM, .int 48] g10 r11) fun v15 g13 r14 => (fn_v (ev L xs m d nM_isKind [.ref cM, .int (g13 fM_at), .int 1] g13 r14) fun v18 g16 r17 => (if am_c2 .ne v18 0 = true then (BM_select_72 L xs m d k a1 v9 v15 g16 r17) else (fn_v (ev L xs m d nM_isKind [.ref cM, .int (g16 fM_at), .int 3] g16 r17) fun v84 g82 r83 => (if am_c2 .ne v84 0 = true then (BM_select_72 L xs m d k a1 v9 v15 g82 r83) else (fn_v (ev L xs m d nM_fail [.ref cM, .int 1, .int (g82 fM_at)] g82 r83) fun v87 g85 r86 => (some (.inl none, g85, r86)))))))) else (some (.inl none, g10, r11)))))) else (some (.inl none, g1, r2)))) := by
  refine (fs_r (n := n + 119) 2 (pc' := 2) (L' := [some (.ref cM), some (.int a1), none, none, none, none]) (S' := [.int 1, .ref cM]) rfl).trans ?_
  refine (fs_cv (n := n + 118) (N := nm_m170) (as := [.ref cM, .int 1]) (rest := []) rfl rfl (Or.inl rfl) rfl rfl rfl rfl rfl).trans (fs_fv fun v3 g1 r2 => ?_)
  refine (fs_i (n := n + 117) rfl (t := 9) rfl (by decide)).trans (fs_ite ?_ ?_)
  · skip
    refine (fs_r (n := n + 114) 3 (pc' := 12) (L' := [some (.ref cM), some (.int a1), none, none, none, none]) (S' := [.ref cM, .int 4, .ref cM]) rfl).trans ?_
    refine (fs_cv (n := n + 113) (N := nm_m171) (as := [.ref cM]) (rest := [.int 4, .ref cM]) rfl rfl (Or.inl rfl) rfl rfl rfl rfl rfl).trans (fs_fv fun v6 g4 r5 => ?_)
    refine (fs_r (n := n + 112) 1 (pc' := 16) (L' := [some (.ref cM), some (.int a1), none, none, none, none]) (S' := [.int a1, .int v6, .int 4, .ref cM]) rfl).trans ?_
    refine (fs_cv (n := n + 111) (N := nm_m160) (as := [.ref cM, .int 4, .int v6, .int a1]) (rest := []) rfl rfl (Or.inl rfl) rfl rfl rfl rfl rfl).trans (fs_fv fun v9 g7 r8 => ?_)
    refine (fs_r (n := n + 108) 3 (pc' := 23) (L' := [some (.ref cM), some (.int a1), some (.int v9), none, none, none]) (S' := [.int 6, .ref cM]) rfl).trans ?_
    refine (fs_cv (n := n + 107) (N := nm_m191) (as := [.ref cM, .int 6]) (rest := []) rfl rfl (Or.inl rfl) rfl rfl rfl rfl rfl).trans (fs_fv fun v12 g10 r11 => ?_)
    refine (fs_i (n := n + 106) rfl (t := 30) rfl (by decide)).trans (fs_ite ?_ ?_)
    · skip
      refine (fs_r (n := n + 104) 2 (pc' := 33) (L' := [some (.ref cM), some (.int a1), some (.int v9), none, none, none]) (S' := [.int 48, .ref cM]) rfl).trans ?_
      refine (fs_cv (n := n + 103) (N := nm_m169) (as := [.ref cM, .int 48]) (rest := []) rfl rfl (Or.inl rfl) rfl rfl rfl rfl rfl).trans (fs_fv fun v15 g13 r14 => ?_)
      refine (fs_r (n := n + 98) 5 (pc' := 43) (L' := [some (.ref cM), some (.int a1), some (.int v9), some (.int v15), none, none]) (S' := [.int 1, .int (g13 fM_at), .ref cM]) rfl).trans ?_
      refine (fs_cv (n := n + 97) (N := nm_m166) (as := [.ref cM, .int (g13 fM_at), .int 1]) (rest := []) rfl rfl (Or.inl rfl) rfl rfl rfl rfl rfl).trans (fs_fv fun v18 g16 r17 => ?_)
      refine (fs_i (n := n + 96) rfl (t := 72) rfl (by decide)).trans (fs_ite ?_ ?_)
      · skip
        exact bM_select_72 L xs m d k (n + 6) a1 v9 v15 g16 r17
      · skip
        refine (fs_r (n := n + 92) 4 (pc' := 55) (L' := [some (.ref cM), some (.int a1), some (.int v9), some (.int v15), none, none]) (S' := [.int 3, .int (g16 fM_at), .ref cM]) rfl).trans ?_
        refine (fs_cv (n := n + 91) (N := nm_m166) (as := [.ref cM, .int (g16 fM_at), .int 3]) (rest := []) rfl rfl (Or.inl rfl) rfl rfl rfl rfl rfl).trans (fs_fv fun v84 g82 r83 => ?_)
        refine (fs_i (n := n + 90) rfl (t := 72) rfl (by decide)).trans (fs_ite ?_ ?_)
        · skip
          exact bM_select_72 L xs m d k (n + 0) a1 v9 v15 g82 r83
        · skip
          refine (fs_r (n := n + 86) 4 (pc' := 67) (L' := [some (.ref cM), some (.int a1), some (.int v9), some (.int v15), none, none]) (S' := [.int (g82 fM_at), .int 1, .ref cM]) rfl).trans ?_
          refine (fs_cv (n := n + 85) (N := nm_m164) (as := [.ref cM, .int 1, .int (g82 fM_at)]) (rest := []) rfl rfl (Or.inl rfl) rfl rfl rfl rfl rfl).trans (fs_fv fun v87 g85 r86 => ?_)
          refine (fs_r (n := n + 84) 1 (pc' := 71) (L' := [some (.ref cM), some (.int a1), some (.int v9), some (.int v15), none, none]) (S' := []) rfl).trans ?_
          exact (fs_rv (n := n + 83) rfl rfl).trans rfl
    · skip
      exact (fs_rv (n := n + 105) rfl rfl).trans rfl
  · skip
    exact (fs_rv (n := n + 116) rfl rfl).trans rfl
theorem qM_select (L : Nat) (xs : Nat → Int32) (m d : Nat) (a1 : Int32) (g : a2_G) (r : a2_A) : ev L xs (m + 1) (d + 1) nM_select [.ref cM, .int a1] g r = (fn_v (ev L xs (m + 1) d nM_mustBe [.ref cM, .int 1] g r) fun v3 g1 r2 => (if am_c2 .ne v3 0 = true then (fn_v (ev L xs (m + 1) d nM_passed [.ref cM] g1 r2) fun v6 g4 r5 => (fn_v (ev L xs (m + 1) d nM_make [.ref cM, .int 4, .int v6, .int a1] g4 r5) fun v9 g7 r8 => (fn_v (ev L xs (m + 1) d nM_must [.ref cM, .int 6] g7 r8) fun v12 g10 r11 => (if am_c2 .ne v12 0 = true then (fn_v (ev L xs (m + 1) d nM_meets [.ref cM, .int 48] g10 r11) fun v15 g13 r14 => (fn_v (ev L xs (m + 1) d nM_isKind [.ref cM, .int (g13 fM_at), .int 1] g13 r14) fun v18 g16 r17 => (if am_c2 .ne v18 0 = true then (BM_select_72 L xs (m + 1) d m a1 v9 v15 g16 r17) else (fn_v (ev L xs (m + 1) d nM_isKind [.ref cM, .int (g16 fM_at), .int 3] g16 r17) fun v84 g82 r83 => (if am_c2 .ne v84 0 = true then (BM_select_72 L xs (m + 1) d m a1 v9 v15 g82 r83) else (fn_v (ev L xs (m + 1) d nM_fail [.ref cM, .int 1, .int (g82 fM_at)] g82 r83) fun v87 g85 r86 => (some (.inl none, g85, r86)))))))) else (some (.inl none, g10, r11)))))) else (some (.inl none, g1, r2)))) := (fs_ev (M := nm_m220) rfl rfl).trans (eM_select L xs (m + 1) d m 779 a1 g r)
/-- CobolParserModel.described(I)V -/
theorem eM_described (L : Nat) (xs : Nat → Int32) (m d k : Nat) (n : Nat) (a1 : Int32) (g : a2_G) (r : a2_A) : bk L xs nM_described nm_m221 m d k (n + 33) 0 [some (.ref cM), some (.int a1), none] [] g r = (fn_v (ev L xs m d nM_mustBe [.ref cM, .int 1] g r) fun v3 g1 r2 => (if am_c2 .ne v3 0 = true then (fn_v (ev L xs m d nM_passed [.ref cM] g1 r2) fun v6 g4 r5 => (fn_v (ev L xs m d nM_make [.ref cM, .int 11, .int v6, .int a1] g4 r5) fun v9 g7 r8 => (fn_v (ev L xs m d nM_mustBe [.ref cM, .int 4] g7 r8) fun v12 g10 r11 => (if am_c2 .ne v12 0 = true then (fn_n (ev L xs m d nM_attach [.ref cM, .int (g10 fM_files), .int v9] g10 r11) fun g13 r14 => (fn_n (ev L xs m d nM_to [.ref cM, .int 5] (upd (upd (upd g13 fM_holder v9) fM_items 0) fM_latest 0) r14) fun g15 r16 => (some (.inl none, g15, r16)))) else (some (.inl none, g10, r11)))))) else (some (.inl none, g1, r2)))) := by
  refine (fs_r (n := n + 31) 2 (pc' := 2) (L' := [some (.ref cM), some (.int a1), none]) (S' := [.int 1, .ref cM]) rfl).trans ?_
  refine (fs_cv (n := n + 30) (N := nm_m170) (as := [.ref cM, .int 1]) (rest := []) rfl rfl (Or.inl rfl) rfl rfl rfl rfl rfl).trans (fs_fv fun v3 g1 r2 => ?_)
  refine (fs_i (n := n + 29) rfl (t := 9) rfl (by decide)).trans (fs_ite ?_ ?_)
  · skip
    refine (fs_r (n := n + 26) 3 (pc' := 13) (L' := [some (.ref cM), some (.int a1), none]) (S' := [.ref cM, .int 11, .ref cM]) rfl).trans ?_
    refine (fs_cv (n := n + 25) (N := nm_m171) (as := [.ref cM]) (rest := [.int 11, .ref cM]) rfl rfl (Or.inl rfl) rfl rfl rfl rfl rfl).trans (fs_fv fun v6 g4 r5 => ?_)
    refine (fs_r (n := n + 24) 1 (pc' := 17) (L' := [some (.ref cM), some (.int a1), none]) (S' := [.int a1, .int v6, .int 11, .ref cM]) rfl).trans ?_
    refine (fs_cv (n := n + 23) (N := nm_m160) (as := [.ref cM, .int 11, .int v6, .int a1]) (rest := []) rfl rfl (Or.inl rfl) rfl rfl rfl rfl rfl).trans (fs_fv fun v9 g7 r8 => ?_)
    refine (fs_r (n := n + 20) 3 (pc' := 23) (L' := [some (.ref cM), some (.int a1), some (.int v9)]) (S' := [.int 4, .ref cM]) rfl).trans ?_
    refine (fs_cv (n := n + 19) (N := nm_m170) (as := [.ref cM, .int 4]) (rest := []) rfl rfl (Or.inl rfl) rfl rfl rfl rfl rfl).trans (fs_fv fun v12 g10 r11 => ?_)
    refine (fs_i (n := n + 18) rfl (t := 30) rfl (by decide)).trans (fs_ite ?_ ?_)
    · skip
      refine (fs_r (n := n + 14) 4 (pc' := 36) (L' := [some (.ref cM), some (.int a1), some (.int v9)]) (S' := [.int v9, .int (g10 fM_files), .ref cM]) rfl).trans ?_
      refine (fs_cn (n := n + 13) (N := nm_m173) (as := [.ref cM, .int (g10 fM_files), .int v9]) (rest := []) rfl rfl (Or.inl rfl) rfl rfl rfl rfl rfl).trans (fs_fn fun g13 r14 => ?_)
      refine (fs_r (n := n + 11) 2 (pc' := 41) (L' := [some (.ref cM), some (.int a1), some (.int v9)]) (S' := [.int v9, .ref cM]) rfl).trans ?_
      refine (fs_pf (n := n + 10) (ci := 9) (j := 33) rfl rfl rfl rfl).trans ?_
      refine (fs_r (n := n + 8) 2 (pc' := 46) (L' := [some (.ref cM), some (.int a1), some (.int v9)]) (S' := [.int 0, .ref cM]) rfl).trans ?_
      refine (fs_pf (n := n + 7) (ci := 9) (j := 37) rfl rfl rfl rfl).trans ?_
      refine (fs_r (n := n + 5) 2 (pc' := 51) (L' := [some (.ref cM), some (.int a1), some (.int v9)]) (S' := [.int 0, .ref cM]) rfl).trans ?_
      refine (fs_pf (n := n + 4) (ci := 9) (j := 38) rfl rfl rfl rfl).trans ?_
      refine (fs_r (n := n + 2) 2 (pc' := 56) (L' := [some (.ref cM), some (.int a1), some (.int v9)]) (S' := [.int 5, .ref cM]) rfl).trans ?_
      refine (fs_cn (n := n + 1) (N := nm_m182) (as := [.ref cM, .int 5]) (rest := []) rfl rfl (Or.inl rfl) rfl rfl rfl rfl rfl).trans (fs_fn fun g15 r16 => ?_)
      exact (fs_rv (n := n + 0) rfl rfl).trans rfl
    · skip
      exact (fs_rv (n := n + 17) rfl rfl).trans rfl
  · skip
    exact (fs_rv (n := n + 28) rfl rfl).trans rfl
theorem qM_described (L : Nat) (xs : Nat → Int32) (m d : Nat) (a1 : Int32) (g : a2_G) (r : a2_A) : ev L xs (m + 1) (d + 1) nM_described [.ref cM, .int a1] g r = (fn_v (ev L xs (m + 1) d nM_mustBe [.ref cM, .int 1] g r) fun v3 g1 r2 => (if am_c2 .ne v3 0 = true then (fn_v (ev L xs (m + 1) d nM_passed [.ref cM] g1 r2) fun v6 g4 r5 => (fn_v (ev L xs (m + 1) d nM_make [.ref cM, .int 11, .int v6, .int a1] g4 r5) fun v9 g7 r8 => (fn_v (ev L xs (m + 1) d nM_mustBe [.ref cM, .int 4] g7 r8) fun v12 g10 r11 => (if am_c2 .ne v12 0 = true then (fn_n (ev L xs (m + 1) d nM_attach [.ref cM, .int (g10 fM_files), .int v9] g10 r11) fun g13 r14 => (fn_n (ev L xs (m + 1) d nM_to [.ref cM, .int 5] (upd (upd (upd g13 fM_holder v9) fM_items 0) fM_latest 0) r14) fun g15 r16 => (some (.inl none, g15, r16)))) else (some (.inl none, g10, r11)))))) else (some (.inl none, g1, r2)))) := (fs_ev (M := nm_m221) rfl rfl).trans (eM_described L xs (m + 1) d m 867 a1 g r)
/-- CobolParserModel.begun(I)V -/
def BM_begun_34 (L : Nat) (xs : Nat → Int32) (m d k : Nat) (x1 x2 : Int32) (g : a2_G) (r : a2_A) : Option fn_Z := (fn_v (ev L xs m d nM_mustBe [.ref cM, .int 4] g r) fun v12 g10 r11 => (if am_c2 .ne v12 0 = true then (fn_v (ev L xs m d nM_here [.ref cM] g10 r11) fun v15 g13 r14 => (if am_inr v15 (r14 fM_unitNode).1 = true then (fn_n (ev L xs m d nM_attach [.ref cM, .int ((r14 fM_unitNode).2 (v15 : Int32).toNatClampNeg), .int x2] g13 r14) fun g16 r17 => (fn_v (ev L xs m d nM_here [.ref cM] g16 r17) fun v20 g18 r19 => (if am_inr v20 (r19 fM_procedure).1 = true then (fn_n (ev L xs m d nM_to [.ref cM, .int 8] (upd (upd (upd g18 fM_section 0) fM_paragraph 0) fM_declaratives 0) (a2_ua r19 fM_procedure ((r19 fM_procedure).1, (upd (r19 fM_procedure).2 (v20 : Int32).toNatClampNeg x2)))) fun g21 r22 => (some (.inl none, g21, r22))) else none))) else none)) else (some (.inl none, g10, r11))))
theorem bM_begun_34 (L : Nat) (xs : Nat → Int32) (m d k : Nat) (n : Nat) (x1 x2 : Int32) (g : a2_G) (r : a2_A) : bk L xs nM_begun nm_m222 m d k (n + 31) 34 [some (.ref cM), some (.int x1), some (.int x2)] [] g r = BM_begun_34 L xs m d k x1 x2 g r := by
  show _ = ((fn_v (ev L xs m d nM_mustBe [.ref cM, .int 4] g r) fun v12 g10 r11 => (if am_c2 .ne v12 0 = true then (fn_v (ev L xs m d nM_here [.ref cM] g10 r11) fun v15 g13 r14 => (if am_inr v15 (r14 fM_unitNode).1 = true then (fn_n (ev L xs m d nM_attach [.ref cM, .int ((r14 fM_unitNode).2 (v15 : Int32).toNatClampNeg), .int x2] g13 r14) fun g16 r17 => (fn_v (ev L xs m d nM_here [.ref cM] g16 r17) fun v20 g18 r19 => (if am_inr v20 (r19 fM_procedure).1 = true then (fn_n (ev L xs m d nM_to [.ref cM, .int 8] (upd (upd (upd g18 fM_section 0) fM_paragraph 0) fM_declaratives 0) (a2_ua r19 fM_procedure ((r19 fM_procedure).1, (upd (r19 fM_procedure).2 (v20 : Int32).toNatClampNeg x2)))) fun g21 r22 => (some (.inl none, g21, r22))) else none))) else none)) else (some (.inl none, g10, r11)))) : Option fn_Z)
  refine (fs_r (n := n + 29) 2 (pc' := 36) (L' := [some (.ref cM), some (.int x1), some (.int x2)]) (S' := [.int 4, .ref cM]) rfl).trans ?_
  refine (fs_cv (n := n + 28) (N := nm_m170) (as := [.ref cM, .int 4]) (rest := []) rfl rfl (Or.inl rfl) rfl rfl rfl rfl rfl).trans (fs_fv fun v12 g10 r11 => ?_)
  refine (fs_i (n := n + 27) rfl (t := 43) rfl (by decide)).trans (fs_ite ?_ ?_)
  · skip
    refine (fs_r (n := n + 23) 4 (pc' := 49) (L' := [some (.ref cM), some (.int x1), some (.int x2)]) (S' := [.ref cM, .ref 10922, .ref cM]) rfl).trans ?_
    refine (fs_cv (n := n + 22) (N := nm_m181) (as := [.ref cM]) (rest := [.ref 10922, .ref cM]) rfl rfl (Or.inl rfl) rfl rfl rfl rfl rfl).trans (fs_fv fun v15 g13 r14 => ?_)
    refine (fs_il (n := n + 21) (k := 922) rfl rfl).trans (fs_ite ?_ rfl)
    refine (fs_r (n := n + 20) 1 (pc' := 54) (L' := [some (.ref cM), some (.int x1), some (.int x2)]) (S' := [.int x2, .int ((r14 fM_unitNode).2 (v15 : Int32).toNatClampNeg), .ref cM]) rfl).trans ?_
    refine (fs_cn (n := n + 19) (N := nm_m173) (as := [.ref cM, .int ((r14 fM_unitNode).2 (v15 : Int32).toNatClampNeg), .int x2]) (rest := []) rfl rfl (Or.inl rfl) rfl rfl rfl rfl rfl).trans (fs_fn fun g16 r17 => ?_)
    refine (fs_r (n := n + 16) 3 (pc' := 62) (L' := [some (.ref cM), some (.int x1), some (.int x2)]) (S' := [.ref cM, .ref 10925]) rfl).trans ?_
    refine (fs_cv (n := n + 15) (N := nm_m181) (as := [.ref cM]) (rest := [.ref 10925]) rfl rfl (Or.inl rfl) rfl rfl rfl rfl rfl).trans (fs_fv fun v20 g18 r19 => ?_)
    refine (fs_r (n := n + 14) 1 (pc' := 66) (L' := [some (.ref cM), some (.int x1), some (.int x2)]) (S' := [.int x2, .int v20, .ref 10925]) rfl).trans ?_
    refine (fs_is (n := n + 13) (k := 925) rfl rfl).trans (fs_ite ?_ rfl)
    refine (fs_r (n := n + 11) 2 (pc' := 69) (L' := [some (.ref cM), some (.int x1), some (.int x2)]) (S' := [.int 0, .ref cM]) rfl).trans ?_
    refine (fs_pf (n := n + 10) (ci := 9) (j := 35) rfl rfl rfl rfl).trans ?_
    refine (fs_r (n := n + 8) 2 (pc' := 74) (L' := [some (.ref cM), some (.int x1), some (.int x2)]) (S' := [.int 0, .ref cM]) rfl).trans ?_
    refine (fs_pf (n := n + 7) (ci := 9) (j := 36) rfl rfl rfl rfl).trans ?_
    refine (fs_r (n := n + 5) 2 (pc' := 79) (L' := [some (.ref cM), some (.int x1), some (.int x2)]) (S' := [.int 0, .ref cM]) rfl).trans ?_
    refine (fs_pf (n := n + 4) (ci := 9) (j := 34) rfl rfl rfl rfl).trans ?_
    refine (fs_r (n := n + 2) 2 (pc' := 85) (L' := [some (.ref cM), some (.int x1), some (.int x2)]) (S' := [.int 8, .ref cM]) rfl).trans ?_
    refine (fs_cn (n := n + 1) (N := nm_m182) (as := [.ref cM, .int 8]) (rest := []) rfl rfl (Or.inl rfl) rfl rfl rfl rfl rfl).trans (fs_fn fun g21 r22 => ?_)
    exact (fs_rv (n := n + 0) rfl rfl).trans rfl
  · skip
    exact (fs_rv (n := n + 26) rfl rfl).trans rfl
theorem eM_begun (L : Nat) (xs : Nat → Int32) (m d k : Nat) (n : Nat) (a1 : Int32) (g : a2_G) (r : a2_A) : bk L xs nM_begun nm_m222 m d k (n + 49) 0 [some (.ref cM), some (.int a1), none] [] g r = (fn_v (ev L xs m d nM_must [.ref cM, .int 1] g r) fun v3 g1 r2 => (if am_c2 .ne v3 0 = true then (fn_v (ev L xs m d nM_make [.ref cM, .int 20, .int 0, .int a1] g1 r2) fun v6 g4 r5 => (fn_v (ev L xs m d nM_meets [.ref cM, .int 31] g4 r5) fun v9 g7 r8 => (if am_c2 .eq v9 0 = true then (BM_begun_34 L xs m d k a1 v6 g7 r8) else (fn_n (ev L xs m d nM_names [.ref cM, .int v6, .int 21] g7 r8) fun g23 r24 => (BM_begun_34 L xs m d k a1 v6 g23 r24))))) else (some (.inl none, g1, r2)))) := by
  refine (fs_r (n := n + 47) 2 (pc' := 2) (L' := [some (.ref cM), some (.int a1), none]) (S' := [.int 1, .ref cM]) rfl).trans ?_
  refine (fs_cv (n := n + 46) (N := nm_m191) (as := [.ref cM, .int 1]) (rest := []) rfl rfl (Or.inl rfl) rfl rfl rfl rfl rfl).trans (fs_fv fun v3 g1 r2 => ?_)
  refine (fs_i (n := n + 45) rfl (t := 9) rfl (by decide)).trans (fs_ite ?_ ?_)
  · skip
    refine (fs_r (n := n + 41) 4 (pc' := 14) (L' := [some (.ref cM), some (.int a1), none]) (S' := [.int a1, .int 0, .int 20, .ref cM]) rfl).trans ?_
    refine (fs_cv (n := n + 40) (N := nm_m160) (as := [.ref cM, .int 20, .int 0, .int a1]) (rest := []) rfl rfl (Or.inl rfl) rfl rfl rfl rfl rfl).trans (fs_fv fun v6 g4 r5 => ?_)
    refine (fs_r (n := n + 37) 3 (pc' := 21) (L' := [some (.ref cM), some (.int a1), some (.int v6)]) (S' := [.int 31, .ref cM]) rfl).trans ?_
    refine (fs_cv (n := n + 36) (N := nm_m169) (as := [.ref cM, .int 31]) (rest := []) rfl rfl (Or.inl rfl) rfl rfl rfl rfl rfl).trans (fs_fv fun v9 g7 r8 => ?_)
    refine (fs_i (n := n + 35) rfl (t := 34) rfl (by decide)).trans (fs_ite ?_ ?_)
    · skip
      exact bM_begun_34 L xs m d k (n + 4) a1 v6 g7 r8
    · skip
      refine (fs_r (n := n + 32) 3 (pc' := 31) (L' := [some (.ref cM), some (.int a1), some (.int v6)]) (S' := [.int 21, .int v6, .ref cM]) rfl).trans ?_
      refine (fs_cn (n := n + 31) (N := nm_m179) (as := [.ref cM, .int v6, .int 21]) (rest := []) rfl rfl (Or.inl rfl) rfl rfl rfl rfl rfl).trans (fs_fn fun g23 r24 => ?_)
      exact bM_begun_34 L xs m d k (n + 0) a1 v6 g23 r24
  · skip
    exact (fs_rv (n := n + 44) rfl rfl).trans rfl
theorem qM_begun (L : Nat) (xs : Nat → Int32) (m d : Nat) (a1 : Int32) (g : a2_G) (r : a2_A) : ev L xs (m + 1) (d + 1) nM_begun [.ref cM, .int a1] g r = (fn_v (ev L xs (m + 1) d nM_must [.ref cM, .int 1] g r) fun v3 g1 r2 => (if am_c2 .ne v3 0 = true then (fn_v (ev L xs (m + 1) d nM_make [.ref cM, .int 20, .int 0, .int a1] g1 r2) fun v6 g4 r5 => (fn_v (ev L xs (m + 1) d nM_meets [.ref cM, .int 31] g4 r5) fun v9 g7 r8 => (if am_c2 .eq v9 0 = true then (BM_begun_34 L xs (m + 1) d m a1 v6 g7 r8) else (fn_n (ev L xs (m + 1) d nM_names [.ref cM, .int v6, .int 21] g7 r8) fun g23 r24 => (BM_begun_34 L xs (m + 1) d m a1 v6 g23 r24))))) else (some (.inl none, g1, r2)))) := (fs_ev (M := nm_m222) rfl rfl).trans (eM_begun L xs (m + 1) d m 851 a1 g r)
/-- CobolParserModel.ended(I)V -/
def BM_ended_169 (L : Nat) (xs : Nat → Int32) (m d k : Nat) (x1 x2 x3 : Int32) (g : a2_G) (r : a2_A) : Option fn_Z := (some (.inl none, (upd g fM_open ((g fM_open) - 1)), r))
theorem bM_ended_169 (L : Nat) (xs : Nat → Int32) (m d k : Nat) (n : Nat) (x1 x2 x3 : Int32) (g : a2_G) (r : a2_A) : bk L xs nM_ended nm_m223 m d k (n + 7) 169 [some (.ref cM), some (.int x1), some (.int x2), some (.int x3)] [] g r = BM_ended_169 L xs m d k x1 x2 x3 g r := by
  show _ = ((some (.inl none, (upd g fM_open ((g fM_open) - 1)), r)) : Option fn_Z)
  refine (fs_r (n := n + 2) 5 (pc' := 176) (L' := [some (.ref cM), some (.int x1), some (.int x2), some (.int x3)]) (S' := [.int ((g fM_open) - 1), .ref cM]) rfl).trans ?_
  refine (fs_pf (n := n + 1) (ci := 9) (j := 26) rfl rfl rfl rfl).trans ?_
  exact (fs_rv (n := n + 0) rfl rfl).trans rfl
def BM_ended_78 (L : Nat) (xs : Nat → Int32) (m d k : Nat) (x1 x2 : Int32) (g : a2_G) (r : a2_A) : Option fn_Z := (if am_c2 .ne x2 0 = true then (fn_v (ev L xs m d nM_mustBe [.ref cM, .int 1] (upd g fM_at ((g fM_at) + 1)) r) fun v3 g1 r2 => (if am_c2 .ne v3 0 = true then (fn_v (ev L xs m d nM_mustBe [.ref cM, .int 4] g1 r2) fun v6 g4 r5 => (if am_c2 .ne v6 0 = true then (if am_inr ((g1 fM_at) - 1) (r5 fM_values).1 = true then (if am_inr ((g4 fM_open) - 1) (r5 fM_unit).1 = true then (if am_c2 .eq ((r5 fM_values).2 (((g1 fM_at) - 1) : Int32).toNatClampNeg) ((r5 fM_unit).2 (((g4 fM_open) - 1) : Int32).toNatClampNeg) = true then (BM_ended_169 L xs m d k x1 x2 ((g1 fM_at) - 1) g4 r5) else (fn_n (ev L xs m d nM_note [.ref cM, .int 2, .int ((g1 fM_at) - 1)] g4 r5) fun g7 r8 => (BM_ended_169 L xs m d k x1 x2 ((g1 fM_at) - 1) g7 r8))) else none) else none) else (some (.inl none, g4, r5)))) else (some (.inl none, g1, r2)))) else (fn_v (ev L xs m d nM_mustBe [.ref cM, .int 4] (upd g fM_at ((g fM_at) + 1)) r) fun v11 g9 r10 => (if am_c2 .ne v11 0 = true then (fn_n (ev L xs m d nM_to [.ref cM, .int 10] (upd (upd g9 fM_section 0) fM_paragraph 0) r10) fun g12 r13 => (some (.inl none, g12, r13))) else (some (.inl none, g9, r10)))))
theorem bM_ended_78 (L : Nat) (xs : Nat → Int32) (m d k : Nat) (n : Nat) (x1 x2 : Int32) (g : a2_G) (r : a2_A) : bk L xs nM_ended nm_m223 m d k (n + 44) 78 [some (.ref cM), some (.int x1), some (.int x2), none] [] g r = BM_ended_78 L xs m d k x1 x2 g r := by
  show _ = ((if am_c2 .ne x2 0 = true then (fn_v (ev L xs m d nM_mustBe [.ref cM, .int 1] (upd g fM_at ((g fM_at) + 1)) r) fun v3 g1 r2 => (if am_c2 .ne v3 0 = true then (fn_v (ev L xs m d nM_mustBe [.ref cM, .int 4] g1 r2) fun v6 g4 r5 => (if am_c2 .ne v6 0 = true then (if am_inr ((g1 fM_at) - 1) (r5 fM_values).1 = true then (if am_inr ((g4 fM_open) - 1) (r5 fM_unit).1 = true then (if am_c2 .eq ((r5 fM_values).2 (((g1 fM_at) - 1) : Int32).toNatClampNeg) ((r5 fM_unit).2 (((g4 fM_open) - 1) : Int32).toNatClampNeg) = true then (BM_ended_169 L xs m d k x1 x2 ((g1 fM_at) - 1) g4 r5) else (fn_n (ev L xs m d nM_note [.ref cM, .int 2, .int ((g1 fM_at) - 1)] g4 r5) fun g7 r8 => (BM_ended_169 L xs m d k x1 x2 ((g1 fM_at) - 1) g7 r8))) else none) else none) else (some (.inl none, g4, r5)))) else (some (.inl none, g1, r2)))) else (fn_v (ev L xs m d nM_mustBe [.ref cM, .int 4] (upd g fM_at ((g fM_at) + 1)) r) fun v11 g9 r10 => (if am_c2 .ne v11 0 = true then (fn_n (ev L xs m d nM_to [.ref cM, .int 10] (upd (upd g9 fM_section 0) fM_paragraph 0) r10) fun g12 r13 => (some (.inl none, g12, r13))) else (some (.inl none, g9, r10))))) : Option fn_Z)
  refine (fs_r (n := n + 39) 5 (pc' := 85) (L' := [some (.ref cM), some (.int x1), some (.int x2), none]) (S' := [.int ((g fM_at) + 1), .ref cM]) rfl).trans ?_
  refine (fs_pf (n := n + 38) (ci := 9) (j := 41) rfl rfl rfl rfl).trans ?_
  refine (fs_r (n := n + 37) 1 (pc' := 89) (L' := [some (.ref cM), some (.int x1), some (.int x2), none]) (S' := [.int x2]) rfl).trans ?_
  refine (fs_i (n := n + 36) rfl (t := 118) rfl (by decide)).trans (fs_ite ?_ ?_)
  · skip
    refine (fs_r (n := n + 34) 2 (pc' := 120) (L' := [some (.ref cM), some (.int x1), some (.int x2), none]) (S' := [.int 1, .ref cM]) rfl).trans ?_
    refine (fs_cv (n := n + 33) (N := nm_m170) (as := [.ref cM, .int 1]) (rest := []) rfl rfl (Or.inl rfl) rfl rfl rfl rfl rfl).trans (fs_fv fun v3 g1 r2 => ?_)
    refine (fs_i (n := n + 32) rfl (t := 127) rfl (by decide)).trans (fs_ite ?_ ?_)
    · skip
      refine (fs_r (n := n + 25) 7 (pc' := 136) (L' := [some (.ref cM), some (.int x1), some (.int x2), some (.int ((g1 fM_at) - 1))]) (S' := [.int 4, .ref cM]) rfl).trans ?_
      refine (fs_cv (n := n + 24) (N := nm_m170) (as := [.ref cM, .int 4]) (rest := []) rfl rfl (Or.inl rfl) rfl rfl rfl rfl rfl).trans (fs_fv fun v6 g4 r5 => ?_)
      refine (fs_i (n := n + 23) rfl (t := 143) rfl (by decide)).trans (fs_ite ?_ ?_)
      · skip
        refine (fs_r (n := n + 20) 3 (pc' := 148) (L' := [some (.ref cM), some (.int x1), some (.int x2), some (.int ((g1 fM_at) - 1))]) (S' := [.int ((g1 fM_at) - 1), .ref 10903]) rfl).trans ?_
        refine (fs_il (n := n + 19) (k := 903) rfl rfl).trans (fs_ite ?_ rfl)
        refine (fs_r (n := n + 13) 6 (pc' := 159) (L' := [some (.ref cM), some (.int x1), some (.int x2), some (.int ((g1 fM_at) - 1))]) (S' := [.int ((g4 fM_open) - 1), .ref 10928, .int ((r5 fM_values).2 (((g1 fM_at) - 1) : Int32).toNatClampNeg)]) rfl).trans ?_
        refine (fs_il (n := n + 12) (k := 928) rfl rfl).trans (fs_ite ?_ rfl)
        refine (fs_j (n := n + 11) rfl (t := 169) rfl (by decide)).trans (fs_ite ?_ ?_)
        · skip
          exact bM_ended_169 L xs m d k (n + 4) x1 x2 ((g1 fM_at) - 1) g4 r5
        · skip
          refine (fs_r (n := n + 8) 3 (pc' := 166) (L' := [some (.ref cM), some (.int x1), some (.int x2), some (.int ((g1 fM_at) - 1))]) (S' := [.int ((g1 fM_at) - 1), .int 2, .ref cM]) rfl).trans ?_
          refine (fs_cn (n := n + 7) (N := nm_m165) (as := [.ref cM, .int 2, .int ((g1 fM_at) - 1)]) (rest := []) rfl rfl (Or.inl rfl) rfl rfl rfl rfl rfl).trans (fs_fn fun g7 r8 => ?_)
          exact bM_ended_169 L xs m d k (n + 0) x1 x2 ((g1 fM_at) - 1) g7 r8
      · skip
        exact (fs_rv (n := n + 22) rfl rfl).trans rfl
    · skip
      exact (fs_rv (n := n + 31) rfl rfl).trans rfl
  · skip
    refine (fs_r (n := n + 34) 2 (pc' := 94) (L' := [some (.ref cM), some (.int x1), some (.int x2), none]) (S' := [.int 4, .ref cM]) rfl).trans ?_
    refine (fs_cv (n := n + 33) (N := nm_m170) (as := [.ref cM, .int 4]) (rest := []) rfl rfl (Or.inl rfl) rfl rfl rfl rfl rfl).trans (fs_fv fun v11 g9 r10 => ?_)
    refine (fs_i (n := n + 32) rfl (t := 101) rfl (by decide)).trans (fs_ite ?_ ?_)
    · skip
      refine (fs_r (n := n + 30) 2 (pc' := 103) (L' := [some (.ref cM), some (.int x1), some (.int x2), none]) (S' := [.int 0, .ref cM]) rfl).trans ?_
      refine (fs_pf (n := n + 29) (ci := 9) (j := 35) rfl rfl rfl rfl).trans ?_
      refine (fs_r (n := n + 27) 2 (pc' := 108) (L' := [some (.ref cM), some (.int x1), some (.int x2), none]) (S' := [.int 0, .ref cM]) rfl).trans ?_
      refine (fs_pf (n := n + 26) (ci := 9) (j := 36) rfl rfl rfl rfl).trans ?_
      refine (fs_r (n := n + 24) 2 (pc' := 114) (L' := [some (.ref cM), some (.int x1), some (.int x2), none]) (S' := [.int 10, .ref cM]) rfl).trans ?_
      refine (fs_cn (n := n + 23) (N := nm_m182) (as := [.ref cM, .int 10]) (rest := []) rfl rfl (Or.inl rfl) rfl rfl rfl rfl rfl).trans (fs_fn fun g12 r13 => ?_)
      exact (fs_rv (n := n + 22) rfl rfl).trans rfl
    · skip
      exact (fs_rv (n := n + 31) rfl rfl).trans rfl
def BM_ended_67 (L : Nat) (xs : Nat → Int32) (m d k : Nat) (x1 x2 : Int32) (g : a2_G) (r : a2_A) : Option fn_Z := (fn_v (ev L xs m d nM_fail [.ref cM, .int 1, .int (g fM_at)] g r) fun v16 g14 r15 => (some (.inl none, g14, r15)))
theorem bM_ended_67 (L : Nat) (xs : Nat → Int32) (m d k : Nat) (n : Nat) (x1 x2 : Int32) (g : a2_G) (r : a2_A) : bk L xs nM_ended nm_m223 m d k (n + 7) 67 [some (.ref cM), some (.int x1), some (.int x2), none] [] g r = BM_ended_67 L xs m d k x1 x2 g r := by
  show _ = ((fn_v (ev L xs m d nM_fail [.ref cM, .int 1, .int (g fM_at)] g r) fun v16 g14 r15 => (some (.inl none, g14, r15))) : Option fn_Z)
  refine (fs_r (n := n + 3) 4 (pc' := 73) (L' := [some (.ref cM), some (.int x1), some (.int x2), none]) (S' := [.int (g fM_at), .int 1, .ref cM]) rfl).trans ?_
  refine (fs_cv (n := n + 2) (N := nm_m164) (as := [.ref cM, .int 1, .int (g fM_at)]) (rest := []) rfl rfl (Or.inl rfl) rfl rfl rfl rfl rfl).trans (fs_fv fun v16 g14 r15 => ?_)
  refine (fs_r (n := n + 1) 1 (pc' := 77) (L' := [some (.ref cM), some (.int x1), some (.int x2), none]) (S' := []) rfl).trans ?_
  exact (fs_rv (n := n + 0) rfl rfl).trans rfl
def BM_ended_43 (L : Nat) (xs : Nat → Int32) (m d k : Nat) (x1 x2 : Int32) (g : a2_G) (r : a2_A) : Option fn_Z := (if am_c2 .ne x2 0 = true then (BM_ended_78 L xs m d k x1 x2 g r) else (if am_c2 .ne x1 9 = true then (BM_ended_67 L xs m d k x1 x2 g r) else (fn_v (ev L xs m d nM_isWord [.ref cM, .int (g fM_at), .int 32] g r) fun v19 g17 r18 => (if am_c2 .ne v19 0 = true then (BM_ended_78 L xs m d k x1 x2 g17 r18) else (BM_ended_67 L xs m d k x1 x2 g17 r18)))))
theorem bM_ended_43 (L : Nat) (xs : Nat → Int32) (m d k : Nat) (n : Nat) (x1 x2 : Int32) (g : a2_G) (r : a2_A) : bk L xs nM_ended nm_m223 m d k (n + 56) 43 [some (.ref cM), some (.int x1), none, none] [.int x2] g r = BM_ended_43 L xs m d k x1 x2 g r := by
  show _ = ((if am_c2 .ne x2 0 = true then (BM_ended_78 L xs m d k x1 x2 g r) else (if am_c2 .ne x1 9 = true then (BM_ended_67 L xs m d k x1 x2 g r) else (fn_v (ev L xs m d nM_isWord [.ref cM, .int (g fM_at), .int 32] g r) fun v19 g17 r18 => (if am_c2 .ne v19 0 = true then (BM_ended_78 L xs m d k x1 x2 g17 r18) else (BM_ended_67 L xs m d k x1 x2 g17 r18))))) : Option fn_Z)
  refine (fs_r (n := n + 54) 2 (pc' := 45) (L' := [some (.ref cM), some (.int x1), some (.int x2), none]) (S' := [.int x2]) rfl).trans ?_
  refine (fs_i (n := n + 53) rfl (t := 78) rfl (by decide)).trans (fs_ite ?_ ?_)
  · skip
    exact bM_ended_78 L xs m d k (n + 9) x1 x2 g r
  · skip
    refine (fs_r (n := n + 51) 2 (pc' := 51) (L' := [some (.ref cM), some (.int x1), some (.int x2), none]) (S' := [.int 9, .int x1]) rfl).trans ?_
    refine (fs_j (n := n + 50) rfl (t := 67) rfl (by decide)).trans (fs_ite ?_ ?_)
    · skip
      exact bM_ended_67 L xs m d k (n + 43) x1 x2 g r
    · skip
      refine (fs_r (n := n + 46) 4 (pc' := 61) (L' := [some (.ref cM), some (.int x1), some (.int x2), none]) (S' := [.int 32, .int (g fM_at), .ref cM]) rfl).trans ?_
      refine (fs_cv (n := n + 45) (N := nm_m167) (as := [.ref cM, .int (g fM_at), .int 32]) (rest := []) rfl rfl (Or.inl rfl) rfl rfl rfl rfl rfl).trans (fs_fv fun v19 g17 r18 => ?_)
      refine (fs_i (n := n + 44) rfl (t := 78) rfl (by decide)).trans (fs_ite ?_ ?_)
      · skip
        exact bM_ended_78 L xs m d k (n + 0) x1 x2 g17 r18
      · skip
        exact bM_ended_67 L xs m d k (n + 37) x1 x2 g17 r18
def BM_ended_42 (L : Nat) (xs : Nat → Int32) (m d k : Nat) (x1 : Int32) (g : a2_G) (r : a2_A) : Option fn_Z := (BM_ended_43 L xs m d k x1 0 g r)
theorem bM_ended_42 (L : Nat) (xs : Nat → Int32) (m d k : Nat) (n : Nat) (x1 : Int32) (g : a2_G) (r : a2_A) : bk L xs nM_ended nm_m223 m d k (n + 57) 42 [some (.ref cM), some (.int x1), none, none] [] g r = BM_ended_42 L xs m d k x1 g r := by
  show _ = ((BM_ended_43 L xs m d k x1 0 g r) : Option fn_Z)
  refine (fs_r (n := n + 56) 1 (pc' := 43) (L' := [some (.ref cM), some (.int x1), none, none]) (S' := [.int 0]) rfl).trans ?_
  exact bM_ended_43 L xs m d k (n + 0) x1 0 g r
def BM_ended_32 (L : Nat) (xs : Nat → Int32) (m d k : Nat) (x1 x2 x3 : Int32) (g : a2_G) (r : a2_A) : Option fn_Z := (fn_v (ev L xs m d nM_isWord [.ref cM, .int x3, .int x2] g r) fun v22 g20 r21 => (if am_c2 .eq v22 0 = true then (BM_ended_42 L xs m d k x1 g20 r21) else (BM_ended_43 L xs m d k x1 1 g20 r21)))
theorem bM_ended_32 (L : Nat) (xs : Nat → Int32) (m d k : Nat) (n : Nat) (x1 x2 x3 : Int32) (g : a2_G) (r : a2_A) : bk L xs nM_ended nm_m223 m d k (n + 60) 32 [some (.ref cM), some (.int x1), none, none] [.int x2, .int x3, .ref cM] g r = BM_ended_32 L xs m d k x1 x2 x3 g r := by
  show _ = ((fn_v (ev L xs m d nM_isWord [.ref cM, .int x3, .int x2] g r) fun v22 g20 r21 => (if am_c2 .eq v22 0 = true then (BM_ended_42 L xs m d k x1 g20 r21) else (BM_ended_43 L xs m d k x1 1 g20 r21))) : Option fn_Z)
  refine (fs_cv (n := n + 59) (N := nm_m167) (as := [.ref cM, .int x3, .int x2]) (rest := []) rfl rfl (Or.inl rfl) rfl rfl rfl rfl rfl).trans (fs_fv fun v22 g20 r21 => ?_)
  refine (fs_i (n := n + 58) rfl (t := 42) rfl (by decide)).trans (fs_ite ?_ ?_)
  · skip
    exact bM_ended_42 L xs m d k (n + 1) x1 g20 r21
  · skip
    refine (fs_r (n := n + 57) 1 (pc' := 39) (L' := [some (.ref cM), some (.int x1), none, none]) (S' := [.int 1]) rfl).trans ?_
    refine (fs_go (n := n + 56) rfl (t := 43) rfl (by decide)).trans ?_
    exact bM_ended_43 L xs m d k (n + 0) x1 1 g20 r21
theorem eM_ended (L : Nat) (xs : Nat → Int32) (m d k : Nat) (n : Nat) (a1 : Int32) (g : a2_G) (r : a2_A) : bk L xs nM_ended nm_m223 m d k (n + 76) 0 [some (.ref cM), some (.int a1), none, none] [] g r = (if am_c2 .eq a1 9 = true then (BM_ended_42 L xs m d k a1 g r) else (if am_inr ((g fM_open) - 1) (r fM_function).1 = true then (if am_c2 .eq ((r fM_function).2 (((g fM_open) - 1) : Int32).toNatClampNeg) 0 = true then (BM_ended_32 L xs m d k a1 34 (g fM_at) g r) else (BM_ended_32 L xs m d k a1 35 (g fM_at) g r)) else none)) := by
  refine (fs_r (n := n + 74) 2 (pc' := 3) (L' := [some (.ref cM), some (.int a1), none, none]) (S' := [.int 9, .int a1]) rfl).trans ?_
  refine (fs_j (n := n + 73) rfl (t := 42) rfl (by decide)).trans (fs_ite ?_ ?_)
  · skip
    exact bM_ended_42 L xs m d k (n + 16) a1 g r
  · skip
    refine (fs_r (n := n + 64) 9 (pc' := 21) (L' := [some (.ref cM), some (.int a1), none, none]) (S' := [.int ((g fM_open) - 1), .ref 10930, .int (g fM_at), .ref cM]) rfl).trans ?_
    refine (fs_bl (n := n + 63) (k := 930) rfl rfl).trans (fs_ite ?_ rfl)
    refine (fs_i (n := n + 62) rfl (t := 30) rfl (by decide)).trans (fs_ite ?_ ?_)
    · skip
      refine (fs_r (n := n + 61) 1 (pc' := 32) (L' := [some (.ref cM), some (.int a1), none, none]) (S' := [.int 34, .int (g fM_at), .ref cM]) rfl).trans ?_
      exact bM_ended_32 L xs m d k (n + 1) a1 34 (g fM_at) g r
    · skip
      refine (fs_r (n := n + 61) 1 (pc' := 27) (L' := [some (.ref cM), some (.int a1), none, none]) (S' := [.int 35, .int (g fM_at), .ref cM]) rfl).trans ?_
      refine (fs_go (n := n + 60) rfl (t := 32) rfl (by decide)).trans ?_
      exact bM_ended_32 L xs m d k (n + 0) a1 35 (g fM_at) g r
theorem qM_ended (L : Nat) (xs : Nat → Int32) (m d : Nat) (a1 : Int32) (g : a2_G) (r : a2_A) : ev L xs (m + 1) (d + 1) nM_ended [.ref cM, .int a1] g r = (if am_c2 .eq a1 9 = true then (BM_ended_42 L xs (m + 1) d m a1 g r) else (if am_inr ((g fM_open) - 1) (r fM_function).1 = true then (if am_c2 .eq ((r fM_function).2 (((g fM_open) - 1) : Int32).toNatClampNeg) 0 = true then (BM_ended_32 L xs (m + 1) d m a1 34 (g fM_at) g r) else (BM_ended_32 L xs (m + 1) d m a1 35 (g fM_at) g r)) else none)) := (fs_ev (M := nm_m223) rfl rfl).trans (eM_ended L xs (m + 1) d m 824 a1 g r)
/-- CobolParserModel.division2(II)V -/
def BM_division2_42 (L : Nat) (xs : Nat → Int32) (m d k : Nat) (x1 x2 x3 : Int32) (g : a2_G) (r : a2_A) : Option fn_Z := (some (.inl none, g, r))
theorem bM_division2_42 (L : Nat) (xs : Nat → Int32) (m d k : Nat) (n : Nat) (x1 x2 x3 : Int32) (g : a2_G) (r : a2_A) : bk L xs nM_division2 nm_m224 m d k (n + 1) 42 [some (.ref cM), some (.int x1), some (.int x2), some (.int x3), none, none] [] g r = BM_division2_42 L xs m d k x1 x2 x3 g r := by
  show _ = ((some (.inl none, g, r)) : Option fn_Z)
  exact (fs_rv (n := n + 0) rfl rfl).trans rfl
def BM_division2_232 (L : Nat) (xs : Nat → Int32) (m d k : Nat) (x1 x2 x3 x4 x5 x6 : Int32) (g : a2_G) (r : a2_A) : Option fn_Z := (fn_n (ev L xs m d nM_to [.ref cM, .int x6] g r) fun g15 r16 => (some (.inl none, g15, r16)))
theorem bM_division2_232 (L : Nat) (xs : Nat → Int32) (m d k : Nat) (n : Nat) (x1 x2 x3 x4 x5 x6 : Int32) (g : a2_G) (r : a2_A) : bk L xs nM_division2 nm_m224 m d k (n + 2) 232 [some (.ref cM), some (.int x1), some (.int x2), some (.int x3), some (.int x4), some (.int x5)] [.int x6, .ref cM] g r = BM_division2_232 L xs m d k x1 x2 x3 x4 x5 x6 g r := by
  show _ = ((fn_n (ev L xs m d nM_to [.ref cM, .int x6] g r) fun g15 r16 => (some (.inl none, g15, r16))) : Option fn_Z)
  refine (fs_cn (n := n + 1) (N := nm_m182) (as := [.ref cM, .int x6]) (rest := []) rfl rfl (Or.inl rfl) rfl rfl rfl rfl rfl).trans (fs_fn fun g15 r16 => ?_)
  exact (fs_rv (n := n + 0) rfl rfl).trans rfl
def BM_division2_179 (L : Nat) (xs : Nat → Int32) (m d k : Nat) (x1 x2 x3 x4 x5 : Int32) (g : a2_G) (r : a2_A) : Option fn_Z := (if am_c2 .ne x1 4 = true then (if am_c2 .ne x1 12 = true then (if am_c2 .ne x1 13 = true then (if am_c2 .ne x1 14 = true then (BM_division2_232 L xs m d k x1 x2 x3 x4 x5 7 (upd (upd g fM_items 0) fM_latest 0) r) else (BM_division2_232 L xs m d k x1 x2 x3 x4 x5 6 (upd (upd g fM_items 0) fM_latest 0) r)) else (BM_division2_232 L xs m d k x1 x2 x3 x4 x5 4 (upd (upd g fM_items 0) fM_latest 0) r)) else (BM_division2_232 L xs m d k x1 x2 x3 x4 x5 3 (upd (upd g fM_items 0) fM_latest 0) r)) else (BM_division2_232 L xs m d k x1 x2 x3 x4 x5 2 (upd (upd g fM_items 0) fM_latest 0) r))
theorem bM_division2_179 (L : Nat) (xs : Nat → Int32) (m d k : Nat) (n : Nat) (x1 x2 x3 x4 x5 : Int32) (g : a2_G) (r : a2_A) : bk L xs nM_division2 nm_m224 m d k (n + 23) 179 [some (.ref cM), some (.int x1), some (.int x2), some (.int x3), some (.int x4), some (.int x5)] [] g r = BM_division2_179 L xs m d k x1 x2 x3 x4 x5 g r := by
  show _ = ((if am_c2 .ne x1 4 = true then (if am_c2 .ne x1 12 = true then (if am_c2 .ne x1 13 = true then (if am_c2 .ne x1 14 = true then (BM_division2_232 L xs m d k x1 x2 x3 x4 x5 7 (upd (upd g fM_items 0) fM_latest 0) r) else (BM_division2_232 L xs m d k x1 x2 x3 x4 x5 6 (upd (upd g fM_items 0) fM_latest 0) r)) else (BM_division2_232 L xs m d k x1 x2 x3 x4 x5 4 (upd (upd g fM_items 0) fM_latest 0) r)) else (BM_division2_232 L xs m d k x1 x2 x3 x4 x5 3 (upd (upd g fM_items 0) fM_latest 0) r)) else (BM_division2_232 L xs m d k x1 x2 x3 x4 x5 2 (upd (upd g fM_items 0) fM_latest 0) r)) : Option fn_Z)
  refine (fs_r (n := n + 21) 2 (pc' := 181) (L' := [some (.ref cM), some (.int x1), some (.int x2), some (.int x3), some (.int x4), some (.int x5)]) (S' := [.int 0, .ref cM]) rfl).trans ?_
  refine (fs_pf (n := n + 20) (ci := 9) (j := 37) rfl rfl rfl rfl).trans ?_
  refine (fs_r (n := n + 18) 2 (pc' := 186) (L' := [some (.ref cM), some (.int x1), some (.int x2), some (.int x3), some (.int x4), some (.int x5)]) (S' := [.int 0, .ref cM]) rfl).trans ?_
  refine (fs_pf (n := n + 17) (ci := 9) (j := 38) rfl rfl rfl rfl).trans ?_
  refine (fs_r (n := n + 14) 3 (pc' := 192) (L' := [some (.ref cM), some (.int x1), some (.int x2), some (.int x3), some (.int x4), some (.int x5)]) (S' := [.int 4, .int x1, .ref cM]) rfl).trans ?_
  refine (fs_j (n := n + 13) rfl (t := 199) rfl (by decide)).trans (fs_ite ?_ ?_)
  · skip
    refine (fs_r (n := n + 11) 2 (pc' := 202) (L' := [some (.ref cM), some (.int x1), some (.int x2), some (.int x3), some (.int x4), some (.int x5)]) (S' := [.int 12, .int x1, .ref cM]) rfl).trans ?_
    refine (fs_j (n := n + 10) rfl (t := 209) rfl (by decide)).trans (fs_ite ?_ ?_)
    · skip
      refine (fs_r (n := n + 8) 2 (pc' := 212) (L' := [some (.ref cM), some (.int x1), some (.int x2), some (.int x3), some (.int x4), some (.int x5)]) (S' := [.int 13, .int x1, .ref cM]) rfl).trans ?_
      refine (fs_j (n := n + 7) rfl (t := 219) rfl (by decide)).trans (fs_ite ?_ ?_)
      · skip
        refine (fs_r (n := n + 5) 2 (pc' := 222) (L' := [some (.ref cM), some (.int x1), some (.int x2), some (.int x3), some (.int x4), some (.int x5)]) (S' := [.int 14, .int x1, .ref cM]) rfl).trans ?_
        refine (fs_j (n := n + 4) rfl (t := 230) rfl (by decide)).trans (fs_ite ?_ ?_)
        · skip
          refine (fs_r (n := n + 3) 1 (pc' := 232) (L' := [some (.ref cM), some (.int x1), some (.int x2), some (.int x3), some (.int x4), some (.int x5)]) (S' := [.int 7, .ref cM]) rfl).trans ?_
          exact bM_division2_232 L xs m d k (n + 1) x1 x2 x3 x4 x5 7 (upd (upd g fM_items 0) fM_latest 0) r
        · skip
          refine (fs_r (n := n + 3) 1 (pc' := 227) (L' := [some (.ref cM), some (.int x1), some (.int x2), some (.int x3), some (.int x4), some (.int x5)]) (S' := [.int 6, .ref cM]) rfl).trans ?_
          refine (fs_go (n := n + 2) rfl (t := 232) rfl (by decide)).trans ?_
          exact bM_division2_232 L xs m d k (n + 0) x1 x2 x3 x4 x5 6 (upd (upd g fM_items 0) fM_latest 0) r
      · skip
        refine (fs_r (n := n + 6) 1 (pc' := 216) (L' := [some (.ref cM), some (.int x1), some (.int x2), some (.int x3), some (.int x4), some (.int x5)]) (S' := [.int 4, .ref cM]) rfl).trans ?_
        refine (fs_go (n := n + 5) rfl (t := 232) rfl (by decide)).trans ?_
        exact bM_division2_232 L xs m d k (n + 3) x1 x2 x3 x4 x5 4 (upd (upd g fM_items 0) fM_latest 0) r
    · skip
      refine (fs_r (n := n + 9) 1 (pc' := 206) (L' := [some (.ref cM), some (.int x1), some (.int x2), some (.int x3), some (.int x4), some (.int x5)]) (S' := [.int 3, .ref cM]) rfl).trans ?_
      refine (fs_go (n := n + 8) rfl (t := 232) rfl (by decide)).trans ?_
      exact bM_division2_232 L xs m d k (n + 6) x1 x2 x3 x4 x5 3 (upd (upd g fM_items 0) fM_latest 0) r
  · skip
    refine (fs_r (n := n + 12) 1 (pc' := 196) (L' := [some (.ref cM), some (.int x1), some (.int x2), some (.int x3), some (.int x4), some (.int x5)]) (S' := [.int 2, .ref cM]) rfl).trans ?_
    refine (fs_go (n := n + 11) rfl (t := 232) rfl (by decide)).trans ?_
    exact bM_division2_232 L xs m d k (n + 9) x1 x2 x3 x4 x5 2 (upd (upd g fM_items 0) fM_latest 0) r
def BM_division2_169 (L : Nat) (xs : Nat → Int32) (m d k : Nat) (x1 x2 x3 x4 x5 : Int32) (g : a2_G) (r : a2_A) : Option fn_Z := (if am_c2 .ne x3 0 = true then (BM_division2_179 L xs m d k x1 x2 x3 x4 x5 g r) else (BM_division2_179 L xs m d k x1 x2 x3 x4 x5 (upd g fM_holder x4) r))
theorem bM_division2_169 (L : Nat) (xs : Nat → Int32) (m d k : Nat) (n : Nat) (x1 x2 x3 x4 x5 : Int32) (g : a2_G) (r : a2_A) : bk L xs nM_division2 nm_m224 m d k (n + 28) 169 [some (.ref cM), some (.int x1), some (.int x2), some (.int x3), some (.int x4), some (.int x5)] [] g r = BM_division2_169 L xs m d k x1 x2 x3 x4 x5 g r := by
  show _ = ((if am_c2 .ne x3 0 = true then (BM_division2_179 L xs m d k x1 x2 x3 x4 x5 g r) else (BM_division2_179 L xs m d k x1 x2 x3 x4 x5 (upd g fM_holder x4) r)) : Option fn_Z)
  refine (fs_r (n := n + 27) 1 (pc' := 170) (L' := [some (.ref cM), some (.int x1), some (.int x2), some (.int x3), some (.int x4), some (.int x5)]) (S' := [.int x3]) rfl).trans ?_
  refine (fs_i (n := n + 26) rfl (t := 179) rfl (by decide)).trans (fs_ite ?_ ?_)
  · skip
    exact bM_division2_179 L xs m d k (n + 3) x1 x2 x3 x4 x5 g r
  · skip
    refine (fs_r (n := n + 24) 2 (pc' := 176) (L' := [some (.ref cM), some (.int x1), some (.int x2), some (.int x3), some (.int x4), some (.int x5)]) (S' := [.int x4, .ref cM]) rfl).trans ?_
    refine (fs_pf (n := n + 23) (ci := 9) (j := 33) rfl rfl rfl rfl).trans ?_
    exact bM_division2_179 L xs m d k (n + 0) x1 x2 x3 x4 x5 (upd g fM_holder x4) r
def BM_division2_157 (L : Nat) (xs : Nat → Int32) (m d k : Nat) (x1 x2 x3 x4 x5 : Int32) (g : a2_G) (r : a2_A) : Option fn_Z := (if am_c2 .ne x1 13 = true then (BM_division2_169 L xs m d k x1 x2 x3 x4 x5 g r) else (BM_division2_169 L xs m d k x1 x2 x3 x4 x5 (upd g fM_files x4) r))
theorem bM_division2_157 (L : Nat) (xs : Nat → Int32) (m d k : Nat) (n : Nat) (x1 x2 x3 x4 x5 : Int32) (g : a2_G) (r : a2_A) : bk L xs nM_division2 nm_m224 m d k (n + 34) 157 [some (.ref cM), some (.int x1), some (.int x2), some (.int x3), some (.int x4), some (.int x5)] [] g r = BM_division2_157 L xs m d k x1 x2 x3 x4 x5 g r := by
  show _ = ((if am_c2 .ne x1 13 = true then (BM_division2_169 L xs m d k x1 x2 x3 x4 x5 g r) else (BM_division2_169 L xs m d k x1 x2 x3 x4 x5 (upd g fM_files x4) r)) : Option fn_Z)
  refine (fs_r (n := n + 32) 2 (pc' := 160) (L' := [some (.ref cM), some (.int x1), some (.int x2), some (.int x3), some (.int x4), some (.int x5)]) (S' := [.int 13, .int x1]) rfl).trans ?_
  refine (fs_j (n := n + 31) rfl (t := 169) rfl (by decide)).trans (fs_ite ?_ ?_)
  · skip
    exact bM_division2_169 L xs m d k (n + 3) x1 x2 x3 x4 x5 g r
  · skip
    refine (fs_r (n := n + 29) 2 (pc' := 166) (L' := [some (.ref cM), some (.int x1), some (.int x2), some (.int x3), some (.int x4), some (.int x5)]) (S' := [.int x4, .ref cM]) rfl).trans ?_
    refine (fs_pf (n := n + 28) (ci := 9) (j := 32) rfl rfl rfl rfl).trans ?_
    exact bM_division2_169 L xs m d k (n + 0) x1 x2 x3 x4 x5 (upd g fM_files x4) r
def BM_division2_142 (L : Nat) (xs : Nat → Int32) (m d k : Nat) (x1 x2 x3 x4 x5 : Int32) (g : a2_G) (r : a2_A) : Option fn_Z := (if am_c2 .ne x1 12 = true then (BM_division2_157 L xs m d k x1 x2 x3 x4 x5 g r) else (if am_inr x5 (r fM_data).1 = true then (BM_division2_157 L xs m d k x1 x2 x3 x4 x5 g (a2_ua r fM_data ((r fM_data).1, (upd (r fM_data).2 (x5 : Int32).toNatClampNeg x4)))) else none))
theorem bM_division2_142 (L : Nat) (xs : Nat → Int32) (m d k : Nat) (n : Nat) (x1 x2 x3 x4 x5 : Int32) (g : a2_G) (r : a2_A) : bk L xs nM_division2 nm_m224 m d k (n + 42) 142 [some (.ref cM), some (.int x1), some (.int x2), some (.int x3), some (.int x4), some (.int x5)] [] g r = BM_division2_142 L xs m d k x1 x2 x3 x4 x5 g r := by
  show _ = ((if am_c2 .ne x1 12 = true then (BM_division2_157 L xs m d k x1 x2 x3 x4 x5 g r) else (if am_inr x5 (r fM_data).1 = true then (BM_division2_157 L xs m d k x1 x2 x3 x4 x5 g (a2_ua r fM_data ((r fM_data).1, (upd (r fM_data).2 (x5 : Int32).toNatClampNeg x4)))) else none)) : Option fn_Z)
  refine (fs_r (n := n + 40) 2 (pc' := 145) (L' := [some (.ref cM), some (.int x1), some (.int x2), some (.int x3), some (.int x4), some (.int x5)]) (S' := [.int 12, .int x1]) rfl).trans ?_
  refine (fs_j (n := n + 39) rfl (t := 157) rfl (by decide)).trans (fs_ite ?_ ?_)
  · skip
    exact bM_division2_157 L xs m d k (n + 5) x1 x2 x3 x4 x5 g r
  · skip
    refine (fs_r (n := n + 35) 4 (pc' := 156) (L' := [some (.ref cM), some (.int x1), some (.int x2), some (.int x3), some (.int x4), some (.int x5)]) (S' := [.int x4, .int x5, .ref 10924]) rfl).trans ?_
    refine (fs_is (n := n + 34) (k := 924) rfl rfl).trans (fs_ite ?_ rfl)
    exact bM_division2_157 L xs m d k (n + 0) x1 x2 x3 x4 x5 g (a2_ua r fM_data ((r fM_data).1, (upd (r fM_data).2 (x5 : Int32).toNatClampNeg x4)))
def BM_division2_123 (L : Nat) (xs : Nat → Int32) (m d k : Nat) (x1 x2 x3 x4 x5 x6 : Int32) (g : a2_G) (r : a2_A) : Option fn_Z := (fn_n (ev L xs m d nM_attach [.ref cM, .int x6, .int x4] g r) fun g13 r14 => (if am_c2 .ne x1 4 = true then (BM_division2_142 L xs m d k x1 x2 x3 x4 x5 g13 r14) else (if am_inr x5 (r14 fM_environment).1 = true then (BM_division2_142 L xs m d k x1 x2 x3 x4 x5 g13 (a2_ua r14 fM_environment ((r14 fM_environment).1, (upd (r14 fM_environment).2 (x5 : Int32).toNatClampNeg x4)))) else none)))
theorem bM_division2_123 (L : Nat) (xs : Nat → Int32) (m d k : Nat) (n : Nat) (x1 x2 x3 x4 x5 x6 : Int32) (g : a2_G) (r : a2_A) : bk L xs nM_division2 nm_m224 m d k (n + 52) 123 [some (.ref cM), some (.int x1), some (.int x2), some (.int x3), some (.int x4), some (.int x5)] [.int x6, .ref cM] g r = BM_division2_123 L xs m d k x1 x2 x3 x4 x5 x6 g r := by
  show _ = ((fn_n (ev L xs m d nM_attach [.ref cM, .int x6, .int x4] g r) fun g13 r14 => (if am_c2 .ne x1 4 = true then (BM_division2_142 L xs m d k x1 x2 x3 x4 x5 g13 r14) else (if am_inr x5 (r14 fM_environment).1 = true then (BM_division2_142 L xs m d k x1 x2 x3 x4 x5 g13 (a2_ua r14 fM_environment ((r14 fM_environment).1, (upd (r14 fM_environment).2 (x5 : Int32).toNatClampNeg x4)))) else none))) : Option fn_Z)
  refine (fs_r (n := n + 51) 1 (pc' := 125) (L' := [some (.ref cM), some (.int x1), some (.int x2), some (.int x3), some (.int x4), some (.int x5)]) (S' := [.int x4, .int x6, .ref cM]) rfl).trans ?_
  refine (fs_cn (n := n + 50) (N := nm_m173) (as := [.ref cM, .int x6, .int x4]) (rest := []) rfl rfl (Or.inl rfl) rfl rfl rfl rfl rfl).trans (fs_fn fun g13 r14 => ?_)
  refine (fs_r (n := n + 48) 2 (pc' := 130) (L' := [some (.ref cM), some (.int x1), some (.int x2), some (.int x3), some (.int x4), some (.int x5)]) (S' := [.int 4, .int x1]) rfl).trans ?_
  refine (fs_j (n := n + 47) rfl (t := 142) rfl (by decide)).trans (fs_ite ?_ ?_)
  · skip
    exact bM_division2_142 L xs m d k (n + 5) x1 x2 x3 x4 x5 g13 r14
  · skip
    refine (fs_r (n := n + 43) 4 (pc' := 141) (L' := [some (.ref cM), some (.int x1), some (.int x2), some (.int x3), some (.int x4), some (.int x5)]) (S' := [.int x4, .int x5, .ref 10923]) rfl).trans ?_
    refine (fs_is (n := n + 42) (k := 923) rfl rfl).trans (fs_ite ?_ rfl)
    exact bM_division2_142 L xs m d k (n + 0) x1 x2 x3 x4 x5 g13 (a2_ua r14 fM_environment ((r14 fM_environment).1, (upd (r14 fM_environment).2 (x5 : Int32).toNatClampNeg x4)))
def BM_division2_88 (L : Nat) (xs : Nat → Int32) (m d k : Nat) (x1 x2 x3 x4 : Int32) (g : a2_G) (r : a2_A) : Option fn_Z := (fn_v (ev L xs m d nM_make [.ref cM, .int x4, .int 0, .int x2] g r) fun v9 g7 r8 => (fn_v (ev L xs m d nM_here [.ref cM] g7 r8) fun v12 g10 r11 => (if am_c2 .eq x3 0 = true then (if am_inr v12 (r11 fM_data).1 = true then (BM_division2_123 L xs m d k x1 x2 x3 v9 v12 ((r11 fM_data).2 (v12 : Int32).toNatClampNeg) g10 r11) else none) else (if am_inr v12 (r11 fM_unitNode).1 = true then (BM_division2_123 L xs m d k x1 x2 x3 v9 v12 ((r11 fM_unitNode).2 (v12 : Int32).toNatClampNeg) g10 r11) else none))))
theorem bM_division2_88 (L : Nat) (xs : Nat → Int32) (m d k : Nat) (n : Nat) (x1 x2 x3 x4 : Int32) (g : a2_G) (r : a2_A) : bk L xs nM_division2 nm_m224 m d k (n + 67) 88 [some (.ref cM), some (.int x1), some (.int x2), some (.int x3), none, none] [.int x4, .ref cM] g r = BM_division2_88 L xs m d k x1 x2 x3 x4 g r := by
  show _ = ((fn_v (ev L xs m d nM_make [.ref cM, .int x4, .int 0, .int x2] g r) fun v9 g7 r8 => (fn_v (ev L xs m d nM_here [.ref cM] g7 r8) fun v12 g10 r11 => (if am_c2 .eq x3 0 = true then (if am_inr v12 (r11 fM_data).1 = true then (BM_division2_123 L xs m d k x1 x2 x3 v9 v12 ((r11 fM_data).2 (v12 : Int32).toNatClampNeg) g10 r11) else none) else (if am_inr v12 (r11 fM_unitNode).1 = true then (BM_division2_123 L xs m d k x1 x2 x3 v9 v12 ((r11 fM_unitNode).2 (v12 : Int32).toNatClampNeg) g10 r11) else none)))) : Option fn_Z)
  refine (fs_r (n := n + 65) 2 (pc' := 90) (L' := [some (.ref cM), some (.int x1), some (.int x2), some (.int x3), none, none]) (S' := [.int x2, .int 0, .int x4, .ref cM]) rfl).trans ?_
  refine (fs_cv (n := n + 64) (N := nm_m160) (as := [.ref cM, .int x4, .int 0, .int x2]) (rest := []) rfl rfl (Or.inl rfl) rfl rfl rfl rfl rfl).trans (fs_fv fun v9 g7 r8 => ?_)
  refine (fs_r (n := n + 62) 2 (pc' := 96) (L' := [some (.ref cM), some (.int x1), some (.int x2), some (.int x3), some (.int v9), none]) (S' := [.ref cM]) rfl).trans ?_
  refine (fs_cv (n := n + 61) (N := nm_m181) (as := [.ref cM]) (rest := []) rfl rfl (Or.inl rfl) rfl rfl rfl rfl rfl).trans (fs_fv fun v12 g10 r11 => ?_)
  refine (fs_r (n := n + 58) 3 (pc' := 103) (L' := [some (.ref cM), some (.int x1), some (.int x2), some (.int x3), some (.int v9), some (.int v12)]) (S' := [.int x3, .ref cM]) rfl).trans ?_
  refine (fs_i (n := n + 57) rfl (t := 116) rfl (by decide)).trans (fs_ite ?_ ?_)
  · skip
    refine (fs_r (n := n + 54) 3 (pc' := 122) (L' := [some (.ref cM), some (.int x1), some (.int x2), some (.int x3), some (.int v9), some (.int v12)]) (S' := [.int v12, .ref 10924, .ref cM]) rfl).trans ?_
    refine (fs_il (n := n + 53) (k := 924) rfl rfl).trans (fs_ite ?_ rfl)
    exact bM_division2_123 L xs m d k (n + 1) x1 x2 x3 v9 v12 ((r11 fM_data).2 (v12 : Int32).toNatClampNeg) g10 r11
  · skip
    refine (fs_r (n := n + 54) 3 (pc' := 112) (L' := [some (.ref cM), some (.int x1), some (.int x2), some (.int x3), some (.int v9), some (.int v12)]) (S' := [.int v12, .ref 10922, .ref cM]) rfl).trans ?_
    refine (fs_il (n := n + 53) (k := 922) rfl rfl).trans (fs_ite ?_ rfl)
    refine (fs_go (n := n + 52) rfl (t := 123) rfl (by decide)).trans ?_
    exact bM_division2_123 L xs m d k (n + 0) x1 x2 x3 v9 v12 ((r11 fM_unitNode).2 (v12 : Int32).toNatClampNeg) g10 r11
def BM_division2_28 (L : Nat) (xs : Nat → Int32) (m d k : Nat) (x1 x2 x3 x4 : Int32) (g : a2_G) (r : a2_A) : Option fn_Z := (fn_v (ev L xs m d nM_must [.ref cM, .int x4] g r) fun v3 g1 r2 => (if am_c2 .eq v3 0 = true then (BM_division2_42 L xs m d k x1 x2 x3 g1 r2) else (fn_v (ev L xs m d nM_mustBe [.ref cM, .int 4] g1 r2) fun v6 g4 r5 => (if am_c2 .ne v6 0 = true then (if am_c2 .ne x1 4 = true then (if am_c2 .ne x1 12 = true then (if am_c2 .ne x1 13 = true then (if am_c2 .ne x1 14 = true then (BM_division2_88 L xs m d k x1 x2 x3 10 g4 r5) else (BM_division2_88 L xs m d k x1 x2 x3 9 g4 r5)) else (BM_division2_88 L xs m d k x1 x2 x3 8 g4 r5)) else (BM_division2_88 L xs m d k x1 x2 x3 7 g4 r5)) else (BM_division2_88 L xs m d k x1 x2 x3 3 g4 r5)) else (BM_division2_42 L xs m d k x1 x2 x3 g4 r5)))))
theorem bM_division2_28 (L : Nat) (xs : Nat → Int32) (m d k : Nat) (n : Nat) (x1 x2 x3 x4 : Int32) (g : a2_G) (r : a2_A) : bk L xs nM_division2 nm_m224 m d k (n + 88) 28 [some (.ref cM), some (.int x1), some (.int x2), some (.int x3), none, none] [.int x4, .ref cM] g r = BM_division2_28 L xs m d k x1 x2 x3 x4 g r := by
  show _ = ((fn_v (ev L xs m d nM_must [.ref cM, .int x4] g r) fun v3 g1 r2 => (if am_c2 .eq v3 0 = true then (BM_division2_42 L xs m d k x1 x2 x3 g1 r2) else (fn_v (ev L xs m d nM_mustBe [.ref cM, .int 4] g1 r2) fun v6 g4 r5 => (if am_c2 .ne v6 0 = true then (if am_c2 .ne x1 4 = true then (if am_c2 .ne x1 12 = true then (if am_c2 .ne x1 13 = true then (if am_c2 .ne x1 14 = true then (BM_division2_88 L xs m d k x1 x2 x3 10 g4 r5) else (BM_division2_88 L xs m d k x1 x2 x3 9 g4 r5)) else (BM_division2_88 L xs m d k x1 x2 x3 8 g4 r5)) else (BM_division2_88 L xs m d k x1 x2 x3 7 g4 r5)) else (BM_division2_88 L xs m d k x1 x2 x3 3 g4 r5)) else (BM_division2_42 L xs m d k x1 x2 x3 g4 r5))))) : Option fn_Z)
  refine (fs_cv (n := n + 87) (N := nm_m191) (as := [.ref cM, .int x4]) (rest := []) rfl rfl (Or.inl rfl) rfl rfl rfl rfl rfl).trans (fs_fv fun v3 g1 r2 => ?_)
  refine (fs_i (n := n + 86) rfl (t := 42) rfl (by decide)).trans (fs_ite ?_ ?_)
  · skip
    exact bM_division2_42 L xs m d k (n + 85) x1 x2 x3 g1 r2
  · skip
    refine (fs_r (n := n + 84) 2 (pc' := 36) (L' := [some (.ref cM), some (.int x1), some (.int x2), some (.int x3), none, none]) (S' := [.int 4, .ref cM]) rfl).trans ?_
    refine (fs_cv (n := n + 83) (N := nm_m170) (as := [.ref cM, .int 4]) (rest := []) rfl rfl (Or.inl rfl) rfl rfl rfl rfl rfl).trans (fs_fv fun v6 g4 r5 => ?_)
    refine (fs_i (n := n + 82) rfl (t := 43) rfl (by decide)).trans (fs_ite ?_ ?_)
    · skip
      refine (fs_r (n := n + 79) 3 (pc' := 46) (L' := [some (.ref cM), some (.int x1), some (.int x2), some (.int x3), none, none]) (S' := [.int 4, .int x1, .ref cM]) rfl).trans ?_
      refine (fs_j (n := n + 78) rfl (t := 53) rfl (by decide)).trans (fs_ite ?_ ?_)
      · skip
        refine (fs_r (n := n + 76) 2 (pc' := 56) (L' := [some (.ref cM), some (.int x1), some (.int x2), some (.int x3), none, none]) (S' := [.int 12, .int x1, .ref cM]) rfl).trans ?_
        refine (fs_j (n := n + 75) rfl (t := 64) rfl (by decide)).trans (fs_ite ?_ ?_)
        · skip
          refine (fs_r (n := n + 73) 2 (pc' := 67) (L' := [some (.ref cM), some (.int x1), some (.int x2), some (.int x3), none, none]) (S' := [.int 13, .int x1, .ref cM]) rfl).trans ?_
          refine (fs_j (n := n + 72) rfl (t := 75) rfl (by decide)).trans (fs_ite ?_ ?_)
          · skip
            refine (fs_r (n := n + 70) 2 (pc' := 78) (L' := [some (.ref cM), some (.int x1), some (.int x2), some (.int x3), none, none]) (S' := [.int 14, .int x1, .ref cM]) rfl).trans ?_
            refine (fs_j (n := n + 69) rfl (t := 86) rfl (by decide)).trans (fs_ite ?_ ?_)
            · skip
              refine (fs_r (n := n + 68) 1 (pc' := 88) (L' := [some (.ref cM), some (.int x1), some (.int x2), some (.int x3), none, none]) (S' := [.int 10, .ref cM]) rfl).trans ?_
              exact bM_division2_88 L xs m d k (n + 1) x1 x2 x3 10 g4 r5
            · skip
              refine (fs_r (n := n + 68) 1 (pc' := 83) (L' := [some (.ref cM), some (.int x1), some (.int x2), some (.int x3), none, none]) (S' := [.int 9, .ref cM]) rfl).trans ?_
              refine (fs_go (n := n + 67) rfl (t := 88) rfl (by decide)).trans ?_
              exact bM_division2_88 L xs m d k (n + 0) x1 x2 x3 9 g4 r5
          · skip
            refine (fs_r (n := n + 71) 1 (pc' := 72) (L' := [some (.ref cM), some (.int x1), some (.int x2), some (.int x3), none, none]) (S' := [.int 8, .ref cM]) rfl).trans ?_
            refine (fs_go (n := n + 70) rfl (t := 88) rfl (by decide)).trans ?_
            exact bM_division2_88 L xs m d k (n + 3) x1 x2 x3 8 g4 r5
        · skip
          refine (fs_r (n := n + 74) 1 (pc' := 61) (L' := [some (.ref cM), some (.int x1), some (.int x2), some (.int x3), none, none]) (S' := [.int 7, .ref cM]) rfl).trans ?_
          refine (fs_go (n := n + 73) rfl (t := 88) rfl (by decide)).trans ?_
          exact bM_division2_88 L xs m d k (n + 6) x1 x2 x3 7 g4 r5
      · skip
        refine (fs_r (n := n + 77) 1 (pc' := 50) (L' := [some (.ref cM), some (.int x1), some (.int x2), some (.int x3), none, none]) (S' := [.int 3, .ref cM]) rfl).trans ?_
        refine (fs_go (n := n + 76) rfl (t := 88) rfl (by decide)).trans ?_
        exact bM_division2_88 L xs m d k (n + 9) x1 x2 x3 3 g4 r5
    · skip
      exact bM_division2_42 L xs m d k (n + 81) x1 x2 x3 g4 r5
def BM_division2_16 (L : Nat) (xs : Nat → Int32) (m d k : Nat) (x1 x2 x3 : Int32) (g : a2_G) (r : a2_A) : Option fn_Z := (if am_c2 .eq x3 0 = true then (BM_division2_28 L xs m d k x1 x2 x3 16 g r) else (BM_division2_28 L xs m d k x1 x2 x3 1 g r))
theorem bM_division2_16 (L : Nat) (xs : Nat → Int32) (m d k : Nat) (n : Nat) (x1 x2 x3 : Int32) (g : a2_G) (r : a2_A) : bk L xs nM_division2 nm_m224 m d k (n + 94) 16 [some (.ref cM), some (.int x1), some (.int x2), none, none, none] [.int x3] g r = BM_division2_16 L xs m d k x1 x2 x3 g r := by
  show _ = ((if am_c2 .eq x3 0 = true then (BM_division2_28 L xs m d k x1 x2 x3 16 g r) else (BM_division2_28 L xs m d k x1 x2 x3 1 g r)) : Option fn_Z)
  refine (fs_r (n := n + 91) 3 (pc' := 19) (L' := [some (.ref cM), some (.int x1), some (.int x2), some (.int x3), none, none]) (S' := [.int x3, .ref cM]) rfl).trans ?_
  refine (fs_i (n := n + 90) rfl (t := 26) rfl (by decide)).trans (fs_ite ?_ ?_)
  · skip
    refine (fs_r (n := n + 89) 1 (pc' := 28) (L' := [some (.ref cM), some (.int x1), some (.int x2), some (.int x3), none, none]) (S' := [.int 16, .ref cM]) rfl).trans ?_
    exact bM_division2_28 L xs m d k (n + 1) x1 x2 x3 16 g r
  · skip
    refine (fs_r (n := n + 89) 1 (pc' := 23) (L' := [some (.ref cM), some (.int x1), some (.int x2), some (.int x3), none, none]) (S' := [.int 1, .ref cM]) rfl).trans ?_
    refine (fs_go (n := n + 88) rfl (t := 28) rfl (by decide)).trans ?_
    exact bM_division2_28 L xs m d k (n + 0) x1 x2 x3 1 g r
def BM_division2_11 (L : Nat) (xs : Nat → Int32) (m d k : Nat) (x1 x2 : Int32) (g : a2_G) (r : a2_A) : Option fn_Z := (BM_division2_16 L xs m d k x1 x2 1 g r)
theorem bM_division2_11 (L : Nat) (xs : Nat → Int32) (m d k : Nat) (n : Nat) (x1 x2 : Int32) (g : a2_G) (r : a2_A) : bk L xs nM_division2 nm_m224 m d k (n + 96) 11 [some (.ref cM), some (.int x1), some (.int x2), none, none, none] [] g r = BM_division2_11 L xs m d k x1 x2 g r := by
  show _ = ((BM_division2_16 L xs m d k x1 x2 1 g r) : Option fn_Z)
  refine (fs_r (n := n + 95) 1 (pc' := 12) (L' := [some (.ref cM), some (.int x1), some (.int x2), none, none, none]) (S' := [.int 1]) rfl).trans ?_
  refine (fs_go (n := n + 94) rfl (t := 16) rfl (by decide)).trans ?_
  exact bM_division2_16 L xs m d k (n + 0) x1 x2 1 g r
theorem eM_division2 (L : Nat) (xs : Nat → Int32) (m d k : Nat) (n : Nat) (a1 a2 : Int32) (g : a2_G) (r : a2_A) : bk L xs nM_division2 nm_m224 m d k (n + 102) 0 [some (.ref cM), some (.int a1), some (.int a2), none, none, none] [] g r = (if am_c2 .eq a1 4 = true then (BM_division2_11 L xs m d k a1 a2 g r) else (if am_c2 .ne a1 12 = true then (BM_division2_16 L xs m d k a1 a2 0 g r) else (BM_division2_11 L xs m d k a1 a2 g r))) := by
  refine (fs_r (n := n + 100) 2 (pc' := 2) (L' := [some (.ref cM), some (.int a1), some (.int a2), none, none, none]) (S' := [.int 4, .int a1]) rfl).trans ?_
  refine (fs_j (n := n + 99) rfl (t := 11) rfl (by decide)).trans (fs_ite ?_ ?_)
  · skip
    exact bM_division2_11 L xs m d k (n + 3) a1 a2 g r
  · skip
    refine (fs_r (n := n + 97) 2 (pc' := 8) (L' := [some (.ref cM), some (.int a1), some (.int a2), none, none, none]) (S' := [.int 12, .int a1]) rfl).trans ?_
    refine (fs_j (n := n + 96) rfl (t := 15) rfl (by decide)).trans (fs_ite ?_ ?_)
    · skip
      refine (fs_r (n := n + 95) 1 (pc' := 16) (L' := [some (.ref cM), some (.int a1), some (.int a2), none, none, none]) (S' := [.int 0]) rfl).trans ?_
      exact bM_division2_16 L xs m d k (n + 1) a1 a2 0 g r
    · skip
      exact bM_division2_11 L xs m d k (n + 0) a1 a2 g r
theorem qM_division2 (L : Nat) (xs : Nat → Int32) (m d : Nat) (a1 a2 : Int32) (g : a2_G) (r : a2_A) : ev L xs (m + 1) (d + 1) nM_division2 [.ref cM, .int a1, .int a2] g r = (if am_c2 .eq a1 4 = true then (BM_division2_11 L xs (m + 1) d m a1 a2 g r) else (if am_c2 .ne a1 12 = true then (BM_division2_16 L xs (m + 1) d m a1 a2 0 g r) else (BM_division2_11 L xs (m + 1) d m a1 a2 g r))) := (fs_ev (M := nm_m224) rfl rfl).trans (eM_division2 L xs (m + 1) d m 798 a1 a2 g r)
/-- CobolParserModel.numberAll(I)V -/
def BM_numberAll_117 (L : Nat) (xs : Nat → Int32) (m d k : Nat) (x1 x2 x3 : Int32) (g : a2_G) (r : a2_A) : Option fn_Z := (if am_inr x2 (r fM_next).1 = true then (lp L xs nM_numberAll nm_m225 m d k 9 [some (.ref cM), some (.int x1), some (.int ((r fM_next).2 (x2 : Int32).toNatClampNeg)), some (.int x3)] g r) else none)
theorem bM_numberAll_117 (L : Nat) (xs : Nat → Int32) (m d k : Nat) (n : Nat) (x1 x2 x3 : Int32) (g : a2_G) (r : a2_A) : bk L xs nM_numberAll nm_m225 m d k (n + 6) 117 [some (.ref cM), some (.int x1), some (.int x2), some (.int x3)] [] g r = BM_numberAll_117 L xs m d k x1 x2 x3 g r := by
  show _ = ((if am_inr x2 (r fM_next).1 = true then (lp L xs nM_numberAll nm_m225 m d k 9 [some (.ref cM), some (.int x1), some (.int ((r fM_next).2 (x2 : Int32).toNatClampNeg)), some (.int x3)] g r) else none) : Option fn_Z)
  refine (fs_r (n := n + 3) 3 (pc' := 122) (L' := [some (.ref cM), some (.int x1), some (.int x2), some (.int x3)]) (S' := [.int x2, .ref 10915]) rfl).trans ?_
  refine (fs_il (n := n + 2) (k := 915) rfl rfl).trans (fs_ite ?_ rfl)
  refine (fs_r (n := n + 1) 1 (pc' := 124) (L' := [some (.ref cM), some (.int x1), some (.int ((r fM_next).2 (x2 : Int32).toNatClampNeg)), some (.int x3)]) (S' := []) rfl).trans ?_
  exact (fs_gb (n := n + 0) rfl (t := 9) rfl (by decide)).trans rfl
def BM_numberAll_85 (L : Nat) (xs : Nat → Int32) (m d k : Nat) (x1 x2 x3 : Int32) (g : a2_G) (r : a2_A) : Option fn_Z := (if am_inr x2 (r fM_next).1 = true then (if am_c2 .ne ((r fM_next).2 (x2 : Int32).toNatClampNeg) 0 = true then (BM_numberAll_117 L xs m d k x1 x2 x3 g r) else (if am_inr x2 (r fM_above).1 = true then (if am_c2 .eq ((r fM_above).2 (x2 : Int32).toNatClampNeg) x1 = true then (BM_numberAll_117 L xs m d k x1 x2 x3 g r) else (if am_inr x2 (r fM_above).1 = true then (lp L xs nM_numberAll nm_m225 m d k 85 [some (.ref cM), some (.int x1), some (.int ((r fM_above).2 (x2 : Int32).toNatClampNeg)), some (.int (x3 + (-1)))] g r) else none)) else none)) else none)
theorem bM_numberAll_85 (L : Nat) (xs : Nat → Int32) (m d k : Nat) (n : Nat) (x1 x2 x3 : Int32) (g : a2_G) (r : a2_A) : bk L xs nM_numberAll nm_m225 m d k (n + 18) 85 [some (.ref cM), some (.int x1), some (.int x2), some (.int x3)] [] g r = BM_numberAll_85 L xs m d k x1 x2 x3 g r := by
  show _ = ((if am_inr x2 (r fM_next).1 = true then (if am_c2 .ne ((r fM_next).2 (x2 : Int32).toNatClampNeg) 0 = true then (BM_numberAll_117 L xs m d k x1 x2 x3 g r) else (if am_inr x2 (r fM_above).1 = true then (if am_c2 .eq ((r fM_above).2 (x2 : Int32).toNatClampNeg) x1 = true then (BM_numberAll_117 L xs m d k x1 x2 x3 g r) else (if am_inr x2 (r fM_above).1 = true then (lp L xs nM_numberAll nm_m225 m d k 85 [some (.ref cM), some (.int x1), some (.int ((r fM_above).2 (x2 : Int32).toNatClampNeg)), some (.int (x3 + (-1)))] g r) else none)) else none)) else none) : Option fn_Z)
  refine (fs_r (n := n + 15) 3 (pc' := 90) (L' := [some (.ref cM), some (.int x1), some (.int x2), some (.int x3)]) (S' := [.int x2, .ref 10915]) rfl).trans ?_
  refine (fs_il (n := n + 14) (k := 915) rfl rfl).trans (fs_ite ?_ rfl)
  refine (fs_i (n := n + 13) rfl (t := 117) rfl (by decide)).trans (fs_ite ?_ ?_)
  · skip
    exact bM_numberAll_117 L xs m d k (n + 7) x1 x2 x3 g r
  · skip
    refine (fs_r (n := n + 10) 3 (pc' := 99) (L' := [some (.ref cM), some (.int x1), some (.int x2), some (.int x3)]) (S' := [.int x2, .ref 10916]) rfl).trans ?_
    refine (fs_il (n := n + 9) (k := 916) rfl rfl).trans (fs_ite ?_ rfl)
    refine (fs_r (n := n + 8) 1 (pc' := 101) (L' := [some (.ref cM), some (.int x1), some (.int x2), some (.int x3)]) (S' := [.int x1, .int ((r fM_above).2 (x2 : Int32).toNatClampNeg)]) rfl).trans ?_
    refine (fs_j (n := n + 7) rfl (t := 117) rfl (by decide)).trans (fs_ite ?_ ?_)
    · skip
      exact bM_numberAll_117 L xs m d k (n + 1) x1 x2 x3 g r
    · skip
      refine (fs_r (n := n + 4) 3 (pc' := 109) (L' := [some (.ref cM), some (.int x1), some (.int x2), some (.int x3)]) (S' := [.int x2, .ref 10916]) rfl).trans ?_
      refine (fs_il (n := n + 3) (k := 916) rfl rfl).trans (fs_ite ?_ rfl)
      refine (fs_r (n := n + 1) 2 (pc' := 114) (L' := [some (.ref cM), some (.int x1), some (.int ((r fM_above).2 (x2 : Int32).toNatClampNeg)), some (.int (x3 + (-1)))]) (S' := []) rfl).trans ?_
      exact (fs_gb (n := n + 0) rfl (t := 85) rfl (by decide)).trans rfl
theorem lM_numberAll_85 (L : Nat) (xs : Nat → Int32) (m d k : Nat) (x1 x2 x3 : Int32) (g : a2_G) (r : a2_A) : lp L xs nM_numberAll nm_m225 m d (k + 1) 85 [some (.ref cM), some (.int x1), some (.int x2), some (.int x3)] g r = BM_numberAll_85 L xs m d k x1 x2 x3 g r := fs_lp.trans (bM_numberAll_85 L xs m d k 882 x1 x2 x3 g r)
def BM_numberAll_60 (L : Nat) (xs : Nat → Int32) (m d k : Nat) (x1 x2 x3 x4 : Int32) (g : a2_G) (r : a2_A) : Option fn_Z := (if am_inr x2 (r fM_first).1 = true then (if am_c2 .le ((r fM_first).2 (x2 : Int32).toNatClampNeg) 0 = true then (BM_numberAll_85 L xs m d k x1 x2 x3 (upd g fM_deepest x4) r) else (if am_inr x2 (r fM_first).1 = true then (lp L xs nM_numberAll nm_m225 m d k 9 [some (.ref cM), some (.int x1), some (.int ((r fM_first).2 (x2 : Int32).toNatClampNeg)), some (.int (x3 + 1))] (upd g fM_deepest x4) r) else none)) else none)
theorem bM_numberAll_60 (L : Nat) (xs : Nat → Int32) (m d k : Nat) (n : Nat) (x1 x2 x3 x4 : Int32) (g : a2_G) (r : a2_A) : bk L xs nM_numberAll nm_m225 m d k (n + 24) 60 [some (.ref cM), some (.int x1), some (.int x2), some (.int x3)] [.int x4, .ref cM] g r = BM_numberAll_60 L xs m d k x1 x2 x3 x4 g r := by
  show _ = ((if am_inr x2 (r fM_first).1 = true then (if am_c2 .le ((r fM_first).2 (x2 : Int32).toNatClampNeg) 0 = true then (BM_numberAll_85 L xs m d k x1 x2 x3 (upd g fM_deepest x4) r) else (if am_inr x2 (r fM_first).1 = true then (lp L xs nM_numberAll nm_m225 m d k 9 [some (.ref cM), some (.int x1), some (.int ((r fM_first).2 (x2 : Int32).toNatClampNeg)), some (.int (x3 + 1))] (upd g fM_deepest x4) r) else none)) else none) : Option fn_Z)
  refine (fs_pf (n := n + 23) (ci := 9) (j := 21) rfl rfl rfl rfl).trans ?_
  refine (fs_r (n := n + 20) 3 (pc' := 68) (L' := [some (.ref cM), some (.int x1), some (.int x2), some (.int x3)]) (S' := [.int x2, .ref 10913]) rfl).trans ?_
  refine (fs_il (n := n + 19) (k := 913) rfl rfl).trans (fs_ite ?_ rfl)
  refine (fs_i (n := n + 18) rfl (t := 85) rfl (by decide)).trans (fs_ite ?_ ?_)
  · skip
    exact bM_numberAll_85 L xs m d k (n + 0) x1 x2 x3 (upd g fM_deepest x4) r
  · skip
    refine (fs_r (n := n + 15) 3 (pc' := 77) (L' := [some (.ref cM), some (.int x1), some (.int x2), some (.int x3)]) (S' := [.int x2, .ref 10913]) rfl).trans ?_
    refine (fs_il (n := n + 14) (k := 913) rfl rfl).trans (fs_ite ?_ rfl)
    refine (fs_r (n := n + 12) 2 (pc' := 82) (L' := [some (.ref cM), some (.int x1), some (.int ((r fM_first).2 (x2 : Int32).toNatClampNeg)), some (.int (x3 + 1))]) (S' := []) rfl).trans ?_
    exact (fs_gb (n := n + 11) rfl (t := 9) rfl (by decide)).trans rfl
def BM_numberAll_9 (L : Nat) (xs : Nat → Int32) (m d k : Nat) (x1 x2 x3 : Int32) (g : a2_G) (r : a2_A) : Option fn_Z := (if am_c2 .le x2 0 = true then (some (.inl none, g, r)) else (if am_inr x2 (r fM_number).1 = true then (if am_inr (g fM_told) (r fM_order).1 = true then (if am_c2 .le x3 (g fM_deepest) = true then (BM_numberAll_60 L xs m d k x1 x2 x3 (g fM_deepest) (upd g fM_told ((g fM_told) + 1)) (a2_ua (a2_ua r fM_number ((r fM_number).1, (upd (r fM_number).2 (x2 : Int32).toNatClampNeg (g fM_told)))) fM_order ((r fM_order).1, (upd (r fM_order).2 ((g fM_told) : Int32).toNatClampNeg x2)))) else (BM_numberAll_60 L xs m d k x1 x2 x3 x3 (upd g fM_told ((g fM_told) + 1)) (a2_ua (a2_ua r fM_number ((r fM_number).1, (upd (r fM_number).2 (x2 : Int32).toNatClampNeg (g fM_told)))) fM_order ((r fM_order).1, (upd (r fM_order).2 ((g fM_told) : Int32).toNatClampNeg x2))))) else none) else none))
theorem bM_numberAll_9 (L : Nat) (xs : Nat → Int32) (m d k : Nat) (n : Nat) (x1 x2 x3 : Int32) (g : a2_G) (r : a2_A) : bk L xs nM_numberAll nm_m225 m d k (n + 51) 9 [some (.ref cM), some (.int x1), some (.int x2), some (.int x3)] [] g r = BM_numberAll_9 L xs m d k x1 x2 x3 g r := by
  show _ = ((if am_c2 .le x2 0 = true then (some (.inl none, g, r)) else (if am_inr x2 (r fM_number).1 = true then (if am_inr (g fM_told) (r fM_order).1 = true then (if am_c2 .le x3 (g fM_deepest) = true then (BM_numberAll_60 L xs m d k x1 x2 x3 (g fM_deepest) (upd g fM_told ((g fM_told) + 1)) (a2_ua (a2_ua r fM_number ((r fM_number).1, (upd (r fM_number).2 (x2 : Int32).toNatClampNeg (g fM_told)))) fM_order ((r fM_order).1, (upd (r fM_order).2 ((g fM_told) : Int32).toNatClampNeg x2)))) else (BM_numberAll_60 L xs m d k x1 x2 x3 x3 (upd g fM_told ((g fM_told) + 1)) (a2_ua (a2_ua r fM_number ((r fM_number).1, (upd (r fM_number).2 (x2 : Int32).toNatClampNeg (g fM_told)))) fM_order ((r fM_order).1, (upd (r fM_order).2 ((g fM_told) : Int32).toNatClampNeg x2))))) else none) else none)) : Option fn_Z)
  refine (fs_r (n := n + 50) 1 (pc' := 10) (L' := [some (.ref cM), some (.int x1), some (.int x2), some (.int x3)]) (S' := [.int x2]) rfl).trans ?_
  refine (fs_i (n := n + 49) rfl (t := 127) rfl (by decide)).trans (fs_ite ?_ ?_)
  · skip
    exact (fs_rv (n := n + 48) rfl rfl).trans rfl
  · skip
    refine (fs_r (n := n + 44) 5 (pc' := 22) (L' := [some (.ref cM), some (.int x1), some (.int x2), some (.int x3)]) (S' := [.int (g fM_told), .int x2, .ref 10917]) rfl).trans ?_
    refine (fs_is (n := n + 43) (k := 917) rfl rfl).trans (fs_ite ?_ rfl)
    refine (fs_r (n := n + 38) 5 (pc' := 32) (L' := [some (.ref cM), some (.int x1), some (.int x2), some (.int x3)]) (S' := [.int x2, .int (g fM_told), .ref 10918]) rfl).trans ?_
    refine (fs_is (n := n + 37) (k := 918) rfl rfl).trans (fs_ite ?_ rfl)
    refine (fs_r (n := n + 32) 5 (pc' := 40) (L' := [some (.ref cM), some (.int x1), some (.int x2), some (.int x3)]) (S' := [.int ((g fM_told) + 1), .ref cM]) rfl).trans ?_
    refine (fs_pf (n := n + 31) (ci := 9) (j := 19) rfl rfl rfl rfl).trans ?_
    refine (fs_r (n := n + 27) 4 (pc' := 49) (L' := [some (.ref cM), some (.int x1), some (.int x2), some (.int x3)]) (S' := [.int (g fM_deepest), .int x3, .ref cM]) rfl).trans ?_
    refine (fs_j (n := n + 26) rfl (t := 56) rfl (by decide)).trans (fs_ite ?_ ?_)
    · skip
      refine (fs_r (n := n + 24) 2 (pc' := 60) (L' := [some (.ref cM), some (.int x1), some (.int x2), some (.int x3)]) (S' := [.int (g fM_deepest), .ref cM]) rfl).trans ?_
      exact bM_numberAll_60 L xs m d k (n + 0) x1 x2 x3 (g fM_deepest) (upd g fM_told ((g fM_told) + 1)) (a2_ua (a2_ua r fM_number ((r fM_number).1, (upd (r fM_number).2 (x2 : Int32).toNatClampNeg (g fM_told)))) fM_order ((r fM_order).1, (upd (r fM_order).2 ((g fM_told) : Int32).toNatClampNeg x2)))
    · skip
      refine (fs_r (n := n + 25) 1 (pc' := 53) (L' := [some (.ref cM), some (.int x1), some (.int x2), some (.int x3)]) (S' := [.int x3, .ref cM]) rfl).trans ?_
      refine (fs_go (n := n + 24) rfl (t := 60) rfl (by decide)).trans ?_
      exact bM_numberAll_60 L xs m d k (n + 0) x1 x2 x3 x3 (upd g fM_told ((g fM_told) + 1)) (a2_ua (a2_ua r fM_number ((r fM_number).1, (upd (r fM_number).2 (x2 : Int32).toNatClampNeg (g fM_told)))) fM_order ((r fM_order).1, (upd (r fM_order).2 ((g fM_told) : Int32).toNatClampNeg x2)))
theorem lM_numberAll_9 (L : Nat) (xs : Nat → Int32) (m d k : Nat) (x1 x2 x3 : Int32) (g : a2_G) (r : a2_A) : lp L xs nM_numberAll nm_m225 m d (k + 1) 9 [some (.ref cM), some (.int x1), some (.int x2), some (.int x3)] g r = BM_numberAll_9 L xs m d k x1 x2 x3 g r := fs_lp.trans (bM_numberAll_9 L xs m d k 849 x1 x2 x3 g r)
theorem eM_numberAll (L : Nat) (xs : Nat → Int32) (m d k : Nat) (n : Nat) (a1 : Int32) (g : a2_G) (r : a2_A) : bk L xs nM_numberAll nm_m225 m d k (n + 58) 0 [some (.ref cM), some (.int a1), none, none] [] g r = (if am_inr a1 (r fM_first).1 = true then (BM_numberAll_9 L xs m d k a1 ((r fM_first).2 (a1 : Int32).toNatClampNeg) 1 g r) else none) := by
  refine (fs_r (n := n + 55) 3 (pc' := 5) (L' := [some (.ref cM), some (.int a1), none, none]) (S' := [.int a1, .ref 10913]) rfl).trans ?_
  refine (fs_il (n := n + 54) (k := 913) rfl rfl).trans (fs_ite ?_ rfl)
  refine (fs_r (n := n + 51) 3 (pc' := 9) (L' := [some (.ref cM), some (.int a1), some (.int ((r fM_first).2 (a1 : Int32).toNatClampNeg)), some (.int 1)]) (S' := []) rfl).trans ?_
  exact bM_numberAll_9 L xs m d k (n + 0) a1 ((r fM_first).2 (a1 : Int32).toNatClampNeg) 1 g r
theorem qM_numberAll (L : Nat) (xs : Nat → Int32) (m d : Nat) (a1 : Int32) (g : a2_G) (r : a2_A) : ev L xs (m + 1) (d + 1) nM_numberAll [.ref cM, .int a1] g r = (if am_inr a1 (r fM_first).1 = true then (BM_numberAll_9 L xs (m + 1) d m a1 ((r fM_first).2 (a1 : Int32).toNatClampNeg) 1 g r) else none) := (fs_ev (M := nm_m225) rfl rfl).trans (eM_numberAll L xs (m + 1) d m 842 a1 g r)
/-- CobolParserModel.node(II)I -/
def BM_node_17 (L : Nat) (xs : Nat → Int32) (m d k : Nat) (x1 x2 : Int32) (g : a2_G) (r : a2_A) : Option fn_Z := (some (.inl (some (.int (-1))), g, r))
theorem bM_node_17 (L : Nat) (xs : Nat → Int32) (m d k : Nat) (n : Nat) (x1 x2 : Int32) (g : a2_G) (r : a2_A) : bk L xs nM_node nm_m226 m d k (n + 2) 17 [some (.ref cM), some (.int x1), some (.int x2), none, none, none, none] [] g r = BM_node_17 L xs m d k x1 x2 g r := by
  show _ = ((some (.inl (some (.int (-1))), g, r)) : Option fn_Z)
  refine (fs_r (n := n + 1) 1 (pc' := 18) (L' := [some (.ref cM), some (.int x1), some (.int x2), none, none, none, none]) (S' := [.int (-1)]) rfl).trans ?_
  exact (fs_ri (n := n + 0) rfl rfl).trans rfl
def BM_node_93 (L : Nat) (xs : Nat → Int32) (m d k : Nat) (x1 x2 x3 x4 x5 : Int32) (g : a2_G) (r : a2_A) : Option fn_Z := (some (.inl (some (.int x5)), g, r))
theorem bM_node_93 (L : Nat) (xs : Nat → Int32) (m d k : Nat) (n : Nat) (x1 x2 x3 x4 x5 : Int32) (g : a2_G) (r : a2_A) : bk L xs nM_node nm_m226 m d k (n + 1) 93 [some (.ref cM), some (.int x1), some (.int x2), some (.int x3), some (.int x4), none, none] [.int x5] g r = BM_node_93 L xs m d k x1 x2 x3 x4 x5 g r := by
  show _ = ((some (.inl (some (.int x5)), g, r)) : Option fn_Z)
  exact (fs_ri (n := n + 0) rfl rfl).trans rfl
def BM_node_112 (L : Nat) (xs : Nat → Int32) (m d k : Nat) (x1 x2 x3 x4 x5 x6 : Int32) (g : a2_G) (r : a2_A) : Option fn_Z := (if am_c2 .le x6 0 = true then (some (.inl (some (.int x5)), g, r)) else (if am_inr x6 (r fM_next).1 = true then (lp L xs nM_node nm_m226 m d k 112 [some (.ref cM), some (.int x1), some (.int x2), some (.int x3), some (.int x4), some (.int (x5 + 1)), some (.int ((r fM_next).2 (x6 : Int32).toNatClampNeg))] g r) else none))
theorem bM_node_112 (L : Nat) (xs : Nat → Int32) (m d k : Nat) (n : Nat) (x1 x2 x3 x4 x5 x6 : Int32) (g : a2_G) (r : a2_A) : bk L xs nM_node nm_m226 m d k (n + 9) 112 [some (.ref cM), some (.int x1), some (.int x2), some (.int x3), some (.int x4), some (.int x5), some (.int x6)] [] g r = BM_node_112 L xs m d k x1 x2 x3 x4 x5 x6 g r := by
  show _ = ((if am_c2 .le x6 0 = true then (some (.inl (some (.int x5)), g, r)) else (if am_inr x6 (r fM_next).1 = true then (lp L xs nM_node nm_m226 m d k 112 [some (.ref cM), some (.int x1), some (.int x2), some (.int x3), some (.int x4), some (.int (x5 + 1)), some (.int ((r fM_next).2 (x6 : Int32).toNatClampNeg))] g r) else none)) : Option fn_Z)
  refine (fs_r (n := n + 8) 1 (pc' := 114) (L' := [some (.ref cM), some (.int x1), some (.int x2), some (.int x3), some (.int x4), some (.int x5), some (.int x6)]) (S' := [.int x6]) rfl).trans ?_
  refine (fs_i (n := n + 7) rfl (t := 132) rfl (by decide)).trans (fs_ite ?_ ?_)
  · skip
    refine (fs_r (n := n + 6) 1 (pc' := 134) (L' := [some (.ref cM), some (.int x1), some (.int x2), some (.int x3), some (.int x4), some (.int x5), some (.int x6)]) (S' := [.int x5]) rfl).trans ?_
    exact (fs_ri (n := n + 5) rfl rfl).trans rfl
  · skip
    refine (fs_r (n := n + 3) 4 (pc' := 126) (L' := [some (.ref cM), some (.int x1), some (.int x2), some (.int x3), some (.int x4), some (.int (x5 + 1)), some (.int x6)]) (S' := [.int x6, .ref 10915]) rfl).trans ?_
    refine (fs_il (n := n + 2) (k := 915) rfl rfl).trans (fs_ite ?_ rfl)
    refine (fs_r (n := n + 1) 1 (pc' := 129) (L' := [some (.ref cM), some (.int x1), some (.int x2), some (.int x3), some (.int x4), some (.int (x5 + 1)), some (.int ((r fM_next).2 (x6 : Int32).toNatClampNeg))]) (S' := []) rfl).trans ?_
    exact (fs_gb (n := n + 0) rfl (t := 112) rfl (by decide)).trans rfl
theorem lM_node_112 (L : Nat) (xs : Nat → Int32) (m d k : Nat) (x1 x2 x3 x4 x5 x6 : Int32) (g : a2_G) (r : a2_A) : lp L xs nM_node nm_m226 m d (k + 1) 112 [some (.ref cM), some (.int x1), some (.int x2), some (.int x3), some (.int x4), some (.int x5), some (.int x6)] g r = BM_node_112 L xs m d k x1 x2 x3 x4 x5 x6 g r := fs_lp.trans (bM_node_112 L xs m d k 891 x1 x2 x3 x4 x5 x6 g r)
def BM_node_159 (L : Nat) (xs : Nat → Int32) (m d k : Nat) (x1 x2 x3 x4 x5 : Int32) (g : a2_G) (r : a2_A) : Option fn_Z := (some (.inl (some (.int x5)), g, r))
theorem bM_node_159 (L : Nat) (xs : Nat → Int32) (m d k : Nat) (n : Nat) (x1 x2 x3 x4 x5 : Int32) (g : a2_G) (r : a2_A) : bk L xs nM_node nm_m226 m d k (n + 1) 159 [some (.ref cM), some (.int x1), some (.int x2), some (.int x3), some (.int x4), none, none] [.int x5] g r = BM_node_159 L xs m d k x1 x2 x3 x4 x5 g r := by
  show _ = ((some (.inl (some (.int x5)), g, r)) : Option fn_Z)
  exact (fs_ri (n := n + 0) rfl rfl).trans rfl
def BM_node_203 (L : Nat) (xs : Nat → Int32) (m d k : Nat) (x1 x2 x3 x4 x5 : Int32) (g : a2_G) (r : a2_A) : Option fn_Z := (some (.inl (some (.int x5)), g, r))
theorem bM_node_203 (L : Nat) (xs : Nat → Int32) (m d k : Nat) (n : Nat) (x1 x2 x3 x4 x5 : Int32) (g : a2_G) (r : a2_A) : bk L xs nM_node nm_m226 m d k (n + 1) 203 [some (.ref cM), some (.int x1), some (.int x2), some (.int x3), some (.int x4), none, none] [.int x5] g r = BM_node_203 L xs m d k x1 x2 x3 x4 x5 g r := by
  show _ = ((some (.inl (some (.int x5)), g, r)) : Option fn_Z)
  exact (fs_ri (n := n + 0) rfl rfl).trans rfl
theorem eM_node (L : Nat) (xs : Nat → Int32) (m d k : Nat) (n : Nat) (a1 a2 : Int32) (g : a2_G) (r : a2_A) : bk L xs nM_node nm_m226 m d k (n + 37) 0 [some (.ref cM), some (.int a1), some (.int a2), none, none, none, none] [] g r = (if am_c2 .lt a1 0 = true then (BM_node_17 L xs m d k a1 a2 (upd g fM_thrown 0) r) else (if am_c2 .lt a1 (g fM_told) = true then (if am_inr a1 (r fM_order).1 = true then (if am_inr ((r fM_order).2 (a1 : Int32).toNatClampNeg) (r fM_kind).1 = true then (if (a2 : Int32).toInt = 0 then (some (.inl (some (.int ((r fM_kind).2 (((r fM_order).2 (a1 : Int32).toNatClampNeg) : Int32).toNatClampNeg))), (upd g fM_thrown 0), r)) else (if (a2 : Int32).toInt = 1 then (fn_v (ev L xs m d nM_hasValue [.int ((r fM_kind).2 (((r fM_order).2 (a1 : Int32).toNatClampNeg) : Int32).toNatClampNeg)] (upd g fM_thrown 0) r) fun v3 g1 r2 => (if am_c2 .eq v3 0 = true then (BM_node_93 L xs m d k a1 a2 ((r fM_order).2 (a1 : Int32).toNatClampNeg) ((r fM_kind).2 (((r fM_order).2 (a1 : Int32).toNatClampNeg) : Int32).toNatClampNeg) 0 g1 r2) else (if am_inr ((r fM_order).2 (a1 : Int32).toNatClampNeg) (r2 fM_value).1 = true then (BM_node_93 L xs m d k a1 a2 ((r fM_order).2 (a1 : Int32).toNatClampNeg) ((r fM_kind).2 (((r fM_order).2 (a1 : Int32).toNatClampNeg) : Int32).toNatClampNeg) ((r2 fM_value).2 (((r fM_order).2 (a1 : Int32).toNatClampNeg) : Int32).toNatClampNeg) g1 r2) else none))) else (if (a2 : Int32).toInt = 2 then (if am_inr ((r fM_order).2 (a1 : Int32).toNatClampNeg) (r fM_place).1 = true then (some (.inl (some (.int ((r fM_place).2 (((r fM_order).2 (a1 : Int32).toNatClampNeg) : Int32).toNatClampNeg))), (upd g fM_thrown 0), r)) else none) else (if (a2 : Int32).toInt = 3 then (if am_inr ((r fM_order).2 (a1 : Int32).toNatClampNeg) (r fM_first).1 = true then (BM_node_112 L xs m d k a1 a2 ((r fM_order).2 (a1 : Int32).toNatClampNeg) ((r fM_kind).2 (((r fM_order).2 (a1 : Int32).toNatClampNeg) : Int32).toNatClampNeg) 0 ((r fM_first).2 (((r fM_order).2 (a1 : Int32).toNatClampNeg) : Int32).toNatClampNeg) (upd g fM_thrown 0) r) else none) else (if (a2 : Int32).toInt = 4 then (if am_inr ((r fM_order).2 (a1 : Int32).toNatClampNeg) (r fM_above).1 = true then (if am_c2 .ne ((r fM_above).2 (((r fM_order).2 (a1 : Int32).toNatClampNeg) : Int32).toNatClampNeg) 0 = true then (if am_inr ((r fM_order).2 (a1 : Int32).toNatClampNeg) (r fM_above).1 = true then (if am_inr ((r fM_above).2 (((r fM_order).2 (a1 : Int32).toNatClampNeg) : Int32).toNatClampNeg) (r fM_number).1 = true then (BM_node_159 L xs m d k a1 a2 ((r fM_order).2 (a1 : Int32).toNatClampNeg) ((r fM_kind).2 (((r fM_order).2 (a1 : Int32).toNatClampNeg) : Int32).toNatClampNeg) ((r fM_number).2 (((r fM_above).2 (((r fM_order).2 (a1 : Int32).toNatClampNeg) : Int32).toNatClampNeg) : Int32).toNatClampNeg) (upd g fM_thrown 0) r) else none) else none) else (BM_node_159 L xs m d k a1 a2 ((r fM_order).2 (a1 : Int32).toNatClampNeg) ((r fM_kind).2 (((r fM_order).2 (a1 : Int32).toNatClampNeg) : Int32).toNatClampNeg) (-1) (upd g fM_thrown 0) r)) else none) else (if (a2 : Int32).toInt = 5 then (if am_c2 .ne ((r fM_kind).2 (((r fM_order).2 (a1 : Int32).toNatClampNeg) : Int32).toNatClampNeg) 53 = true then (fn_v (ev L xs m d nM_in [.int ((r fM_kind).2 (((r fM_order).2 (a1 : Int32).toNatClampNeg) : Int32).toNatClampNeg), .int 26, .int 38] (upd g fM_thrown 0) r) fun v6 g4 r5 => (if am_c2 .eq v6 0 = true then (BM_node_203 L xs m d k a1 a2 ((r fM_order).2 (a1 : Int32).toNatClampNeg) ((r fM_kind).2 (((r fM_order).2 (a1 : Int32).toNatClampNeg) : Int32).toNatClampNeg) (-1) g4 r5) else (if am_inr ((r fM_order).2 (a1 : Int32).toNatClampNeg) (r5 fM_extra).1 = true then (BM_node_203 L xs m d k a1 a2 ((r fM_order).2 (a1 : Int32).toNatClampNeg) ((r fM_kind).2 (((r fM_order).2 (a1 : Int32).toNatClampNeg) : Int32).toNatClampNeg) ((r5 fM_extra).2 (((r fM_order).2 (a1 : Int32).toNatClampNeg) : Int32).toNatClampNeg) g4 r5) else none))) else (if am_inr ((r fM_order).2 (a1 : Int32).toNatClampNeg) (r fM_extra).1 = true then (if am_inr ((r fM_extra).2 (((r fM_order).2 (a1 : Int32).toNatClampNeg) : Int32).toNatClampNeg) (r fM_number).1 = true then (BM_node_203 L xs m d k a1 a2 ((r fM_order).2 (a1 : Int32).toNatClampNeg) ((r fM_kind).2 (((r fM_order).2 (a1 : Int32).toNatClampNeg) : Int32).toNatClampNeg) ((r fM_number).2 (((r fM_extra).2 (((r fM_order).2 (a1 : Int32).toNatClampNeg) : Int32).toNatClampNeg) : Int32).toNatClampNeg) (upd g fM_thrown 0) r) else none) else none)) else (some (.inl (some (.int (-1))), (upd g fM_thrown 0), r)))))))) else none) else none) else (BM_node_17 L xs m d k a1 a2 (upd g fM_thrown 0) r))) := by
  refine (fs_r (n := n + 35) 2 (pc' := 2) (L' := [some (.ref cM), some (.int a1), some (.int a2), none, none, none, none]) (S' := [.int 0, .ref cM]) rfl).trans ?_
  refine (fs_pf (n := n + 34) (ci := 9) (j := 0) rfl rfl rfl rfl).trans ?_
  refine (fs_r (n := n + 33) 1 (pc' := 6) (L' := [some (.ref cM), some (.int a1), some (.int a2), none, none, none, none]) (S' := [.int a1]) rfl).trans ?_
  refine (fs_i (n := n + 32) rfl (t := 17) rfl (by decide)).trans (fs_ite ?_ ?_)
  · skip
    exact bM_node_17 L xs m d k (n + 30) a1 a2 (upd g fM_thrown 0) r
  · skip
    refine (fs_r (n := n + 29) 3 (pc' := 14) (L' := [some (.ref cM), some (.int a1), some (.int a2), none, none, none, none]) (S' := [.int (g fM_told), .int a1]) rfl).trans ?_
    refine (fs_j (n := n + 28) rfl (t := 19) rfl (by decide)).trans (fs_ite ?_ ?_)
    · skip
      refine (fs_r (n := n + 25) 3 (pc' := 24) (L' := [some (.ref cM), some (.int a1), some (.int a2), none, none, none, none]) (S' := [.int a1, .ref 10918]) rfl).trans ?_
      refine (fs_il (n := n + 24) (k := 918) rfl rfl).trans (fs_ite ?_ rfl)
      refine (fs_r (n := n + 20) 4 (pc' := 31) (L' := [some (.ref cM), some (.int a1), some (.int a2), some (.int ((r fM_order).2 (a1 : Int32).toNatClampNeg)), none, none, none]) (S' := [.int ((r fM_order).2 (a1 : Int32).toNatClampNeg), .ref 10909]) rfl).trans ?_
      refine (fs_il (n := n + 19) (k := 909) rfl rfl).trans (fs_ite ?_ rfl)
      refine (fs_r (n := n + 17) 2 (pc' := 35) (L' := [some (.ref cM), some (.int a1), some (.int a2), some (.int ((r fM_order).2 (a1 : Int32).toNatClampNeg)), some (.int ((r fM_kind).2 (((r fM_order).2 (a1 : Int32).toNatClampNeg) : Int32).toNatClampNeg)), none, none]) (S' := [.int a2]) rfl).trans ?_
      refine (fs_ts (n := n + 16) (l := [37, 40, 59, 66, 100, 125]) rfl rfl rfl).trans ?_
      refine fs_tc (v' := 1) rfl ?_ (fs_tc (v' := 2) rfl ?_ (fs_tc (v' := 3) rfl ?_ (fs_tc (v' := 4) rfl ?_ (fs_tc (v' := 5) rfl ?_ (fs_tc (v' := 6) rfl ?_ (fs_tn ?_))))))
      · refine (fs_J1 (n := n + 16) (t := 72) rfl (by decide)).trans ?_
        refine (fs_r (n := n + 15) 1 (pc' := 74) (L' := [some (.ref cM), some (.int a1), some (.int a2), some (.int ((r fM_order).2 (a1 : Int32).toNatClampNeg)), some (.int ((r fM_kind).2 (((r fM_order).2 (a1 : Int32).toNatClampNeg) : Int32).toNatClampNeg)), none, none]) (S' := [.int ((r fM_kind).2 (((r fM_order).2 (a1 : Int32).toNatClampNeg) : Int32).toNatClampNeg)]) rfl).trans ?_
        exact (fs_ri (n := n + 14) rfl rfl).trans rfl
      · refine (fs_J1 (n := n + 16) (t := 75) rfl (by decide)).trans ?_
        refine (fs_r (n := n + 15) 1 (pc' := 77) (L' := [some (.ref cM), some (.int a1), some (.int a2), some (.int ((r fM_order).2 (a1 : Int32).toNatClampNeg)), some (.int ((r fM_kind).2 (((r fM_order).2 (a1 : Int32).toNatClampNeg) : Int32).toNatClampNeg)), none, none]) (S' := [.int ((r fM_kind).2 (((r fM_order).2 (a1 : Int32).toNatClampNeg) : Int32).toNatClampNeg)]) rfl).trans ?_
        refine (fs_sv (n := n + 14) (N := nm_m227) (as := [.int ((r fM_kind).2 (((r fM_order).2 (a1 : Int32).toNatClampNeg) : Int32).toNatClampNeg)]) (rest := []) rfl rfl (by decide) rfl rfl rfl rfl rfl).trans (fs_fv fun v3 g1 r2 => ?_)
        refine (fs_i (n := n + 13) rfl (t := 92) rfl (by decide)).trans (fs_ite ?_ ?_)
        · skip
          refine (fs_r (n := n + 12) 1 (pc' := 93) (L' := [some (.ref cM), some (.int a1), some (.int a2), some (.int ((r fM_order).2 (a1 : Int32).toNatClampNeg)), some (.int ((r fM_kind).2 (((r fM_order).2 (a1 : Int32).toNatClampNeg) : Int32).toNatClampNeg)), none, none]) (S' := [.int 0]) rfl).trans ?_
          exact bM_node_93 L xs m d k (n + 11) a1 a2 ((r fM_order).2 (a1 : Int32).toNatClampNeg) ((r fM_kind).2 (((r fM_order).2 (a1 : Int32).toNatClampNeg) : Int32).toNatClampNeg) 0 g1 r2
        · skip
          refine (fs_r (n := n + 10) 3 (pc' := 88) (L' := [some (.ref cM), some (.int a1), some (.int a2), some (.int ((r fM_order).2 (a1 : Int32).toNatClampNeg)), some (.int ((r fM_kind).2 (((r fM_order).2 (a1 : Int32).toNatClampNeg) : Int32).toNatClampNeg)), none, none]) (S' := [.int ((r fM_order).2 (a1 : Int32).toNatClampNeg), .ref 10910]) rfl).trans ?_
          refine (fs_il (n := n + 9) (k := 910) rfl rfl).trans (fs_ite ?_ rfl)
          refine (fs_go (n := n + 8) rfl (t := 93) rfl (by decide)).trans ?_
          exact bM_node_93 L xs m d k (n + 7) a1 a2 ((r fM_order).2 (a1 : Int32).toNatClampNeg) ((r fM_kind).2 (((r fM_order).2 (a1 : Int32).toNatClampNeg) : Int32).toNatClampNeg) ((r2 fM_value).2 (((r fM_order).2 (a1 : Int32).toNatClampNeg) : Int32).toNatClampNeg) g1 r2
      · refine (fs_J1 (n := n + 16) (t := 94) rfl (by decide)).trans ?_
        refine (fs_r (n := n + 13) 3 (pc' := 99) (L' := [some (.ref cM), some (.int a1), some (.int a2), some (.int ((r fM_order).2 (a1 : Int32).toNatClampNeg)), some (.int ((r fM_kind).2 (((r fM_order).2 (a1 : Int32).toNatClampNeg) : Int32).toNatClampNeg)), none, none]) (S' := [.int ((r fM_order).2 (a1 : Int32).toNatClampNeg), .ref 10911]) rfl).trans ?_
        refine (fs_il (n := n + 12) (k := 911) rfl rfl).trans (fs_ite ?_ rfl)
        exact (fs_ri (n := n + 11) rfl rfl).trans rfl
      · refine (fs_J1 (n := n + 16) (t := 101) rfl (by decide)).trans ?_
        refine (fs_r (n := n + 11) 5 (pc' := 109) (L' := [some (.ref cM), some (.int a1), some (.int a2), some (.int ((r fM_order).2 (a1 : Int32).toNatClampNeg)), some (.int ((r fM_kind).2 (((r fM_order).2 (a1 : Int32).toNatClampNeg) : Int32).toNatClampNeg)), some (.int 0), none]) (S' := [.int ((r fM_order).2 (a1 : Int32).toNatClampNeg), .ref 10913]) rfl).trans ?_
        refine (fs_il (n := n + 10) (k := 913) rfl rfl).trans (fs_ite ?_ rfl)
        refine (fs_r (n := n + 9) 1 (pc' := 112) (L' := [some (.ref cM), some (.int a1), some (.int a2), some (.int ((r fM_order).2 (a1 : Int32).toNatClampNeg)), some (.int ((r fM_kind).2 (((r fM_order).2 (a1 : Int32).toNatClampNeg) : Int32).toNatClampNeg)), some (.int 0), some (.int ((r fM_first).2 (((r fM_order).2 (a1 : Int32).toNatClampNeg) : Int32).toNatClampNeg))]) (S' := []) rfl).trans ?_
        exact bM_node_112 L xs m d k (n + 0) a1 a2 ((r fM_order).2 (a1 : Int32).toNatClampNeg) ((r fM_kind).2 (((r fM_order).2 (a1 : Int32).toNatClampNeg) : Int32).toNatClampNeg) 0 ((r fM_first).2 (((r fM_order).2 (a1 : Int32).toNatClampNeg) : Int32).toNatClampNeg) (upd g fM_thrown 0) r
      · refine (fs_J1 (n := n + 16) (t := 135) rfl (by decide)).trans ?_
        refine (fs_r (n := n + 13) 3 (pc' := 140) (L' := [some (.ref cM), some (.int a1), some (.int a2), some (.int ((r fM_order).2 (a1 : Int32).toNatClampNeg)), some (.int ((r fM_kind).2 (((r fM_order).2 (a1 : Int32).toNatClampNeg) : Int32).toNatClampNeg)), none, none]) (S' := [.int ((r fM_order).2 (a1 : Int32).toNatClampNeg), .ref 10916]) rfl).trans ?_
        refine (fs_il (n := n + 12) (k := 916) rfl rfl).trans (fs_ite ?_ rfl)
        refine (fs_i (n := n + 11) rfl (t := 148) rfl (by decide)).trans (fs_ite ?_ ?_)
        · skip
          refine (fs_r (n := n + 6) 5 (pc' := 157) (L' := [some (.ref cM), some (.int a1), some (.int a2), some (.int ((r fM_order).2 (a1 : Int32).toNatClampNeg)), some (.int ((r fM_kind).2 (((r fM_order).2 (a1 : Int32).toNatClampNeg) : Int32).toNatClampNeg)), none, none]) (S' := [.int ((r fM_order).2 (a1 : Int32).toNatClampNeg), .ref 10916, .ref 10917]) rfl).trans ?_
          refine (fs_il (n := n + 5) (k := 916) rfl rfl).trans (fs_ite ?_ rfl)
          refine (fs_il (n := n + 4) (k := 917) rfl rfl).trans (fs_ite ?_ rfl)
          exact bM_node_159 L xs m d k (n + 3) a1 a2 ((r fM_order).2 (a1 : Int32).toNatClampNeg) ((r fM_kind).2 (((r fM_order).2 (a1 : Int32).toNatClampNeg) : Int32).toNatClampNeg) ((r fM_number).2 (((r fM_above).2 (((r fM_order).2 (a1 : Int32).toNatClampNeg) : Int32).toNatClampNeg) : Int32).toNatClampNeg) (upd g fM_thrown 0) r
        · skip
          refine (fs_r (n := n + 10) 1 (pc' := 145) (L' := [some (.ref cM), some (.int a1), some (.int a2), some (.int ((r fM_order).2 (a1 : Int32).toNatClampNeg)), some (.int ((r fM_kind).2 (((r fM_order).2 (a1 : Int32).toNatClampNeg) : Int32).toNatClampNeg)), none, none]) (S' := [.int (-1)]) rfl).trans ?_
          refine (fs_go (n := n + 9) rfl (t := 159) rfl (by decide)).trans ?_
          exact bM_node_159 L xs m d k (n + 8) a1 a2 ((r fM_order).2 (a1 : Int32).toNatClampNeg) ((r fM_kind).2 (((r fM_order).2 (a1 : Int32).toNatClampNeg) : Int32).toNatClampNeg) (-1) (upd g fM_thrown 0) r
      · refine (fs_J1 (n := n + 16) (t := 160) rfl (by decide)).trans ?_
        refine (fs_r (n := n + 14) 2 (pc' := 164) (L' := [some (.ref cM), some (.int a1), some (.int a2), some (.int ((r fM_order).2 (a1 : Int32).toNatClampNeg)), some (.int ((r fM_kind).2 (((r fM_order).2 (a1 : Int32).toNatClampNeg) : Int32).toNatClampNeg)), none, none]) (S' := [.int 53, .int ((r fM_kind).2 (((r fM_order).2 (a1 : Int32).toNatClampNeg) : Int32).toNatClampNeg)]) rfl).trans ?_
        refine (fs_j (n := n + 13) rfl (t := 181) rfl (by decide)).trans (fs_ite ?_ ?_)
        · skip
          refine (fs_r (n := n + 10) 3 (pc' := 187) (L' := [some (.ref cM), some (.int a1), some (.int a2), some (.int ((r fM_order).2 (a1 : Int32).toNatClampNeg)), some (.int ((r fM_kind).2 (((r fM_order).2 (a1 : Int32).toNatClampNeg) : Int32).toNatClampNeg)), none, none]) (S' := [.int 38, .int 26, .int ((r fM_kind).2 (((r fM_order).2 (a1 : Int32).toNatClampNeg) : Int32).toNatClampNeg)]) rfl).trans ?_
          refine (fs_sv (n := n + 9) (N := nm_m158) (as := [.int ((r fM_kind).2 (((r fM_order).2 (a1 : Int32).toNatClampNeg) : Int32).toNatClampNeg), .int 26, .int 38]) (rest := []) rfl rfl (by decide) rfl rfl rfl rfl rfl).trans (fs_fv fun v6 g4 r5 => ?_)
          refine (fs_i (n := n + 8) rfl (t := 202) rfl (by decide)).trans (fs_ite ?_ ?_)
          · skip
            refine (fs_r (n := n + 7) 1 (pc' := 203) (L' := [some (.ref cM), some (.int a1), some (.int a2), some (.int ((r fM_order).2 (a1 : Int32).toNatClampNeg)), some (.int ((r fM_kind).2 (((r fM_order).2 (a1 : Int32).toNatClampNeg) : Int32).toNatClampNeg)), none, none]) (S' := [.int (-1)]) rfl).trans ?_
            exact bM_node_203 L xs m d k (n + 6) a1 a2 ((r fM_order).2 (a1 : Int32).toNatClampNeg) ((r fM_kind).2 (((r fM_order).2 (a1 : Int32).toNatClampNeg) : Int32).toNatClampNeg) (-1) g4 r5
          · skip
            refine (fs_r (n := n + 5) 3 (pc' := 198) (L' := [some (.ref cM), some (.int a1), some (.int a2), some (.int ((r fM_order).2 (a1 : Int32).toNatClampNeg)), some (.int ((r fM_kind).2 (((r fM_order).2 (a1 : Int32).toNatClampNeg) : Int32).toNatClampNeg)), none, none]) (S' := [.int ((r fM_order).2 (a1 : Int32).toNatClampNeg), .ref 10912]) rfl).trans ?_
            refine (fs_il (n := n + 4) (k := 912) rfl rfl).trans (fs_ite ?_ rfl)
            refine (fs_go (n := n + 3) rfl (t := 203) rfl (by decide)).trans ?_
            exact bM_node_203 L xs m d k (n + 2) a1 a2 ((r fM_order).2 (a1 : Int32).toNatClampNeg) ((r fM_kind).2 (((r fM_order).2 (a1 : Int32).toNatClampNeg) : Int32).toNatClampNeg) ((r5 fM_extra).2 (((r fM_order).2 (a1 : Int32).toNatClampNeg) : Int32).toNatClampNeg) g4 r5
        · skip
          refine (fs_r (n := n + 8) 5 (pc' := 176) (L' := [some (.ref cM), some (.int a1), some (.int a2), some (.int ((r fM_order).2 (a1 : Int32).toNatClampNeg)), some (.int ((r fM_kind).2 (((r fM_order).2 (a1 : Int32).toNatClampNeg) : Int32).toNatClampNeg)), none, none]) (S' := [.int ((r fM_order).2 (a1 : Int32).toNatClampNeg), .ref 10912, .ref 10917]) rfl).trans ?_
          refine (fs_il (n := n + 7) (k := 912) rfl rfl).trans (fs_ite ?_ rfl)
          refine (fs_il (n := n + 6) (k := 917) rfl rfl).trans (fs_ite ?_ rfl)
          refine (fs_go (n := n + 5) rfl (t := 203) rfl (by decide)).trans ?_
          exact bM_node_203 L xs m d k (n + 4) a1 a2 ((r fM_order).2 (a1 : Int32).toNatClampNeg) ((r fM_kind).2 (((r fM_order).2 (a1 : Int32).toNatClampNeg) : Int32).toNatClampNeg) ((r fM_number).2 (((r fM_extra).2 (((r fM_order).2 (a1 : Int32).toNatClampNeg) : Int32).toNatClampNeg) : Int32).toNatClampNeg) (upd g fM_thrown 0) r
      · refine (fs_J1 (n := n + 16) (t := 204) rfl (by decide)).trans ?_
        refine (fs_r (n := n + 15) 1 (pc' := 205) (L' := [some (.ref cM), some (.int a1), some (.int a2), some (.int ((r fM_order).2 (a1 : Int32).toNatClampNeg)), some (.int ((r fM_kind).2 (((r fM_order).2 (a1 : Int32).toNatClampNeg) : Int32).toNatClampNeg)), none, none]) (S' := [.int (-1)]) rfl).trans ?_
        exact (fs_ri (n := n + 14) rfl rfl).trans rfl
    · skip
      exact bM_node_17 L xs m d k (n + 26) a1 a2 (upd g fM_thrown 0) r
theorem qM_node (L : Nat) (xs : Nat → Int32) (m d : Nat) (a1 a2 : Int32) (g : a2_G) (r : a2_A) : ev L xs (m + 1) (d + 1) nM_node [.ref cM, .int a1, .int a2] g r = (if am_c2 .lt a1 0 = true then (BM_node_17 L xs (m + 1) d m a1 a2 (upd g fM_thrown 0) r) else (if am_c2 .lt a1 (g fM_told) = true then (if am_inr a1 (r fM_order).1 = true then (if am_inr ((r fM_order).2 (a1 : Int32).toNatClampNeg) (r fM_kind).1 = true then (if (a2 : Int32).toInt = 0 then (some (.inl (some (.int ((r fM_kind).2 (((r fM_order).2 (a1 : Int32).toNatClampNeg) : Int32).toNatClampNeg))), (upd g fM_thrown 0), r)) else (if (a2 : Int32).toInt = 1 then (fn_v (ev L xs (m + 1) d nM_hasValue [.int ((r fM_kind).2 (((r fM_order).2 (a1 : Int32).toNatClampNeg) : Int32).toNatClampNeg)] (upd g fM_thrown 0) r) fun v3 g1 r2 => (if am_c2 .eq v3 0 = true then (BM_node_93 L xs (m + 1) d m a1 a2 ((r fM_order).2 (a1 : Int32).toNatClampNeg) ((r fM_kind).2 (((r fM_order).2 (a1 : Int32).toNatClampNeg) : Int32).toNatClampNeg) 0 g1 r2) else (if am_inr ((r fM_order).2 (a1 : Int32).toNatClampNeg) (r2 fM_value).1 = true then (BM_node_93 L xs (m + 1) d m a1 a2 ((r fM_order).2 (a1 : Int32).toNatClampNeg) ((r fM_kind).2 (((r fM_order).2 (a1 : Int32).toNatClampNeg) : Int32).toNatClampNeg) ((r2 fM_value).2 (((r fM_order).2 (a1 : Int32).toNatClampNeg) : Int32).toNatClampNeg) g1 r2) else none))) else (if (a2 : Int32).toInt = 2 then (if am_inr ((r fM_order).2 (a1 : Int32).toNatClampNeg) (r fM_place).1 = true then (some (.inl (some (.int ((r fM_place).2 (((r fM_order).2 (a1 : Int32).toNatClampNeg) : Int32).toNatClampNeg))), (upd g fM_thrown 0), r)) else none) else (if (a2 : Int32).toInt = 3 then (if am_inr ((r fM_order).2 (a1 : Int32).toNatClampNeg) (r fM_first).1 = true then (BM_node_112 L xs (m + 1) d m a1 a2 ((r fM_order).2 (a1 : Int32).toNatClampNeg) ((r fM_kind).2 (((r fM_order).2 (a1 : Int32).toNatClampNeg) : Int32).toNatClampNeg) 0 ((r fM_first).2 (((r fM_order).2 (a1 : Int32).toNatClampNeg) : Int32).toNatClampNeg) (upd g fM_thrown 0) r) else none) else (if (a2 : Int32).toInt = 4 then (if am_inr ((r fM_order).2 (a1 : Int32).toNatClampNeg) (r fM_above).1 = true then (if am_c2 .ne ((r fM_above).2 (((r fM_order).2 (a1 : Int32).toNatClampNeg) : Int32).toNatClampNeg) 0 = true then (if am_inr ((r fM_order).2 (a1 : Int32).toNatClampNeg) (r fM_above).1 = true then (if am_inr ((r fM_above).2 (((r fM_order).2 (a1 : Int32).toNatClampNeg) : Int32).toNatClampNeg) (r fM_number).1 = true then (BM_node_159 L xs (m + 1) d m a1 a2 ((r fM_order).2 (a1 : Int32).toNatClampNeg) ((r fM_kind).2 (((r fM_order).2 (a1 : Int32).toNatClampNeg) : Int32).toNatClampNeg) ((r fM_number).2 (((r fM_above).2 (((r fM_order).2 (a1 : Int32).toNatClampNeg) : Int32).toNatClampNeg) : Int32).toNatClampNeg) (upd g fM_thrown 0) r) else none) else none) else (BM_node_159 L xs (m + 1) d m a1 a2 ((r fM_order).2 (a1 : Int32).toNatClampNeg) ((r fM_kind).2 (((r fM_order).2 (a1 : Int32).toNatClampNeg) : Int32).toNatClampNeg) (-1) (upd g fM_thrown 0) r)) else none) else (if (a2 : Int32).toInt = 5 then (if am_c2 .ne ((r fM_kind).2 (((r fM_order).2 (a1 : Int32).toNatClampNeg) : Int32).toNatClampNeg) 53 = true then (fn_v (ev L xs (m + 1) d nM_in [.int ((r fM_kind).2 (((r fM_order).2 (a1 : Int32).toNatClampNeg) : Int32).toNatClampNeg), .int 26, .int 38] (upd g fM_thrown 0) r) fun v6 g4 r5 => (if am_c2 .eq v6 0 = true then (BM_node_203 L xs (m + 1) d m a1 a2 ((r fM_order).2 (a1 : Int32).toNatClampNeg) ((r fM_kind).2 (((r fM_order).2 (a1 : Int32).toNatClampNeg) : Int32).toNatClampNeg) (-1) g4 r5) else (if am_inr ((r fM_order).2 (a1 : Int32).toNatClampNeg) (r5 fM_extra).1 = true then (BM_node_203 L xs (m + 1) d m a1 a2 ((r fM_order).2 (a1 : Int32).toNatClampNeg) ((r fM_kind).2 (((r fM_order).2 (a1 : Int32).toNatClampNeg) : Int32).toNatClampNeg) ((r5 fM_extra).2 (((r fM_order).2 (a1 : Int32).toNatClampNeg) : Int32).toNatClampNeg) g4 r5) else none))) else (if am_inr ((r fM_order).2 (a1 : Int32).toNatClampNeg) (r fM_extra).1 = true then (if am_inr ((r fM_extra).2 (((r fM_order).2 (a1 : Int32).toNatClampNeg) : Int32).toNatClampNeg) (r fM_number).1 = true then (BM_node_203 L xs (m + 1) d m a1 a2 ((r fM_order).2 (a1 : Int32).toNatClampNeg) ((r fM_kind).2 (((r fM_order).2 (a1 : Int32).toNatClampNeg) : Int32).toNatClampNeg) ((r fM_number).2 (((r fM_extra).2 (((r fM_order).2 (a1 : Int32).toNatClampNeg) : Int32).toNatClampNeg) : Int32).toNatClampNeg) (upd g fM_thrown 0) r) else none) else none)) else (some (.inl (some (.int (-1))), (upd g fM_thrown 0), r)))))))) else none) else none) else (BM_node_17 L xs (m + 1) d m a1 a2 (upd g fM_thrown 0) r))) := (fs_ev (M := nm_m226) rfl rfl).trans (eM_node L xs (m + 1) d m 863 a1 a2 g r)
/-- CobolParserModel.hasValue(I)Z -/
def BM_hasValue_118 (L : Nat) (xs : Nat → Int32) (m d k : Nat) (x1 x2 : Int32) (g : a2_G) (r : a2_A) : Option fn_Z := (if x2 = 0 ∨ x2 = 1 then some (.inl (some (.int x2)), g, r) else none)
theorem bM_hasValue_118 (L : Nat) (xs : Nat → Int32) (m d k : Nat) (n : Nat) (x1 x2 : Int32) (g : a2_G) (r : a2_A) : bk L xs nM_hasValue nm_m227 m d k (n + 1) 118 [some (.int x1)] [.int x2] g r = BM_hasValue_118 L xs m d k x1 x2 g r := by
  show _ = ((if x2 = 0 ∨ x2 = 1 then some (.inl (some (.int x2)), g, r) else none) : Option fn_Z)
  exact (fs_rb (n := n + 0) rfl rfl).trans rfl
def BM_hasValue_113 (L : Nat) (xs : Nat → Int32) (m d k : Nat) (x1 : Int32) (g : a2_G) (r : a2_A) : Option fn_Z := (BM_hasValue_118 L xs m d k x1 1 g r)
theorem bM_hasValue_113 (L : Nat) (xs : Nat → Int32) (m d k : Nat) (n : Nat) (x1 : Int32) (g : a2_G) (r : a2_A) : bk L xs nM_hasValue nm_m227 m d k (n + 3) 113 [some (.int x1)] [] g r = BM_hasValue_113 L xs m d k x1 g r := by
  show _ = ((BM_hasValue_118 L xs m d k x1 1 g r) : Option fn_Z)
  refine (fs_r (n := n + 2) 1 (pc' := 114) (L' := [some (.int x1)]) (S' := [.int 1]) rfl).trans ?_
  refine (fs_go (n := n + 1) rfl (t := 118) rfl (by decide)).trans ?_
  exact bM_hasValue_118 L xs m d k (n + 0) x1 1 g r
theorem eM_hasValue (L : Nat) (xs : Nat → Int32) (m d k : Nat) (n : Nat) (a1 : Int32) (g : a2_G) (r : a2_A) : bk L xs nM_hasValue nm_m227 m d k (n + 59) 0 [some (.int a1)] [] g r = (if am_c2 .eq a1 1 = true then (BM_hasValue_113 L xs m d k a1 g r) else (if am_c2 .eq a1 2 = true then (BM_hasValue_113 L xs m d k a1 g r) else (fn_v (ev L xs m d nM_in [.int a1, .int 4, .int 6] g r) fun v3 g1 r2 => (if am_c2 .ne v3 0 = true then (BM_hasValue_113 L xs m d k a1 g1 r2) else (if am_c2 .eq a1 11 = true then (BM_hasValue_113 L xs m d k a1 g1 r2) else (fn_v (ev L xs m d nM_in [.int a1, .int 12, .int 13] g1 r2) fun v6 g4 r5 => (if am_c2 .ne v6 0 = true then (BM_hasValue_113 L xs m d k a1 g4 r5) else (fn_v (ev L xs m d nM_in [.int a1, .int 15, .int 19] g4 r5) fun v9 g7 r8 => (if am_c2 .ne v9 0 = true then (BM_hasValue_113 L xs m d k a1 g7 r8) else (if am_c2 .eq a1 21 = true then (BM_hasValue_113 L xs m d k a1 g7 r8) else (if am_c2 .eq a1 23 = true then (BM_hasValue_113 L xs m d k a1 g7 r8) else (if am_c2 .eq a1 24 = true then (BM_hasValue_113 L xs m d k a1 g7 r8) else (if am_c2 .eq a1 27 = true then (BM_hasValue_113 L xs m d k a1 g7 r8) else (if am_c2 .eq a1 29 = true then (BM_hasValue_113 L xs m d k a1 g7 r8) else (if am_c2 .eq a1 31 = true then (BM_hasValue_113 L xs m d k a1 g7 r8) else (if am_c2 .eq a1 34 = true then (BM_hasValue_113 L xs m d k a1 g7 r8) else (if am_c2 .eq a1 38 = true then (BM_hasValue_113 L xs m d k a1 g7 r8) else (if am_c2 .eq a1 41 = true then (BM_hasValue_113 L xs m d k a1 g7 r8) else (fn_v (ev L xs m d nM_in [.int a1, .int 53, .int 55] g7 r8) fun v12 g10 r11 => (if am_c2 .eq v12 0 = true then (BM_hasValue_118 L xs m d k a1 0 g10 r11) else (BM_hasValue_113 L xs m d k a1 g10 r11))))))))))))))))))))) := by
  refine (fs_r (n := n + 57) 2 (pc' := 2) (L' := [some (.int a1)]) (S' := [.int 1, .int a1]) rfl).trans ?_
  refine (fs_j (n := n + 56) rfl (t := 113) rfl (by decide)).trans (fs_ite ?_ ?_)
  · skip
    exact bM_hasValue_113 L xs m d k (n + 53) a1 g r
  · skip
    refine (fs_r (n := n + 54) 2 (pc' := 7) (L' := [some (.int a1)]) (S' := [.int 2, .int a1]) rfl).trans ?_
    refine (fs_j (n := n + 53) rfl (t := 113) rfl (by decide)).trans (fs_ite ?_ ?_)
    · skip
      exact bM_hasValue_113 L xs m d k (n + 50) a1 g r
    · skip
      refine (fs_r (n := n + 50) 3 (pc' := 14) (L' := [some (.int a1)]) (S' := [.int 6, .int 4, .int a1]) rfl).trans ?_
      refine (fs_sv (n := n + 49) (N := nm_m158) (as := [.int a1, .int 4, .int 6]) (rest := []) rfl rfl (by decide) rfl rfl rfl rfl rfl).trans (fs_fv fun v3 g1 r2 => ?_)
      refine (fs_i (n := n + 48) rfl (t := 113) rfl (by decide)).trans (fs_ite ?_ ?_)
      · skip
        exact bM_hasValue_113 L xs m d k (n + 45) a1 g1 r2
      · skip
        refine (fs_r (n := n + 46) 2 (pc' := 23) (L' := [some (.int a1)]) (S' := [.int 11, .int a1]) rfl).trans ?_
        refine (fs_j (n := n + 45) rfl (t := 113) rfl (by decide)).trans (fs_ite ?_ ?_)
        · skip
          exact bM_hasValue_113 L xs m d k (n + 42) a1 g1 r2
        · skip
          refine (fs_r (n := n + 42) 3 (pc' := 31) (L' := [some (.int a1)]) (S' := [.int 13, .int 12, .int a1]) rfl).trans ?_
          refine (fs_sv (n := n + 41) (N := nm_m158) (as := [.int a1, .int 12, .int 13]) (rest := []) rfl rfl (by decide) rfl rfl rfl rfl rfl).trans (fs_fv fun v6 g4 r5 => ?_)
          refine (fs_i (n := n + 40) rfl (t := 113) rfl (by decide)).trans (fs_ite ?_ ?_)
          · skip
            exact bM_hasValue_113 L xs m d k (n + 37) a1 g4 r5
          · skip
            refine (fs_r (n := n + 37) 3 (pc' := 42) (L' := [some (.int a1)]) (S' := [.int 19, .int 15, .int a1]) rfl).trans ?_
            refine (fs_sv (n := n + 36) (N := nm_m158) (as := [.int a1, .int 15, .int 19]) (rest := []) rfl rfl (by decide) rfl rfl rfl rfl rfl).trans (fs_fv fun v9 g7 r8 => ?_)
            refine (fs_i (n := n + 35) rfl (t := 113) rfl (by decide)).trans (fs_ite ?_ ?_)
            · skip
              exact bM_hasValue_113 L xs m d k (n + 32) a1 g7 r8
            · skip
              refine (fs_r (n := n + 33) 2 (pc' := 51) (L' := [some (.int a1)]) (S' := [.int 21, .int a1]) rfl).trans ?_
              refine (fs_j (n := n + 32) rfl (t := 113) rfl (by decide)).trans (fs_ite ?_ ?_)
              · skip
                exact bM_hasValue_113 L xs m d k (n + 29) a1 g7 r8
              · skip
                refine (fs_r (n := n + 30) 2 (pc' := 57) (L' := [some (.int a1)]) (S' := [.int 23, .int a1]) rfl).trans ?_
                refine (fs_j (n := n + 29) rfl (t := 113) rfl (by decide)).trans (fs_ite ?_ ?_)
                · skip
                  exact bM_hasValue_113 L xs m d k (n + 26) a1 g7 r8
                · skip
                  refine (fs_r (n := n + 27) 2 (pc' := 63) (L' := [some (.int a1)]) (S' := [.int 24, .int a1]) rfl).trans ?_
                  refine (fs_j (n := n + 26) rfl (t := 113) rfl (by decide)).trans (fs_ite ?_ ?_)
                  · skip
                    exact bM_hasValue_113 L xs m d k (n + 23) a1 g7 r8
                  · skip
                    refine (fs_r (n := n + 24) 2 (pc' := 69) (L' := [some (.int a1)]) (S' := [.int 27, .int a1]) rfl).trans ?_
                    refine (fs_j (n := n + 23) rfl (t := 113) rfl (by decide)).trans (fs_ite ?_ ?_)
                    · skip
                      exact bM_hasValue_113 L xs m d k (n + 20) a1 g7 r8
                    · skip
                      refine (fs_r (n := n + 21) 2 (pc' := 75) (L' := [some (.int a1)]) (S' := [.int 29, .int a1]) rfl).trans ?_
                      refine (fs_j (n := n + 20) rfl (t := 113) rfl (by decide)).trans (fs_ite ?_ ?_)
                      · skip
                        exact bM_hasValue_113 L xs m d k (n + 17) a1 g7 r8
                      · skip
                        refine (fs_r (n := n + 18) 2 (pc' := 81) (L' := [some (.int a1)]) (S' := [.int 31, .int a1]) rfl).trans ?_
                        refine (fs_j (n := n + 17) rfl (t := 113) rfl (by decide)).trans (fs_ite ?_ ?_)
                        · skip
                          exact bM_hasValue_113 L xs m d k (n + 14) a1 g7 r8
                        · skip
                          refine (fs_r (n := n + 15) 2 (pc' := 87) (L' := [some (.int a1)]) (S' := [.int 34, .int a1]) rfl).trans ?_
                          refine (fs_j (n := n + 14) rfl (t := 113) rfl (by decide)).trans (fs_ite ?_ ?_)
                          · skip
                            exact bM_hasValue_113 L xs m d k (n + 11) a1 g7 r8
                          · skip
                            refine (fs_r (n := n + 12) 2 (pc' := 93) (L' := [some (.int a1)]) (S' := [.int 38, .int a1]) rfl).trans ?_
                            refine (fs_j (n := n + 11) rfl (t := 113) rfl (by decide)).trans (fs_ite ?_ ?_)
                            · skip
                              exact bM_hasValue_113 L xs m d k (n + 8) a1 g7 r8
                            · skip
                              refine (fs_r (n := n + 9) 2 (pc' := 99) (L' := [some (.int a1)]) (S' := [.int 41, .int a1]) rfl).trans ?_
                              refine (fs_j (n := n + 8) rfl (t := 113) rfl (by decide)).trans (fs_ite ?_ ?_)
                              · skip
                                exact bM_hasValue_113 L xs m d k (n + 5) a1 g7 r8
                              · skip
                                refine (fs_r (n := n + 5) 3 (pc' := 107) (L' := [some (.int a1)]) (S' := [.int 55, .int 53, .int a1]) rfl).trans ?_
                                refine (fs_sv (n := n + 4) (N := nm_m158) (as := [.int a1, .int 53, .int 55]) (rest := []) rfl rfl (by decide) rfl rfl rfl rfl rfl).trans (fs_fv fun v12 g10 r11 => ?_)
                                refine (fs_i (n := n + 3) rfl (t := 117) rfl (by decide)).trans (fs_ite ?_ ?_)
                                · skip
                                  refine (fs_r (n := n + 2) 1 (pc' := 118) (L' := [some (.int a1)]) (S' := [.int 0]) rfl).trans ?_
                                  exact bM_hasValue_118 L xs m d k (n + 1) a1 0 g10 r11
                                · skip
                                  exact bM_hasValue_113 L xs m d k (n + 0) a1 g10 r11
theorem qM_hasValue (L : Nat) (xs : Nat → Int32) (m d : Nat) (a1 : Int32) (g : a2_G) (r : a2_A) : ev L xs (m + 1) (d + 1) nM_hasValue [.int a1] g r = (if am_c2 .eq a1 1 = true then (BM_hasValue_113 L xs (m + 1) d m a1 g r) else (if am_c2 .eq a1 2 = true then (BM_hasValue_113 L xs (m + 1) d m a1 g r) else (fn_v (ev L xs (m + 1) d nM_in [.int a1, .int 4, .int 6] g r) fun v3 g1 r2 => (if am_c2 .ne v3 0 = true then (BM_hasValue_113 L xs (m + 1) d m a1 g1 r2) else (if am_c2 .eq a1 11 = true then (BM_hasValue_113 L xs (m + 1) d m a1 g1 r2) else (fn_v (ev L xs (m + 1) d nM_in [.int a1, .int 12, .int 13] g1 r2) fun v6 g4 r5 => (if am_c2 .ne v6 0 = true then (BM_hasValue_113 L xs (m + 1) d m a1 g4 r5) else (fn_v (ev L xs (m + 1) d nM_in [.int a1, .int 15, .int 19] g4 r5) fun v9 g7 r8 => (if am_c2 .ne v9 0 = true then (BM_hasValue_113 L xs (m + 1) d m a1 g7 r8) else (if am_c2 .eq a1 21 = true then (BM_hasValue_113 L xs (m + 1) d m a1 g7 r8) else (if am_c2 .eq a1 23 = true then (BM_hasValue_113 L xs (m + 1) d m a1 g7 r8) else (if am_c2 .eq a1 24 = true then (BM_hasValue_113 L xs (m + 1) d m a1 g7 r8) else (if am_c2 .eq a1 27 = true then (BM_hasValue_113 L xs (m + 1) d m a1 g7 r8) else (if am_c2 .eq a1 29 = true then (BM_hasValue_113 L xs (m + 1) d m a1 g7 r8) else (if am_c2 .eq a1 31 = true then (BM_hasValue_113 L xs (m + 1) d m a1 g7 r8) else (if am_c2 .eq a1 34 = true then (BM_hasValue_113 L xs (m + 1) d m a1 g7 r8) else (if am_c2 .eq a1 38 = true then (BM_hasValue_113 L xs (m + 1) d m a1 g7 r8) else (if am_c2 .eq a1 41 = true then (BM_hasValue_113 L xs (m + 1) d m a1 g7 r8) else (fn_v (ev L xs (m + 1) d nM_in [.int a1, .int 53, .int 55] g7 r8) fun v12 g10 r11 => (if am_c2 .eq v12 0 = true then (BM_hasValue_118 L xs (m + 1) d m a1 0 g10 r11) else (BM_hasValue_113 L xs (m + 1) d m a1 g10 r11))))))))))))))))))))) := (fs_ev (M := nm_m227) rfl rfl).trans (eM_hasValue L xs (m + 1) d m 841 a1 g r)
/-- CobolParserModel.child(II)I -/
def BM_child2_21 (L : Nat) (xs : Nat → Int32) (m d k : Nat) (x1 x2 : Int32) (g : a2_G) (r : a2_A) : Option fn_Z := (some (.inl (some (.int (-1))), g, r))
theorem bM_child2_21 (L : Nat) (xs : Nat → Int32) (m d k : Nat) (n : Nat) (x1 x2 : Int32) (g : a2_G) (r : a2_A) : bk L xs nM_child2 nm_m228 m d k (n + 2) 21 [some (.ref cM), some (.int x1), some (.int x2), none, none] [] g r = BM_child2_21 L xs m d k x1 x2 g r := by
  show _ = ((some (.inl (some (.int (-1))), g, r)) : Option fn_Z)
  refine (fs_r (n := n + 1) 1 (pc' := 22) (L' := [some (.ref cM), some (.int x1), some (.int x2), none, none]) (S' := [.int (-1)]) rfl).trans ?_
  exact (fs_ri (n := n + 0) rfl rfl).trans rfl
def BM_child2_75 (L : Nat) (xs : Nat → Int32) (m d k : Nat) (x1 x2 x3 x4 x5 : Int32) (g : a2_G) (r : a2_A) : Option fn_Z := (some (.inl (some (.int x5)), g, r))
theorem bM_child2_75 (L : Nat) (xs : Nat → Int32) (m d k : Nat) (n : Nat) (x1 x2 x3 x4 x5 : Int32) (g : a2_G) (r : a2_A) : bk L xs nM_child2 nm_m228 m d k (n + 1) 75 [some (.ref cM), some (.int x1), some (.int x2), some (.int x3), some (.int x4)] [.int x5] g r = BM_child2_75 L xs m d k x1 x2 x3 x4 x5 g r := by
  show _ = ((some (.inl (some (.int x5)), g, r)) : Option fn_Z)
  exact (fs_ri (n := n + 0) rfl rfl).trans rfl
def BM_child2_61 (L : Nat) (xs : Nat → Int32) (m d k : Nat) (x1 x2 x3 x4 : Int32) (g : a2_G) (r : a2_A) : Option fn_Z := (if am_c2 .le x3 0 = true then (BM_child2_75 L xs m d k x1 x2 x3 x4 (-1) g r) else (if am_inr x3 (r fM_number).1 = true then (BM_child2_75 L xs m d k x1 x2 x3 x4 ((r fM_number).2 (x3 : Int32).toNatClampNeg) g r) else none))
theorem bM_child2_61 (L : Nat) (xs : Nat → Int32) (m d k : Nat) (n : Nat) (x1 x2 x3 x4 : Int32) (g : a2_G) (r : a2_A) : bk L xs nM_child2 nm_m228 m d k (n + 8) 61 [some (.ref cM), some (.int x1), some (.int x2), some (.int x3), some (.int x4)] [] g r = BM_child2_61 L xs m d k x1 x2 x3 x4 g r := by
  show _ = ((if am_c2 .le x3 0 = true then (BM_child2_75 L xs m d k x1 x2 x3 x4 (-1) g r) else (if am_inr x3 (r fM_number).1 = true then (BM_child2_75 L xs m d k x1 x2 x3 x4 ((r fM_number).2 (x3 : Int32).toNatClampNeg) g r) else none)) : Option fn_Z)
  refine (fs_r (n := n + 7) 1 (pc' := 62) (L' := [some (.ref cM), some (.int x1), some (.int x2), some (.int x3), some (.int x4)]) (S' := [.int x3]) rfl).trans ?_
  refine (fs_i (n := n + 6) rfl (t := 74) rfl (by decide)).trans (fs_ite ?_ ?_)
  · skip
    refine (fs_r (n := n + 5) 1 (pc' := 75) (L' := [some (.ref cM), some (.int x1), some (.int x2), some (.int x3), some (.int x4)]) (S' := [.int (-1)]) rfl).trans ?_
    exact bM_child2_75 L xs m d k (n + 4) x1 x2 x3 x4 (-1) g r
  · skip
    refine (fs_r (n := n + 3) 3 (pc' := 70) (L' := [some (.ref cM), some (.int x1), some (.int x2), some (.int x3), some (.int x4)]) (S' := [.int x3, .ref 10917]) rfl).trans ?_
    refine (fs_il (n := n + 2) (k := 917) rfl rfl).trans (fs_ite ?_ rfl)
    refine (fs_go (n := n + 1) rfl (t := 75) rfl (by decide)).trans ?_
    exact bM_child2_75 L xs m d k (n + 0) x1 x2 x3 x4 ((r fM_number).2 (x3 : Int32).toNatClampNeg) g r
def BM_child2_38 (L : Nat) (xs : Nat → Int32) (m d k : Nat) (x1 x2 x3 x4 : Int32) (g : a2_G) (r : a2_A) : Option fn_Z := (if am_c2 .ge x4 x2 = true then (BM_child2_61 L xs m d k x1 x2 x3 x4 g r) else (if am_c2 .le x3 0 = true then (BM_child2_61 L xs m d k x1 x2 x3 x4 g r) else (if am_inr x3 (r fM_next).1 = true then (lp L xs nM_child2 nm_m228 m d k 38 [some (.ref cM), some (.int x1), some (.int x2), some (.int ((r fM_next).2 (x3 : Int32).toNatClampNeg)), some (.int (x4 + 1))] g r) else none)))
theorem bM_child2_38 (L : Nat) (xs : Nat → Int32) (m d k : Nat) (n : Nat) (x1 x2 x3 x4 : Int32) (g : a2_G) (r : a2_A) : bk L xs nM_child2 nm_m228 m d k (n + 13) 38 [some (.ref cM), some (.int x1), some (.int x2), some (.int x3), some (.int x4)] [] g r = BM_child2_38 L xs m d k x1 x2 x3 x4 g r := by
  show _ = ((if am_c2 .ge x4 x2 = true then (BM_child2_61 L xs m d k x1 x2 x3 x4 g r) else (if am_c2 .le x3 0 = true then (BM_child2_61 L xs m d k x1 x2 x3 x4 g r) else (if am_inr x3 (r fM_next).1 = true then (lp L xs nM_child2 nm_m228 m d k 38 [some (.ref cM), some (.int x1), some (.int x2), some (.int ((r fM_next).2 (x3 : Int32).toNatClampNeg)), some (.int (x4 + 1))] g r) else none))) : Option fn_Z)
  refine (fs_r (n := n + 11) 2 (pc' := 41) (L' := [some (.ref cM), some (.int x1), some (.int x2), some (.int x3), some (.int x4)]) (S' := [.int x2, .int x4]) rfl).trans ?_
  refine (fs_j (n := n + 10) rfl (t := 61) rfl (by decide)).trans (fs_ite ?_ ?_)
  · skip
    exact bM_child2_61 L xs m d k (n + 2) x1 x2 x3 x4 g r
  · skip
    refine (fs_r (n := n + 9) 1 (pc' := 45) (L' := [some (.ref cM), some (.int x1), some (.int x2), some (.int x3), some (.int x4)]) (S' := [.int x3]) rfl).trans ?_
    refine (fs_i (n := n + 8) rfl (t := 61) rfl (by decide)).trans (fs_ite ?_ ?_)
    · skip
      exact bM_child2_61 L xs m d k (n + 0) x1 x2 x3 x4 g r
    · skip
      refine (fs_r (n := n + 5) 3 (pc' := 53) (L' := [some (.ref cM), some (.int x1), some (.int x2), some (.int x3), some (.int x4)]) (S' := [.int x3, .ref 10915]) rfl).trans ?_
      refine (fs_il (n := n + 4) (k := 915) rfl rfl).trans (fs_ite ?_ rfl)
      refine (fs_r (n := n + 2) 2 (pc' := 58) (L' := [some (.ref cM), some (.int x1), some (.int x2), some (.int ((r fM_next).2 (x3 : Int32).toNatClampNeg)), some (.int (x4 + 1))]) (S' := []) rfl).trans ?_
      exact (fs_gb (n := n + 1) rfl (t := 38) rfl (by decide)).trans rfl
theorem lM_child2_38 (L : Nat) (xs : Nat → Int32) (m d k : Nat) (x1 x2 x3 x4 : Int32) (g : a2_G) (r : a2_A) : lp L xs nM_child2 nm_m228 m d (k + 1) 38 [some (.ref cM), some (.int x1), some (.int x2), some (.int x3), some (.int x4)] g r = BM_child2_38 L xs m d k x1 x2 x3 x4 g r := fs_lp.trans (bM_child2_38 L xs m d k 887 x1 x2 x3 x4 g r)
theorem eM_child2 (L : Nat) (xs : Nat → Int32) (m d k : Nat) (n : Nat) (a1 a2 : Int32) (g : a2_G) (r : a2_A) : bk L xs nM_child2 nm_m228 m d k (n + 34) 0 [some (.ref cM), some (.int a1), some (.int a2), none, none] [] g r = (if am_c2 .lt a1 0 = true then (BM_child2_21 L xs m d k a1 a2 (upd g fM_thrown 0) r) else (if am_c2 .ge a1 (g fM_told) = true then (BM_child2_21 L xs m d k a1 a2 (upd g fM_thrown 0) r) else (if am_c2 .ge a2 0 = true then (if am_inr a1 (r fM_order).1 = true then (if am_inr ((r fM_order).2 (a1 : Int32).toNatClampNeg) (r fM_first).1 = true then (BM_child2_38 L xs m d k a1 a2 ((r fM_first).2 (((r fM_order).2 (a1 : Int32).toNatClampNeg) : Int32).toNatClampNeg) 0 (upd g fM_thrown 0) r) else none) else none) else (BM_child2_21 L xs m d k a1 a2 (upd g fM_thrown 0) r)))) := by
  refine (fs_r (n := n + 32) 2 (pc' := 2) (L' := [some (.ref cM), some (.int a1), some (.int a2), none, none]) (S' := [.int 0, .ref cM]) rfl).trans ?_
  refine (fs_pf (n := n + 31) (ci := 9) (j := 0) rfl rfl rfl rfl).trans ?_
  refine (fs_r (n := n + 30) 1 (pc' := 6) (L' := [some (.ref cM), some (.int a1), some (.int a2), none, none]) (S' := [.int a1]) rfl).trans ?_
  refine (fs_i (n := n + 29) rfl (t := 21) rfl (by decide)).trans (fs_ite ?_ ?_)
  · skip
    exact bM_child2_21 L xs m d k (n + 27) a1 a2 (upd g fM_thrown 0) r
  · skip
    refine (fs_r (n := n + 26) 3 (pc' := 14) (L' := [some (.ref cM), some (.int a1), some (.int a2), none, none]) (S' := [.int (g fM_told), .int a1]) rfl).trans ?_
    refine (fs_j (n := n + 25) rfl (t := 21) rfl (by decide)).trans (fs_ite ?_ ?_)
    · skip
      exact bM_child2_21 L xs m d k (n + 23) a1 a2 (upd g fM_thrown 0) r
    · skip
      refine (fs_r (n := n + 24) 1 (pc' := 18) (L' := [some (.ref cM), some (.int a1), some (.int a2), none, none]) (S' := [.int a2]) rfl).trans ?_
      refine (fs_i (n := n + 23) rfl (t := 23) rfl (by decide)).trans (fs_ite ?_ ?_)
      · skip
        refine (fs_r (n := n + 18) 5 (pc' := 32) (L' := [some (.ref cM), some (.int a1), some (.int a2), none, none]) (S' := [.int a1, .ref 10918, .ref 10913]) rfl).trans ?_
        refine (fs_il (n := n + 17) (k := 918) rfl rfl).trans (fs_ite ?_ rfl)
        refine (fs_il (n := n + 16) (k := 913) rfl rfl).trans (fs_ite ?_ rfl)
        refine (fs_r (n := n + 13) 3 (pc' := 38) (L' := [some (.ref cM), some (.int a1), some (.int a2), some (.int ((r fM_first).2 (((r fM_order).2 (a1 : Int32).toNatClampNeg) : Int32).toNatClampNeg)), some (.int 0)]) (S' := []) rfl).trans ?_
        exact bM_child2_38 L xs m d k (n + 0) a1 a2 ((r fM_first).2 (((r fM_order).2 (a1 : Int32).toNatClampNeg) : Int32).toNatClampNeg) 0 (upd g fM_thrown 0) r
      · skip
        exact bM_child2_21 L xs m d k (n + 21) a1 a2 (upd g fM_thrown 0) r
theorem qM_child2 (L : Nat) (xs : Nat → Int32) (m d : Nat) (a1 a2 : Int32) (g : a2_G) (r : a2_A) : ev L xs (m + 1) (d + 1) nM_child2 [.ref cM, .int a1, .int a2] g r = (if am_c2 .lt a1 0 = true then (BM_child2_21 L xs (m + 1) d m a1 a2 (upd g fM_thrown 0) r) else (if am_c2 .ge a1 (g fM_told) = true then (BM_child2_21 L xs (m + 1) d m a1 a2 (upd g fM_thrown 0) r) else (if am_c2 .ge a2 0 = true then (if am_inr a1 (r fM_order).1 = true then (if am_inr ((r fM_order).2 (a1 : Int32).toNatClampNeg) (r fM_first).1 = true then (BM_child2_38 L xs (m + 1) d m a1 a2 ((r fM_first).2 (((r fM_order).2 (a1 : Int32).toNatClampNeg) : Int32).toNatClampNeg) 0 (upd g fM_thrown 0) r) else none) else none) else (BM_child2_21 L xs (m + 1) d m a1 a2 (upd g fM_thrown 0) r)))) := (fs_ev (M := nm_m228) rfl rfl).trans (eM_child2 L xs (m + 1) d m 866 a1 a2 g r)
/-- CobolParserModel.faults()I -/
theorem eM_faults (L : Nat) (xs : Nat → Int32) (m d k : Nat) (n : Nat) (g : a2_G) (r : a2_A) : bk L xs nM_faults nm_m229 m d k (n + 6) 0 [some (.ref cM)] [] g r = (some (.inl (some (.int (g fM_faults))), (upd g fM_thrown 0), r)) := by
  refine (fs_r (n := n + 4) 2 (pc' := 2) (L' := [some (.ref cM)]) (S' := [.int 0, .ref cM]) rfl).trans ?_
  refine (fs_pf (n := n + 3) (ci := 9) (j := 0) rfl rfl rfl rfl).trans ?_
  refine (fs_r (n := n + 1) 2 (pc' := 9) (L' := [some (.ref cM)]) (S' := [.int (g fM_faults)]) rfl).trans ?_
  exact (fs_ri (n := n + 0) rfl rfl).trans rfl
theorem qM_faults (L : Nat) (xs : Nat → Int32) (m d : Nat) (g : a2_G) (r : a2_A) : ev L xs (m + 1) (d + 1) nM_faults [.ref cM] g r = (some (.inl (some (.int (g fM_faults))), (upd g fM_thrown 0), r)) := (fs_ev (M := nm_m229) rfl rfl).trans (eM_faults L xs (m + 1) d m 894 g r)
/-- CobolParserModel.fault(II)I -/
def BM_fault_17 (L : Nat) (xs : Nat → Int32) (m d k : Nat) (x1 x2 : Int32) (g : a2_G) (r : a2_A) : Option fn_Z := (some (.inl (some (.int (-1))), g, r))
theorem bM_fault_17 (L : Nat) (xs : Nat → Int32) (m d k : Nat) (n : Nat) (x1 x2 : Int32) (g : a2_G) (r : a2_A) : bk L xs nM_fault nm_m230 m d k (n + 2) 17 [some (.ref cM), some (.int x1), some (.int x2)] [] g r = BM_fault_17 L xs m d k x1 x2 g r := by
  show _ = ((some (.inl (some (.int (-1))), g, r)) : Option fn_Z)
  refine (fs_r (n := n + 1) 1 (pc' := 18) (L' := [some (.ref cM), some (.int x1), some (.int x2)]) (S' := [.int (-1)]) rfl).trans ?_
  exact (fs_ri (n := n + 0) rfl rfl).trans rfl
def BM_fault_47 (L : Nat) (xs : Nat → Int32) (m d k : Nat) (x1 x2 x3 : Int32) (g : a2_G) (r : a2_A) : Option fn_Z := (some (.inl (some (.int x3)), g, r))
theorem bM_fault_47 (L : Nat) (xs : Nat → Int32) (m d k : Nat) (n : Nat) (x1 x2 x3 : Int32) (g : a2_G) (r : a2_A) : bk L xs nM_fault nm_m230 m d k (n + 1) 47 [some (.ref cM), some (.int x1), some (.int x2)] [.int x3] g r = BM_fault_47 L xs m d k x1 x2 x3 g r := by
  show _ = ((some (.inl (some (.int x3)), g, r)) : Option fn_Z)
  exact (fs_ri (n := n + 0) rfl rfl).trans rfl
theorem eM_fault (L : Nat) (xs : Nat → Int32) (m d k : Nat) (n : Nat) (a1 a2 : Int32) (g : a2_G) (r : a2_A) : bk L xs nM_fault nm_m230 m d k (n + 20) 0 [some (.ref cM), some (.int a1), some (.int a2)] [] g r = (if am_c2 .lt a1 0 = true then (BM_fault_17 L xs m d k a1 a2 (upd g fM_thrown 0) r) else (if am_c2 .lt a1 (g fM_faults) = true then (if am_c2 .ne a2 0 = true then (if am_c2 .ne a2 1 = true then (BM_fault_47 L xs m d k a1 a2 (-1) (upd g fM_thrown 0) r) else (if am_inr a1 (r fM_faultWord).1 = true then (BM_fault_47 L xs m d k a1 a2 ((r fM_faultWord).2 (a1 : Int32).toNatClampNeg) (upd g fM_thrown 0) r) else none)) else (if am_inr a1 (r fM_faultNumber).1 = true then (BM_fault_47 L xs m d k a1 a2 ((r fM_faultNumber).2 (a1 : Int32).toNatClampNeg) (upd g fM_thrown 0) r) else none)) else (BM_fault_17 L xs m d k a1 a2 (upd g fM_thrown 0) r))) := by
  refine (fs_r (n := n + 18) 2 (pc' := 2) (L' := [some (.ref cM), some (.int a1), some (.int a2)]) (S' := [.int 0, .ref cM]) rfl).trans ?_
  refine (fs_pf (n := n + 17) (ci := 9) (j := 0) rfl rfl rfl rfl).trans ?_
  refine (fs_r (n := n + 16) 1 (pc' := 6) (L' := [some (.ref cM), some (.int a1), some (.int a2)]) (S' := [.int a1]) rfl).trans ?_
  refine (fs_i (n := n + 15) rfl (t := 17) rfl (by decide)).trans (fs_ite ?_ ?_)
  · skip
    exact bM_fault_17 L xs m d k (n + 13) a1 a2 (upd g fM_thrown 0) r
  · skip
    refine (fs_r (n := n + 12) 3 (pc' := 14) (L' := [some (.ref cM), some (.int a1), some (.int a2)]) (S' := [.int (g fM_faults), .int a1]) rfl).trans ?_
    refine (fs_j (n := n + 11) rfl (t := 19) rfl (by decide)).trans (fs_ite ?_ ?_)
    · skip
      refine (fs_r (n := n + 10) 1 (pc' := 20) (L' := [some (.ref cM), some (.int a1), some (.int a2)]) (S' := [.int a2]) rfl).trans ?_
      refine (fs_i (n := n + 9) rfl (t := 32) rfl (by decide)).trans (fs_ite ?_ ?_)
      · skip
        refine (fs_r (n := n + 7) 2 (pc' := 34) (L' := [some (.ref cM), some (.int a1), some (.int a2)]) (S' := [.int 1, .int a2]) rfl).trans ?_
        refine (fs_j (n := n + 6) rfl (t := 46) rfl (by decide)).trans (fs_ite ?_ ?_)
        · skip
          refine (fs_r (n := n + 5) 1 (pc' := 47) (L' := [some (.ref cM), some (.int a1), some (.int a2)]) (S' := [.int (-1)]) rfl).trans ?_
          exact bM_fault_47 L xs m d k (n + 4) a1 a2 (-1) (upd g fM_thrown 0) r
        · skip
          refine (fs_r (n := n + 3) 3 (pc' := 42) (L' := [some (.ref cM), some (.int a1), some (.int a2)]) (S' := [.int a1, .ref 10907]) rfl).trans ?_
          refine (fs_il (n := n + 2) (k := 907) rfl rfl).trans (fs_ite ?_ rfl)
          refine (fs_go (n := n + 1) rfl (t := 47) rfl (by decide)).trans ?_
          exact bM_fault_47 L xs m d k (n + 0) a1 a2 ((r fM_faultWord).2 (a1 : Int32).toNatClampNeg) (upd g fM_thrown 0) r
      · skip
        refine (fs_r (n := n + 6) 3 (pc' := 28) (L' := [some (.ref cM), some (.int a1), some (.int a2)]) (S' := [.int a1, .ref 10906]) rfl).trans ?_
        refine (fs_il (n := n + 5) (k := 906) rfl rfl).trans (fs_ite ?_ rfl)
        refine (fs_go (n := n + 4) rfl (t := 47) rfl (by decide)).trans ?_
        exact bM_fault_47 L xs m d k (n + 3) a1 a2 ((r fM_faultNumber).2 (a1 : Int32).toNatClampNeg) (upd g fM_thrown 0) r
    · skip
      exact bM_fault_17 L xs m d k (n + 9) a1 a2 (upd g fM_thrown 0) r
theorem qM_fault (L : Nat) (xs : Nat → Int32) (m d : Nat) (a1 a2 : Int32) (g : a2_G) (r : a2_A) : ev L xs (m + 1) (d + 1) nM_fault [.ref cM, .int a1, .int a2] g r = (if am_c2 .lt a1 0 = true then (BM_fault_17 L xs (m + 1) d m a1 a2 (upd g fM_thrown 0) r) else (if am_c2 .lt a1 (g fM_faults) = true then (if am_c2 .ne a2 0 = true then (if am_c2 .ne a2 1 = true then (BM_fault_47 L xs (m + 1) d m a1 a2 (-1) (upd g fM_thrown 0) r) else (if am_inr a1 (r fM_faultWord).1 = true then (BM_fault_47 L xs (m + 1) d m a1 a2 ((r fM_faultWord).2 (a1 : Int32).toNatClampNeg) (upd g fM_thrown 0) r) else none)) else (if am_inr a1 (r fM_faultNumber).1 = true then (BM_fault_47 L xs (m + 1) d m a1 a2 ((r fM_faultNumber).2 (a1 : Int32).toNatClampNeg) (upd g fM_thrown 0) r) else none)) else (BM_fault_17 L xs (m + 1) d m a1 a2 (upd g fM_thrown 0) r))) := (fs_ev (M := nm_m230) rfl rfl).trans (eM_fault L xs (m + 1) d m 880 a1 a2 g r)
/-- CobolParserModel.division(II)I -/
def BM_division_26 (L : Nat) (xs : Nat → Int32) (m d k : Nat) (x1 x2 : Int32) (g : a2_G) (r : a2_A) : Option fn_Z := (some (.inl (some (.int (-1))), g, r))
theorem bM_division_26 (L : Nat) (xs : Nat → Int32) (m d k : Nat) (n : Nat) (x1 x2 : Int32) (g : a2_G) (r : a2_A) : bk L xs nM_division nm_m231 m d k (n + 2) 26 [some (.ref cM), some (.int x1), some (.int x2), none] [] g r = BM_division_26 L xs m d k x1 x2 g r := by
  show _ = ((some (.inl (some (.int (-1))), g, r)) : Option fn_Z)
  refine (fs_r (n := n + 1) 1 (pc' := 27) (L' := [some (.ref cM), some (.int x1), some (.int x2), none]) (S' := [.int (-1)]) rfl).trans ?_
  exact (fs_ri (n := n + 0) rfl rfl).trans rfl
def BM_division_90 (L : Nat) (xs : Nat → Int32) (m d k : Nat) (x1 x2 x3 x4 : Int32) (g : a2_G) (r : a2_A) : Option fn_Z := (some (.inl (some (.int x4)), g, r))
theorem bM_division_90 (L : Nat) (xs : Nat → Int32) (m d k : Nat) (n : Nat) (x1 x2 x3 x4 : Int32) (g : a2_G) (r : a2_A) : bk L xs nM_division nm_m231 m d k (n + 1) 90 [some (.ref cM), some (.int x1), some (.int x2), some (.int x3)] [.int x4] g r = BM_division_90 L xs m d k x1 x2 x3 x4 g r := by
  show _ = ((some (.inl (some (.int x4)), g, r)) : Option fn_Z)
  exact (fs_ri (n := n + 0) rfl rfl).trans rfl
def BM_division_75 (L : Nat) (xs : Nat → Int32) (m d k : Nat) (x1 x2 x3 : Int32) (g : a2_G) (r : a2_A) : Option fn_Z := (if am_c2 .le x3 0 = true then (BM_division_90 L xs m d k x1 x2 x3 (-1) g r) else (if am_inr x3 (r fM_number).1 = true then (BM_division_90 L xs m d k x1 x2 x3 ((r fM_number).2 (x3 : Int32).toNatClampNeg) g r) else none))
theorem bM_division_75 (L : Nat) (xs : Nat → Int32) (m d k : Nat) (n : Nat) (x1 x2 x3 : Int32) (g : a2_G) (r : a2_A) : bk L xs nM_division nm_m231 m d k (n + 9) 75 [some (.ref cM), some (.int x1), some (.int x2), none] [.int x3] g r = BM_division_75 L xs m d k x1 x2 x3 g r := by
  show _ = ((if am_c2 .le x3 0 = true then (BM_division_90 L xs m d k x1 x2 x3 (-1) g r) else (if am_inr x3 (r fM_number).1 = true then (BM_division_90 L xs m d k x1 x2 x3 ((r fM_number).2 (x3 : Int32).toNatClampNeg) g r) else none)) : Option fn_Z)
  refine (fs_r (n := n + 7) 2 (pc' := 77) (L' := [some (.ref cM), some (.int x1), some (.int x2), some (.int x3)]) (S' := [.int x3]) rfl).trans ?_
  refine (fs_i (n := n + 6) rfl (t := 89) rfl (by decide)).trans (fs_ite ?_ ?_)
  · skip
    refine (fs_r (n := n + 5) 1 (pc' := 90) (L' := [some (.ref cM), some (.int x1), some (.int x2), some (.int x3)]) (S' := [.int (-1)]) rfl).trans ?_
    exact bM_division_90 L xs m d k (n + 4) x1 x2 x3 (-1) g r
  · skip
    refine (fs_r (n := n + 3) 3 (pc' := 85) (L' := [some (.ref cM), some (.int x1), some (.int x2), some (.int x3)]) (S' := [.int x3, .ref 10917]) rfl).trans ?_
    refine (fs_il (n := n + 2) (k := 917) rfl rfl).trans (fs_ite ?_ rfl)
    refine (fs_go (n := n + 1) rfl (t := 90) rfl (by decide)).trans ?_
    exact bM_division_90 L xs m d k (n + 0) x1 x2 x3 ((r fM_number).2 (x3 : Int32).toNatClampNeg) g r
theorem eM_division (L : Nat) (xs : Nat → Int32) (m d k : Nat) (n : Nat) (a1 a2 : Int32) (g : a2_G) (r : a2_A) : bk L xs nM_division nm_m231 m d k (n + 36) 0 [some (.ref cM), some (.int a1), some (.int a2), none] [] g r = (if am_c2 .lt a1 0 = true then (BM_division_26 L xs m d k a1 a2 (upd g fM_thrown 0) r) else (if am_c2 .ge a1 (g fM_units) = true then (BM_division_26 L xs m d k a1 a2 (upd g fM_thrown 0) r) else (fn_v (ev L xs m d nM_in [.int a2, .int 0, .int 3] (upd g fM_thrown 0) r) fun v3 g1 r2 => (if am_c2 .ne v3 0 = true then (if am_c2 .ne a2 0 = true then (if am_c2 .ne a2 1 = true then (if am_c2 .ne a2 2 = true then (if am_inr a1 (r2 fM_procedure).1 = true then (BM_division_75 L xs m d k a1 a2 ((r2 fM_procedure).2 (a1 : Int32).toNatClampNeg) g1 r2) else none) else (if am_inr a1 (r2 fM_data).1 = true then (BM_division_75 L xs m d k a1 a2 ((r2 fM_data).2 (a1 : Int32).toNatClampNeg) g1 r2) else none)) else (if am_inr a1 (r2 fM_environment).1 = true then (BM_division_75 L xs m d k a1 a2 ((r2 fM_environment).2 (a1 : Int32).toNatClampNeg) g1 r2) else none)) else (if am_inr a1 (r2 fM_unitNode).1 = true then (BM_division_75 L xs m d k a1 a2 ((r2 fM_unitNode).2 (a1 : Int32).toNatClampNeg) g1 r2) else none)) else (BM_division_26 L xs m d k a1 a2 g1 r2))))) := by
  refine (fs_r (n := n + 34) 2 (pc' := 2) (L' := [some (.ref cM), some (.int a1), some (.int a2), none]) (S' := [.int 0, .ref cM]) rfl).trans ?_
  refine (fs_pf (n := n + 33) (ci := 9) (j := 0) rfl rfl rfl rfl).trans ?_
  refine (fs_r (n := n + 32) 1 (pc' := 6) (L' := [some (.ref cM), some (.int a1), some (.int a2), none]) (S' := [.int a1]) rfl).trans ?_
  refine (fs_i (n := n + 31) rfl (t := 26) rfl (by decide)).trans (fs_ite ?_ ?_)
  · skip
    exact bM_division_26 L xs m d k (n + 29) a1 a2 (upd g fM_thrown 0) r
  · skip
    refine (fs_r (n := n + 28) 3 (pc' := 14) (L' := [some (.ref cM), some (.int a1), some (.int a2), none]) (S' := [.int (g fM_units), .int a1]) rfl).trans ?_
    refine (fs_j (n := n + 27) rfl (t := 26) rfl (by decide)).trans (fs_ite ?_ ?_)
    · skip
      exact bM_division_26 L xs m d k (n + 25) a1 a2 (upd g fM_thrown 0) r
    · skip
      refine (fs_r (n := n + 24) 3 (pc' := 20) (L' := [some (.ref cM), some (.int a1), some (.int a2), none]) (S' := [.int 3, .int 0, .int a2]) rfl).trans ?_
      refine (fs_sv (n := n + 23) (N := nm_m158) (as := [.int a2, .int 0, .int 3]) (rest := []) rfl rfl (by decide) rfl rfl rfl rfl rfl).trans (fs_fv fun v3 g1 r2 => ?_)
      refine (fs_i (n := n + 22) rfl (t := 28) rfl (by decide)).trans (fs_ite ?_ ?_)
      · skip
        refine (fs_r (n := n + 21) 1 (pc' := 29) (L' := [some (.ref cM), some (.int a1), some (.int a2), none]) (S' := [.int a2]) rfl).trans ?_
        refine (fs_i (n := n + 20) rfl (t := 41) rfl (by decide)).trans (fs_ite ?_ ?_)
        · skip
          refine (fs_r (n := n + 18) 2 (pc' := 43) (L' := [some (.ref cM), some (.int a1), some (.int a2), none]) (S' := [.int 1, .int a2]) rfl).trans ?_
          refine (fs_j (n := n + 17) rfl (t := 55) rfl (by decide)).trans (fs_ite ?_ ?_)
          · skip
            refine (fs_r (n := n + 15) 2 (pc' := 57) (L' := [some (.ref cM), some (.int a1), some (.int a2), none]) (S' := [.int 2, .int a2]) rfl).trans ?_
            refine (fs_j (n := n + 14) rfl (t := 69) rfl (by decide)).trans (fs_ite ?_ ?_)
            · skip
              refine (fs_r (n := n + 11) 3 (pc' := 74) (L' := [some (.ref cM), some (.int a1), some (.int a2), none]) (S' := [.int a1, .ref 10925]) rfl).trans ?_
              refine (fs_il (n := n + 10) (k := 925) rfl rfl).trans (fs_ite ?_ rfl)
              exact bM_division_75 L xs m d k (n + 1) a1 a2 ((r2 fM_procedure).2 (a1 : Int32).toNatClampNeg) g1 r2
            · skip
              refine (fs_r (n := n + 11) 3 (pc' := 65) (L' := [some (.ref cM), some (.int a1), some (.int a2), none]) (S' := [.int a1, .ref 10924]) rfl).trans ?_
              refine (fs_il (n := n + 10) (k := 924) rfl rfl).trans (fs_ite ?_ rfl)
              refine (fs_go (n := n + 9) rfl (t := 75) rfl (by decide)).trans ?_
              exact bM_division_75 L xs m d k (n + 0) a1 a2 ((r2 fM_data).2 (a1 : Int32).toNatClampNeg) g1 r2
          · skip
            refine (fs_r (n := n + 14) 3 (pc' := 51) (L' := [some (.ref cM), some (.int a1), some (.int a2), none]) (S' := [.int a1, .ref 10923]) rfl).trans ?_
            refine (fs_il (n := n + 13) (k := 923) rfl rfl).trans (fs_ite ?_ rfl)
            refine (fs_go (n := n + 12) rfl (t := 75) rfl (by decide)).trans ?_
            exact bM_division_75 L xs m d k (n + 3) a1 a2 ((r2 fM_environment).2 (a1 : Int32).toNatClampNeg) g1 r2
        · skip
          refine (fs_r (n := n + 17) 3 (pc' := 37) (L' := [some (.ref cM), some (.int a1), some (.int a2), none]) (S' := [.int a1, .ref 10922]) rfl).trans ?_
          refine (fs_il (n := n + 16) (k := 922) rfl rfl).trans (fs_ite ?_ rfl)
          refine (fs_go (n := n + 15) rfl (t := 75) rfl (by decide)).trans ?_
          exact bM_division_75 L xs m d k (n + 6) a1 a2 ((r2 fM_unitNode).2 (a1 : Int32).toNatClampNeg) g1 r2
      · skip
        exact bM_division_26 L xs m d k (n + 20) a1 a2 g1 r2
theorem qM_division (L : Nat) (xs : Nat → Int32) (m d : Nat) (a1 a2 : Int32) (g : a2_G) (r : a2_A) : ev L xs (m + 1) (d + 1) nM_division [.ref cM, .int a1, .int a2] g r = (if am_c2 .lt a1 0 = true then (BM_division_26 L xs (m + 1) d m a1 a2 (upd g fM_thrown 0) r) else (if am_c2 .ge a1 (g fM_units) = true then (BM_division_26 L xs (m + 1) d m a1 a2 (upd g fM_thrown 0) r) else (fn_v (ev L xs (m + 1) d nM_in [.int a2, .int 0, .int 3] (upd g fM_thrown 0) r) fun v3 g1 r2 => (if am_c2 .ne v3 0 = true then (if am_c2 .ne a2 0 = true then (if am_c2 .ne a2 1 = true then (if am_c2 .ne a2 2 = true then (if am_inr a1 (r2 fM_procedure).1 = true then (BM_division_75 L xs (m + 1) d m a1 a2 ((r2 fM_procedure).2 (a1 : Int32).toNatClampNeg) g1 r2) else none) else (if am_inr a1 (r2 fM_data).1 = true then (BM_division_75 L xs (m + 1) d m a1 a2 ((r2 fM_data).2 (a1 : Int32).toNatClampNeg) g1 r2) else none)) else (if am_inr a1 (r2 fM_environment).1 = true then (BM_division_75 L xs (m + 1) d m a1 a2 ((r2 fM_environment).2 (a1 : Int32).toNatClampNeg) g1 r2) else none)) else (if am_inr a1 (r2 fM_unitNode).1 = true then (BM_division_75 L xs (m + 1) d m a1 a2 ((r2 fM_unitNode).2 (a1 : Int32).toNatClampNeg) g1 r2) else none)) else (BM_division_26 L xs (m + 1) d m a1 a2 g1 r2))))) := (fs_ev (M := nm_m231) rfl rfl).trans (eM_division L xs (m + 1) d m 864 a1 a2 g r)
/-- CobolParserModel.depth()I -/
theorem eM_depth (L : Nat) (xs : Nat → Int32) (m d k : Nat) (n : Nat) (g : a2_G) (r : a2_A) : bk L xs nM_depth nm_m232 m d k (n + 6) 0 [some (.ref cM)] [] g r = (some (.inl (some (.int (g fM_deepest))), (upd g fM_thrown 0), r)) := by
  refine (fs_r (n := n + 4) 2 (pc' := 2) (L' := [some (.ref cM)]) (S' := [.int 0, .ref cM]) rfl).trans ?_
  refine (fs_pf (n := n + 3) (ci := 9) (j := 0) rfl rfl rfl rfl).trans ?_
  refine (fs_r (n := n + 1) 2 (pc' := 9) (L' := [some (.ref cM)]) (S' := [.int (g fM_deepest)]) rfl).trans ?_
  exact (fs_ri (n := n + 0) rfl rfl).trans rfl
theorem qM_depth (L : Nat) (xs : Nat → Int32) (m d : Nat) (g : a2_G) (r : a2_A) : ev L xs (m + 1) (d + 1) nM_depth [.ref cM] g r = (some (.inl (some (.int (g fM_deepest))), (upd g fM_thrown 0), r)) := (fs_ev (M := nm_m232) rfl rfl).trans (eM_depth L xs (m + 1) d m 894 g r)
/-- CobolParserModel.count(I)I -/
def BM_count_41 (L : Nat) (xs : Nat → Int32) (m d k : Nat) (x1 x2 : Int32) (g : a2_G) (r : a2_A) : Option fn_Z := (some (.inl (some (.int x2)), g, r))
theorem bM_count_41 (L : Nat) (xs : Nat → Int32) (m d k : Nat) (n : Nat) (x1 x2 : Int32) (g : a2_G) (r : a2_A) : bk L xs nM_count nm_m233 m d k (n + 1) 41 [some (.ref cM), some (.int x1)] [.int x2] g r = BM_count_41 L xs m d k x1 x2 g r := by
  show _ = ((some (.inl (some (.int x2)), g, r)) : Option fn_Z)
  exact (fs_ri (n := n + 0) rfl rfl).trans rfl
theorem eM_count (L : Nat) (xs : Nat → Int32) (m d k : Nat) (n : Nat) (a1 : Int32) (g : a2_G) (r : a2_A) : bk L xs nM_count nm_m233 m d k (n + 15) 0 [some (.ref cM), some (.int a1)] [] g r = (if am_c2 .ne a1 0 = true then (if am_c2 .ne a1 1 = true then (if am_c2 .ne a1 2 = true then (BM_count_41 L xs m d k a1 (-1) (upd g fM_thrown 0) r) else (BM_count_41 L xs m d k a1 (g fM_units) (upd g fM_thrown 0) r)) else (BM_count_41 L xs m d k a1 (g fM_told) (upd g fM_thrown 0) r)) else (BM_count_41 L xs m d k a1 (g fM_size) (upd g fM_thrown 0) r)) := by
  refine (fs_r (n := n + 13) 2 (pc' := 2) (L' := [some (.ref cM), some (.int a1)]) (S' := [.int 0, .ref cM]) rfl).trans ?_
  refine (fs_pf (n := n + 12) (ci := 9) (j := 0) rfl rfl rfl rfl).trans ?_
  refine (fs_r (n := n + 11) 1 (pc' := 6) (L' := [some (.ref cM), some (.int a1)]) (S' := [.int a1]) rfl).trans ?_
  refine (fs_i (n := n + 10) rfl (t := 16) rfl (by decide)).trans (fs_ite ?_ ?_)
  · skip
    refine (fs_r (n := n + 8) 2 (pc' := 18) (L' := [some (.ref cM), some (.int a1)]) (S' := [.int 1, .int a1]) rfl).trans ?_
    refine (fs_j (n := n + 7) rfl (t := 28) rfl (by decide)).trans (fs_ite ?_ ?_)
    · skip
      refine (fs_r (n := n + 5) 2 (pc' := 30) (L' := [some (.ref cM), some (.int a1)]) (S' := [.int 2, .int a1]) rfl).trans ?_
      refine (fs_j (n := n + 4) rfl (t := 40) rfl (by decide)).trans (fs_ite ?_ ?_)
      · skip
        refine (fs_r (n := n + 3) 1 (pc' := 41) (L' := [some (.ref cM), some (.int a1)]) (S' := [.int (-1)]) rfl).trans ?_
        exact bM_count_41 L xs m d k (n + 2) a1 (-1) (upd g fM_thrown 0) r
      · skip
        refine (fs_r (n := n + 2) 2 (pc' := 37) (L' := [some (.ref cM), some (.int a1)]) (S' := [.int (g fM_units)]) rfl).trans ?_
        refine (fs_go (n := n + 1) rfl (t := 41) rfl (by decide)).trans ?_
        exact bM_count_41 L xs m d k (n + 0) a1 (g fM_units) (upd g fM_thrown 0) r
    · skip
      refine (fs_r (n := n + 5) 2 (pc' := 25) (L' := [some (.ref cM), some (.int a1)]) (S' := [.int (g fM_told)]) rfl).trans ?_
      refine (fs_go (n := n + 4) rfl (t := 41) rfl (by decide)).trans ?_
      exact bM_count_41 L xs m d k (n + 3) a1 (g fM_told) (upd g fM_thrown 0) r
  · skip
    refine (fs_r (n := n + 8) 2 (pc' := 13) (L' := [some (.ref cM), some (.int a1)]) (S' := [.int (g fM_size)]) rfl).trans ?_
    refine (fs_go (n := n + 7) rfl (t := 41) rfl (by decide)).trans ?_
    exact bM_count_41 L xs m d k (n + 6) a1 (g fM_size) (upd g fM_thrown 0) r
theorem qM_count (L : Nat) (xs : Nat → Int32) (m d : Nat) (a1 : Int32) (g : a2_G) (r : a2_A) : ev L xs (m + 1) (d + 1) nM_count [.ref cM, .int a1] g r = (if am_c2 .ne a1 0 = true then (if am_c2 .ne a1 1 = true then (if am_c2 .ne a1 2 = true then (BM_count_41 L xs (m + 1) d m a1 (-1) (upd g fM_thrown 0) r) else (BM_count_41 L xs (m + 1) d m a1 (g fM_units) (upd g fM_thrown 0) r)) else (BM_count_41 L xs (m + 1) d m a1 (g fM_told) (upd g fM_thrown 0) r)) else (BM_count_41 L xs (m + 1) d m a1 (g fM_size) (upd g fM_thrown 0) r)) := (fs_ev (M := nm_m233) rfl rfl).trans (eM_count L xs (m + 1) d m 885 a1 g r)
