/-! The equations of the methods, by wip/whole/gensh2.py -/
/-- CobolParser$Units.open(I)V -/
def BU_open_59 (L : Nat) (xs : Nat → Int32) (m d k : Nat) (x1 : Int32) (g : a2_G) (r : a2_A) : Option fn_Z := (some (.inl none, g, r))
theorem bU_open_59 (L : Nat) (xs : Nat → Int32) (m d k : Nat) (n : Nat) (x1 : Int32) (g : a2_G) (r : a2_A) : bk L xs nU_open nm_m132 m d k (n + 1) 59 [some (.ref cU), some (.int x1)] [] g r = BU_open_59 L xs m d k x1 g r := by
  show _ = ((some (.inl none, g, r)) : Option fn_Z)
  exact (fs_rv (n := n + 0) rfl rfl).trans rfl
theorem eU_open (L : Nat) (xs : Nat → Int32) (m d k : Nat) (n : Nat) (a1 : Int32) (g : a2_G) (r : a2_A) : bk L xs nU_open nm_m132 m d k (n + 35) 0 [some (.ref cU), some (.int a1)] [] g r = (if am_c2 .ge (g fU_size) 10 = true then (BU_open_59 L xs m d k a1 g r) else (if am_inr (g fU_size) (r fU_states).1 = true then (if am_inr (g fU_size) (r fU_kinds).1 = true then (if am_inr (g fU_size) (r fU_names).1 = true then (if am_inr (g fU_size) (r fU_handles).1 = true then (BU_open_59 L xs m d k a1 (upd g fU_size ((g fU_size) + 1)) (a2_ua (a2_ua (a2_ua (a2_ua r fU_states ((r fU_states).1, (upd (r fU_states).2 ((g fU_size) : Int32).toNatClampNeg 0))) fU_kinds ((r fU_kinds).1, (upd (r fU_kinds).2 ((g fU_size) : Int32).toNatClampNeg 0))) fU_names ((r fU_names).1, (upd (r fU_names).2 ((g fU_size) : Int32).toNatClampNeg (-1)))) fU_handles ((r fU_handles).1, (upd (r fU_handles).2 ((g fU_size) : Int32).toNatClampNeg a1)))) else none) else none) else none) else none)) := by
  refine (fs_r (n := n + 32) 3 (pc' := 6) (L' := [some (.ref cU), some (.int a1)]) (S' := [.int 10, .int (g fU_size)]) rfl).trans ?_
  refine (fs_j (n := n + 31) rfl (t := 59) rfl (by decide)).trans (fs_ite ?_ ?_)
  · skip
    exact bU_open_59 L xs m d k (n + 30) a1 g r
  · skip
    refine (fs_r (n := n + 26) 5 (pc' := 18) (L' := [some (.ref cU), some (.int a1)]) (S' := [.int 0, .int (g fU_size), .ref 10800]) rfl).trans ?_
    refine (fs_is (n := n + 25) (k := 800) rfl rfl).trans (fs_ite ?_ rfl)
    refine (fs_r (n := n + 20) 5 (pc' := 28) (L' := [some (.ref cU), some (.int a1)]) (S' := [.int 0, .int (g fU_size), .ref 10801]) rfl).trans ?_
    refine (fs_is (n := n + 19) (k := 801) rfl rfl).trans (fs_ite ?_ rfl)
    refine (fs_r (n := n + 14) 5 (pc' := 38) (L' := [some (.ref cU), some (.int a1)]) (S' := [.int (-1), .int (g fU_size), .ref 10802]) rfl).trans ?_
    refine (fs_is (n := n + 13) (k := 802) rfl rfl).trans (fs_ite ?_ rfl)
    refine (fs_r (n := n + 8) 5 (pc' := 48) (L' := [some (.ref cU), some (.int a1)]) (S' := [.int a1, .int (g fU_size), .ref 10803]) rfl).trans ?_
    refine (fs_is (n := n + 7) (k := 803) rfl rfl).trans (fs_ite ?_ rfl)
    refine (fs_r (n := n + 2) 5 (pc' := 56) (L' := [some (.ref cU), some (.int a1)]) (S' := [.int ((g fU_size) + 1), .ref cU]) rfl).trans ?_
    refine (fs_pf (n := n + 1) (ci := 8) (j := 4) rfl rfl rfl rfl).trans ?_
    exact bU_open_59 L xs m d k (n + 0) a1 (upd g fU_size ((g fU_size) + 1)) (a2_ua (a2_ua (a2_ua (a2_ua r fU_states ((r fU_states).1, (upd (r fU_states).2 ((g fU_size) : Int32).toNatClampNeg 0))) fU_kinds ((r fU_kinds).1, (upd (r fU_kinds).2 ((g fU_size) : Int32).toNatClampNeg 0))) fU_names ((r fU_names).1, (upd (r fU_names).2 ((g fU_size) : Int32).toNatClampNeg (-1)))) fU_handles ((r fU_handles).1, (upd (r fU_handles).2 ((g fU_size) : Int32).toNatClampNeg a1)))
theorem qU_open (L : Nat) (xs : Nat → Int32) (m d : Nat) (a1 : Int32) (g : a2_G) (r : a2_A) : ev L xs (m + 1) (d + 1) nU_open [.ref cU, .int a1] g r = (if am_c2 .ge (g fU_size) 10 = true then (BU_open_59 L xs (m + 1) d m a1 g r) else (if am_inr (g fU_size) (r fU_states).1 = true then (if am_inr (g fU_size) (r fU_kinds).1 = true then (if am_inr (g fU_size) (r fU_names).1 = true then (if am_inr (g fU_size) (r fU_handles).1 = true then (BU_open_59 L xs (m + 1) d m a1 (upd g fU_size ((g fU_size) + 1)) (a2_ua (a2_ua (a2_ua (a2_ua r fU_states ((r fU_states).1, (upd (r fU_states).2 ((g fU_size) : Int32).toNatClampNeg 0))) fU_kinds ((r fU_kinds).1, (upd (r fU_kinds).2 ((g fU_size) : Int32).toNatClampNeg 0))) fU_names ((r fU_names).1, (upd (r fU_names).2 ((g fU_size) : Int32).toNatClampNeg (-1)))) fU_handles ((r fU_handles).1, (upd (r fU_handles).2 ((g fU_size) : Int32).toNatClampNeg a1)))) else none) else none) else none) else none)) := (fs_ev (M := nm_m132) rfl rfl).trans (eU_open L xs (m + 1) d m 865 a1 g r)
/-- CobolParser$Clauses.unitName(I)V -/
theorem eC_unitName (L : Nat) (xs : Nat → Int32) (m d k : Nat) (n : Nat) (a1 : Int32) (g : a2_G) (r : a2_A) : bk L xs nC_unitName nm_m133 m d k (n + 39) 0 [some (.ref cC), some (.int a1), none] [] g r = (fn_n (ev L xs m d nR_advance [.ref cR] g r) fun g1 r2 => (fn_v (ev L xs m d nR_requireKind [.ref cR, .int 1] g1 r2) fun v5 g3 r4 => (fn_v (ev L xs m d nR_requireKind [.ref cR, .int 4] g3 r4) fun v8 g6 r7 => (fn_n (ev L xs m d nU_identify [.ref cU, .int a1, .int v5] g6 r7) fun g9 r10 => (fn_n (ev L xs m d nU_setState [.ref cU, .int 1] g9 r10) fun g11 r12 => (fn_v (ev L xs m d nU_handle [.ref cU] g11 r12) fun v15 g13 r14 => (fn_n (ev L xs m d nT_set [.ref cT, .int v15, .int 0, .int a1] g13 r14) fun g16 r17 => (fn_v (ev L xs m d nU_handle [.ref cU] g16 r17) fun v20 g18 r19 => (fn_n (ev L xs m d nT_set [.ref cT, .int v20, .int 1, .int v5] g18 r19) fun g21 r22 => (some (.inl none, g21, r22))))))))))) := by
  refine (fs_r (n := n + 37) 2 (pc' := 4) (L' := [some (.ref cC), some (.int a1), none]) (S' := [.ref cR]) rfl).trans ?_
  refine (fs_cn (n := n + 36) (N := nm_m61) (as := [.ref cR]) (rest := []) rfl rfl (Or.inl rfl) rfl rfl rfl rfl rfl).trans (fs_fn fun g1 r2 => ?_)
  refine (fs_r (n := n + 33) 3 (pc' := 12) (L' := [some (.ref cC), some (.int a1), none]) (S' := [.int 1, .ref cR]) rfl).trans ?_
  refine (fs_cv (n := n + 32) (N := nm_m59) (as := [.ref cR, .int 1]) (rest := []) rfl rfl (Or.inl rfl) rfl rfl rfl rfl rfl).trans (fs_fv fun v5 g3 r4 => ?_)
  refine (fs_r (n := n + 28) 4 (pc' := 21) (L' := [some (.ref cC), some (.int a1), some (.int v5)]) (S' := [.int 4, .ref cR]) rfl).trans ?_
  refine (fs_cv (n := n + 27) (N := nm_m59) (as := [.ref cR, .int 4]) (rest := []) rfl rfl (Or.inl rfl) rfl rfl rfl rfl rfl).trans (fs_fv fun v8 g6 r7 => ?_)
  refine (fs_r (n := n + 22) 5 (pc' := 31) (L' := [some (.ref cC), some (.int a1), some (.int v5)]) (S' := [.int v5, .int a1, .ref cU]) rfl).trans ?_
  refine (fs_cn (n := n + 21) (N := nm_m134) (as := [.ref cU, .int a1, .int v5]) (rest := []) rfl rfl (Or.inl rfl) rfl rfl rfl rfl rfl).trans (fs_fn fun g9 r10 => ?_)
  refine (fs_r (n := n + 18) 3 (pc' := 39) (L' := [some (.ref cC), some (.int a1), some (.int v5)]) (S' := [.int 1, .ref cU]) rfl).trans ?_
  refine (fs_cn (n := n + 17) (N := nm_m65) (as := [.ref cU, .int 1]) (rest := []) rfl rfl (Or.inl rfl) rfl rfl rfl rfl rfl).trans (fs_fn fun g11 r12 => ?_)
  refine (fs_r (n := n + 13) 4 (pc' := 50) (L' := [some (.ref cC), some (.int a1), some (.int v5)]) (S' := [.ref cU, .ref cT]) rfl).trans ?_
  refine (fs_cv (n := n + 12) (N := nm_m130) (as := [.ref cU]) (rest := [.ref cT]) rfl rfl (Or.inl rfl) rfl rfl rfl rfl rfl).trans (fs_fv fun v15 g13 r14 => ?_)
  refine (fs_r (n := n + 10) 2 (pc' := 55) (L' := [some (.ref cC), some (.int a1), some (.int v5)]) (S' := [.int a1, .int 0, .int v15, .ref cT]) rfl).trans ?_
  refine (fs_cn (n := n + 9) (N := nm_m69) (as := [.ref cT, .int v15, .int 0, .int a1]) (rest := []) rfl rfl (Or.inl rfl) rfl rfl rfl rfl rfl).trans (fs_fn fun g16 r17 => ?_)
  refine (fs_r (n := n + 5) 4 (pc' := 66) (L' := [some (.ref cC), some (.int a1), some (.int v5)]) (S' := [.ref cU, .ref cT]) rfl).trans ?_
  refine (fs_cv (n := n + 4) (N := nm_m130) (as := [.ref cU]) (rest := [.ref cT]) rfl rfl (Or.inl rfl) rfl rfl rfl rfl rfl).trans (fs_fv fun v20 g18 r19 => ?_)
  refine (fs_r (n := n + 2) 2 (pc' := 71) (L' := [some (.ref cC), some (.int a1), some (.int v5)]) (S' := [.int v5, .int 1, .int v20, .ref cT]) rfl).trans ?_
  refine (fs_cn (n := n + 1) (N := nm_m69) (as := [.ref cT, .int v20, .int 1, .int v5]) (rest := []) rfl rfl (Or.inl rfl) rfl rfl rfl rfl rfl).trans (fs_fn fun g21 r22 => ?_)
  exact (fs_rv (n := n + 0) rfl rfl).trans rfl
theorem qC_unitName (L : Nat) (xs : Nat → Int32) (m d : Nat) (a1 : Int32) (g : a2_G) (r : a2_A) : ev L xs (m + 1) (d + 1) nC_unitName [.ref cC, .int a1] g r = (fn_n (ev L xs (m + 1) d nR_advance [.ref cR] g r) fun g1 r2 => (fn_v (ev L xs (m + 1) d nR_requireKind [.ref cR, .int 1] g1 r2) fun v5 g3 r4 => (fn_v (ev L xs (m + 1) d nR_requireKind [.ref cR, .int 4] g3 r4) fun v8 g6 r7 => (fn_n (ev L xs (m + 1) d nU_identify [.ref cU, .int a1, .int v5] g6 r7) fun g9 r10 => (fn_n (ev L xs (m + 1) d nU_setState [.ref cU, .int 1] g9 r10) fun g11 r12 => (fn_v (ev L xs (m + 1) d nU_handle [.ref cU] g11 r12) fun v15 g13 r14 => (fn_n (ev L xs (m + 1) d nT_set [.ref cT, .int v15, .int 0, .int a1] g13 r14) fun g16 r17 => (fn_v (ev L xs (m + 1) d nU_handle [.ref cU] g16 r17) fun v20 g18 r19 => (fn_n (ev L xs (m + 1) d nT_set [.ref cT, .int v20, .int 1, .int v5] g18 r19) fun g21 r22 => (some (.inl none, g21, r22))))))))))) := (fs_ev (M := nm_m133) rfl rfl).trans (eC_unitName L xs (m + 1) d m 861 a1 g r)
/-- CobolParser$Units.identify(II)V -/
def BU_identify_31 (L : Nat) (xs : Nat → Int32) (m d k : Nat) (x1 x2 : Int32) (g : a2_G) (r : a2_A) : Option fn_Z := (some (.inl none, g, r))
theorem bU_identify_31 (L : Nat) (xs : Nat → Int32) (m d k : Nat) (n : Nat) (x1 x2 : Int32) (g : a2_G) (r : a2_A) : bk L xs nU_identify nm_m134 m d k (n + 1) 31 [some (.ref cU), some (.int x1), some (.int x2)] [] g r = BU_identify_31 L xs m d k x1 x2 g r := by
  show _ = ((some (.inl none, g, r)) : Option fn_Z)
  exact (fs_rv (n := n + 0) rfl rfl).trans rfl
theorem eU_identify (L : Nat) (xs : Nat → Int32) (m d k : Nat) (n : Nat) (a1 a2 : Int32) (g : a2_G) (r : a2_A) : bk L xs nU_identify nm_m134 m d k (n + 20) 0 [some (.ref cU), some (.int a1), some (.int a2)] [] g r = (if am_c2 .le (g fU_size) 0 = true then (BU_identify_31 L xs m d k a1 a2 g r) else (if am_inr ((g fU_size) - 1) (r fU_kinds).1 = true then (if am_inr ((g fU_size) - 1) (r fU_names).1 = true then (BU_identify_31 L xs m d k a1 a2 g (a2_ua (a2_ua r fU_kinds ((r fU_kinds).1, (upd (r fU_kinds).2 (((g fU_size) - 1) : Int32).toNatClampNeg a1))) fU_names ((r fU_names).1, (upd (r fU_names).2 (((g fU_size) - 1) : Int32).toNatClampNeg a2)))) else none) else none)) := by
  refine (fs_r (n := n + 18) 2 (pc' := 4) (L' := [some (.ref cU), some (.int a1), some (.int a2)]) (S' := [.int (g fU_size)]) rfl).trans ?_
  refine (fs_i (n := n + 17) rfl (t := 31) rfl (by decide)).trans (fs_ite ?_ ?_)
  · skip
    exact bU_identify_31 L xs m d k (n + 16) a1 a2 g r
  · skip
    refine (fs_r (n := n + 10) 7 (pc' := 18) (L' := [some (.ref cU), some (.int a1), some (.int a2)]) (S' := [.int a1, .int ((g fU_size) - 1), .ref 10801]) rfl).trans ?_
    refine (fs_is (n := n + 9) (k := 801) rfl rfl).trans (fs_ite ?_ rfl)
    refine (fs_r (n := n + 2) 7 (pc' := 30) (L' := [some (.ref cU), some (.int a1), some (.int a2)]) (S' := [.int a2, .int ((g fU_size) - 1), .ref 10802]) rfl).trans ?_
    refine (fs_is (n := n + 1) (k := 802) rfl rfl).trans (fs_ite ?_ rfl)
    exact bU_identify_31 L xs m d k (n + 0) a1 a2 g (a2_ua (a2_ua r fU_kinds ((r fU_kinds).1, (upd (r fU_kinds).2 (((g fU_size) - 1) : Int32).toNatClampNeg a1))) fU_names ((r fU_names).1, (upd (r fU_names).2 (((g fU_size) - 1) : Int32).toNatClampNeg a2)))
theorem qU_identify (L : Nat) (xs : Nat → Int32) (m d : Nat) (a1 a2 : Int32) (g : a2_G) (r : a2_A) : ev L xs (m + 1) (d + 1) nU_identify [.ref cU, .int a1, .int a2] g r = (if am_c2 .le (g fU_size) 0 = true then (BU_identify_31 L xs (m + 1) d m a1 a2 g r) else (if am_inr ((g fU_size) - 1) (r fU_kinds).1 = true then (if am_inr ((g fU_size) - 1) (r fU_names).1 = true then (BU_identify_31 L xs (m + 1) d m a1 a2 g (a2_ua (a2_ua r fU_kinds ((r fU_kinds).1, (upd (r fU_kinds).2 (((g fU_size) - 1) : Int32).toNatClampNeg a1))) fU_names ((r fU_names).1, (upd (r fU_names).2 (((g fU_size) - 1) : Int32).toNatClampNeg a2)))) else none) else none)) := (fs_ev (M := nm_m134) rfl rfl).trans (eU_identify L xs (m + 1) d m 880 a1 a2 g r)
/-- CobolParser$Clauses.select()V -/
def BC_select_124 (L : Nat) (xs : Nat → Int32) (m d k : Nat) (x1 : Int32) (g : a2_G) (r : a2_A) : Option fn_Z := (fn_v (ev L xs m d nR_requireKind [.ref cR, .int 4] g r) fun v34 g32 r33 => (fn_n (ev L xs m d nT_append [.ref cT, .int (g32 fC_openDivision), .int x1] g32 r33) fun g35 r36 => (some (.inl none, g35, r36))))
theorem bC_select_124 (L : Nat) (xs : Nat → Int32) (m d k : Nat) (n : Nat) (x1 : Int32) (g : a2_G) (r : a2_A) : bk L xs nC_select nm_m135 m d k (n + 12) 124 [some (.ref cC), some (.int x1)] [] g r = BC_select_124 L xs m d k x1 g r := by
  show _ = ((fn_v (ev L xs m d nR_requireKind [.ref cR, .int 4] g r) fun v34 g32 r33 => (fn_n (ev L xs m d nT_append [.ref cT, .int (g32 fC_openDivision), .int x1] g32 r33) fun g35 r36 => (some (.inl none, g35, r36)))) : Option fn_Z)
  refine (fs_r (n := n + 9) 3 (pc' := 129) (L' := [some (.ref cC), some (.int x1)]) (S' := [.int 4, .ref cR]) rfl).trans ?_
  refine (fs_cv (n := n + 8) (N := nm_m59) (as := [.ref cR, .int 4]) (rest := []) rfl rfl (Or.inl rfl) rfl rfl rfl rfl rfl).trans (fs_fv fun v34 g32 r33 => ?_)
  refine (fs_r (n := n + 2) 6 (pc' := 142) (L' := [some (.ref cC), some (.int x1)]) (S' := [.int x1, .int (g32 fC_openDivision), .ref cT]) rfl).trans ?_
  refine (fs_cn (n := n + 1) (N := nm_m63) (as := [.ref cT, .int (g32 fC_openDivision), .int x1]) (rest := []) rfl rfl (Or.inl rfl) rfl rfl rfl rfl rfl).trans (fs_fn fun g35 r36 => ?_)
  exact (fs_rv (n := n + 0) rfl rfl).trans rfl
def BC_select_106 (L : Nat) (xs : Nat → Int32) (m d k : Nat) (x1 : Int32) (g : a2_G) (r : a2_A) : Option fn_Z := (fn_v (ev L xs m d nR_isReserved [.ref cR, .int 11, .int 0] g r) fun v31 g29 r30 => (if am_c2 .eq v31 0 = true then (BC_select_124 L xs m d k x1 g29 r30) else (fn_n (ev L xs m d nC_key [.ref cC, .int x1] g29 r30) fun g37 r38 => (BC_select_124 L xs m d k x1 g37 r38))))
theorem bC_select_106 (L : Nat) (xs : Nat → Int32) (m d k : Nat) (n : Nat) (x1 : Int32) (g : a2_G) (r : a2_A) : bk L xs nC_select nm_m135 m d k (n + 21) 106 [some (.ref cC), some (.int x1)] [] g r = BC_select_106 L xs m d k x1 g r := by
  show _ = ((fn_v (ev L xs m d nR_isReserved [.ref cR, .int 11, .int 0] g r) fun v31 g29 r30 => (if am_c2 .eq v31 0 = true then (BC_select_124 L xs m d k x1 g29 r30) else (fn_n (ev L xs m d nC_key [.ref cC, .int x1] g29 r30) fun g37 r38 => (BC_select_124 L xs m d k x1 g37 r38)))) : Option fn_Z)
  refine (fs_r (n := n + 17) 4 (pc' := 113) (L' := [some (.ref cC), some (.int x1)]) (S' := [.int 0, .int 11, .ref cR]) rfl).trans ?_
  refine (fs_cv (n := n + 16) (N := nm_m52) (as := [.ref cR, .int 11, .int 0]) (rest := []) rfl rfl (Or.inl rfl) rfl rfl rfl rfl rfl).trans (fs_fv fun v31 g29 r30 => ?_)
  refine (fs_i (n := n + 15) rfl (t := 124) rfl (by decide)).trans (fs_ite ?_ ?_)
  · skip
    exact bC_select_124 L xs m d k (n + 3) x1 g29 r30
  · skip
    refine (fs_r (n := n + 13) 2 (pc' := 121) (L' := [some (.ref cC), some (.int x1)]) (S' := [.int x1, .ref cC]) rfl).trans ?_
    refine (fs_cn (n := n + 12) (N := nm_m137) (as := [.ref cC, .int x1]) (rest := []) rfl rfl (Or.inl rfl) rfl rfl rfl rfl rfl).trans (fs_fn fun g37 r38 => ?_)
    exact bC_select_124 L xs m d k (n + 0) x1 g37 r38
def BC_select_77 (L : Nat) (xs : Nat → Int32) (m d k : Nat) (x1 x2 : Int32) (g : a2_G) (r : a2_A) : Option fn_Z := (fn_n (ev L xs m d nC_requireThat [.ref cC, .int x2] g r) fun g22 r23 => (fn_n (ev L xs m d nL_operandIn [.ref cL, .int x1] g22 r23) fun g24 r25 => (fn_v (ev L xs m d nR_isReserved [.ref cR, .int 7, .int 0] g24 r25) fun v28 g26 r27 => (if am_c2 .eq v28 0 = true then (BC_select_106 L xs m d k x1 g26 r27) else (fn_n (ev L xs m d nC_organization [.ref cC, .int x1] g26 r27) fun g39 r40 => (BC_select_106 L xs m d k x1 g39 r40))))))
theorem bC_select_77 (L : Nat) (xs : Nat → Int32) (m d k : Nat) (n : Nat) (x1 x2 : Int32) (g : a2_G) (r : a2_A) : bk L xs nC_select nm_m135 m d k (n + 35) 77 [some (.ref cC), some (.int x1)] [.int x2, .ref cC] g r = BC_select_77 L xs m d k x1 x2 g r := by
  show _ = ((fn_n (ev L xs m d nC_requireThat [.ref cC, .int x2] g r) fun g22 r23 => (fn_n (ev L xs m d nL_operandIn [.ref cL, .int x1] g22 r23) fun g24 r25 => (fn_v (ev L xs m d nR_isReserved [.ref cR, .int 7, .int 0] g24 r25) fun v28 g26 r27 => (if am_c2 .eq v28 0 = true then (BC_select_106 L xs m d k x1 g26 r27) else (fn_n (ev L xs m d nC_organization [.ref cC, .int x1] g26 r27) fun g39 r40 => (BC_select_106 L xs m d k x1 g39 r40)))))) : Option fn_Z)
  refine (fs_cn (n := n + 34) (N := nm_m55) (as := [.ref cC, .int x2]) (rest := []) rfl rfl (Or.inl rfl) rfl rfl rfl rfl rfl).trans (fs_fn fun g22 r23 => ?_)
  refine (fs_r (n := n + 31) 3 (pc' := 85) (L' := [some (.ref cC), some (.int x1)]) (S' := [.int x1, .ref cL]) rfl).trans ?_
  refine (fs_cn (n := n + 30) (N := nm_m91) (as := [.ref cL, .int x1]) (rest := []) rfl rfl (Or.inl rfl) rfl rfl rfl rfl rfl).trans (fs_fn fun g24 r25 => ?_)
  refine (fs_r (n := n + 26) 4 (pc' := 95) (L' := [some (.ref cC), some (.int x1)]) (S' := [.int 0, .int 7, .ref cR]) rfl).trans ?_
  refine (fs_cv (n := n + 25) (N := nm_m52) (as := [.ref cR, .int 7, .int 0]) (rest := []) rfl rfl (Or.inl rfl) rfl rfl rfl rfl rfl).trans (fs_fv fun v28 g26 r27 => ?_)
  refine (fs_i (n := n + 24) rfl (t := 106) rfl (by decide)).trans (fs_ite ?_ ?_)
  · skip
    exact bC_select_106 L xs m d k (n + 3) x1 g26 r27
  · skip
    refine (fs_r (n := n + 22) 2 (pc' := 103) (L' := [some (.ref cC), some (.int x1)]) (S' := [.int x1, .ref cC]) rfl).trans ?_
    refine (fs_cn (n := n + 21) (N := nm_m136) (as := [.ref cC, .int x1]) (rest := []) rfl rfl (Or.inl rfl) rfl rfl rfl rfl rfl).trans (fs_fn fun g39 r40 => ?_)
    exact bC_select_106 L xs m d k (n + 0) x1 g39 r40
theorem eC_select (L : Nat) (xs : Nat → Int32) (m d k : Nat) (n : Nat) (g : a2_G) (r : a2_A) : bk L xs nC_select nm_m135 m d k (n + 73) 0 [some (.ref cC), none] [] g r = (fn_v (ev L xs m d nR_place [.ref cR] g r) fun v3 g1 r2 => (fn_v (ev L xs m d nT_make [.ref cT, .int 4, .int 0, .int v3] g1 r2) fun v6 g4 r5 => (fn_n (ev L xs m d nR_advance [.ref cR] g4 r5) fun g7 r8 => (fn_v (ev L xs m d nR_requireKind [.ref cR, .int 1] g7 r8) fun v11 g9 r10 => (fn_n (ev L xs m d nT_set [.ref cT, .int v6, .int 1, .int v11] g9 r10) fun g12 r13 => (fn_n (ev L xs m d nR_require [.ref cR, .int 6] g12 r13) fun g14 r15 => (fn_v (ev L xs m d nR_skip [.ref cR, .int 48] g14 r15) fun v18 g16 r17 => (fn_v (ev L xs m d nR_isKind [.ref cR, .int 2] g16 r17) fun v21 g19 r20 => (if am_c2 .ne v21 0 = true then (BC_select_77 L xs m d k v6 0 g19 r20) else (BC_select_77 L xs m d k v6 1 g19 r20)))))))))) := by
  refine (fs_r (n := n + 67) 6 (pc' := 10) (L' := [some (.ref cC), none]) (S' := [.ref cR, .int 0, .int 4, .ref cT]) rfl).trans ?_
  refine (fs_cv (n := n + 66) (N := nm_m58) (as := [.ref cR]) (rest := [.int 0, .int 4, .ref cT]) rfl rfl (Or.inl rfl) rfl rfl rfl rfl rfl).trans (fs_fv fun v3 g1 r2 => ?_)
  refine (fs_cv (n := n + 65) (N := nm_m45) (as := [.ref cT, .int 4, .int 0, .int v3]) (rest := []) rfl rfl (Or.inl rfl) rfl rfl rfl rfl rfl).trans (fs_fv fun v6 g4 r5 => ?_)
  refine (fs_r (n := n + 62) 3 (pc' := 21) (L' := [some (.ref cC), some (.int v6)]) (S' := [.ref cR]) rfl).trans ?_
  refine (fs_cn (n := n + 61) (N := nm_m61) (as := [.ref cR]) (rest := []) rfl rfl (Or.inl rfl) rfl rfl rfl rfl rfl).trans (fs_fn fun g7 r8 => ?_)
  refine (fs_r (n := n + 54) 7 (pc' := 35) (L' := [some (.ref cC), some (.int v6)]) (S' := [.int 1, .ref cR, .int 1, .int v6, .ref cT]) rfl).trans ?_
  refine (fs_cv (n := n + 53) (N := nm_m59) (as := [.ref cR, .int 1]) (rest := [.int 1, .int v6, .ref cT]) rfl rfl (Or.inl rfl) rfl rfl rfl rfl rfl).trans (fs_fv fun v11 g9 r10 => ?_)
  refine (fs_cn (n := n + 52) (N := nm_m69) (as := [.ref cT, .int v6, .int 1, .int v11]) (rest := []) rfl rfl (Or.inl rfl) rfl rfl rfl rfl rfl).trans (fs_fn fun g12 r13 => ?_)
  refine (fs_r (n := n + 49) 3 (pc' := 47) (L' := [some (.ref cC), some (.int v6)]) (S' := [.int 6, .ref cR]) rfl).trans ?_
  refine (fs_cn (n := n + 48) (N := nm_m83) (as := [.ref cR, .int 6]) (rest := []) rfl rfl (Or.inl rfl) rfl rfl rfl rfl rfl).trans (fs_fn fun g14 r15 => ?_)
  refine (fs_r (n := n + 45) 3 (pc' := 56) (L' := [some (.ref cC), some (.int v6)]) (S' := [.int 48, .ref cR]) rfl).trans ?_
  refine (fs_cv (n := n + 44) (N := nm_m62) (as := [.ref cR, .int 48]) (rest := []) rfl rfl (Or.inl rfl) rfl rfl rfl rfl rfl).trans (fs_fv fun v18 g16 r17 => ?_)
  refine (fs_r (n := n + 39) 5 (pc' := 66) (L' := [some (.ref cC), some (.int v6)]) (S' := [.int 2, .ref cR, .ref cC]) rfl).trans ?_
  refine (fs_cv (n := n + 38) (N := nm_m50) (as := [.ref cR, .int 2]) (rest := [.ref cC]) rfl rfl (Or.inl rfl) rfl rfl rfl rfl rfl).trans (fs_fv fun v21 g19 r20 => ?_)
  refine (fs_i (n := n + 37) rfl (t := 76) rfl (by decide)).trans (fs_ite ?_ ?_)
  · skip
    refine (fs_r (n := n + 36) 1 (pc' := 77) (L' := [some (.ref cC), some (.int v6)]) (S' := [.int 0, .ref cC]) rfl).trans ?_
    exact bC_select_77 L xs m d k (n + 1) v6 0 g19 r20
  · skip
    refine (fs_r (n := n + 36) 1 (pc' := 73) (L' := [some (.ref cC), some (.int v6)]) (S' := [.int 1, .ref cC]) rfl).trans ?_
    refine (fs_go (n := n + 35) rfl (t := 77) rfl (by decide)).trans ?_
    exact bC_select_77 L xs m d k (n + 0) v6 1 g19 r20
theorem qC_select (L : Nat) (xs : Nat → Int32) (m d : Nat) (g : a2_G) (r : a2_A) : ev L xs (m + 1) (d + 1) nC_select [.ref cC] g r = (fn_v (ev L xs (m + 1) d nR_place [.ref cR] g r) fun v3 g1 r2 => (fn_v (ev L xs (m + 1) d nT_make [.ref cT, .int 4, .int 0, .int v3] g1 r2) fun v6 g4 r5 => (fn_n (ev L xs (m + 1) d nR_advance [.ref cR] g4 r5) fun g7 r8 => (fn_v (ev L xs (m + 1) d nR_requireKind [.ref cR, .int 1] g7 r8) fun v11 g9 r10 => (fn_n (ev L xs (m + 1) d nT_set [.ref cT, .int v6, .int 1, .int v11] g9 r10) fun g12 r13 => (fn_n (ev L xs (m + 1) d nR_require [.ref cR, .int 6] g12 r13) fun g14 r15 => (fn_v (ev L xs (m + 1) d nR_skip [.ref cR, .int 48] g14 r15) fun v18 g16 r17 => (fn_v (ev L xs (m + 1) d nR_isKind [.ref cR, .int 2] g16 r17) fun v21 g19 r20 => (if am_c2 .ne v21 0 = true then (BC_select_77 L xs (m + 1) d m v6 0 g19 r20) else (BC_select_77 L xs (m + 1) d m v6 1 g19 r20)))))))))) := (fs_ev (M := nm_m135) rfl rfl).trans (eC_select L xs (m + 1) d m 827 g r)
/-- CobolParser$Clauses.organization(I)V -/
def BC_organization_62 (L : Nat) (xs : Nat → Int32) (m d k : Nat) (x1 x2 x3 x4 : Int32) (g : a2_G) (r : a2_A) : Option fn_Z := (fn_n (ev L xs m d nC_requireThat [.ref cC, .int x4] g r) fun g15 r16 => (fn_n (ev L xs m d nR_advance [.ref cR] g15 r16) fun g17 r18 => (fn_v (ev L xs m d nT_make [.ref cT, .int 5, .int x3, .int x2] g17 r18) fun v21 g19 r20 => (fn_n (ev L xs m d nT_append [.ref cT, .int x1, .int v21] g19 r20) fun g22 r23 => (some (.inl none, g22, r23))))))
theorem bC_organization_62 (L : Nat) (xs : Nat → Int32) (m d k : Nat) (n : Nat) (x1 x2 x3 x4 : Int32) (g : a2_G) (r : a2_A) : bk L xs nC_organization nm_m136 m d k (n + 15) 62 [some (.ref cC), some (.int x1), some (.int x2), some (.int x3)] [.int x4, .ref cC] g r = BC_organization_62 L xs m d k x1 x2 x3 x4 g r := by
  show _ = ((fn_n (ev L xs m d nC_requireThat [.ref cC, .int x4] g r) fun g15 r16 => (fn_n (ev L xs m d nR_advance [.ref cR] g15 r16) fun g17 r18 => (fn_v (ev L xs m d nT_make [.ref cT, .int 5, .int x3, .int x2] g17 r18) fun v21 g19 r20 => (fn_n (ev L xs m d nT_append [.ref cT, .int x1, .int v21] g19 r20) fun g22 r23 => (some (.inl none, g22, r23)))))) : Option fn_Z)
  refine (fs_cn (n := n + 14) (N := nm_m55) (as := [.ref cC, .int x4]) (rest := []) rfl rfl (Or.inl rfl) rfl rfl rfl rfl rfl).trans (fs_fn fun g15 r16 => ?_)
  refine (fs_r (n := n + 12) 2 (pc' := 69) (L' := [some (.ref cC), some (.int x1), some (.int x2), some (.int x3)]) (S' := [.ref cR]) rfl).trans ?_
  refine (fs_cn (n := n + 11) (N := nm_m61) (as := [.ref cR]) (rest := []) rfl rfl (Or.inl rfl) rfl rfl rfl rfl rfl).trans (fs_fn fun g17 r18 => ?_)
  refine (fs_r (n := n + 3) 8 (pc' := 84) (L' := [some (.ref cC), some (.int x1), some (.int x2), some (.int x3)]) (S' := [.int x2, .int x3, .int 5, .ref cT, .int x1, .ref cT]) rfl).trans ?_
  refine (fs_cv (n := n + 2) (N := nm_m45) (as := [.ref cT, .int 5, .int x3, .int x2]) (rest := [.int x1, .ref cT]) rfl rfl (Or.inl rfl) rfl rfl rfl rfl rfl).trans (fs_fv fun v21 g19 r20 => ?_)
  refine (fs_cn (n := n + 1) (N := nm_m63) (as := [.ref cT, .int x1, .int v21]) (rest := []) rfl rfl (Or.inl rfl) rfl rfl rfl rfl rfl).trans (fs_fn fun g22 r23 => ?_)
  exact (fs_rv (n := n + 0) rfl rfl).trans rfl
def BC_organization_61 (L : Nat) (xs : Nat → Int32) (m d k : Nat) (x1 x2 x3 : Int32) (g : a2_G) (r : a2_A) : Option fn_Z := (BC_organization_62 L xs m d k x1 x2 x3 0 g r)
theorem bC_organization_61 (L : Nat) (xs : Nat → Int32) (m d k : Nat) (n : Nat) (x1 x2 x3 : Int32) (g : a2_G) (r : a2_A) : bk L xs nC_organization nm_m136 m d k (n + 16) 61 [some (.ref cC), some (.int x1), some (.int x2), some (.int x3)] [.ref cC] g r = BC_organization_61 L xs m d k x1 x2 x3 g r := by
  show _ = ((BC_organization_62 L xs m d k x1 x2 x3 0 g r) : Option fn_Z)
  refine (fs_r (n := n + 15) 1 (pc' := 62) (L' := [some (.ref cC), some (.int x1), some (.int x2), some (.int x3)]) (S' := [.int 0, .ref cC]) rfl).trans ?_
  exact bC_organization_62 L xs m d k (n + 0) x1 x2 x3 0 g r
theorem eC_organization (L : Nat) (xs : Nat → Int32) (m d k : Nat) (n : Nat) (a1 : Int32) (g : a2_G) (r : a2_A) : bk L xs nC_organization nm_m136 m d k (n + 46) 0 [some (.ref cC), some (.int a1), none, none] [] g r = (fn_v (ev L xs m d nR_place [.ref cR] g r) fun v3 g1 r2 => (fn_n (ev L xs m d nR_advance [.ref cR] g1 r2) fun g4 r5 => (fn_v (ev L xs m d nR_skip [.ref cR, .int 67] g4 r5) fun v8 g6 r7 => (fn_v (ev L xs m d nR_value [.ref cR] g6 r7) fun v11 g9 r10 => (fn_v (ev L xs m d nR_isKind [.ref cR, .int 0] g9 r10) fun v14 g12 r13 => (if am_c2 .eq v14 0 = true then (BC_organization_61 L xs m d k a1 v3 (v11 - 8) g12 r13) else (if am_c2 .lt (v11 - 8) 0 = true then (BC_organization_61 L xs m d k a1 v3 (v11 - 8) g12 r13) else (if am_c2 .gt (v11 - 8) 2 = true then (BC_organization_61 L xs m d k a1 v3 (v11 - 8) g12 r13) else (BC_organization_62 L xs m d k a1 v3 (v11 - 8) 1 g12 r13))))))))) := by
  refine (fs_r (n := n + 44) 2 (pc' := 4) (L' := [some (.ref cC), some (.int a1), none, none]) (S' := [.ref cR]) rfl).trans ?_
  refine (fs_cv (n := n + 43) (N := nm_m58) (as := [.ref cR]) (rest := []) rfl rfl (Or.inl rfl) rfl rfl rfl rfl rfl).trans (fs_fv fun v3 g1 r2 => ?_)
  refine (fs_r (n := n + 40) 3 (pc' := 12) (L' := [some (.ref cC), some (.int a1), some (.int v3), none]) (S' := [.ref cR]) rfl).trans ?_
  refine (fs_cn (n := n + 39) (N := nm_m61) (as := [.ref cR]) (rest := []) rfl rfl (Or.inl rfl) rfl rfl rfl rfl rfl).trans (fs_fn fun g4 r5 => ?_)
  refine (fs_r (n := n + 36) 3 (pc' := 21) (L' := [some (.ref cC), some (.int a1), some (.int v3), none]) (S' := [.int 67, .ref cR]) rfl).trans ?_
  refine (fs_cv (n := n + 35) (N := nm_m62) (as := [.ref cR, .int 67]) (rest := []) rfl rfl (Or.inl rfl) rfl rfl rfl rfl rfl).trans (fs_fv fun v8 g6 r7 => ?_)
  refine (fs_r (n := n + 32) 3 (pc' := 29) (L' := [some (.ref cC), some (.int a1), some (.int v3), none]) (S' := [.ref cR]) rfl).trans ?_
  refine (fs_cv (n := n + 31) (N := nm_m60) (as := [.ref cR]) (rest := []) rfl rfl (Or.inl rfl) rfl rfl rfl rfl rfl).trans (fs_fv fun v11 g9 r10 => ?_)
  refine (fs_r (n := n + 24) 7 (pc' := 42) (L' := [some (.ref cC), some (.int a1), some (.int v3), some (.int (v11 - 8))]) (S' := [.int 0, .ref cR, .ref cC]) rfl).trans ?_
  refine (fs_cv (n := n + 23) (N := nm_m50) (as := [.ref cR, .int 0]) (rest := [.ref cC]) rfl rfl (Or.inl rfl) rfl rfl rfl rfl rfl).trans (fs_fv fun v14 g12 r13 => ?_)
  refine (fs_i (n := n + 22) rfl (t := 61) rfl (by decide)).trans (fs_ite ?_ ?_)
  · skip
    exact bC_organization_61 L xs m d k (n + 6) a1 v3 (v11 - 8) g12 r13
  · skip
    refine (fs_r (n := n + 21) 1 (pc' := 49) (L' := [some (.ref cC), some (.int a1), some (.int v3), some (.int (v11 - 8))]) (S' := [.int (v11 - 8), .ref cC]) rfl).trans ?_
    refine (fs_i (n := n + 20) rfl (t := 61) rfl (by decide)).trans (fs_ite ?_ ?_)
    · skip
      exact bC_organization_61 L xs m d k (n + 4) a1 v3 (v11 - 8) g12 r13
    · skip
      refine (fs_r (n := n + 18) 2 (pc' := 54) (L' := [some (.ref cC), some (.int a1), some (.int v3), some (.int (v11 - 8))]) (S' := [.int 2, .int (v11 - 8), .ref cC]) rfl).trans ?_
      refine (fs_j (n := n + 17) rfl (t := 61) rfl (by decide)).trans (fs_ite ?_ ?_)
      · skip
        exact bC_organization_61 L xs m d k (n + 1) a1 v3 (v11 - 8) g12 r13
      · skip
        refine (fs_r (n := n + 16) 1 (pc' := 58) (L' := [some (.ref cC), some (.int a1), some (.int v3), some (.int (v11 - 8))]) (S' := [.int 1, .ref cC]) rfl).trans ?_
        refine (fs_go (n := n + 15) rfl (t := 62) rfl (by decide)).trans ?_
        exact bC_organization_62 L xs m d k (n + 0) a1 v3 (v11 - 8) 1 g12 r13
theorem qC_organization (L : Nat) (xs : Nat → Int32) (m d : Nat) (a1 : Int32) (g : a2_G) (r : a2_A) : ev L xs (m + 1) (d + 1) nC_organization [.ref cC, .int a1] g r = (fn_v (ev L xs (m + 1) d nR_place [.ref cR] g r) fun v3 g1 r2 => (fn_n (ev L xs (m + 1) d nR_advance [.ref cR] g1 r2) fun g4 r5 => (fn_v (ev L xs (m + 1) d nR_skip [.ref cR, .int 67] g4 r5) fun v8 g6 r7 => (fn_v (ev L xs (m + 1) d nR_value [.ref cR] g6 r7) fun v11 g9 r10 => (fn_v (ev L xs (m + 1) d nR_isKind [.ref cR, .int 0] g9 r10) fun v14 g12 r13 => (if am_c2 .eq v14 0 = true then (BC_organization_61 L xs (m + 1) d m a1 v3 (v11 - 8) g12 r13) else (if am_c2 .lt (v11 - 8) 0 = true then (BC_organization_61 L xs (m + 1) d m a1 v3 (v11 - 8) g12 r13) else (if am_c2 .gt (v11 - 8) 2 = true then (BC_organization_61 L xs (m + 1) d m a1 v3 (v11 - 8) g12 r13) else (BC_organization_62 L xs (m + 1) d m a1 v3 (v11 - 8) 1 g12 r13))))))))) := (fs_ev (M := nm_m136) rfl rfl).trans (eC_organization L xs (m + 1) d m 854 a1 g r)
/-- CobolParser$Clauses.key(I)V -/
theorem eC_key (L : Nat) (xs : Nat → Int32) (m d k : Nat) (n : Nat) (a1 : Int32) (g : a2_G) (r : a2_A) : bk L xs nC_key nm_m137 m d k (n + 26) 0 [some (.ref cC), some (.int a1), none] [] g r = (fn_v (ev L xs m d nR_place [.ref cR] g r) fun v3 g1 r2 => (fn_n (ev L xs m d nR_advance [.ref cR] g1 r2) fun g4 r5 => (fn_v (ev L xs m d nR_skip [.ref cR, .int 67] g4 r5) fun v8 g6 r7 => (fn_v (ev L xs m d nR_requireKind [.ref cR, .int 1] g6 r7) fun v11 g9 r10 => (fn_v (ev L xs m d nT_make [.ref cT, .int 6, .int v11, .int v3] g9 r10) fun v14 g12 r13 => (fn_n (ev L xs m d nT_append [.ref cT, .int a1, .int v14] g12 r13) fun g15 r16 => (some (.inl none, g15, r16)))))))) := by
  refine (fs_r (n := n + 24) 2 (pc' := 4) (L' := [some (.ref cC), some (.int a1), none]) (S' := [.ref cR]) rfl).trans ?_
  refine (fs_cv (n := n + 23) (N := nm_m58) (as := [.ref cR]) (rest := []) rfl rfl (Or.inl rfl) rfl rfl rfl rfl rfl).trans (fs_fv fun v3 g1 r2 => ?_)
  refine (fs_r (n := n + 20) 3 (pc' := 12) (L' := [some (.ref cC), some (.int a1), some (.int v3)]) (S' := [.ref cR]) rfl).trans ?_
  refine (fs_cn (n := n + 19) (N := nm_m61) (as := [.ref cR]) (rest := []) rfl rfl (Or.inl rfl) rfl rfl rfl rfl rfl).trans (fs_fn fun g4 r5 => ?_)
  refine (fs_r (n := n + 16) 3 (pc' := 21) (L' := [some (.ref cC), some (.int a1), some (.int v3)]) (S' := [.int 67, .ref cR]) rfl).trans ?_
  refine (fs_cv (n := n + 15) (N := nm_m62) (as := [.ref cR, .int 67]) (rest := []) rfl rfl (Or.inl rfl) rfl rfl rfl rfl rfl).trans (fs_fv fun v8 g6 r7 => ?_)
  refine (fs_r (n := n + 5) 10 (pc' := 41) (L' := [some (.ref cC), some (.int a1), some (.int v3)]) (S' := [.int 1, .ref cR, .int 6, .ref cT, .int a1, .ref cT]) rfl).trans ?_
  refine (fs_cv (n := n + 4) (N := nm_m59) (as := [.ref cR, .int 1]) (rest := [.int 6, .ref cT, .int a1, .ref cT]) rfl rfl (Or.inl rfl) rfl rfl rfl rfl rfl).trans (fs_fv fun v11 g9 r10 => ?_)
  refine (fs_r (n := n + 3) 1 (pc' := 45) (L' := [some (.ref cC), some (.int a1), some (.int v3)]) (S' := [.int v3, .int v11, .int 6, .ref cT, .int a1, .ref cT]) rfl).trans ?_
  refine (fs_cv (n := n + 2) (N := nm_m45) (as := [.ref cT, .int 6, .int v11, .int v3]) (rest := [.int a1, .ref cT]) rfl rfl (Or.inl rfl) rfl rfl rfl rfl rfl).trans (fs_fv fun v14 g12 r13 => ?_)
  refine (fs_cn (n := n + 1) (N := nm_m63) (as := [.ref cT, .int a1, .int v14]) (rest := []) rfl rfl (Or.inl rfl) rfl rfl rfl rfl rfl).trans (fs_fn fun g15 r16 => ?_)
  exact (fs_rv (n := n + 0) rfl rfl).trans rfl
theorem qC_key (L : Nat) (xs : Nat → Int32) (m d : Nat) (a1 : Int32) (g : a2_G) (r : a2_A) : ev L xs (m + 1) (d + 1) nC_key [.ref cC, .int a1] g r = (fn_v (ev L xs (m + 1) d nR_place [.ref cR] g r) fun v3 g1 r2 => (fn_n (ev L xs (m + 1) d nR_advance [.ref cR] g1 r2) fun g4 r5 => (fn_v (ev L xs (m + 1) d nR_skip [.ref cR, .int 67] g4 r5) fun v8 g6 r7 => (fn_v (ev L xs (m + 1) d nR_requireKind [.ref cR, .int 1] g6 r7) fun v11 g9 r10 => (fn_v (ev L xs (m + 1) d nT_make [.ref cT, .int 6, .int v11, .int v3] g9 r10) fun v14 g12 r13 => (fn_n (ev L xs (m + 1) d nT_append [.ref cT, .int a1, .int v14] g12 r13) fun g15 r16 => (some (.inl none, g15, r16)))))))) := (fs_ev (M := nm_m137) rfl rfl).trans (eC_key L xs (m + 1) d m 874 a1 g r)
/-- CobolParser$Clauses.procedure()V -/
def BC_procedure_55 (L : Nat) (xs : Nat → Int32) (m d k : Nat) (x1 : Int32) (g : a2_G) (r : a2_A) : Option fn_Z := (fn_v (ev L xs m d nR_requireKind [.ref cR, .int 4] g r) fun v16 g14 r15 => (fn_v (ev L xs m d nU_handle [.ref cU] g14 r15) fun v19 g17 r18 => (fn_n (ev L xs m d nT_append [.ref cT, .int v19, .int x1] g17 r18) fun g20 r21 => (fn_n (ev L xs m d nU_setState [.ref cU, .int 8] (upd (upd (upd g20 fC_openDivision x1) fC_section (-1)) fC_paragraph (-1)) r21) fun g22 r23 => (some (.inl none, g22, r23))))))
theorem bC_procedure_55 (L : Nat) (xs : Nat → Int32) (m d k : Nat) (n : Nat) (x1 : Int32) (g : a2_G) (r : a2_A) : bk L xs nC_procedure nm_m138 m d k (n + 26) 55 [some (.ref cC), some (.int x1)] [] g r = BC_procedure_55 L xs m d k x1 g r := by
  show _ = ((fn_v (ev L xs m d nR_requireKind [.ref cR, .int 4] g r) fun v16 g14 r15 => (fn_v (ev L xs m d nU_handle [.ref cU] g14 r15) fun v19 g17 r18 => (fn_n (ev L xs m d nT_append [.ref cT, .int v19, .int x1] g17 r18) fun g20 r21 => (fn_n (ev L xs m d nU_setState [.ref cU, .int 8] (upd (upd (upd g20 fC_openDivision x1) fC_section (-1)) fC_paragraph (-1)) r21) fun g22 r23 => (some (.inl none, g22, r23)))))) : Option fn_Z)
  refine (fs_r (n := n + 23) 3 (pc' := 60) (L' := [some (.ref cC), some (.int x1)]) (S' := [.int 4, .ref cR]) rfl).trans ?_
  refine (fs_cv (n := n + 22) (N := nm_m59) (as := [.ref cR, .int 4]) (rest := []) rfl rfl (Or.inl rfl) rfl rfl rfl rfl rfl).trans (fs_fv fun v16 g14 r15 => ?_)
  refine (fs_r (n := n + 17) 5 (pc' := 72) (L' := [some (.ref cC), some (.int x1)]) (S' := [.ref cU, .ref cT]) rfl).trans ?_
  refine (fs_cv (n := n + 16) (N := nm_m130) (as := [.ref cU]) (rest := [.ref cT]) rfl rfl (Or.inl rfl) rfl rfl rfl rfl rfl).trans (fs_fv fun v19 g17 r18 => ?_)
  refine (fs_r (n := n + 15) 1 (pc' := 76) (L' := [some (.ref cC), some (.int x1)]) (S' := [.int x1, .int v19, .ref cT]) rfl).trans ?_
  refine (fs_cn (n := n + 14) (N := nm_m63) (as := [.ref cT, .int v19, .int x1]) (rest := []) rfl rfl (Or.inl rfl) rfl rfl rfl rfl rfl).trans (fs_fn fun g20 r21 => ?_)
  refine (fs_r (n := n + 12) 2 (pc' := 81) (L' := [some (.ref cC), some (.int x1)]) (S' := [.int x1, .ref cC]) rfl).trans ?_
  refine (fs_pf (n := n + 11) (ci := 6) (j := 6) rfl rfl rfl rfl).trans ?_
  refine (fs_r (n := n + 9) 2 (pc' := 86) (L' := [some (.ref cC), some (.int x1)]) (S' := [.int (-1), .ref cC]) rfl).trans ?_
  refine (fs_pf (n := n + 8) (ci := 6) (j := 8) rfl rfl rfl rfl).trans ?_
  refine (fs_r (n := n + 6) 2 (pc' := 91) (L' := [some (.ref cC), some (.int x1)]) (S' := [.int (-1), .ref cC]) rfl).trans ?_
  refine (fs_pf (n := n + 5) (ci := 6) (j := 9) rfl rfl rfl rfl).trans ?_
  refine (fs_r (n := n + 2) 3 (pc' := 100) (L' := [some (.ref cC), some (.int x1)]) (S' := [.int 8, .ref cU]) rfl).trans ?_
  refine (fs_cn (n := n + 1) (N := nm_m65) (as := [.ref cU, .int 8]) (rest := []) rfl rfl (Or.inl rfl) rfl rfl rfl rfl rfl).trans (fs_fn fun g22 r23 => ?_)
  exact (fs_rv (n := n + 0) rfl rfl).trans rfl
theorem eC_procedure (L : Nat) (xs : Nat → Int32) (m d k : Nat) (n : Nat) (g : a2_G) (r : a2_A) : bk L xs nC_procedure nm_m138 m d k (n + 52) 0 [some (.ref cC), none] [] g r = (fn_v (ev L xs m d nR_place [.ref cR] g r) fun v3 g1 r2 => (fn_v (ev L xs m d nT_make [.ref cT, .int 20, .int 0, .int v3] g1 r2) fun v6 g4 r5 => (fn_n (ev L xs m d nR_advance [.ref cR] g4 r5) fun g7 r8 => (fn_n (ev L xs m d nR_require [.ref cR, .int 1] g7 r8) fun g9 r10 => (fn_v (ev L xs m d nR_skip [.ref cR, .int 31] g9 r10) fun v13 g11 r12 => (if am_c2 .eq v13 0 = true then (BC_procedure_55 L xs m d k v6 g11 r12) else (fn_n (ev L xs m d nL_namesIn [.ref cL, .int v6, .int 21] g11 r12) fun g24 r25 => (BC_procedure_55 L xs m d k v6 g24 r25)))))))) := by
  refine (fs_r (n := n + 46) 6 (pc' := 11) (L' := [some (.ref cC), none]) (S' := [.ref cR, .int 0, .int 20, .ref cT]) rfl).trans ?_
  refine (fs_cv (n := n + 45) (N := nm_m58) (as := [.ref cR]) (rest := [.int 0, .int 20, .ref cT]) rfl rfl (Or.inl rfl) rfl rfl rfl rfl rfl).trans (fs_fv fun v3 g1 r2 => ?_)
  refine (fs_cv (n := n + 44) (N := nm_m45) (as := [.ref cT, .int 20, .int 0, .int v3]) (rest := []) rfl rfl (Or.inl rfl) rfl rfl rfl rfl rfl).trans (fs_fv fun v6 g4 r5 => ?_)
  refine (fs_r (n := n + 41) 3 (pc' := 22) (L' := [some (.ref cC), some (.int v6)]) (S' := [.ref cR]) rfl).trans ?_
  refine (fs_cn (n := n + 40) (N := nm_m61) (as := [.ref cR]) (rest := []) rfl rfl (Or.inl rfl) rfl rfl rfl rfl rfl).trans (fs_fn fun g7 r8 => ?_)
  refine (fs_r (n := n + 37) 3 (pc' := 30) (L' := [some (.ref cC), some (.int v6)]) (S' := [.int 1, .ref cR]) rfl).trans ?_
  refine (fs_cn (n := n + 36) (N := nm_m83) (as := [.ref cR, .int 1]) (rest := []) rfl rfl (Or.inl rfl) rfl rfl rfl rfl rfl).trans (fs_fn fun g9 r10 => ?_)
  refine (fs_r (n := n + 33) 3 (pc' := 39) (L' := [some (.ref cC), some (.int v6)]) (S' := [.int 31, .ref cR]) rfl).trans ?_
  refine (fs_cv (n := n + 32) (N := nm_m62) (as := [.ref cR, .int 31]) (rest := []) rfl rfl (Or.inl rfl) rfl rfl rfl rfl rfl).trans (fs_fv fun v13 g11 r12 => ?_)
  refine (fs_i (n := n + 31) rfl (t := 55) rfl (by decide)).trans (fs_ite ?_ ?_)
  · skip
    exact bC_procedure_55 L xs m d k (n + 5) v6 g11 r12
  · skip
    refine (fs_r (n := n + 27) 4 (pc' := 52) (L' := [some (.ref cC), some (.int v6)]) (S' := [.int 21, .int v6, .ref cL]) rfl).trans ?_
    refine (fs_cn (n := n + 26) (N := nm_m80) (as := [.ref cL, .int v6, .int 21]) (rest := []) rfl rfl (Or.inl rfl) rfl rfl rfl rfl rfl).trans (fs_fn fun g24 r25 => ?_)
    exact bC_procedure_55 L xs m d k (n + 0) v6 g24 r25
theorem qC_procedure (L : Nat) (xs : Nat → Int32) (m d : Nat) (g : a2_G) (r : a2_A) : ev L xs (m + 1) (d + 1) nC_procedure [.ref cC] g r = (fn_v (ev L xs (m + 1) d nR_place [.ref cR] g r) fun v3 g1 r2 => (fn_v (ev L xs (m + 1) d nT_make [.ref cT, .int 20, .int 0, .int v3] g1 r2) fun v6 g4 r5 => (fn_n (ev L xs (m + 1) d nR_advance [.ref cR] g4 r5) fun g7 r8 => (fn_n (ev L xs (m + 1) d nR_require [.ref cR, .int 1] g7 r8) fun g9 r10 => (fn_v (ev L xs (m + 1) d nR_skip [.ref cR, .int 31] g9 r10) fun v13 g11 r12 => (if am_c2 .eq v13 0 = true then (BC_procedure_55 L xs (m + 1) d m v6 g11 r12) else (fn_n (ev L xs (m + 1) d nL_namesIn [.ref cL, .int v6, .int 21] g11 r12) fun g24 r25 => (BC_procedure_55 L xs (m + 1) d m v6 g24 r25)))))))) := (fs_ev (M := nm_m138) rfl rfl).trans (eC_procedure L xs (m + 1) d m 848 g r)
/-- CobolParser$Clauses.beginDeclaratives()V -/
theorem eC_beginDeclaratives (L : Nat) (xs : Nat → Int32) (m d k : Nat) (n : Nat) (g : a2_G) (r : a2_A) : bk L xs nC_beginDeclaratives nm_m139 m d k (n + 31) 0 [some (.ref cC), none] [] g r = (fn_v (ev L xs m d nR_place [.ref cR] g r) fun v3 g1 r2 => (fn_v (ev L xs m d nT_make [.ref cT, .int 22, .int 0, .int v3] g1 r2) fun v6 g4 r5 => (fn_n (ev L xs m d nR_advance [.ref cR] g4 r5) fun g7 r8 => (fn_v (ev L xs m d nR_requireKind [.ref cR, .int 4] g7 r8) fun v11 g9 r10 => (fn_n (ev L xs m d nT_append [.ref cT, .int (g9 fC_openDivision), .int v6] g9 r10) fun g12 r13 => (fn_n (ev L xs m d nU_setState [.ref cU, .int 9] (upd g12 fC_declaratives v6) r13) fun g14 r15 => (some (.inl none, g14, r15)))))))) := by
  refine (fs_r (n := n + 25) 6 (pc' := 11) (L' := [some (.ref cC), none]) (S' := [.ref cR, .int 0, .int 22, .ref cT]) rfl).trans ?_
  refine (fs_cv (n := n + 24) (N := nm_m58) (as := [.ref cR]) (rest := [.int 0, .int 22, .ref cT]) rfl rfl (Or.inl rfl) rfl rfl rfl rfl rfl).trans (fs_fv fun v3 g1 r2 => ?_)
  refine (fs_cv (n := n + 23) (N := nm_m45) (as := [.ref cT, .int 22, .int 0, .int v3]) (rest := []) rfl rfl (Or.inl rfl) rfl rfl rfl rfl rfl).trans (fs_fv fun v6 g4 r5 => ?_)
  refine (fs_r (n := n + 20) 3 (pc' := 22) (L' := [some (.ref cC), some (.int v6)]) (S' := [.ref cR]) rfl).trans ?_
  refine (fs_cn (n := n + 19) (N := nm_m61) (as := [.ref cR]) (rest := []) rfl rfl (Or.inl rfl) rfl rfl rfl rfl rfl).trans (fs_fn fun g7 r8 => ?_)
  refine (fs_r (n := n + 16) 3 (pc' := 30) (L' := [some (.ref cC), some (.int v6)]) (S' := [.int 4, .ref cR]) rfl).trans ?_
  refine (fs_cv (n := n + 15) (N := nm_m59) (as := [.ref cR, .int 4]) (rest := []) rfl rfl (Or.inl rfl) rfl rfl rfl rfl rfl).trans (fs_fv fun v11 g9 r10 => ?_)
  refine (fs_r (n := n + 9) 6 (pc' := 43) (L' := [some (.ref cC), some (.int v6)]) (S' := [.int v6, .int (g9 fC_openDivision), .ref cT]) rfl).trans ?_
  refine (fs_cn (n := n + 8) (N := nm_m63) (as := [.ref cT, .int (g9 fC_openDivision), .int v6]) (rest := []) rfl rfl (Or.inl rfl) rfl rfl rfl rfl rfl).trans (fs_fn fun g12 r13 => ?_)
  refine (fs_r (n := n + 6) 2 (pc' := 48) (L' := [some (.ref cC), some (.int v6)]) (S' := [.int v6, .ref cC]) rfl).trans ?_
  refine (fs_pf (n := n + 5) (ci := 6) (j := 7) rfl rfl rfl rfl).trans ?_
  refine (fs_r (n := n + 2) 3 (pc' := 57) (L' := [some (.ref cC), some (.int v6)]) (S' := [.int 9, .ref cU]) rfl).trans ?_
  refine (fs_cn (n := n + 1) (N := nm_m65) (as := [.ref cU, .int 9]) (rest := []) rfl rfl (Or.inl rfl) rfl rfl rfl rfl rfl).trans (fs_fn fun g14 r15 => ?_)
  exact (fs_rv (n := n + 0) rfl rfl).trans rfl
theorem qC_beginDeclaratives (L : Nat) (xs : Nat → Int32) (m d : Nat) (g : a2_G) (r : a2_A) : ev L xs (m + 1) (d + 1) nC_beginDeclaratives [.ref cC] g r = (fn_v (ev L xs (m + 1) d nR_place [.ref cR] g r) fun v3 g1 r2 => (fn_v (ev L xs (m + 1) d nT_make [.ref cT, .int 22, .int 0, .int v3] g1 r2) fun v6 g4 r5 => (fn_n (ev L xs (m + 1) d nR_advance [.ref cR] g4 r5) fun g7 r8 => (fn_v (ev L xs (m + 1) d nR_requireKind [.ref cR, .int 4] g7 r8) fun v11 g9 r10 => (fn_n (ev L xs (m + 1) d nT_append [.ref cT, .int (g9 fC_openDivision), .int v6] g9 r10) fun g12 r13 => (fn_n (ev L xs (m + 1) d nU_setState [.ref cU, .int 9] (upd g12 fC_declaratives v6) r13) fun g14 r15 => (some (.inl none, g14, r15)))))))) := (fs_ev (M := nm_m139) rfl rfl).trans (eC_beginDeclaratives L xs (m + 1) d m 869 g r)
/-- CobolParser$Clauses.endSomething()V -/
def BC_endSomething_104 (L : Nat) (xs : Nat → Int32) (m d k : Nat) (g : a2_G) (r : a2_A) : Option fn_Z := (some (.inl none, g, r))
theorem bC_endSomething_104 (L : Nat) (xs : Nat → Int32) (m d k : Nat) (n : Nat) (g : a2_G) (r : a2_A) : bk L xs nC_endSomething nm_m140 m d k (n + 1) 104 [some (.ref cC)] [] g r = BC_endSomething_104 L xs m d k g r := by
  show _ = ((some (.inl none, g, r)) : Option fn_Z)
  exact (fs_rv (n := n + 0) rfl rfl).trans rfl
def BC_endSomething_54 (L : Nat) (xs : Nat → Int32) (m d k : Nat) (g : a2_G) (r : a2_A) : Option fn_Z := (fn_v (ev L xs m d nC_mayEndOrContain [.ref cC] g r) fun v9 g7 r8 => (fn_n (ev L xs m d nC_requireThat [.ref cC, .int v9] g7 r8) fun g10 r11 => (fn_n (ev L xs m d nC_endUnit [.ref cC] g10 r11) fun g12 r13 => (BC_endSomething_104 L xs m d k g12 r13))))
theorem bC_endSomething_54 (L : Nat) (xs : Nat → Int32) (m d k : Nat) (n : Nat) (g : a2_G) (r : a2_A) : bk L xs nC_endSomething nm_m140 m d k (n + 8) 54 [some (.ref cC)] [] g r = BC_endSomething_54 L xs m d k g r := by
  show _ = ((fn_v (ev L xs m d nC_mayEndOrContain [.ref cC] g r) fun v9 g7 r8 => (fn_n (ev L xs m d nC_requireThat [.ref cC, .int v9] g7 r8) fun g10 r11 => (fn_n (ev L xs m d nC_endUnit [.ref cC] g10 r11) fun g12 r13 => (BC_endSomething_104 L xs m d k g12 r13)))) : Option fn_Z)
  refine (fs_r (n := n + 6) 2 (pc' := 56) (L' := [some (.ref cC)]) (S' := [.ref cC, .ref cC]) rfl).trans ?_
  refine (fs_cv (n := n + 5) (N := nm_m128) (as := [.ref cC]) (rest := [.ref cC]) rfl rfl (Or.inl rfl) rfl rfl rfl rfl rfl).trans (fs_fv fun v9 g7 r8 => ?_)
  refine (fs_cn (n := n + 4) (N := nm_m55) (as := [.ref cC, .int v9]) (rest := []) rfl rfl (Or.inl rfl) rfl rfl rfl rfl rfl).trans (fs_fn fun g10 r11 => ?_)
  refine (fs_r (n := n + 3) 1 (pc' := 63) (L' := [some (.ref cC)]) (S' := [.ref cC]) rfl).trans ?_
  refine (fs_cn (n := n + 2) (N := nm_m142) (as := [.ref cC]) (rest := []) rfl rfl (Or.inl rfl) rfl rfl rfl rfl rfl).trans (fs_fn fun g12 r13 => ?_)
  refine (fs_go (n := n + 1) rfl (t := 104) rfl (by decide)).trans ?_
  exact bC_endSomething_104 L xs m d k (n + 0) g12 r13
def BC_endSomething_86 (L : Nat) (xs : Nat → Int32) (m d k : Nat) (x1 : Int32) (g : a2_G) (r : a2_A) : Option fn_Z := (fn_n (ev L xs m d nC_requireThat [.ref cC, .int x1] g r) fun g20 r21 => (fn_n (ev L xs m d nR_advance [.ref cR] g20 r21) fun g22 r23 => (fn_n (ev L xs m d nR_refuse [.ref cR, .int 1] g22 r23) fun g24 r25 => (BC_endSomething_104 L xs m d k g24 r25))))
theorem bC_endSomething_86 (L : Nat) (xs : Nat → Int32) (m d k : Nat) (n : Nat) (x1 : Int32) (g : a2_G) (r : a2_A) : bk L xs nC_endSomething nm_m140 m d k (n + 9) 86 [some (.ref cC)] [.int x1, .ref cC] g r = BC_endSomething_86 L xs m d k x1 g r := by
  show _ = ((fn_n (ev L xs m d nC_requireThat [.ref cC, .int x1] g r) fun g20 r21 => (fn_n (ev L xs m d nR_advance [.ref cR] g20 r21) fun g22 r23 => (fn_n (ev L xs m d nR_refuse [.ref cR, .int 1] g22 r23) fun g24 r25 => (BC_endSomething_104 L xs m d k g24 r25)))) : Option fn_Z)
  refine (fs_cn (n := n + 8) (N := nm_m55) (as := [.ref cC, .int x1]) (rest := []) rfl rfl (Or.inl rfl) rfl rfl rfl rfl rfl).trans (fs_fn fun g20 r21 => ?_)
  refine (fs_r (n := n + 6) 2 (pc' := 93) (L' := [some (.ref cC)]) (S' := [.ref cR]) rfl).trans ?_
  refine (fs_cn (n := n + 5) (N := nm_m61) (as := [.ref cR]) (rest := []) rfl rfl (Or.inl rfl) rfl rfl rfl rfl rfl).trans (fs_fn fun g22 r23 => ?_)
  refine (fs_r (n := n + 2) 3 (pc' := 101) (L' := [some (.ref cC)]) (S' := [.int 1, .ref cR]) rfl).trans ?_
  refine (fs_cn (n := n + 1) (N := nm_m56) (as := [.ref cR, .int 1]) (rest := []) rfl rfl (Or.inl rfl) rfl rfl rfl rfl rfl).trans (fs_fn fun g24 r25 => ?_)
  exact bC_endSomething_104 L xs m d k (n + 0) g24 r25
theorem eC_endSomething (L : Nat) (xs : Nat → Int32) (m d k : Nat) (n : Nat) (g : a2_G) (r : a2_A) : bk L xs nC_endSomething nm_m140 m d k (n + 35) 0 [some (.ref cC)] [] g r = (fn_v (ev L xs m d nR_isReserved [.ref cR, .int 32, .int 1] g r) fun v3 g1 r2 => (if am_c2 .eq v3 0 = true then (fn_v (ev L xs m d nR_isReserved [.ref cR, .int 34, .int 1] g1 r2) fun v6 g4 r5 => (if am_c2 .ne v6 0 = true then (BC_endSomething_54 L xs m d k g4 r5) else (fn_v (ev L xs m d nR_isReserved [.ref cR, .int 35, .int 1] g4 r5) fun v16 g14 r15 => (if am_c2 .eq v16 0 = true then (fn_v (ev L xs m d nU_state [.ref cU] g14 r15) fun v19 g17 r18 => (if am_c2 .lt v19 1 = true then (BC_endSomething_86 L xs m d k 0 g17 r18) else (BC_endSomething_86 L xs m d k 1 g17 r18))) else (BC_endSomething_54 L xs m d k g14 r15))))) else (fn_n (ev L xs m d nC_requireState [.ref cC, .int 9, .int 9] g1 r2) fun g26 r27 => (fn_n (ev L xs m d nC_endDeclaratives [.ref cC] g26 r27) fun g28 r29 => (BC_endSomething_104 L xs m d k g28 r29))))) := by
  refine (fs_r (n := n + 31) 4 (pc' := 7) (L' := [some (.ref cC)]) (S' := [.int 1, .int 32, .ref cR]) rfl).trans ?_
  refine (fs_cv (n := n + 30) (N := nm_m52) (as := [.ref cR, .int 32, .int 1]) (rest := []) rfl rfl (Or.inl rfl) rfl rfl rfl rfl rfl).trans (fs_fv fun v3 g1 r2 => ?_)
  refine (fs_i (n := n + 29) rfl (t := 28) rfl (by decide)).trans (fs_ite ?_ ?_)
  · skip
    refine (fs_r (n := n + 25) 4 (pc' := 35) (L' := [some (.ref cC)]) (S' := [.int 1, .int 34, .ref cR]) rfl).trans ?_
    refine (fs_cv (n := n + 24) (N := nm_m52) (as := [.ref cR, .int 34, .int 1]) (rest := []) rfl rfl (Or.inl rfl) rfl rfl rfl rfl rfl).trans (fs_fv fun v6 g4 r5 => ?_)
    refine (fs_i (n := n + 23) rfl (t := 54) rfl (by decide)).trans (fs_ite ?_ ?_)
    · skip
      exact bC_endSomething_54 L xs m d k (n + 15) g4 r5
    · skip
      refine (fs_r (n := n + 19) 4 (pc' := 48) (L' := [some (.ref cC)]) (S' := [.int 1, .int 35, .ref cR]) rfl).trans ?_
      refine (fs_cv (n := n + 18) (N := nm_m52) (as := [.ref cR, .int 35, .int 1]) (rest := []) rfl rfl (Or.inl rfl) rfl rfl rfl rfl rfl).trans (fs_fv fun v16 g14 r15 => ?_)
      refine (fs_i (n := n + 17) rfl (t := 69) rfl (by decide)).trans (fs_ite ?_ ?_)
      · skip
        refine (fs_r (n := n + 14) 3 (pc' := 74) (L' := [some (.ref cC)]) (S' := [.ref cU, .ref cC]) rfl).trans ?_
        refine (fs_cv (n := n + 13) (N := nm_m54) (as := [.ref cU]) (rest := [.ref cC]) rfl rfl (Or.inl rfl) rfl rfl rfl rfl rfl).trans (fs_fv fun v19 g17 r18 => ?_)
        refine (fs_r (n := n + 12) 1 (pc' := 78) (L' := [some (.ref cC)]) (S' := [.int 1, .int v19, .ref cC]) rfl).trans ?_
        refine (fs_j (n := n + 11) rfl (t := 85) rfl (by decide)).trans (fs_ite ?_ ?_)
        · skip
          refine (fs_r (n := n + 10) 1 (pc' := 86) (L' := [some (.ref cC)]) (S' := [.int 0, .ref cC]) rfl).trans ?_
          exact bC_endSomething_86 L xs m d k (n + 1) 0 g17 r18
        · skip
          refine (fs_r (n := n + 10) 1 (pc' := 82) (L' := [some (.ref cC)]) (S' := [.int 1, .ref cC]) rfl).trans ?_
          refine (fs_go (n := n + 9) rfl (t := 86) rfl (by decide)).trans ?_
          exact bC_endSomething_86 L xs m d k (n + 0) 1 g17 r18
      · skip
        exact bC_endSomething_54 L xs m d k (n + 9) g14 r15
  · skip
    refine (fs_r (n := n + 26) 3 (pc' := 18) (L' := [some (.ref cC)]) (S' := [.int 9, .int 9, .ref cC]) rfl).trans ?_
    refine (fs_cn (n := n + 25) (N := nm_m53) (as := [.ref cC, .int 9, .int 9]) (rest := []) rfl rfl (Or.inl rfl) rfl rfl rfl rfl rfl).trans (fs_fn fun g26 r27 => ?_)
    refine (fs_r (n := n + 24) 1 (pc' := 22) (L' := [some (.ref cC)]) (S' := [.ref cC]) rfl).trans ?_
    refine (fs_cn (n := n + 23) (N := nm_m141) (as := [.ref cC]) (rest := []) rfl rfl (Or.inl rfl) rfl rfl rfl rfl rfl).trans (fs_fn fun g28 r29 => ?_)
    refine (fs_go (n := n + 22) rfl (t := 104) rfl (by decide)).trans ?_
    exact bC_endSomething_104 L xs m d k (n + 21) g28 r29
theorem qC_endSomething (L : Nat) (xs : Nat → Int32) (m d : Nat) (g : a2_G) (r : a2_A) : ev L xs (m + 1) (d + 1) nC_endSomething [.ref cC] g r = (fn_v (ev L xs (m + 1) d nR_isReserved [.ref cR, .int 32, .int 1] g r) fun v3 g1 r2 => (if am_c2 .eq v3 0 = true then (fn_v (ev L xs (m + 1) d nR_isReserved [.ref cR, .int 34, .int 1] g1 r2) fun v6 g4 r5 => (if am_c2 .ne v6 0 = true then (BC_endSomething_54 L xs (m + 1) d m g4 r5) else (fn_v (ev L xs (m + 1) d nR_isReserved [.ref cR, .int 35, .int 1] g4 r5) fun v16 g14 r15 => (if am_c2 .eq v16 0 = true then (fn_v (ev L xs (m + 1) d nU_state [.ref cU] g14 r15) fun v19 g17 r18 => (if am_c2 .lt v19 1 = true then (BC_endSomething_86 L xs (m + 1) d m 0 g17 r18) else (BC_endSomething_86 L xs (m + 1) d m 1 g17 r18))) else (BC_endSomething_54 L xs (m + 1) d m g14 r15))))) else (fn_n (ev L xs (m + 1) d nC_requireState [.ref cC, .int 9, .int 9] g1 r2) fun g26 r27 => (fn_n (ev L xs (m + 1) d nC_endDeclaratives [.ref cC] g26 r27) fun g28 r29 => (BC_endSomething_104 L xs (m + 1) d m g28 r29))))) := (fs_ev (M := nm_m140) rfl rfl).trans (eC_endSomething L xs (m + 1) d m 865 g r)
/-- CobolParser$Clauses.endDeclaratives()V -/
theorem eC_endDeclaratives (L : Nat) (xs : Nat → Int32) (m d k : Nat) (n : Nat) (g : a2_G) (r : a2_A) : bk L xs nC_endDeclaratives nm_m141 m d k (n + 23) 0 [some (.ref cC)] [] g r = (fn_n (ev L xs m d nR_advance [.ref cR] g r) fun g1 r2 => (fn_n (ev L xs m d nR_require [.ref cR, .int 32] g1 r2) fun g3 r4 => (fn_v (ev L xs m d nR_requireKind [.ref cR, .int 4] g3 r4) fun v7 g5 r6 => (fn_n (ev L xs m d nU_setState [.ref cU, .int 10] (upd (upd g5 fC_section (-1)) fC_paragraph (-1)) r6) fun g8 r9 => (some (.inl none, g8, r9)))))) := by
  refine (fs_r (n := n + 21) 2 (pc' := 4) (L' := [some (.ref cC)]) (S' := [.ref cR]) rfl).trans ?_
  refine (fs_cn (n := n + 20) (N := nm_m61) (as := [.ref cR]) (rest := []) rfl rfl (Or.inl rfl) rfl rfl rfl rfl rfl).trans (fs_fn fun g1 r2 => ?_)
  refine (fs_r (n := n + 17) 3 (pc' := 13) (L' := [some (.ref cC)]) (S' := [.int 32, .ref cR]) rfl).trans ?_
  refine (fs_cn (n := n + 16) (N := nm_m83) (as := [.ref cR, .int 32]) (rest := []) rfl rfl (Or.inl rfl) rfl rfl rfl rfl rfl).trans (fs_fn fun g3 r4 => ?_)
  refine (fs_r (n := n + 13) 3 (pc' := 21) (L' := [some (.ref cC)]) (S' := [.int 4, .ref cR]) rfl).trans ?_
  refine (fs_cv (n := n + 12) (N := nm_m59) (as := [.ref cR, .int 4]) (rest := []) rfl rfl (Or.inl rfl) rfl rfl rfl rfl rfl).trans (fs_fv fun v7 g5 r6 => ?_)
  refine (fs_r (n := n + 9) 3 (pc' := 27) (L' := [some (.ref cC)]) (S' := [.int (-1), .ref cC]) rfl).trans ?_
  refine (fs_pf (n := n + 8) (ci := 6) (j := 8) rfl rfl rfl rfl).trans ?_
  refine (fs_r (n := n + 6) 2 (pc' := 32) (L' := [some (.ref cC)]) (S' := [.int (-1), .ref cC]) rfl).trans ?_
  refine (fs_pf (n := n + 5) (ci := 6) (j := 9) rfl rfl rfl rfl).trans ?_
  refine (fs_r (n := n + 2) 3 (pc' := 41) (L' := [some (.ref cC)]) (S' := [.int 10, .ref cU]) rfl).trans ?_
  refine (fs_cn (n := n + 1) (N := nm_m65) (as := [.ref cU, .int 10]) (rest := []) rfl rfl (Or.inl rfl) rfl rfl rfl rfl rfl).trans (fs_fn fun g8 r9 => ?_)
  exact (fs_rv (n := n + 0) rfl rfl).trans rfl
theorem qC_endDeclaratives (L : Nat) (xs : Nat → Int32) (m d : Nat) (g : a2_G) (r : a2_A) : ev L xs (m + 1) (d + 1) nC_endDeclaratives [.ref cC] g r = (fn_n (ev L xs (m + 1) d nR_advance [.ref cR] g r) fun g1 r2 => (fn_n (ev L xs (m + 1) d nR_require [.ref cR, .int 32] g1 r2) fun g3 r4 => (fn_v (ev L xs (m + 1) d nR_requireKind [.ref cR, .int 4] g3 r4) fun v7 g5 r6 => (fn_n (ev L xs (m + 1) d nU_setState [.ref cU, .int 10] (upd (upd g5 fC_section (-1)) fC_paragraph (-1)) r6) fun g8 r9 => (some (.inl none, g8, r9)))))) := (fs_ev (M := nm_m141) rfl rfl).trans (eC_endDeclaratives L xs (m + 1) d m 877 g r)
/-- CobolParser$Clauses.endUnit()V -/
def BC_endUnit_78 (L : Nat) (xs : Nat → Int32) (m d k : Nat) (x1 x2 : Int32) (g : a2_G) (r : a2_A) : Option fn_Z := (fn_n (ev L xs m d nU_close [.ref cU] g r) fun g20 r21 => (some (.inl none, g20, r21)))
theorem bC_endUnit_78 (L : Nat) (xs : Nat → Int32) (m d k : Nat) (n : Nat) (x1 x2 : Int32) (g : a2_G) (r : a2_A) : bk L xs nC_endUnit nm_m142 m d k (n + 4) 78 [some (.ref cC), some (.int x1), some (.int x2)] [] g r = BC_endUnit_78 L xs m d k x1 x2 g r := by
  show _ = ((fn_n (ev L xs m d nU_close [.ref cU] g r) fun g20 r21 => (some (.inl none, g20, r21))) : Option fn_Z)
  refine (fs_r (n := n + 2) 2 (pc' := 82) (L' := [some (.ref cC), some (.int x1), some (.int x2)]) (S' := [.ref cU]) rfl).trans ?_
  refine (fs_cn (n := n + 1) (N := nm_m145) (as := [.ref cU]) (rest := []) rfl rfl (Or.inl rfl) rfl rfl rfl rfl rfl).trans (fs_fn fun g20 r21 => ?_)
  exact (fs_rv (n := n + 0) rfl rfl).trans rfl
def BC_endUnit_29 (L : Nat) (xs : Nat → Int32) (m d k : Nat) (x1 : Int32) (g : a2_G) (r : a2_A) : Option fn_Z := (fn_n (ev L xs m d nR_require [.ref cR, .int x1] g r) fun g6 r7 => (fn_v (ev L xs m d nR_place [.ref cR] g6 r7) fun v10 g8 r9 => (fn_v (ev L xs m d nR_requireKind [.ref cR, .int 1] g8 r9) fun v13 g11 r12 => (fn_v (ev L xs m d nR_requireKind [.ref cR, .int 4] g11 r12) fun v16 g14 r15 => (fn_v (ev L xs m d nU_name [.ref cU] g14 r15) fun v19 g17 r18 => (if am_c2 .eq v13 v19 = true then (BC_endUnit_78 L xs m d k v10 v13 g17 r18) else (fn_n (ev L xs m d nR_note [.ref cR, .int 2, .int v10] g17 r18) fun g22 r23 => (BC_endUnit_78 L xs m d k v10 v13 g22 r23))))))))
theorem bC_endUnit_29 (L : Nat) (xs : Nat → Int32) (m d k : Nat) (n : Nat) (x1 : Int32) (g : a2_G) (r : a2_A) : bk L xs nC_endUnit nm_m142 m d k (n + 29) 29 [some (.ref cC), none, none] [.int x1, .ref cR] g r = BC_endUnit_29 L xs m d k x1 g r := by
  show _ = ((fn_n (ev L xs m d nR_require [.ref cR, .int x1] g r) fun g6 r7 => (fn_v (ev L xs m d nR_place [.ref cR] g6 r7) fun v10 g8 r9 => (fn_v (ev L xs m d nR_requireKind [.ref cR, .int 1] g8 r9) fun v13 g11 r12 => (fn_v (ev L xs m d nR_requireKind [.ref cR, .int 4] g11 r12) fun v16 g14 r15 => (fn_v (ev L xs m d nU_name [.ref cU] g14 r15) fun v19 g17 r18 => (if am_c2 .eq v13 v19 = true then (BC_endUnit_78 L xs m d k v10 v13 g17 r18) else (fn_n (ev L xs m d nR_note [.ref cR, .int 2, .int v10] g17 r18) fun g22 r23 => (BC_endUnit_78 L xs m d k v10 v13 g22 r23)))))))) : Option fn_Z)
  refine (fs_cn (n := n + 28) (N := nm_m83) (as := [.ref cR, .int x1]) (rest := []) rfl rfl (Or.inl rfl) rfl rfl rfl rfl rfl).trans (fs_fn fun g6 r7 => ?_)
  refine (fs_r (n := n + 26) 2 (pc' := 36) (L' := [some (.ref cC), none, none]) (S' := [.ref cR]) rfl).trans ?_
  refine (fs_cv (n := n + 25) (N := nm_m58) (as := [.ref cR]) (rest := []) rfl rfl (Or.inl rfl) rfl rfl rfl rfl rfl).trans (fs_fv fun v10 g8 r9 => ?_)
  refine (fs_r (n := n + 21) 4 (pc' := 45) (L' := [some (.ref cC), some (.int v10), none]) (S' := [.int 1, .ref cR]) rfl).trans ?_
  refine (fs_cv (n := n + 20) (N := nm_m59) (as := [.ref cR, .int 1]) (rest := []) rfl rfl (Or.inl rfl) rfl rfl rfl rfl rfl).trans (fs_fv fun v13 g11 r12 => ?_)
  refine (fs_r (n := n + 16) 4 (pc' := 54) (L' := [some (.ref cC), some (.int v10), some (.int v13)]) (S' := [.int 4, .ref cR]) rfl).trans ?_
  refine (fs_cv (n := n + 15) (N := nm_m59) (as := [.ref cR, .int 4]) (rest := []) rfl rfl (Or.inl rfl) rfl rfl rfl rfl rfl).trans (fs_fv fun v16 g14 r15 => ?_)
  refine (fs_r (n := n + 11) 4 (pc' := 63) (L' := [some (.ref cC), some (.int v10), some (.int v13)]) (S' := [.ref cU, .int v13]) rfl).trans ?_
  refine (fs_cv (n := n + 10) (N := nm_m143) (as := [.ref cU]) (rest := [.int v13]) rfl rfl (Or.inl rfl) rfl rfl rfl rfl rfl).trans (fs_fv fun v19 g17 r18 => ?_)
  refine (fs_j (n := n + 9) rfl (t := 78) rfl (by decide)).trans (fs_ite ?_ ?_)
  · skip
    exact bC_endUnit_78 L xs m d k (n + 5) v10 v13 g17 r18
  · skip
    refine (fs_r (n := n + 5) 4 (pc' := 75) (L' := [some (.ref cC), some (.int v10), some (.int v13)]) (S' := [.int v10, .int 2, .ref cR]) rfl).trans ?_
    refine (fs_cn (n := n + 4) (N := nm_m144) (as := [.ref cR, .int 2, .int v10]) (rest := []) rfl rfl (Or.inl rfl) rfl rfl rfl rfl rfl).trans (fs_fn fun g22 r23 => ?_)
    exact bC_endUnit_78 L xs m d k (n + 0) v10 v13 g22 r23
theorem eC_endUnit (L : Nat) (xs : Nat → Int32) (m d k : Nat) (n : Nat) (g : a2_G) (r : a2_A) : bk L xs nC_endUnit nm_m142 m d k (n + 41) 0 [some (.ref cC), none, none] [] g r = (fn_n (ev L xs m d nR_advance [.ref cR] g r) fun g1 r2 => (fn_v (ev L xs m d nU_kind [.ref cU] g1 r2) fun v5 g3 r4 => (if am_c2 .ne v5 2 = true then (BC_endUnit_29 L xs m d k 34 g3 r4) else (BC_endUnit_29 L xs m d k 35 g3 r4)))) := by
  refine (fs_r (n := n + 39) 2 (pc' := 4) (L' := [some (.ref cC), none, none]) (S' := [.ref cR]) rfl).trans ?_
  refine (fs_cn (n := n + 38) (N := nm_m61) (as := [.ref cR]) (rest := []) rfl rfl (Or.inl rfl) rfl rfl rfl rfl rfl).trans (fs_fn fun g1 r2 => ?_)
  refine (fs_r (n := n + 34) 4 (pc' := 15) (L' := [some (.ref cC), none, none]) (S' := [.ref cU, .ref cR]) rfl).trans ?_
  refine (fs_cv (n := n + 33) (N := nm_m127) (as := [.ref cU]) (rest := [.ref cR]) rfl rfl (Or.inl rfl) rfl rfl rfl rfl rfl).trans (fs_fv fun v5 g3 r4 => ?_)
  refine (fs_r (n := n + 32) 1 (pc' := 19) (L' := [some (.ref cC), none, none]) (S' := [.int 2, .int v5, .ref cR]) rfl).trans ?_
  refine (fs_j (n := n + 31) rfl (t := 27) rfl (by decide)).trans (fs_ite ?_ ?_)
  · skip
    refine (fs_r (n := n + 30) 1 (pc' := 29) (L' := [some (.ref cC), none, none]) (S' := [.int 34, .ref cR]) rfl).trans ?_
    exact bC_endUnit_29 L xs m d k (n + 1) 34 g3 r4
  · skip
    refine (fs_r (n := n + 30) 1 (pc' := 24) (L' := [some (.ref cC), none, none]) (S' := [.int 35, .ref cR]) rfl).trans ?_
    refine (fs_go (n := n + 29) rfl (t := 29) rfl (by decide)).trans ?_
    exact bC_endUnit_29 L xs m d k (n + 0) 35 g3 r4
theorem qC_endUnit (L : Nat) (xs : Nat → Int32) (m d : Nat) (g : a2_G) (r : a2_A) : ev L xs (m + 1) (d + 1) nC_endUnit [.ref cC] g r = (fn_n (ev L xs (m + 1) d nR_advance [.ref cR] g r) fun g1 r2 => (fn_v (ev L xs (m + 1) d nU_kind [.ref cU] g1 r2) fun v5 g3 r4 => (if am_c2 .ne v5 2 = true then (BC_endUnit_29 L xs (m + 1) d m 34 g3 r4) else (BC_endUnit_29 L xs (m + 1) d m 35 g3 r4)))) := (fs_ev (M := nm_m142) rfl rfl).trans (eC_endUnit L xs (m + 1) d m 859 g r)
/-- CobolParser$Units.name()I -/
def BU_name_22 (L : Nat) (xs : Nat → Int32) (m d k : Nat) (x1 : Int32) (g : a2_G) (r : a2_A) : Option fn_Z := (some (.inl (some (.int x1)), g, r))
theorem bU_name_22 (L : Nat) (xs : Nat → Int32) (m d k : Nat) (n : Nat) (x1 : Int32) (g : a2_G) (r : a2_A) : bk L xs nU_name nm_m143 m d k (n + 1) 22 [some (.ref cU)] [.int x1] g r = BU_name_22 L xs m d k x1 g r := by
  show _ = ((some (.inl (some (.int x1)), g, r)) : Option fn_Z)
  exact (fs_ri (n := n + 0) rfl rfl).trans rfl
theorem eU_name (L : Nat) (xs : Nat → Int32) (m d k : Nat) (n : Nat) (g : a2_G) (r : a2_A) : bk L xs nU_name nm_m143 m d k (n + 12) 0 [some (.ref cU)] [] g r = (if am_c2 .le (g fU_size) 0 = true then (BU_name_22 L xs m d k (-1) g r) else (if am_inr ((g fU_size) - 1) (r fU_names).1 = true then (BU_name_22 L xs m d k ((r fU_names).2 (((g fU_size) - 1) : Int32).toNatClampNeg) g r) else none)) := by
  refine (fs_r (n := n + 10) 2 (pc' := 4) (L' := [some (.ref cU)]) (S' := [.int (g fU_size)]) rfl).trans ?_
  refine (fs_i (n := n + 9) rfl (t := 21) rfl (by decide)).trans (fs_ite ?_ ?_)
  · skip
    refine (fs_r (n := n + 8) 1 (pc' := 22) (L' := [some (.ref cU)]) (S' := [.int (-1)]) rfl).trans ?_
    exact bU_name_22 L xs m d k (n + 7) (-1) g r
  · skip
    refine (fs_r (n := n + 3) 6 (pc' := 17) (L' := [some (.ref cU)]) (S' := [.int ((g fU_size) - 1), .ref 10802]) rfl).trans ?_
    refine (fs_il (n := n + 2) (k := 802) rfl rfl).trans (fs_ite ?_ rfl)
    refine (fs_go (n := n + 1) rfl (t := 22) rfl (by decide)).trans ?_
    exact bU_name_22 L xs m d k (n + 0) ((r fU_names).2 (((g fU_size) - 1) : Int32).toNatClampNeg) g r
theorem qU_name (L : Nat) (xs : Nat → Int32) (m d : Nat) (g : a2_G) (r : a2_A) : ev L xs (m + 1) (d + 1) nU_name [.ref cU] g r = (if am_c2 .le (g fU_size) 0 = true then (BU_name_22 L xs (m + 1) d m (-1) g r) else (if am_inr ((g fU_size) - 1) (r fU_names).1 = true then (BU_name_22 L xs (m + 1) d m ((r fU_names).2 (((g fU_size) - 1) : Int32).toNatClampNeg) g r) else none)) := (fs_ev (M := nm_m143) rfl rfl).trans (eU_name L xs (m + 1) d m 888 g r)
/-- CobolParser$Row.note(II)V -/
def BR_note_39 (L : Nat) (xs : Nat → Int32) (m d k : Nat) (x1 x2 : Int32) (g : a2_G) (r : a2_A) : Option fn_Z := (some (.inl none, g, r))
theorem bR_note_39 (L : Nat) (xs : Nat → Int32) (m d k : Nat) (n : Nat) (x1 x2 : Int32) (g : a2_G) (r : a2_A) : bk L xs nR_note nm_m144 m d k (n + 1) 39 [some (.ref cR), some (.int x1), some (.int x2)] [] g r = BR_note_39 L xs m d k x1 x2 g r := by
  show _ = ((some (.inl none, g, r)) : Option fn_Z)
  exact (fs_rv (n := n + 0) rfl rfl).trans rfl
theorem eR_note (L : Nat) (xs : Nat → Int32) (m d k : Nat) (n : Nat) (a1 a2 : Int32) (g : a2_G) (r : a2_A) : bk L xs nR_note nm_m144 m d k (n + 23) 0 [some (.ref cR), some (.int a1), some (.int a2)] [] g r = (if am_c2 .ge (g fR_faultSize) 20 = true then (BR_note_39 L xs m d k a1 a2 g r) else (if am_inr (g fR_faultSize) (r fR_faultNumbers).1 = true then (if am_inr (g fR_faultSize) (r fR_faultPlaces).1 = true then (BR_note_39 L xs m d k a1 a2 (upd g fR_faultSize ((g fR_faultSize) + 1)) (a2_ua (a2_ua r fR_faultNumbers ((r fR_faultNumbers).1, (upd (r fR_faultNumbers).2 ((g fR_faultSize) : Int32).toNatClampNeg a1))) fR_faultPlaces ((r fR_faultPlaces).1, (upd (r fR_faultPlaces).2 ((g fR_faultSize) : Int32).toNatClampNeg a2)))) else none) else none)) := by
  refine (fs_r (n := n + 20) 3 (pc' := 6) (L' := [some (.ref cR), some (.int a1), some (.int a2)]) (S' := [.int 20, .int (g fR_faultSize)]) rfl).trans ?_
  refine (fs_j (n := n + 19) rfl (t := 39) rfl (by decide)).trans (fs_ite ?_ ?_)
  · skip
    exact bR_note_39 L xs m d k (n + 18) a1 a2 g r
  · skip
    refine (fs_r (n := n + 14) 5 (pc' := 18) (L' := [some (.ref cR), some (.int a1), some (.int a2)]) (S' := [.int a1, .int (g fR_faultSize), .ref 10105]) rfl).trans ?_
    refine (fs_is (n := n + 13) (k := 105) rfl rfl).trans (fs_ite ?_ rfl)
    refine (fs_r (n := n + 8) 5 (pc' := 28) (L' := [some (.ref cR), some (.int a1), some (.int a2)]) (S' := [.int a2, .int (g fR_faultSize), .ref 10106]) rfl).trans ?_
    refine (fs_is (n := n + 7) (k := 106) rfl rfl).trans (fs_ite ?_ rfl)
    refine (fs_r (n := n + 2) 5 (pc' := 36) (L' := [some (.ref cR), some (.int a1), some (.int a2)]) (S' := [.int ((g fR_faultSize) + 1), .ref cR]) rfl).trans ?_
    refine (fs_pf (n := n + 1) (ci := 1) (j := 7) rfl rfl rfl rfl).trans ?_
    exact bR_note_39 L xs m d k (n + 0) a1 a2 (upd g fR_faultSize ((g fR_faultSize) + 1)) (a2_ua (a2_ua r fR_faultNumbers ((r fR_faultNumbers).1, (upd (r fR_faultNumbers).2 ((g fR_faultSize) : Int32).toNatClampNeg a1))) fR_faultPlaces ((r fR_faultPlaces).1, (upd (r fR_faultPlaces).2 ((g fR_faultSize) : Int32).toNatClampNeg a2)))
theorem qR_note (L : Nat) (xs : Nat → Int32) (m d : Nat) (a1 a2 : Int32) (g : a2_G) (r : a2_A) : ev L xs (m + 1) (d + 1) nR_note [.ref cR, .int a1, .int a2] g r = (if am_c2 .ge (g fR_faultSize) 20 = true then (BR_note_39 L xs (m + 1) d m a1 a2 g r) else (if am_inr (g fR_faultSize) (r fR_faultNumbers).1 = true then (if am_inr (g fR_faultSize) (r fR_faultPlaces).1 = true then (BR_note_39 L xs (m + 1) d m a1 a2 (upd g fR_faultSize ((g fR_faultSize) + 1)) (a2_ua (a2_ua r fR_faultNumbers ((r fR_faultNumbers).1, (upd (r fR_faultNumbers).2 ((g fR_faultSize) : Int32).toNatClampNeg a1))) fR_faultPlaces ((r fR_faultPlaces).1, (upd (r fR_faultPlaces).2 ((g fR_faultSize) : Int32).toNatClampNeg a2)))) else none) else none)) := (fs_ev (M := nm_m144) rfl rfl).trans (eR_note L xs (m + 1) d m 877 a1 a2 g r)
/-- CobolParser$Units.close()V -/
def BU_close_17 (L : Nat) (xs : Nat → Int32) (m d k : Nat) (g : a2_G) (r : a2_A) : Option fn_Z := (some (.inl none, g, r))
theorem bU_close_17 (L : Nat) (xs : Nat → Int32) (m d k : Nat) (n : Nat) (g : a2_G) (r : a2_A) : bk L xs nU_close nm_m145 m d k (n + 1) 17 [some (.ref cU)] [] g r = BU_close_17 L xs m d k g r := by
  show _ = ((some (.inl none, g, r)) : Option fn_Z)
  exact (fs_rv (n := n + 0) rfl rfl).trans rfl
theorem eU_close (L : Nat) (xs : Nat → Int32) (m d k : Nat) (n : Nat) (g : a2_G) (r : a2_A) : bk L xs nU_close nm_m145 m d k (n + 10) 0 [some (.ref cU)] [] g r = (if am_c2 .le (g fU_size) 0 = true then (BU_close_17 L xs m d k g r) else (BU_close_17 L xs m d k (upd g fU_size ((g fU_size) - 1)) r)) := by
  refine (fs_r (n := n + 8) 2 (pc' := 4) (L' := [some (.ref cU)]) (S' := [.int (g fU_size)]) rfl).trans ?_
  refine (fs_i (n := n + 7) rfl (t := 17) rfl (by decide)).trans (fs_ite ?_ ?_)
  · skip
    exact bU_close_17 L xs m d k (n + 6) g r
  · skip
    refine (fs_r (n := n + 2) 5 (pc' := 14) (L' := [some (.ref cU)]) (S' := [.int ((g fU_size) - 1), .ref cU]) rfl).trans ?_
    refine (fs_pf (n := n + 1) (ci := 8) (j := 4) rfl rfl rfl rfl).trans ?_
    exact bU_close_17 L xs m d k (n + 0) (upd g fU_size ((g fU_size) - 1)) r
theorem qU_close (L : Nat) (xs : Nat → Int32) (m d : Nat) (g : a2_G) (r : a2_A) : ev L xs (m + 1) (d + 1) nU_close [.ref cU] g r = (if am_c2 .le (g fU_size) 0 = true then (BU_close_17 L xs (m + 1) d m g r) else (BU_close_17 L xs (m + 1) d m (upd g fU_size ((g fU_size) - 1)) r)) := (fs_ev (M := nm_m145) rfl rfl).trans (eU_close L xs (m + 1) d m 890 g r)
/-- CobolParser$Clauses.dataClause()V -/
def BC_dataClause_151 (L : Nat) (xs : Nat → Int32) (m d k : Nat) (g : a2_G) (r : a2_A) : Option fn_Z := (some (.inl none, g, r))
theorem bC_dataClause_151 (L : Nat) (xs : Nat → Int32) (m d k : Nat) (n : Nat) (g : a2_G) (r : a2_A) : bk L xs nC_dataClause nm_m146 m d k (n + 1) 151 [some (.ref cC)] [] g r = BC_dataClause_151 L xs m d k g r := by
  show _ = ((some (.inl none, g, r)) : Option fn_Z)
  exact (fs_rv (n := n + 0) rfl rfl).trans rfl
def BC_dataClause_143 (L : Nat) (xs : Nat → Int32) (m d k : Nat) (g : a2_G) (r : a2_A) : Option fn_Z := (fn_n (ev L xs m d nR_refuse [.ref cR, .int 1] g r) fun g26 r27 => (BC_dataClause_151 L xs m d k g26 r27))
theorem bC_dataClause_143 (L : Nat) (xs : Nat → Int32) (m d k : Nat) (n : Nat) (g : a2_G) (r : a2_A) : bk L xs nC_dataClause nm_m146 m d k (n + 5) 143 [some (.ref cC)] [] g r = BC_dataClause_143 L xs m d k g r := by
  show _ = ((fn_n (ev L xs m d nR_refuse [.ref cR, .int 1] g r) fun g26 r27 => (BC_dataClause_151 L xs m d k g26 r27)) : Option fn_Z)
  refine (fs_r (n := n + 2) 3 (pc' := 148) (L' := [some (.ref cC)]) (S' := [.int 1, .ref cR]) rfl).trans ?_
  refine (fs_cn (n := n + 1) (N := nm_m56) (as := [.ref cR, .int 1]) (rest := []) rfl rfl (Or.inl rfl) rfl rfl rfl rfl rfl).trans (fs_fn fun g26 r27 => ?_)
  exact bC_dataClause_151 L xs m d k (n + 0) g26 r27
theorem eC_dataClause (L : Nat) (xs : Nat → Int32) (m d k : Nat) (n : Nat) (g : a2_G) (r : a2_A) : bk L xs nC_dataClause nm_m146 m d k (n + 23) 0 [some (.ref cC)] [] g r = (fn_v (ev L xs m d nR_value [.ref cR] g r) fun v3 g1 r2 => (if (v3 : Int32).toInt = 12 then (fn_n (ev L xs m d nC_requireState [.ref cC, .int 1, .int 2] g1 r2) fun g4 r5 => (fn_v (ev L xs m d nU_handle [.ref cU] g4 r5) fun v8 g6 r7 => (fn_v (ev L xs m d nC_heading [.ref cC, .int 7, .int 1, .int v8] g6 r7) fun v11 g9 r10 => (fn_n (ev L xs m d nU_setState [.ref cU, .int 3] (upd g9 fC_openDivision v11) r10) fun g12 r13 => (BC_dataClause_151 L xs m d k g12 r13))))) else (if (v3 : Int32).toInt = 13 then (fn_n (ev L xs m d nC_requireState [.ref cC, .int 3, .int 3] g1 r2) fun g14 r15 => (fn_n (ev L xs m d nC_dataSection [.ref cC, .int 8, .int 4] g14 r15) fun g16 r17 => (BC_dataClause_151 L xs m d k g16 r17))) else (if (v3 : Int32).toInt = 14 then (fn_n (ev L xs m d nC_requireState [.ref cC, .int 3, .int 5] g1 r2) fun g18 r19 => (fn_n (ev L xs m d nC_dataSection [.ref cC, .int 9, .int 6] g18 r19) fun g20 r21 => (BC_dataClause_151 L xs m d k g20 r21))) else (if (v3 : Int32).toInt = 15 then (fn_n (ev L xs m d nC_requireState [.ref cC, .int 3, .int 6] g1 r2) fun g22 r23 => (fn_n (ev L xs m d nC_dataSection [.ref cC, .int 10, .int 7] g22 r23) fun g24 r25 => (BC_dataClause_151 L xs m d k g24 r25))) else (if (v3 : Int32).toInt = 16 then (BC_dataClause_143 L xs m d k g1 r2) else (if (v3 : Int32).toInt = 17 then (fn_n (ev L xs m d nC_requireState [.ref cC, .int 4, .int 5] g1 r2) fun g28 r29 => (fn_n (ev L xs m d nC_fileDescription [.ref cC] g28 r29) fun g30 r31 => (BC_dataClause_151 L xs m d k g30 r31))) else (BC_dataClause_143 L xs m d k g1 r2)))))))) := by
  refine (fs_r (n := n + 21) 2 (pc' := 4) (L' := [some (.ref cC)]) (S' := [.ref cR]) rfl).trans ?_
  refine (fs_cv (n := n + 20) (N := nm_m60) (as := [.ref cR]) (rest := []) rfl rfl (Or.inl rfl) rfl rfl rfl rfl rfl).trans (fs_fv fun v3 g1 r2 => ?_)
  refine (fs_ts (n := n + 19) (l := [37, 72, 88, 105, 136, 123]) rfl rfl rfl).trans ?_
  refine fs_tc (v' := 13) rfl ?_ (fs_tc (v' := 14) rfl ?_ (fs_tc (v' := 15) rfl ?_ (fs_tc (v' := 16) rfl ?_ (fs_tc (v' := 17) rfl ?_ (fs_tc (v' := 18) rfl ?_ (fs_tn ?_))))))
  · refine (fs_J1 (n := n + 19) (t := 44) rfl (by decide)).trans ?_
    refine (fs_r (n := n + 16) 3 (pc' := 47) (L' := [some (.ref cC)]) (S' := [.int 2, .int 1, .ref cC]) rfl).trans ?_
    refine (fs_cn (n := n + 15) (N := nm_m53) (as := [.ref cC, .int 1, .int 2]) (rest := []) rfl rfl (Or.inl rfl) rfl rfl rfl rfl rfl).trans (fs_fn fun g4 r5 => ?_)
    refine (fs_r (n := n + 9) 6 (pc' := 59) (L' := [some (.ref cC)]) (S' := [.ref cU, .int 1, .int 7, .ref cC, .ref cC]) rfl).trans ?_
    refine (fs_cv (n := n + 8) (N := nm_m130) (as := [.ref cU]) (rest := [.int 1, .int 7, .ref cC, .ref cC]) rfl rfl (Or.inl rfl) rfl rfl rfl rfl rfl).trans (fs_fv fun v8 g6 r7 => ?_)
    refine (fs_cv (n := n + 7) (N := nm_m131) (as := [.ref cC, .int 7, .int 1, .int v8]) (rest := [.ref cC]) rfl rfl (Or.inl rfl) rfl rfl rfl rfl rfl).trans (fs_fv fun v11 g9 r10 => ?_)
    refine (fs_pf (n := n + 6) (ci := 6) (j := 6) rfl rfl rfl rfl).trans ?_
    refine (fs_r (n := n + 3) 3 (pc' := 73) (L' := [some (.ref cC)]) (S' := [.int 3, .ref cU]) rfl).trans ?_
    refine (fs_cn (n := n + 2) (N := nm_m65) (as := [.ref cU, .int 3]) (rest := []) rfl rfl (Or.inl rfl) rfl rfl rfl rfl rfl).trans (fs_fn fun g12 r13 => ?_)
    refine (fs_go (n := n + 1) rfl (t := 151) rfl (by decide)).trans ?_
    exact bC_dataClause_151 L xs m d k (n + 0) g12 r13
  · refine (fs_J1 (n := n + 19) (t := 79) rfl (by decide)).trans ?_
    refine (fs_r (n := n + 16) 3 (pc' := 82) (L' := [some (.ref cC)]) (S' := [.int 3, .int 3, .ref cC]) rfl).trans ?_
    refine (fs_cn (n := n + 15) (N := nm_m53) (as := [.ref cC, .int 3, .int 3]) (rest := []) rfl rfl (Or.inl rfl) rfl rfl rfl rfl rfl).trans (fs_fn fun g14 r15 => ?_)
    refine (fs_r (n := n + 12) 3 (pc' := 89) (L' := [some (.ref cC)]) (S' := [.int 4, .int 8, .ref cC]) rfl).trans ?_
    refine (fs_cn (n := n + 11) (N := nm_m147) (as := [.ref cC, .int 8, .int 4]) (rest := []) rfl rfl (Or.inl rfl) rfl rfl rfl rfl rfl).trans (fs_fn fun g16 r17 => ?_)
    refine (fs_go (n := n + 10) rfl (t := 151) rfl (by decide)).trans ?_
    exact bC_dataClause_151 L xs m d k (n + 9) g16 r17
  · refine (fs_J1 (n := n + 19) (t := 95) rfl (by decide)).trans ?_
    refine (fs_r (n := n + 16) 3 (pc' := 98) (L' := [some (.ref cC)]) (S' := [.int 5, .int 3, .ref cC]) rfl).trans ?_
    refine (fs_cn (n := n + 15) (N := nm_m53) (as := [.ref cC, .int 3, .int 5]) (rest := []) rfl rfl (Or.inl rfl) rfl rfl rfl rfl rfl).trans (fs_fn fun g18 r19 => ?_)
    refine (fs_r (n := n + 12) 3 (pc' := 106) (L' := [some (.ref cC)]) (S' := [.int 6, .int 9, .ref cC]) rfl).trans ?_
    refine (fs_cn (n := n + 11) (N := nm_m147) (as := [.ref cC, .int 9, .int 6]) (rest := []) rfl rfl (Or.inl rfl) rfl rfl rfl rfl rfl).trans (fs_fn fun g20 r21 => ?_)
    refine (fs_go (n := n + 10) rfl (t := 151) rfl (by decide)).trans ?_
    exact bC_dataClause_151 L xs m d k (n + 9) g20 r21
  · refine (fs_J1 (n := n + 19) (t := 112) rfl (by decide)).trans ?_
    refine (fs_r (n := n + 16) 3 (pc' := 116) (L' := [some (.ref cC)]) (S' := [.int 6, .int 3, .ref cC]) rfl).trans ?_
    refine (fs_cn (n := n + 15) (N := nm_m53) (as := [.ref cC, .int 3, .int 6]) (rest := []) rfl rfl (Or.inl rfl) rfl rfl rfl rfl rfl).trans (fs_fn fun g22 r23 => ?_)
    refine (fs_r (n := n + 12) 3 (pc' := 124) (L' := [some (.ref cC)]) (S' := [.int 7, .int 10, .ref cC]) rfl).trans ?_
    refine (fs_cn (n := n + 11) (N := nm_m147) (as := [.ref cC, .int 10, .int 7]) (rest := []) rfl rfl (Or.inl rfl) rfl rfl rfl rfl rfl).trans (fs_fn fun g24 r25 => ?_)
    refine (fs_go (n := n + 10) rfl (t := 151) rfl (by decide)).trans ?_
    exact bC_dataClause_151 L xs m d k (n + 9) g24 r25
  · refine (fs_J1 (n := n + 19) (t := 143) rfl (by decide)).trans ?_
    exact bC_dataClause_143 L xs m d k (n + 14) g1 r2
  · refine (fs_J1 (n := n + 19) (t := 130) rfl (by decide)).trans ?_
    refine (fs_r (n := n + 16) 3 (pc' := 133) (L' := [some (.ref cC)]) (S' := [.int 5, .int 4, .ref cC]) rfl).trans ?_
    refine (fs_cn (n := n + 15) (N := nm_m53) (as := [.ref cC, .int 4, .int 5]) (rest := []) rfl rfl (Or.inl rfl) rfl rfl rfl rfl rfl).trans (fs_fn fun g28 r29 => ?_)
    refine (fs_r (n := n + 14) 1 (pc' := 137) (L' := [some (.ref cC)]) (S' := [.ref cC]) rfl).trans ?_
    refine (fs_cn (n := n + 13) (N := nm_m149) (as := [.ref cC]) (rest := []) rfl rfl (Or.inl rfl) rfl rfl rfl rfl rfl).trans (fs_fn fun g30 r31 => ?_)
    refine (fs_go (n := n + 12) rfl (t := 151) rfl (by decide)).trans ?_
    exact bC_dataClause_151 L xs m d k (n + 11) g30 r31
  · refine (fs_J1 (n := n + 19) (t := 143) rfl (by decide)).trans ?_
    exact bC_dataClause_143 L xs m d k (n + 14) g1 r2
theorem qC_dataClause (L : Nat) (xs : Nat → Int32) (m d : Nat) (g : a2_G) (r : a2_A) : ev L xs (m + 1) (d + 1) nC_dataClause [.ref cC] g r = (fn_v (ev L xs (m + 1) d nR_value [.ref cR] g r) fun v3 g1 r2 => (if (v3 : Int32).toInt = 12 then (fn_n (ev L xs (m + 1) d nC_requireState [.ref cC, .int 1, .int 2] g1 r2) fun g4 r5 => (fn_v (ev L xs (m + 1) d nU_handle [.ref cU] g4 r5) fun v8 g6 r7 => (fn_v (ev L xs (m + 1) d nC_heading [.ref cC, .int 7, .int 1, .int v8] g6 r7) fun v11 g9 r10 => (fn_n (ev L xs (m + 1) d nU_setState [.ref cU, .int 3] (upd g9 fC_openDivision v11) r10) fun g12 r13 => (BC_dataClause_151 L xs (m + 1) d m g12 r13))))) else (if (v3 : Int32).toInt = 13 then (fn_n (ev L xs (m + 1) d nC_requireState [.ref cC, .int 3, .int 3] g1 r2) fun g14 r15 => (fn_n (ev L xs (m + 1) d nC_dataSection [.ref cC, .int 8, .int 4] g14 r15) fun g16 r17 => (BC_dataClause_151 L xs (m + 1) d m g16 r17))) else (if (v3 : Int32).toInt = 14 then (fn_n (ev L xs (m + 1) d nC_requireState [.ref cC, .int 3, .int 5] g1 r2) fun g18 r19 => (fn_n (ev L xs (m + 1) d nC_dataSection [.ref cC, .int 9, .int 6] g18 r19) fun g20 r21 => (BC_dataClause_151 L xs (m + 1) d m g20 r21))) else (if (v3 : Int32).toInt = 15 then (fn_n (ev L xs (m + 1) d nC_requireState [.ref cC, .int 3, .int 6] g1 r2) fun g22 r23 => (fn_n (ev L xs (m + 1) d nC_dataSection [.ref cC, .int 10, .int 7] g22 r23) fun g24 r25 => (BC_dataClause_151 L xs (m + 1) d m g24 r25))) else (if (v3 : Int32).toInt = 16 then (BC_dataClause_143 L xs (m + 1) d m g1 r2) else (if (v3 : Int32).toInt = 17 then (fn_n (ev L xs (m + 1) d nC_requireState [.ref cC, .int 4, .int 5] g1 r2) fun g28 r29 => (fn_n (ev L xs (m + 1) d nC_fileDescription [.ref cC] g28 r29) fun g30 r31 => (BC_dataClause_151 L xs (m + 1) d m g30 r31))) else (BC_dataClause_143 L xs (m + 1) d m g1 r2)))))))) := (fs_ev (M := nm_m146) rfl rfl).trans (eC_dataClause L xs (m + 1) d m 877 g r)
/-- CobolParser$Clauses.dataSection(II)V -/
theorem eC_dataSection (L : Nat) (xs : Nat → Int32) (m d k : Nat) (n : Nat) (a1 a2 : Int32) (g : a2_G) (r : a2_A) : bk L xs nC_dataSection nm_m147 m d k (n + 18) 0 [some (.ref cC), some (.int a1), some (.int a2)] [] g r = (fn_v (ev L xs m d nC_heading [.ref cC, .int a1, .int 16, .int (g fC_openDivision)] g r) fun v3 g1 r2 => (fn_n (ev L xs m d nU_setState [.ref cU, .int a2] (upd g1 fC_section v3) r2) fun g4 r5 => (fn_n (ev L xs m d nI_startIn [.ref cI, .int (g4 fC_section)] g4 r5) fun g6 r7 => (some (.inl none, g6, r7))))) := by
  refine (fs_r (n := n + 12) 6 (pc' := 9) (L' := [some (.ref cC), some (.int a1), some (.int a2)]) (S' := [.int (g fC_openDivision), .int 16, .int a1, .ref cC, .ref cC]) rfl).trans ?_
  refine (fs_cv (n := n + 11) (N := nm_m131) (as := [.ref cC, .int a1, .int 16, .int (g fC_openDivision)]) (rest := [.ref cC]) rfl rfl (Or.inl rfl) rfl rfl rfl rfl rfl).trans (fs_fv fun v3 g1 r2 => ?_)
  refine (fs_pf (n := n + 10) (ci := 6) (j := 8) rfl rfl rfl rfl).trans ?_
  refine (fs_r (n := n + 7) 3 (pc' := 20) (L' := [some (.ref cC), some (.int a1), some (.int a2)]) (S' := [.int a2, .ref cU]) rfl).trans ?_
  refine (fs_cn (n := n + 6) (N := nm_m65) (as := [.ref cU, .int a2]) (rest := []) rfl rfl (Or.inl rfl) rfl rfl rfl rfl rfl).trans (fs_fn fun g4 r5 => ?_)
  refine (fs_r (n := n + 2) 4 (pc' := 31) (L' := [some (.ref cC), some (.int a1), some (.int a2)]) (S' := [.int (g4 fC_section), .ref cI]) rfl).trans ?_
  refine (fs_cn (n := n + 1) (N := nm_m148) (as := [.ref cI, .int (g4 fC_section)]) (rest := []) rfl rfl (Or.inl rfl) rfl rfl rfl rfl rfl).trans (fs_fn fun g6 r7 => ?_)
  exact (fs_rv (n := n + 0) rfl rfl).trans rfl
theorem qC_dataSection (L : Nat) (xs : Nat → Int32) (m d : Nat) (a1 a2 : Int32) (g : a2_G) (r : a2_A) : ev L xs (m + 1) (d + 1) nC_dataSection [.ref cC, .int a1, .int a2] g r = (fn_v (ev L xs (m + 1) d nC_heading [.ref cC, .int a1, .int 16, .int (g fC_openDivision)] g r) fun v3 g1 r2 => (fn_n (ev L xs (m + 1) d nU_setState [.ref cU, .int a2] (upd g1 fC_section v3) r2) fun g4 r5 => (fn_n (ev L xs (m + 1) d nI_startIn [.ref cI, .int (g4 fC_section)] g4 r5) fun g6 r7 => (some (.inl none, g6, r7))))) := (fs_ev (M := nm_m147) rfl rfl).trans (eC_dataSection L xs (m + 1) d m 882 a1 a2 g r)
/-- CobolParser$Items.startIn(I)V -/
theorem eI_startIn (L : Nat) (xs : Nat → Int32) (m d k : Nat) (n : Nat) (a1 : Int32) (g : a2_G) (r : a2_A) : bk L xs nI_startIn nm_m148 m d k (n + 7) 0 [some (.ref cI), some (.int a1)] [] g r = (some (.inl none, (upd (upd g fI_holder a1) fI_openSize 0), r)) := by
  refine (fs_r (n := n + 5) 2 (pc' := 2) (L' := [some (.ref cI), some (.int a1)]) (S' := [.int a1, .ref cI]) rfl).trans ?_
  refine (fs_pf (n := n + 4) (ci := 7) (j := 6) rfl rfl rfl rfl).trans ?_
  refine (fs_r (n := n + 2) 2 (pc' := 7) (L' := [some (.ref cI), some (.int a1)]) (S' := [.int 0, .ref cI]) rfl).trans ?_
  refine (fs_pf (n := n + 1) (ci := 7) (j := 5) rfl rfl rfl rfl).trans ?_
  exact (fs_rv (n := n + 0) rfl rfl).trans rfl
theorem qI_startIn (L : Nat) (xs : Nat → Int32) (m d : Nat) (a1 : Int32) (g : a2_G) (r : a2_A) : ev L xs (m + 1) (d + 1) nI_startIn [.ref cI, .int a1] g r = (some (.inl none, (upd (upd g fI_holder a1) fI_openSize 0), r)) := (fs_ev (M := nm_m148) rfl rfl).trans (eI_startIn L xs (m + 1) d m 893 a1 g r)
/-- CobolParser$Clauses.fileDescription()V -/
theorem eC_fileDescription (L : Nat) (xs : Nat → Int32) (m d k : Nat) (n : Nat) (g : a2_G) (r : a2_A) : bk L xs nC_fileDescription nm_m149 m d k (n + 37) 0 [some (.ref cC), none, none] [] g r = (fn_v (ev L xs m d nR_place [.ref cR] g r) fun v3 g1 r2 => (fn_n (ev L xs m d nR_advance [.ref cR] g1 r2) fun g4 r5 => (fn_v (ev L xs m d nR_requireKind [.ref cR, .int 1] g4 r5) fun v8 g6 r7 => (fn_v (ev L xs m d nT_make [.ref cT, .int 11, .int v8, .int v3] g6 r7) fun v11 g9 r10 => (fn_v (ev L xs m d nR_requireKind [.ref cR, .int 4] g9 r10) fun v14 g12 r13 => (fn_n (ev L xs m d nT_append [.ref cT, .int (g12 fC_section), .int v11] g12 r13) fun g15 r16 => (fn_n (ev L xs m d nU_setState [.ref cU, .int 5] g15 r16) fun g17 r18 => (fn_n (ev L xs m d nI_startIn [.ref cI, .int v11] g17 r18) fun g19 r20 => (some (.inl none, g19, r20)))))))))) := by
  refine (fs_r (n := n + 35) 2 (pc' := 4) (L' := [some (.ref cC), none, none]) (S' := [.ref cR]) rfl).trans ?_
  refine (fs_cv (n := n + 34) (N := nm_m58) (as := [.ref cR]) (rest := []) rfl rfl (Or.inl rfl) rfl rfl rfl rfl rfl).trans (fs_fv fun v3 g1 r2 => ?_)
  refine (fs_r (n := n + 31) 3 (pc' := 12) (L' := [some (.ref cC), some (.int v3), none]) (S' := [.ref cR]) rfl).trans ?_
  refine (fs_cn (n := n + 30) (N := nm_m61) (as := [.ref cR]) (rest := []) rfl rfl (Or.inl rfl) rfl rfl rfl rfl rfl).trans (fs_fn fun g4 r5 => ?_)
  refine (fs_r (n := n + 24) 6 (pc' := 26) (L' := [some (.ref cC), some (.int v3), none]) (S' := [.int 1, .ref cR, .int 11, .ref cT]) rfl).trans ?_
  refine (fs_cv (n := n + 23) (N := nm_m59) (as := [.ref cR, .int 1]) (rest := [.int 11, .ref cT]) rfl rfl (Or.inl rfl) rfl rfl rfl rfl rfl).trans (fs_fv fun v8 g6 r7 => ?_)
  refine (fs_r (n := n + 22) 1 (pc' := 30) (L' := [some (.ref cC), some (.int v3), none]) (S' := [.int v3, .int v8, .int 11, .ref cT]) rfl).trans ?_
  refine (fs_cv (n := n + 21) (N := nm_m45) (as := [.ref cT, .int 11, .int v8, .int v3]) (rest := []) rfl rfl (Or.inl rfl) rfl rfl rfl rfl rfl).trans (fs_fv fun v11 g9 r10 => ?_)
  refine (fs_r (n := n + 17) 4 (pc' := 39) (L' := [some (.ref cC), some (.int v3), some (.int v11)]) (S' := [.int 4, .ref cR]) rfl).trans ?_
  refine (fs_cv (n := n + 16) (N := nm_m59) (as := [.ref cR, .int 4]) (rest := []) rfl rfl (Or.inl rfl) rfl rfl rfl rfl rfl).trans (fs_fv fun v14 g12 r13 => ?_)
  refine (fs_r (n := n + 10) 6 (pc' := 52) (L' := [some (.ref cC), some (.int v3), some (.int v11)]) (S' := [.int v11, .int (g12 fC_section), .ref cT]) rfl).trans ?_
  refine (fs_cn (n := n + 9) (N := nm_m63) (as := [.ref cT, .int (g12 fC_section), .int v11]) (rest := []) rfl rfl (Or.inl rfl) rfl rfl rfl rfl rfl).trans (fs_fn fun g15 r16 => ?_)
  refine (fs_r (n := n + 6) 3 (pc' := 60) (L' := [some (.ref cC), some (.int v3), some (.int v11)]) (S' := [.int 5, .ref cU]) rfl).trans ?_
  refine (fs_cn (n := n + 5) (N := nm_m65) (as := [.ref cU, .int 5]) (rest := []) rfl rfl (Or.inl rfl) rfl rfl rfl rfl rfl).trans (fs_fn fun g17 r18 => ?_)
  refine (fs_r (n := n + 2) 3 (pc' := 68) (L' := [some (.ref cC), some (.int v3), some (.int v11)]) (S' := [.int v11, .ref cI]) rfl).trans ?_
  refine (fs_cn (n := n + 1) (N := nm_m148) (as := [.ref cI, .int v11]) (rest := []) rfl rfl (Or.inl rfl) rfl rfl rfl rfl rfl).trans (fs_fn fun g19 r20 => ?_)
  exact (fs_rv (n := n + 0) rfl rfl).trans rfl
theorem qC_fileDescription (L : Nat) (xs : Nat → Int32) (m d : Nat) (g : a2_G) (r : a2_A) : ev L xs (m + 1) (d + 1) nC_fileDescription [.ref cC] g r = (fn_v (ev L xs (m + 1) d nR_place [.ref cR] g r) fun v3 g1 r2 => (fn_n (ev L xs (m + 1) d nR_advance [.ref cR] g1 r2) fun g4 r5 => (fn_v (ev L xs (m + 1) d nR_requireKind [.ref cR, .int 1] g4 r5) fun v8 g6 r7 => (fn_v (ev L xs (m + 1) d nT_make [.ref cT, .int 11, .int v8, .int v3] g6 r7) fun v11 g9 r10 => (fn_v (ev L xs (m + 1) d nR_requireKind [.ref cR, .int 4] g9 r10) fun v14 g12 r13 => (fn_n (ev L xs (m + 1) d nT_append [.ref cT, .int (g12 fC_section), .int v11] g12 r13) fun g15 r16 => (fn_n (ev L xs (m + 1) d nU_setState [.ref cU, .int 5] g15 r16) fun g17 r18 => (fn_n (ev L xs (m + 1) d nI_startIn [.ref cI, .int v11] g17 r18) fun g19 r20 => (some (.inl none, g19, r20)))))))))) := (fs_ev (M := nm_m149) rfl rfl).trans (eC_fileDescription L xs (m + 1) d m 863 g r)
/-- CobolParser$Row.recover()V -/
def BR_recover_51 (L : Nat) (xs : Nat → Int32) (m d k : Nat) (x1 : Int32) (g : a2_G) (r : a2_A) : Option fn_Z := (fn_n (ev L xs m d nR_advance [.ref cR] g r) fun g3 r4 => (some (.inl none, g3, r4)))
theorem bR_recover_51 (L : Nat) (xs : Nat → Int32) (m d k : Nat) (n : Nat) (x1 : Int32) (g : a2_G) (r : a2_A) : bk L xs nR_recover nm_m150 m d k (n + 3) 51 [some (.ref cR), some (.int x1)] [] g r = BR_recover_51 L xs m d k x1 g r := by
  show _ = ((fn_n (ev L xs m d nR_advance [.ref cR] g r) fun g3 r4 => (some (.inl none, g3, r4))) : Option fn_Z)
  refine (fs_r (n := n + 2) 1 (pc' := 52) (L' := [some (.ref cR), some (.int x1)]) (S' := [.ref cR]) rfl).trans ?_
  refine (fs_cn (n := n + 1) (N := nm_m61) (as := [.ref cR]) (rest := []) rfl rfl (Or.inl rfl) rfl rfl rfl rfl rfl).trans (fs_fn fun g3 r4 => ?_)
  exact (fs_rv (n := n + 0) rfl rfl).trans rfl
def BR_recover_17 (L : Nat) (xs : Nat → Int32) (m d k : Nat) (x1 : Int32) (g : a2_G) (r : a2_A) : Option fn_Z := (if am_c2 .ge x1 (g fR_size) = true then (BR_recover_51 L xs m d k x1 g r) else (if am_inr x1 (r fR_kinds).1 = true then (if am_c2 .eq ((r fR_kinds).2 (x1 : Int32).toNatClampNeg) 4 = true then (BR_recover_51 L xs m d k x1 g r) else (lp L xs nR_recover nm_m150 m d k 17 [some (.ref cR), some (.int (x1 + 1))] (upd g fR_at ((g fR_at) + 1)) r)) else none))
theorem bR_recover_17 (L : Nat) (xs : Nat → Int32) (m d k : Nat) (n : Nat) (x1 : Int32) (g : a2_G) (r : a2_A) : bk L xs nR_recover nm_m150 m d k (n + 18) 17 [some (.ref cR), some (.int x1)] [] g r = BR_recover_17 L xs m d k x1 g r := by
  show _ = ((if am_c2 .ge x1 (g fR_size) = true then (BR_recover_51 L xs m d k x1 g r) else (if am_inr x1 (r fR_kinds).1 = true then (if am_c2 .eq ((r fR_kinds).2 (x1 : Int32).toNatClampNeg) 4 = true then (BR_recover_51 L xs m d k x1 g r) else (lp L xs nR_recover nm_m150 m d k 17 [some (.ref cR), some (.int (x1 + 1))] (upd g fR_at ((g fR_at) + 1)) r)) else none)) : Option fn_Z)
  refine (fs_r (n := n + 15) 3 (pc' := 22) (L' := [some (.ref cR), some (.int x1)]) (S' := [.int (g fR_size), .int x1]) rfl).trans ?_
  refine (fs_j (n := n + 14) rfl (t := 51) rfl (by decide)).trans (fs_ite ?_ ?_)
  · skip
    exact bR_recover_51 L xs m d k (n + 11) x1 g r
  · skip
    refine (fs_r (n := n + 11) 3 (pc' := 30) (L' := [some (.ref cR), some (.int x1)]) (S' := [.int x1, .ref 10100]) rfl).trans ?_
    refine (fs_il (n := n + 10) (k := 100) rfl rfl).trans (fs_ite ?_ rfl)
    refine (fs_r (n := n + 9) 1 (pc' := 32) (L' := [some (.ref cR), some (.int x1)]) (S' := [.int 4, .int ((r fR_kinds).2 (x1 : Int32).toNatClampNeg)]) rfl).trans ?_
    refine (fs_j (n := n + 8) rfl (t := 51) rfl (by decide)).trans (fs_ite ?_ ?_)
    · skip
      exact bR_recover_51 L xs m d k (n + 5) x1 g r
    · skip
      refine (fs_r (n := n + 3) 5 (pc' := 42) (L' := [some (.ref cR), some (.int x1)]) (S' := [.int ((g fR_at) + 1), .ref cR]) rfl).trans ?_
      refine (fs_pf (n := n + 2) (ci := 1) (j := 3) rfl rfl rfl rfl).trans ?_
      refine (fs_r (n := n + 1) 1 (pc' := 48) (L' := [some (.ref cR), some (.int (x1 + 1))]) (S' := []) rfl).trans ?_
      exact (fs_gb (n := n + 0) rfl (t := 17) rfl (by decide)).trans rfl
theorem lR_recover_17 (L : Nat) (xs : Nat → Int32) (m d k : Nat) (x1 : Int32) (g : a2_G) (r : a2_A) : lp L xs nR_recover nm_m150 m d (k + 1) 17 [some (.ref cR), some (.int x1)] g r = BR_recover_17 L xs m d k x1 g r := fs_lp.trans (bR_recover_17 L xs m d k 882 x1 g r)
theorem eR_recover (L : Nat) (xs : Nat → Int32) (m d k : Nat) (n : Nat) (g : a2_G) (r : a2_A) : bk L xs nR_recover nm_m150 m d k (n + 27) 0 [some (.ref cR), none] [] g r = (fn_n (ev L xs m d nR_note [.ref cR, .int (g fR_refusal), .int (g fR_at)] g r) fun g1 r2 => (BR_recover_17 L xs m d k (g1 fR_at) g1 r2)) := by
  refine (fs_r (n := n + 22) 5 (pc' := 9) (L' := [some (.ref cR), none]) (S' := [.int (g fR_at), .int (g fR_refusal), .ref cR]) rfl).trans ?_
  refine (fs_cn (n := n + 21) (N := nm_m144) (as := [.ref cR, .int (g fR_refusal), .int (g fR_at)]) (rest := []) rfl rfl (Or.inl rfl) rfl rfl rfl rfl rfl).trans (fs_fn fun g1 r2 => ?_)
  refine (fs_r (n := n + 18) 3 (pc' := 17) (L' := [some (.ref cR), some (.int (g1 fR_at))]) (S' := []) rfl).trans ?_
  exact bR_recover_17 L xs m d k (n + 0) (g1 fR_at) g1 r2
theorem qR_recover (L : Nat) (xs : Nat → Int32) (m d : Nat) (g : a2_G) (r : a2_A) : ev L xs (m + 1) (d + 1) nR_recover [.ref cR] g r = (fn_n (ev L xs (m + 1) d nR_note [.ref cR, .int (g fR_refusal), .int (g fR_at)] g r) fun g1 r2 => (BR_recover_17 L xs (m + 1) d m (g1 fR_at) g1 r2)) := (fs_ev (M := nm_m150) rfl rfl).trans (eR_recover L xs (m + 1) d m 873 g r)
/-- CobolParser$Clauses.checkEnd()V -/
def BC_checkEnd_71 (L : Nat) (xs : Nat → Int32) (m d k : Nat) (x1 x2 : Int32) (g : a2_G) (r : a2_A) : Option fn_Z := (some (.inl none, g, r))
theorem bC_checkEnd_71 (L : Nat) (xs : Nat → Int32) (m d k : Nat) (n : Nat) (x1 x2 : Int32) (g : a2_G) (r : a2_A) : bk L xs nC_checkEnd nm_m151 m d k (n + 1) 71 [some (.ref cC), some (.int x1), some (.int x2)] [] g r = BC_checkEnd_71 L xs m d k x1 x2 g r := by
  show _ = ((some (.inl none, g, r)) : Option fn_Z)
  exact (fs_rv (n := n + 0) rfl rfl).trans rfl
def BC_checkEnd_56 (L : Nat) (xs : Nat → Int32) (m d k : Nat) (x1 x2 : Int32) (g : a2_G) (r : a2_A) : Option fn_Z := (fn_v (ev L xs m d nR_place [.ref cR] g r) fun v9 g7 r8 => (fn_n (ev L xs m d nR_note [.ref cR, .int 1, .int v9] g7 r8) fun g10 r11 => (BC_checkEnd_71 L xs m d k x1 x2 g10 r11)))
theorem bC_checkEnd_56 (L : Nat) (xs : Nat → Int32) (m d k : Nat) (n : Nat) (x1 x2 : Int32) (g : a2_G) (r : a2_A) : bk L xs nC_checkEnd nm_m151 m d k (n + 8) 56 [some (.ref cC), some (.int x1), some (.int x2)] [] g r = BC_checkEnd_56 L xs m d k x1 x2 g r := by
  show _ = ((fn_v (ev L xs m d nR_place [.ref cR] g r) fun v9 g7 r8 => (fn_n (ev L xs m d nR_note [.ref cR, .int 1, .int v9] g7 r8) fun g10 r11 => (BC_checkEnd_71 L xs m d k x1 x2 g10 r11))) : Option fn_Z)
  refine (fs_r (n := n + 3) 5 (pc' := 65) (L' := [some (.ref cC), some (.int x1), some (.int x2)]) (S' := [.ref cR, .int 1, .ref cR]) rfl).trans ?_
  refine (fs_cv (n := n + 2) (N := nm_m58) (as := [.ref cR]) (rest := [.int 1, .ref cR]) rfl rfl (Or.inl rfl) rfl rfl rfl rfl rfl).trans (fs_fv fun v9 g7 r8 => ?_)
  refine (fs_cn (n := n + 1) (N := nm_m144) (as := [.ref cR, .int 1, .int v9]) (rest := []) rfl rfl (Or.inl rfl) rfl rfl rfl rfl rfl).trans (fs_fn fun g10 r11 => ?_)
  exact bC_checkEnd_71 L xs m d k (n + 0) x1 x2 g10 r11
def BC_checkEnd_29 (L : Nat) (xs : Nat → Int32) (m d k : Nat) (x1 x2 : Int32) (g : a2_G) (r : a2_A) : Option fn_Z := (fn_v (ev L xs m d nU_openCount [.ref cU] g r) fun v6 g4 r5 => (if am_c2 .gt v6 1 = true then (BC_checkEnd_56 L xs m d k x1 x2 g4 r5) else (fn_v (ev L xs m d nU_openCount [.ref cU] g4 r5) fun v14 g12 r13 => (if am_c2 .ne v14 1 = true then (BC_checkEnd_71 L xs m d k x1 x2 g12 r13) else (if am_c2 .ne x2 0 = true then (BC_checkEnd_71 L xs m d k x1 x2 g12 r13) else (BC_checkEnd_56 L xs m d k x1 x2 g12 r13))))))
theorem bC_checkEnd_29 (L : Nat) (xs : Nat → Int32) (m d k : Nat) (n : Nat) (x1 x2 : Int32) (g : a2_G) (r : a2_A) : bk L xs nC_checkEnd nm_m151 m d k (n + 21) 29 [some (.ref cC), some (.int x1), none] [.int x2] g r = BC_checkEnd_29 L xs m d k x1 x2 g r := by
  show _ = ((fn_v (ev L xs m d nU_openCount [.ref cU] g r) fun v6 g4 r5 => (if am_c2 .gt v6 1 = true then (BC_checkEnd_56 L xs m d k x1 x2 g4 r5) else (fn_v (ev L xs m d nU_openCount [.ref cU] g4 r5) fun v14 g12 r13 => (if am_c2 .ne v14 1 = true then (BC_checkEnd_71 L xs m d k x1 x2 g12 r13) else (if am_c2 .ne x2 0 = true then (BC_checkEnd_71 L xs m d k x1 x2 g12 r13) else (BC_checkEnd_56 L xs m d k x1 x2 g12 r13)))))) : Option fn_Z)
  refine (fs_r (n := n + 18) 3 (pc' := 34) (L' := [some (.ref cC), some (.int x1), some (.int x2)]) (S' := [.ref cU]) rfl).trans ?_
  refine (fs_cv (n := n + 17) (N := nm_m126) (as := [.ref cU]) (rest := []) rfl rfl (Or.inl rfl) rfl rfl rfl rfl rfl).trans (fs_fv fun v6 g4 r5 => ?_)
  refine (fs_r (n := n + 16) 1 (pc' := 38) (L' := [some (.ref cC), some (.int x1), some (.int x2)]) (S' := [.int 1, .int v6]) rfl).trans ?_
  refine (fs_j (n := n + 15) rfl (t := 56) rfl (by decide)).trans (fs_ite ?_ ?_)
  · skip
    exact bC_checkEnd_56 L xs m d k (n + 7) x1 x2 g4 r5
  · skip
    refine (fs_r (n := n + 13) 2 (pc' := 45) (L' := [some (.ref cC), some (.int x1), some (.int x2)]) (S' := [.ref cU]) rfl).trans ?_
    refine (fs_cv (n := n + 12) (N := nm_m126) (as := [.ref cU]) (rest := []) rfl rfl (Or.inl rfl) rfl rfl rfl rfl rfl).trans (fs_fv fun v14 g12 r13 => ?_)
    refine (fs_r (n := n + 11) 1 (pc' := 49) (L' := [some (.ref cC), some (.int x1), some (.int x2)]) (S' := [.int 1, .int v14]) rfl).trans ?_
    refine (fs_j (n := n + 10) rfl (t := 71) rfl (by decide)).trans (fs_ite ?_ ?_)
    · skip
      exact bC_checkEnd_71 L xs m d k (n + 9) x1 x2 g12 r13
    · skip
      refine (fs_r (n := n + 9) 1 (pc' := 53) (L' := [some (.ref cC), some (.int x1), some (.int x2)]) (S' := [.int x2]) rfl).trans ?_
      refine (fs_i (n := n + 8) rfl (t := 71) rfl (by decide)).trans (fs_ite ?_ ?_)
      · skip
        exact bC_checkEnd_71 L xs m d k (n + 7) x1 x2 g12 r13
      · skip
        exact bC_checkEnd_56 L xs m d k (n + 0) x1 x2 g12 r13
def BC_checkEnd_28 (L : Nat) (xs : Nat → Int32) (m d k : Nat) (x1 : Int32) (g : a2_G) (r : a2_A) : Option fn_Z := (BC_checkEnd_29 L xs m d k x1 0 g r)
theorem bC_checkEnd_28 (L : Nat) (xs : Nat → Int32) (m d k : Nat) (n : Nat) (x1 : Int32) (g : a2_G) (r : a2_A) : bk L xs nC_checkEnd nm_m151 m d k (n + 22) 28 [some (.ref cC), some (.int x1), none] [] g r = BC_checkEnd_28 L xs m d k x1 g r := by
  show _ = ((BC_checkEnd_29 L xs m d k x1 0 g r) : Option fn_Z)
  refine (fs_r (n := n + 21) 1 (pc' := 29) (L' := [some (.ref cC), some (.int x1), none]) (S' := [.int 0]) rfl).trans ?_
  exact bC_checkEnd_29 L xs m d k (n + 0) x1 0 g r
theorem eC_checkEnd (L : Nat) (xs : Nat → Int32) (m d k : Nat) (n : Nat) (g : a2_G) (r : a2_A) : bk L xs nC_checkEnd nm_m151 m d k (n + 35) 0 [some (.ref cC), none, none] [] g r = (fn_v (ev L xs m d nU_state [.ref cU] g r) fun v3 g1 r2 => (if am_c2 .eq v3 0 = true then (BC_checkEnd_28 L xs m d k v3 g1 r2) else (if am_c2 .eq v3 9 = true then (BC_checkEnd_28 L xs m d k v3 g1 r2) else (if am_c2 .eq v3 12 = true then (BC_checkEnd_28 L xs m d k v3 g1 r2) else (BC_checkEnd_29 L xs m d k v3 1 g1 r2))))) := by
  refine (fs_r (n := n + 33) 2 (pc' := 4) (L' := [some (.ref cC), none, none]) (S' := [.ref cU]) rfl).trans ?_
  refine (fs_cv (n := n + 32) (N := nm_m54) (as := [.ref cU]) (rest := []) rfl rfl (Or.inl rfl) rfl rfl rfl rfl rfl).trans (fs_fv fun v3 g1 r2 => ?_)
  refine (fs_r (n := n + 30) 2 (pc' := 9) (L' := [some (.ref cC), some (.int v3), none]) (S' := [.int v3]) rfl).trans ?_
  refine (fs_i (n := n + 29) rfl (t := 28) rfl (by decide)).trans (fs_ite ?_ ?_)
  · skip
    exact bC_checkEnd_28 L xs m d k (n + 7) v3 g1 r2
  · skip
    refine (fs_r (n := n + 27) 2 (pc' := 15) (L' := [some (.ref cC), some (.int v3), none]) (S' := [.int 9, .int v3]) rfl).trans ?_
    refine (fs_j (n := n + 26) rfl (t := 28) rfl (by decide)).trans (fs_ite ?_ ?_)
    · skip
      exact bC_checkEnd_28 L xs m d k (n + 4) v3 g1 r2
    · skip
      refine (fs_r (n := n + 24) 2 (pc' := 21) (L' := [some (.ref cC), some (.int v3), none]) (S' := [.int 12, .int v3]) rfl).trans ?_
      refine (fs_j (n := n + 23) rfl (t := 28) rfl (by decide)).trans (fs_ite ?_ ?_)
      · skip
        exact bC_checkEnd_28 L xs m d k (n + 1) v3 g1 r2
      · skip
        refine (fs_r (n := n + 22) 1 (pc' := 25) (L' := [some (.ref cC), some (.int v3), none]) (S' := [.int 1]) rfl).trans ?_
        refine (fs_go (n := n + 21) rfl (t := 29) rfl (by decide)).trans ?_
        exact bC_checkEnd_29 L xs m d k (n + 0) v3 1 g1 r2
theorem qC_checkEnd (L : Nat) (xs : Nat → Int32) (m d : Nat) (g : a2_G) (r : a2_A) : ev L xs (m + 1) (d + 1) nC_checkEnd [.ref cC] g r = (fn_v (ev L xs (m + 1) d nU_state [.ref cU] g r) fun v3 g1 r2 => (if am_c2 .eq v3 0 = true then (BC_checkEnd_28 L xs (m + 1) d m v3 g1 r2) else (if am_c2 .eq v3 9 = true then (BC_checkEnd_28 L xs (m + 1) d m v3 g1 r2) else (if am_c2 .eq v3 12 = true then (BC_checkEnd_28 L xs (m + 1) d m v3 g1 r2) else (BC_checkEnd_29 L xs (m + 1) d m v3 1 g1 r2))))) := (fs_ev (M := nm_m151) rfl rfl).trans (eC_checkEnd L xs (m + 1) d m 865 g r)
/-- CobolParser.finish()I -/
theorem eP_finish (L : Nat) (xs : Nat → Int32) (m d k : Nat) (n : Nat) (g : a2_G) (r : a2_A) : bk L xs nP_finish nm_m152 m d k (n + 14) 0 [some (.ref cP)] [] g r = (fn_n (ev L xs m d nR_clear [.ref cR] g r) fun g1 r2 => (fn_v (ev L xs m d nR_faultCount [.ref cR] g1 r2) fun v5 g3 r4 => (if am_c2 .le v5 0 = true then (fn_n (ev L xs m d nT_number [.ref cT] g3 r4) fun g6 r7 => (fn_v (ev L xs m d nT_unitCount [.ref cT] g6 r7) fun v10 g8 r9 => (some (.inl (some (.int v10)), g8, r9)))) else (some (.inr 11, g3, r4))))) := by
  refine (fs_r (n := n + 12) 2 (pc' := 4) (L' := [some (.ref cP)]) (S' := [.ref cR]) rfl).trans ?_
  refine (fs_cn (n := n + 11) (N := nm_m153) (as := [.ref cR]) (rest := []) rfl rfl (Or.inl rfl) rfl rfl rfl rfl rfl).trans (fs_fn fun g1 r2 => ?_)
  refine (fs_r (n := n + 9) 2 (pc' := 11) (L' := [some (.ref cP)]) (S' := [.ref cR]) rfl).trans ?_
  refine (fs_cv (n := n + 8) (N := nm_m27) (as := [.ref cR]) (rest := []) rfl rfl (Or.inl rfl) rfl rfl rfl rfl rfl).trans (fs_fv fun v5 g3 r4 => ?_)
  refine (fs_i (n := n + 7) rfl (t := 27) rfl (by decide)).trans (fs_ite ?_ ?_)
  · skip
    refine (fs_r (n := n + 5) 2 (pc' := 31) (L' := [some (.ref cP)]) (S' := [.ref cT]) rfl).trans ?_
    refine (fs_cn (n := n + 4) (N := nm_m154) (as := [.ref cT]) (rest := []) rfl rfl (Or.inl rfl) rfl rfl rfl rfl rfl).trans (fs_fn fun g6 r7 => ?_)
    refine (fs_r (n := n + 2) 2 (pc' := 38) (L' := [some (.ref cP)]) (S' := [.ref cT]) rfl).trans ?_
    refine (fs_cv (n := n + 1) (N := nm_m40) (as := [.ref cT]) (rest := []) rfl rfl (Or.inl rfl) rfl rfl rfl rfl rfl).trans (fs_fv fun v10 g8 r9 => ?_)
    exact (fs_ri (n := n + 0) rfl rfl).trans rfl
  · skip
    exact (fs_th (n := n + 6) rfl rfl (Nat.le_of_ble_eq_true rfl)).trans rfl
theorem qP_finish (L : Nat) (xs : Nat → Int32) (m d : Nat) (g : a2_G) (r : a2_A) : ev L xs (m + 1) (d + 1) nP_finish [.ref cP] g r = (fn_n (ev L xs (m + 1) d nR_clear [.ref cR] g r) fun g1 r2 => (fn_v (ev L xs (m + 1) d nR_faultCount [.ref cR] g1 r2) fun v5 g3 r4 => (if am_c2 .le v5 0 = true then (fn_n (ev L xs (m + 1) d nT_number [.ref cT] g3 r4) fun g6 r7 => (fn_v (ev L xs (m + 1) d nT_unitCount [.ref cT] g6 r7) fun v10 g8 r9 => (some (.inl (some (.int v10)), g8, r9)))) else (some (.inr 11, g3, r4))))) := (fs_ev (M := nm_m152) rfl rfl).trans (eP_finish L xs (m + 1) d m 886 g r)
/-- CobolParser$Row.clear()V -/
theorem eR_clear (L : Nat) (xs : Nat → Int32) (m d k : Nat) (n : Nat) (g : a2_G) (r : a2_A) : bk L xs nR_clear nm_m153 m d k (n + 7) 0 [some (.ref cR)] [] g r = (some (.inl none, (upd (upd g fR_size 0) fR_at 0), r)) := by
  refine (fs_r (n := n + 5) 2 (pc' := 2) (L' := [some (.ref cR)]) (S' := [.int 0, .ref cR]) rfl).trans ?_
  refine (fs_pf (n := n + 4) (ci := 1) (j := 2) rfl rfl rfl rfl).trans ?_
  refine (fs_r (n := n + 2) 2 (pc' := 7) (L' := [some (.ref cR)]) (S' := [.int 0, .ref cR]) rfl).trans ?_
  refine (fs_pf (n := n + 1) (ci := 1) (j := 3) rfl rfl rfl rfl).trans ?_
  exact (fs_rv (n := n + 0) rfl rfl).trans rfl
theorem qR_clear (L : Nat) (xs : Nat → Int32) (m d : Nat) (g : a2_G) (r : a2_A) : ev L xs (m + 1) (d + 1) nR_clear [.ref cR] g r = (some (.inl none, (upd (upd g fR_size 0) fR_at 0), r)) := (fs_ev (M := nm_m153) rfl rfl).trans (eR_clear L xs (m + 1) d m 893 g r)
/-- CobolParser$Tree.number()V -/
def BT_number_114 (L : Nat) (xs : Nat → Int32) (m d k : Nat) (x1 x2 : Int32) (g : a2_G) (r : a2_A) : Option fn_Z := (some (.inl none, g, r))
theorem bT_number_114 (L : Nat) (xs : Nat → Int32) (m d k : Nat) (n : Nat) (x1 x2 : Int32) (g : a2_G) (r : a2_A) : bk L xs nT_number nm_m154 m d k (n + 1) 114 [some (.ref cT), some (.int x1), some (.int x2), none] [] g r = BT_number_114 L xs m d k x1 x2 g r := by
  show _ = ((some (.inl none, g, r)) : Option fn_Z)
  exact (fs_rv (n := n + 0) rfl rfl).trans rfl
def BT_number_91 (L : Nat) (xs : Nat → Int32) (m d k : Nat) (x1 x2 x3 x4 x5 : Int32) (g : a2_G) (r : a2_A) : Option fn_Z := (fn_v (ev L xs m d nT_follower [.ref cT, .int x1] (upd (upd g fT_units (x5 + x4)) fT_numbered (x2 + 1)) r) fun v21 g19 r20 => (lp L xs nT_number nm_m154 m d k 9 [some (.ref cT), some (.int v21), some (.int (x2 + 1)), some (.int x3)] g19 r20))
theorem bT_number_91 (L : Nat) (xs : Nat → Int32) (m d k : Nat) (n : Nat) (x1 x2 x3 x4 x5 : Int32) (g : a2_G) (r : a2_A) : bk L xs nT_number nm_m154 m d k (n + 13) 91 [some (.ref cT), some (.int x1), some (.int x2), some (.int x3)] [.int x4, .int x5, .ref cT] g r = BT_number_91 L xs m d k x1 x2 x3 x4 x5 g r := by
  show _ = ((fn_v (ev L xs m d nT_follower [.ref cT, .int x1] (upd (upd g fT_units (x5 + x4)) fT_numbered (x2 + 1)) r) fun v21 g19 r20 => (lp L xs nT_number nm_m154 m d k 9 [some (.ref cT), some (.int v21), some (.int (x2 + 1)), some (.int x3)] g19 r20)) : Option fn_Z)
  refine (fs_r (n := n + 12) 1 (pc' := 92) (L' := [some (.ref cT), some (.int x1), some (.int x2), some (.int x3)]) (S' := [.int (x5 + x4), .ref cT]) rfl).trans ?_
  refine (fs_pf (n := n + 11) (ci := 2) (j := 3) rfl rfl rfl rfl).trans ?_
  refine (fs_r (n := n + 7) 4 (pc' := 99) (L' := [some (.ref cT), some (.int x1), some (.int x2), some (.int x3)]) (S' := [.int (x2 + 1), .ref cT]) rfl).trans ?_
  refine (fs_pf (n := n + 6) (ci := 2) (j := 2) rfl rfl rfl rfl).trans ?_
  refine (fs_r (n := n + 4) 2 (pc' := 104) (L' := [some (.ref cT), some (.int x1), some (.int x2), some (.int x3)]) (S' := [.int x1, .ref cT]) rfl).trans ?_
  refine (fs_cv (n := n + 3) (N := nm_m155) (as := [.ref cT, .int x1]) (rest := []) rfl rfl (Or.inl rfl) rfl rfl rfl rfl rfl).trans (fs_fv fun v21 g19 r20 => ?_)
  refine (fs_r (n := n + 1) 2 (pc' := 111) (L' := [some (.ref cT), some (.int v21), some (.int (x2 + 1)), some (.int x3)]) (S' := []) rfl).trans ?_
  exact (fs_gb (n := n + 0) rfl (t := 9) rfl (by decide)).trans rfl
def BT_number_9 (L : Nat) (xs : Nat → Int32) (m d k : Nat) (x1 x2 : Int32) (g : a2_G) (r : a2_A) : Option fn_Z := (if am_c2 .ge x2 (g fT_made) = true then (BT_number_114 L xs m d k x1 x2 g r) else (if am_c2 .eq x1 (-1) = true then (BT_number_114 L xs m d k x1 x2 g r) else (fn_n (ev L xs m d nT_set [.ref cT, .int x2, .int 11, .int x1] g r) fun g4 r5 => (fn_n (ev L xs m d nT_set [.ref cT, .int x1, .int 10, .int x2] g4 r5) fun g6 r7 => (fn_v (ev L xs m d nT_get [.ref cT, .int x1, .int 4] g6 r7) fun v10 g8 r9 => (fn_v (ev L xs m d nT_get [.ref cT, .int v10, .int 9] g8 r9) fun v13 g11 r12 => (fn_n (ev L xs m d nT_set [.ref cT, .int x1, .int 9, .int (v13 + 1)] g11 r12) fun g14 r15 => (fn_v (ev L xs m d nT_isUnit [.ref cT, .int x1] (upd g14 fT_greatestLevel (if ((g14 fT_greatestLevel) : Int32) < (v13 + 1) then (v13 + 1) else (g14 fT_greatestLevel))) r15) fun v18 g16 r17 => (if am_c2 .eq v18 0 = true then (BT_number_91 L xs m d k x1 x2 (v13 + 1) 0 (g14 fT_units) g16 r17) else (BT_number_91 L xs m d k x1 x2 (v13 + 1) 1 (g14 fT_units) g16 r17))))))))))
theorem bT_number_9 (L : Nat) (xs : Nat → Int32) (m d k : Nat) (n : Nat) (x1 x2 : Int32) (g : a2_G) (r : a2_A) : bk L xs nT_number nm_m154 m d k (n + 60) 9 [some (.ref cT), some (.int x1), some (.int x2), none] [] g r = BT_number_9 L xs m d k x1 x2 g r := by
  show _ = ((if am_c2 .ge x2 (g fT_made) = true then (BT_number_114 L xs m d k x1 x2 g r) else (if am_c2 .eq x1 (-1) = true then (BT_number_114 L xs m d k x1 x2 g r) else (fn_n (ev L xs m d nT_set [.ref cT, .int x2, .int 11, .int x1] g r) fun g4 r5 => (fn_n (ev L xs m d nT_set [.ref cT, .int x1, .int 10, .int x2] g4 r5) fun g6 r7 => (fn_v (ev L xs m d nT_get [.ref cT, .int x1, .int 4] g6 r7) fun v10 g8 r9 => (fn_v (ev L xs m d nT_get [.ref cT, .int v10, .int 9] g8 r9) fun v13 g11 r12 => (fn_n (ev L xs m d nT_set [.ref cT, .int x1, .int 9, .int (v13 + 1)] g11 r12) fun g14 r15 => (fn_v (ev L xs m d nT_isUnit [.ref cT, .int x1] (upd g14 fT_greatestLevel (if ((g14 fT_greatestLevel) : Int32) < (v13 + 1) then (v13 + 1) else (g14 fT_greatestLevel))) r15) fun v18 g16 r17 => (if am_c2 .eq v18 0 = true then (BT_number_91 L xs m d k x1 x2 (v13 + 1) 0 (g14 fT_units) g16 r17) else (BT_number_91 L xs m d k x1 x2 (v13 + 1) 1 (g14 fT_units) g16 r17)))))))))) : Option fn_Z)
  refine (fs_r (n := n + 57) 3 (pc' := 14) (L' := [some (.ref cT), some (.int x1), some (.int x2), none]) (S' := [.int (g fT_made), .int x2]) rfl).trans ?_
  refine (fs_j (n := n + 56) rfl (t := 114) rfl (by decide)).trans (fs_ite ?_ ?_)
  · skip
    exact bT_number_114 L xs m d k (n + 55) x1 x2 g r
  · skip
    refine (fs_r (n := n + 54) 2 (pc' := 19) (L' := [some (.ref cT), some (.int x1), some (.int x2), none]) (S' := [.int (-1), .int x1]) rfl).trans ?_
    refine (fs_j (n := n + 53) rfl (t := 114) rfl (by decide)).trans (fs_ite ?_ ?_)
    · skip
      exact bT_number_114 L xs m d k (n + 52) x1 x2 g r
    · skip
      refine (fs_r (n := n + 49) 4 (pc' := 27) (L' := [some (.ref cT), some (.int x1), some (.int x2), none]) (S' := [.int x1, .int 11, .int x2, .ref cT]) rfl).trans ?_
      refine (fs_cn (n := n + 48) (N := nm_m69) (as := [.ref cT, .int x2, .int 11, .int x1]) (rest := []) rfl rfl (Or.inl rfl) rfl rfl rfl rfl rfl).trans (fs_fn fun g4 r5 => ?_)
      refine (fs_r (n := n + 44) 4 (pc' := 35) (L' := [some (.ref cT), some (.int x1), some (.int x2), none]) (S' := [.int x2, .int 10, .int x1, .ref cT]) rfl).trans ?_
      refine (fs_cn (n := n + 43) (N := nm_m69) (as := [.ref cT, .int x1, .int 10, .int x2]) (rest := []) rfl rfl (Or.inl rfl) rfl rfl rfl rfl rfl).trans (fs_fn fun g6 r7 => ?_)
      refine (fs_r (n := n + 39) 4 (pc' := 42) (L' := [some (.ref cT), some (.int x1), some (.int x2), none]) (S' := [.int 4, .int x1, .ref cT, .ref cT]) rfl).trans ?_
      refine (fs_cv (n := n + 38) (N := nm_m17) (as := [.ref cT, .int x1, .int 4]) (rest := [.ref cT]) rfl rfl (Or.inl rfl) rfl rfl rfl rfl rfl).trans (fs_fv fun v10 g8 r9 => ?_)
      refine (fs_r (n := n + 37) 1 (pc' := 47) (L' := [some (.ref cT), some (.int x1), some (.int x2), none]) (S' := [.int 9, .int v10, .ref cT]) rfl).trans ?_
      refine (fs_cv (n := n + 36) (N := nm_m17) (as := [.ref cT, .int v10, .int 9]) (rest := []) rfl rfl (Or.inl rfl) rfl rfl rfl rfl rfl).trans (fs_fv fun v13 g11 r12 => ?_)
      refine (fs_r (n := n + 29) 7 (pc' := 58) (L' := [some (.ref cT), some (.int x1), some (.int x2), some (.int (v13 + 1))]) (S' := [.int (v13 + 1), .int 9, .int x1, .ref cT]) rfl).trans ?_
      refine (fs_cn (n := n + 28) (N := nm_m69) (as := [.ref cT, .int x1, .int 9, .int (v13 + 1)]) (rest := []) rfl rfl (Or.inl rfl) rfl rfl rfl rfl rfl).trans (fs_fn fun g14 r15 => ?_)
      refine (fs_r (n := n + 24) 4 (pc' := 67) (L' := [some (.ref cT), some (.int x1), some (.int x2), some (.int (v13 + 1))]) (S' := [.int (v13 + 1), .int (g14 fT_greatestLevel), .ref cT]) rfl).trans ?_
      refine (fs_mx (n := n + 23) (j := 0) rfl rfl (Nat.le_of_ble_eq_true rfl)).trans ?_
      refine (fs_pf (n := n + 22) (ci := 2) (j := 4) rfl rfl rfl rfl).trans ?_
      refine (fs_r (n := n + 17) 5 (pc' := 80) (L' := [some (.ref cT), some (.int x1), some (.int x2), some (.int (v13 + 1))]) (S' := [.int x1, .ref cT, .int (g14 fT_units), .ref cT]) rfl).trans ?_
      refine (fs_cv (n := n + 16) (N := nm_m33) (as := [.ref cT, .int x1]) (rest := [.int (g14 fT_units), .ref cT]) rfl rfl (Or.inl rfl) rfl rfl rfl rfl rfl).trans (fs_fv fun v18 g16 r17 => ?_)
      refine (fs_i (n := n + 15) rfl (t := 90) rfl (by decide)).trans (fs_ite ?_ ?_)
      · skip
        refine (fs_r (n := n + 14) 1 (pc' := 91) (L' := [some (.ref cT), some (.int x1), some (.int x2), some (.int (v13 + 1))]) (S' := [.int 0, .int (g14 fT_units), .ref cT]) rfl).trans ?_
        exact bT_number_91 L xs m d k (n + 1) x1 x2 (v13 + 1) 0 (g14 fT_units) g16 r17
      · skip
        refine (fs_r (n := n + 14) 1 (pc' := 87) (L' := [some (.ref cT), some (.int x1), some (.int x2), some (.int (v13 + 1))]) (S' := [.int 1, .int (g14 fT_units), .ref cT]) rfl).trans ?_
        refine (fs_go (n := n + 13) rfl (t := 91) rfl (by decide)).trans ?_
        exact bT_number_91 L xs m d k (n + 0) x1 x2 (v13 + 1) 1 (g14 fT_units) g16 r17
theorem lT_number_9 (L : Nat) (xs : Nat → Int32) (m d k : Nat) (x1 x2 : Int32) (g : a2_G) (r : a2_A) : lp L xs nT_number nm_m154 m d (k + 1) 9 [some (.ref cT), some (.int x1), some (.int x2), none] g r = BT_number_9 L xs m d k x1 x2 g r := fs_lp.trans (bT_number_9 L xs m d k 840 x1 x2 g r)
def BT_number_114_1 (L : Nat) (xs : Nat → Int32) (m d k : Nat) (x1 x2 x3 : Int32) (g : a2_G) (r : a2_A) : Option fn_Z := (some (.inl none, g, r))
theorem bT_number_114_1 (L : Nat) (xs : Nat → Int32) (m d k : Nat) (n : Nat) (x1 x2 x3 : Int32) (g : a2_G) (r : a2_A) : bk L xs nT_number nm_m154 m d k (n + 1) 114 [some (.ref cT), some (.int x1), some (.int x2), some (.int x3)] [] g r = BT_number_114_1 L xs m d k x1 x2 x3 g r := by
  show _ = ((some (.inl none, g, r)) : Option fn_Z)
  exact (fs_rv (n := n + 0) rfl rfl).trans rfl
def BT_number_9_1 (L : Nat) (xs : Nat → Int32) (m d k : Nat) (x1 x2 x3 : Int32) (g : a2_G) (r : a2_A) : Option fn_Z := (if am_c2 .ge x2 (g fT_made) = true then (BT_number_114_1 L xs m d k x1 x2 x3 g r) else (if am_c2 .eq x1 (-1) = true then (BT_number_114_1 L xs m d k x1 x2 x3 g r) else (fn_n (ev L xs m d nT_set [.ref cT, .int x2, .int 11, .int x1] g r) fun g22 r23 => (fn_n (ev L xs m d nT_set [.ref cT, .int x1, .int 10, .int x2] g22 r23) fun g24 r25 => (fn_v (ev L xs m d nT_get [.ref cT, .int x1, .int 4] g24 r25) fun v28 g26 r27 => (fn_v (ev L xs m d nT_get [.ref cT, .int v28, .int 9] g26 r27) fun v31 g29 r30 => (fn_n (ev L xs m d nT_set [.ref cT, .int x1, .int 9, .int (v31 + 1)] g29 r30) fun g32 r33 => (fn_v (ev L xs m d nT_isUnit [.ref cT, .int x1] (upd g32 fT_greatestLevel (if ((g32 fT_greatestLevel) : Int32) < (v31 + 1) then (v31 + 1) else (g32 fT_greatestLevel))) r33) fun v36 g34 r35 => (if am_c2 .eq v36 0 = true then (BT_number_91 L xs m d k x1 x2 (v31 + 1) 0 (g32 fT_units) g34 r35) else (BT_number_91 L xs m d k x1 x2 (v31 + 1) 1 (g32 fT_units) g34 r35))))))))))
theorem bT_number_9_1 (L : Nat) (xs : Nat → Int32) (m d k : Nat) (n : Nat) (x1 x2 x3 : Int32) (g : a2_G) (r : a2_A) : bk L xs nT_number nm_m154 m d k (n + 60) 9 [some (.ref cT), some (.int x1), some (.int x2), some (.int x3)] [] g r = BT_number_9_1 L xs m d k x1 x2 x3 g r := by
  show _ = ((if am_c2 .ge x2 (g fT_made) = true then (BT_number_114_1 L xs m d k x1 x2 x3 g r) else (if am_c2 .eq x1 (-1) = true then (BT_number_114_1 L xs m d k x1 x2 x3 g r) else (fn_n (ev L xs m d nT_set [.ref cT, .int x2, .int 11, .int x1] g r) fun g22 r23 => (fn_n (ev L xs m d nT_set [.ref cT, .int x1, .int 10, .int x2] g22 r23) fun g24 r25 => (fn_v (ev L xs m d nT_get [.ref cT, .int x1, .int 4] g24 r25) fun v28 g26 r27 => (fn_v (ev L xs m d nT_get [.ref cT, .int v28, .int 9] g26 r27) fun v31 g29 r30 => (fn_n (ev L xs m d nT_set [.ref cT, .int x1, .int 9, .int (v31 + 1)] g29 r30) fun g32 r33 => (fn_v (ev L xs m d nT_isUnit [.ref cT, .int x1] (upd g32 fT_greatestLevel (if ((g32 fT_greatestLevel) : Int32) < (v31 + 1) then (v31 + 1) else (g32 fT_greatestLevel))) r33) fun v36 g34 r35 => (if am_c2 .eq v36 0 = true then (BT_number_91 L xs m d k x1 x2 (v31 + 1) 0 (g32 fT_units) g34 r35) else (BT_number_91 L xs m d k x1 x2 (v31 + 1) 1 (g32 fT_units) g34 r35)))))))))) : Option fn_Z)
  refine (fs_r (n := n + 57) 3 (pc' := 14) (L' := [some (.ref cT), some (.int x1), some (.int x2), some (.int x3)]) (S' := [.int (g fT_made), .int x2]) rfl).trans ?_
  refine (fs_j (n := n + 56) rfl (t := 114) rfl (by decide)).trans (fs_ite ?_ ?_)
  · skip
    exact bT_number_114_1 L xs m d k (n + 55) x1 x2 x3 g r
  · skip
    refine (fs_r (n := n + 54) 2 (pc' := 19) (L' := [some (.ref cT), some (.int x1), some (.int x2), some (.int x3)]) (S' := [.int (-1), .int x1]) rfl).trans ?_
    refine (fs_j (n := n + 53) rfl (t := 114) rfl (by decide)).trans (fs_ite ?_ ?_)
    · skip
      exact bT_number_114_1 L xs m d k (n + 52) x1 x2 x3 g r
    · skip
      refine (fs_r (n := n + 49) 4 (pc' := 27) (L' := [some (.ref cT), some (.int x1), some (.int x2), some (.int x3)]) (S' := [.int x1, .int 11, .int x2, .ref cT]) rfl).trans ?_
      refine (fs_cn (n := n + 48) (N := nm_m69) (as := [.ref cT, .int x2, .int 11, .int x1]) (rest := []) rfl rfl (Or.inl rfl) rfl rfl rfl rfl rfl).trans (fs_fn fun g22 r23 => ?_)
      refine (fs_r (n := n + 44) 4 (pc' := 35) (L' := [some (.ref cT), some (.int x1), some (.int x2), some (.int x3)]) (S' := [.int x2, .int 10, .int x1, .ref cT]) rfl).trans ?_
      refine (fs_cn (n := n + 43) (N := nm_m69) (as := [.ref cT, .int x1, .int 10, .int x2]) (rest := []) rfl rfl (Or.inl rfl) rfl rfl rfl rfl rfl).trans (fs_fn fun g24 r25 => ?_)
      refine (fs_r (n := n + 39) 4 (pc' := 42) (L' := [some (.ref cT), some (.int x1), some (.int x2), some (.int x3)]) (S' := [.int 4, .int x1, .ref cT, .ref cT]) rfl).trans ?_
      refine (fs_cv (n := n + 38) (N := nm_m17) (as := [.ref cT, .int x1, .int 4]) (rest := [.ref cT]) rfl rfl (Or.inl rfl) rfl rfl rfl rfl rfl).trans (fs_fv fun v28 g26 r27 => ?_)
      refine (fs_r (n := n + 37) 1 (pc' := 47) (L' := [some (.ref cT), some (.int x1), some (.int x2), some (.int x3)]) (S' := [.int 9, .int v28, .ref cT]) rfl).trans ?_
      refine (fs_cv (n := n + 36) (N := nm_m17) (as := [.ref cT, .int v28, .int 9]) (rest := []) rfl rfl (Or.inl rfl) rfl rfl rfl rfl rfl).trans (fs_fv fun v31 g29 r30 => ?_)
      refine (fs_r (n := n + 29) 7 (pc' := 58) (L' := [some (.ref cT), some (.int x1), some (.int x2), some (.int (v31 + 1))]) (S' := [.int (v31 + 1), .int 9, .int x1, .ref cT]) rfl).trans ?_
      refine (fs_cn (n := n + 28) (N := nm_m69) (as := [.ref cT, .int x1, .int 9, .int (v31 + 1)]) (rest := []) rfl rfl (Or.inl rfl) rfl rfl rfl rfl rfl).trans (fs_fn fun g32 r33 => ?_)
      refine (fs_r (n := n + 24) 4 (pc' := 67) (L' := [some (.ref cT), some (.int x1), some (.int x2), some (.int (v31 + 1))]) (S' := [.int (v31 + 1), .int (g32 fT_greatestLevel), .ref cT]) rfl).trans ?_
      refine (fs_mx (n := n + 23) (j := 0) rfl rfl (Nat.le_of_ble_eq_true rfl)).trans ?_
      refine (fs_pf (n := n + 22) (ci := 2) (j := 4) rfl rfl rfl rfl).trans ?_
      refine (fs_r (n := n + 17) 5 (pc' := 80) (L' := [some (.ref cT), some (.int x1), some (.int x2), some (.int (v31 + 1))]) (S' := [.int x1, .ref cT, .int (g32 fT_units), .ref cT]) rfl).trans ?_
      refine (fs_cv (n := n + 16) (N := nm_m33) (as := [.ref cT, .int x1]) (rest := [.int (g32 fT_units), .ref cT]) rfl rfl (Or.inl rfl) rfl rfl rfl rfl rfl).trans (fs_fv fun v36 g34 r35 => ?_)
      refine (fs_i (n := n + 15) rfl (t := 90) rfl (by decide)).trans (fs_ite ?_ ?_)
      · skip
        refine (fs_r (n := n + 14) 1 (pc' := 91) (L' := [some (.ref cT), some (.int x1), some (.int x2), some (.int (v31 + 1))]) (S' := [.int 0, .int (g32 fT_units), .ref cT]) rfl).trans ?_
        exact bT_number_91 L xs m d k (n + 1) x1 x2 (v31 + 1) 0 (g32 fT_units) g34 r35
      · skip
        refine (fs_r (n := n + 14) 1 (pc' := 87) (L' := [some (.ref cT), some (.int x1), some (.int x2), some (.int (v31 + 1))]) (S' := [.int 1, .int (g32 fT_units), .ref cT]) rfl).trans ?_
        refine (fs_go (n := n + 13) rfl (t := 91) rfl (by decide)).trans ?_
        exact bT_number_91 L xs m d k (n + 0) x1 x2 (v31 + 1) 1 (g32 fT_units) g34 r35
theorem lT_number_9_1 (L : Nat) (xs : Nat → Int32) (m d k : Nat) (x1 x2 x3 : Int32) (g : a2_G) (r : a2_A) : lp L xs nT_number nm_m154 m d (k + 1) 9 [some (.ref cT), some (.int x1), some (.int x2), some (.int x3)] g r = BT_number_9_1 L xs m d k x1 x2 x3 g r := fs_lp.trans (bT_number_9_1 L xs m d k 840 x1 x2 x3 g r)
theorem eT_number (L : Nat) (xs : Nat → Int32) (m d k : Nat) (n : Nat) (g : a2_G) (r : a2_A) : bk L xs nT_number nm_m154 m d k (n + 67) 0 [some (.ref cT), none, none, none] [] g r = (fn_v (ev L xs m d nT_get [.ref cT, .int 0, .int 5] g r) fun v3 g1 r2 => (BT_number_9 L xs m d k v3 0 g1 r2)) := by
  refine (fs_r (n := n + 64) 3 (pc' := 3) (L' := [some (.ref cT), none, none, none]) (S' := [.int 5, .int 0, .ref cT]) rfl).trans ?_
  refine (fs_cv (n := n + 63) (N := nm_m17) (as := [.ref cT, .int 0, .int 5]) (rest := []) rfl rfl (Or.inl rfl) rfl rfl rfl rfl rfl).trans (fs_fv fun v3 g1 r2 => ?_)
  refine (fs_r (n := n + 60) 3 (pc' := 9) (L' := [some (.ref cT), some (.int v3), some (.int 0), none]) (S' := []) rfl).trans ?_
  exact bT_number_9 L xs m d k (n + 0) v3 0 g1 r2
theorem qT_number (L : Nat) (xs : Nat → Int32) (m d : Nat) (g : a2_G) (r : a2_A) : ev L xs (m + 1) (d + 1) nT_number [.ref cT] g r = (fn_v (ev L xs (m + 1) d nT_get [.ref cT, .int 0, .int 5] g r) fun v3 g1 r2 => (BT_number_9 L xs (m + 1) d m v3 0 g1 r2)) := (fs_ev (M := nm_m154) rfl rfl).trans (eT_number L xs (m + 1) d m 833 g r)
/-- CobolParser$Tree.follower(I)I -/
def BT_follower_53 (L : Nat) (xs : Nat → Int32) (m d k : Nat) (x1 x2 x3 : Int32) (g : a2_G) (r : a2_A) : Option fn_Z := (fn_v (ev L xs m d nT_get [.ref cT, .int x2, .int 7] g r) fun v6 g4 r5 => (some (.inl (some (.int v6)), g4, r5)))
theorem bT_follower_53 (L : Nat) (xs : Nat → Int32) (m d k : Nat) (n : Nat) (x1 x2 x3 : Int32) (g : a2_G) (r : a2_A) : bk L xs nT_follower nm_m155 m d k (n + 5) 53 [some (.ref cT), some (.int x1), some (.int x2), some (.int x3)] [] g r = BT_follower_53 L xs m d k x1 x2 x3 g r := by
  show _ = ((fn_v (ev L xs m d nT_get [.ref cT, .int x2, .int 7] g r) fun v6 g4 r5 => (some (.inl (some (.int v6)), g4, r5))) : Option fn_Z)
  refine (fs_r (n := n + 2) 3 (pc' := 57) (L' := [some (.ref cT), some (.int x1), some (.int x2), some (.int x3)]) (S' := [.int 7, .int x2, .ref cT]) rfl).trans ?_
  refine (fs_cv (n := n + 1) (N := nm_m17) (as := [.ref cT, .int x2, .int 7]) (rest := []) rfl rfl (Or.inl rfl) rfl rfl rfl rfl rfl).trans (fs_fv fun v6 g4 r5 => ?_)
  exact (fs_ri (n := n + 0) rfl rfl).trans rfl
def BT_follower_21 (L : Nat) (xs : Nat → Int32) (m d k : Nat) (x1 x2 x3 : Int32) (g : a2_G) (r : a2_A) : Option fn_Z := (if am_c2 .ge x3 (g fT_made) = true then (BT_follower_53 L xs m d k x1 x2 x3 g r) else (fn_v (ev L xs m d nT_get [.ref cT, .int x2, .int 7] g r) fun v9 g7 r8 => (if am_c2 .ne v9 (-1) = true then (BT_follower_53 L xs m d k x1 x2 x3 g7 r8) else (fn_v (ev L xs m d nT_get [.ref cT, .int x2, .int 4] g7 r8) fun v12 g10 r11 => (lp L xs nT_follower nm_m155 m d k 21 [some (.ref cT), some (.int x1), some (.int v12), some (.int (x3 + 1))] g10 r11)))))
theorem bT_follower_21 (L : Nat) (xs : Nat → Int32) (m d k : Nat) (n : Nat) (x1 x2 x3 : Int32) (g : a2_G) (r : a2_A) : bk L xs nT_follower nm_m155 m d k (n + 17) 21 [some (.ref cT), some (.int x1), some (.int x2), some (.int x3)] [] g r = BT_follower_21 L xs m d k x1 x2 x3 g r := by
  show _ = ((if am_c2 .ge x3 (g fT_made) = true then (BT_follower_53 L xs m d k x1 x2 x3 g r) else (fn_v (ev L xs m d nT_get [.ref cT, .int x2, .int 7] g r) fun v9 g7 r8 => (if am_c2 .ne v9 (-1) = true then (BT_follower_53 L xs m d k x1 x2 x3 g7 r8) else (fn_v (ev L xs m d nT_get [.ref cT, .int x2, .int 4] g7 r8) fun v12 g10 r11 => (lp L xs nT_follower nm_m155 m d k 21 [some (.ref cT), some (.int x1), some (.int v12), some (.int (x3 + 1))] g10 r11))))) : Option fn_Z)
  refine (fs_r (n := n + 14) 3 (pc' := 26) (L' := [some (.ref cT), some (.int x1), some (.int x2), some (.int x3)]) (S' := [.int (g fT_made), .int x3]) rfl).trans ?_
  refine (fs_j (n := n + 13) rfl (t := 53) rfl (by decide)).trans (fs_ite ?_ ?_)
  · skip
    exact bT_follower_53 L xs m d k (n + 8) x1 x2 x3 g r
  · skip
    refine (fs_r (n := n + 10) 3 (pc' := 33) (L' := [some (.ref cT), some (.int x1), some (.int x2), some (.int x3)]) (S' := [.int 7, .int x2, .ref cT]) rfl).trans ?_
    refine (fs_cv (n := n + 9) (N := nm_m17) (as := [.ref cT, .int x2, .int 7]) (rest := []) rfl rfl (Or.inl rfl) rfl rfl rfl rfl rfl).trans (fs_fv fun v9 g7 r8 => ?_)
    refine (fs_r (n := n + 8) 1 (pc' := 37) (L' := [some (.ref cT), some (.int x1), some (.int x2), some (.int x3)]) (S' := [.int (-1), .int v9]) rfl).trans ?_
    refine (fs_j (n := n + 7) rfl (t := 53) rfl (by decide)).trans (fs_ite ?_ ?_)
    · skip
      exact bT_follower_53 L xs m d k (n + 2) x1 x2 x3 g7 r8
    · skip
      refine (fs_r (n := n + 4) 3 (pc' := 43) (L' := [some (.ref cT), some (.int x1), some (.int x2), some (.int x3)]) (S' := [.int 4, .int x2, .ref cT]) rfl).trans ?_
      refine (fs_cv (n := n + 3) (N := nm_m17) (as := [.ref cT, .int x2, .int 4]) (rest := []) rfl rfl (Or.inl rfl) rfl rfl rfl rfl rfl).trans (fs_fv fun v12 g10 r11 => ?_)
      refine (fs_r (n := n + 1) 2 (pc' := 50) (L' := [some (.ref cT), some (.int x1), some (.int v12), some (.int (x3 + 1))]) (S' := []) rfl).trans ?_
      exact (fs_gb (n := n + 0) rfl (t := 21) rfl (by decide)).trans rfl
theorem lT_follower_21 (L : Nat) (xs : Nat → Int32) (m d k : Nat) (x1 x2 x3 : Int32) (g : a2_G) (r : a2_A) : lp L xs nT_follower nm_m155 m d (k + 1) 21 [some (.ref cT), some (.int x1), some (.int x2), some (.int x3)] g r = BT_follower_21 L xs m d k x1 x2 x3 g r := fs_lp.trans (bT_follower_21 L xs m d k 883 x1 x2 x3 g r)
theorem eT_follower (L : Nat) (xs : Nat → Int32) (m d k : Nat) (n : Nat) (a1 : Int32) (g : a2_G) (r : a2_A) : bk L xs nT_follower nm_m155 m d k (n + 27) 0 [some (.ref cT), some (.int a1), none, none] [] g r = (fn_v (ev L xs m d nT_get [.ref cT, .int a1, .int 5] g r) fun v3 g1 r2 => (if am_c2 .eq v3 (-1) = true then (BT_follower_21 L xs m d k a1 a1 0 g1 r2) else (fn_v (ev L xs m d nT_get [.ref cT, .int a1, .int 5] g1 r2) fun v15 g13 r14 => (some (.inl (some (.int v15)), g13, r14))))) := by
  refine (fs_r (n := n + 24) 3 (pc' := 3) (L' := [some (.ref cT), some (.int a1), none, none]) (S' := [.int 5, .int a1, .ref cT]) rfl).trans ?_
  refine (fs_cv (n := n + 23) (N := nm_m17) (as := [.ref cT, .int a1, .int 5]) (rest := []) rfl rfl (Or.inl rfl) rfl rfl rfl rfl rfl).trans (fs_fv fun v3 g1 r2 => ?_)
  refine (fs_r (n := n + 22) 1 (pc' := 7) (L' := [some (.ref cT), some (.int a1), none, none]) (S' := [.int (-1), .int v3]) rfl).trans ?_
  refine (fs_j (n := n + 21) rfl (t := 17) rfl (by decide)).trans (fs_ite ?_ ?_)
  · skip
    refine (fs_r (n := n + 17) 4 (pc' := 21) (L' := [some (.ref cT), some (.int a1), some (.int a1), some (.int 0)]) (S' := []) rfl).trans ?_
    exact bT_follower_21 L xs m d k (n + 0) a1 a1 0 g1 r2
  · skip
    refine (fs_r (n := n + 18) 3 (pc' := 13) (L' := [some (.ref cT), some (.int a1), none, none]) (S' := [.int 5, .int a1, .ref cT]) rfl).trans ?_
    refine (fs_cv (n := n + 17) (N := nm_m17) (as := [.ref cT, .int a1, .int 5]) (rest := []) rfl rfl (Or.inl rfl) rfl rfl rfl rfl rfl).trans (fs_fv fun v15 g13 r14 => ?_)
    exact (fs_ri (n := n + 16) rfl rfl).trans rfl
theorem qT_follower (L : Nat) (xs : Nat → Int32) (m d : Nat) (a1 : Int32) (g : a2_G) (r : a2_A) : ev L xs (m + 1) (d + 1) nT_follower [.ref cT, .int a1] g r = (fn_v (ev L xs (m + 1) d nT_get [.ref cT, .int a1, .int 5] g r) fun v3 g1 r2 => (if am_c2 .eq v3 (-1) = true then (BT_follower_21 L xs (m + 1) d m a1 a1 0 g1 r2) else (fn_v (ev L xs (m + 1) d nT_get [.ref cT, .int a1, .int 5] g1 r2) fun v15 g13 r14 => (some (.inl (some (.int v15)), g13, r14))))) := (fs_ev (M := nm_m155) rfl rfl).trans (eT_follower L xs (m + 1) d m 873 a1 g r)
/-- CobolParserModel.word(II)I -/
def BM_word_66 (L : Nat) (xs : Nat → Int32) (m d k : Nat) (x1 x2 x3 : Int32) (g : a2_G) (r : a2_A) : Option fn_Z := (if am_c2 .ne (g fM_size) 1500 = true then (if am_inr (g fM_size) (r fM_kinds).1 = true then (if am_inr (g fM_size) (r fM_values).1 = true then (some (.inl (some (.int ((g fM_size) + 1))), (upd g fM_size ((g fM_size) + 1)), (a2_ua (a2_ua r fM_kinds ((r fM_kinds).1, (upd (r fM_kinds).2 ((g fM_size) : Int32).toNatClampNeg x1))) fM_values ((r fM_values).1, (upd (r fM_values).2 ((g fM_size) : Int32).toNatClampNeg x2))))) else none) else none) else (some (.inl (some (.int (-1))), g, r)))
theorem bM_word_66 (L : Nat) (xs : Nat → Int32) (m d k : Nat) (n : Nat) (x1 x2 x3 : Int32) (g : a2_G) (r : a2_A) : bk L xs nM_word nm_m157 m d k (n + 25) 66 [some (.ref cM), some (.int x1), some (.int x2), some (.int x3)] [] g r = BM_word_66 L xs m d k x1 x2 x3 g r := by
  show _ = ((if am_c2 .ne (g fM_size) 1500 = true then (if am_inr (g fM_size) (r fM_kinds).1 = true then (if am_inr (g fM_size) (r fM_values).1 = true then (some (.inl (some (.int ((g fM_size) + 1))), (upd g fM_size ((g fM_size) + 1)), (a2_ua (a2_ua r fM_kinds ((r fM_kinds).1, (upd (r fM_kinds).2 ((g fM_size) : Int32).toNatClampNeg x1))) fM_values ((r fM_values).1, (upd (r fM_values).2 ((g fM_size) : Int32).toNatClampNeg x2))))) else none) else none) else (some (.inl (some (.int (-1))), g, r))) : Option fn_Z)
  refine (fs_r (n := n + 22) 3 (pc' := 73) (L' := [some (.ref cM), some (.int x1), some (.int x2), some (.int x3)]) (S' := [.int 1500, .int (g fM_size)]) rfl).trans ?_
  refine (fs_j (n := n + 21) rfl (t := 78) rfl (by decide)).trans (fs_ite ?_ ?_)
  · skip
    refine (fs_r (n := n + 16) 5 (pc' := 87) (L' := [some (.ref cM), some (.int x1), some (.int x2), some (.int x3)]) (S' := [.int x1, .int (g fM_size), .ref 10902]) rfl).trans ?_
    refine (fs_is (n := n + 15) (k := 902) rfl rfl).trans (fs_ite ?_ rfl)
    refine (fs_r (n := n + 10) 5 (pc' := 97) (L' := [some (.ref cM), some (.int x1), some (.int x2), some (.int x3)]) (S' := [.int x2, .int (g fM_size), .ref 10903]) rfl).trans ?_
    refine (fs_is (n := n + 9) (k := 903) rfl rfl).trans (fs_ite ?_ rfl)
    refine (fs_r (n := n + 4) 5 (pc' := 105) (L' := [some (.ref cM), some (.int x1), some (.int x2), some (.int x3)]) (S' := [.int ((g fM_size) + 1), .ref cM]) rfl).trans ?_
    refine (fs_pf (n := n + 3) (ci := 9) (j := 1) rfl rfl rfl rfl).trans ?_
    refine (fs_r (n := n + 1) 2 (pc' := 112) (L' := [some (.ref cM), some (.int x1), some (.int x2), some (.int x3)]) (S' := [.int ((g fM_size) + 1)]) rfl).trans ?_
    exact (fs_ri (n := n + 0) rfl rfl).trans rfl
  · skip
    refine (fs_r (n := n + 20) 1 (pc' := 77) (L' := [some (.ref cM), some (.int x1), some (.int x2), some (.int x3)]) (S' := [.int (-1)]) rfl).trans ?_
    exact (fs_ri (n := n + 19) rfl rfl).trans rfl
def BM_word_48 (L : Nat) (xs : Nat → Int32) (m d k : Nat) (x1 x2 x3 : Int32) (g : a2_G) (r : a2_A) : Option fn_Z := (if am_c2 .eq x1 4 = true then (BM_word_66 L xs m d k x1 x2 x3 g r) else (fn_v (ev L xs m d nM_in [.int x2, .int 0, .int x3] g r) fun v6 g4 r5 => (if am_c2 .ne v6 0 = true then (BM_word_66 L xs m d k x1 x2 x3 g4 r5) else (some (.inl (some (.int (-4))), g4, r5)))))
theorem bM_word_48 (L : Nat) (xs : Nat → Int32) (m d k : Nat) (n : Nat) (x1 x2 x3 : Int32) (g : a2_G) (r : a2_A) : bk L xs nM_word nm_m157 m d k (n + 34) 48 [some (.ref cM), some (.int x1), some (.int x2), none] [.int x3] g r = BM_word_48 L xs m d k x1 x2 x3 g r := by
  show _ = ((if am_c2 .eq x1 4 = true then (BM_word_66 L xs m d k x1 x2 x3 g r) else (fn_v (ev L xs m d nM_in [.int x2, .int 0, .int x3] g r) fun v6 g4 r5 => (if am_c2 .ne v6 0 = true then (BM_word_66 L xs m d k x1 x2 x3 g4 r5) else (some (.inl (some (.int (-4))), g4, r5))))) : Option fn_Z)
  refine (fs_r (n := n + 31) 3 (pc' := 51) (L' := [some (.ref cM), some (.int x1), some (.int x2), some (.int x3)]) (S' := [.int 4, .int x1]) rfl).trans ?_
  refine (fs_j (n := n + 30) rfl (t := 66) rfl (by decide)).trans (fs_ite ?_ ?_)
  · skip
    exact bM_word_66 L xs m d k (n + 5) x1 x2 x3 g r
  · skip
    refine (fs_r (n := n + 27) 3 (pc' := 57) (L' := [some (.ref cM), some (.int x1), some (.int x2), some (.int x3)]) (S' := [.int x3, .int 0, .int x2]) rfl).trans ?_
    refine (fs_sv (n := n + 26) (N := nm_m158) (as := [.int x2, .int 0, .int x3]) (rest := []) rfl rfl (by decide) rfl rfl rfl rfl rfl).trans (fs_fv fun v6 g4 r5 => ?_)
    refine (fs_i (n := n + 25) rfl (t := 66) rfl (by decide)).trans (fs_ite ?_ ?_)
    · skip
      exact bM_word_66 L xs m d k (n + 0) x1 x2 x3 g4 r5
    · skip
      refine (fs_r (n := n + 24) 1 (pc' := 65) (L' := [some (.ref cM), some (.int x1), some (.int x2), some (.int x3)]) (S' := [.int (-4)]) rfl).trans ?_
      exact (fs_ri (n := n + 23) rfl rfl).trans rfl
theorem eM_word (L : Nat) (xs : Nat → Int32) (m d k : Nat) (n : Nat) (a1 a2 : Int32) (g : a2_G) (r : a2_A) : bk L xs nM_word nm_m157 m d k (n + 52) 0 [some (.ref cM), some (.int a1), some (.int a2), none] [] g r = (fn_v (ev L xs m d nM_in [.int a1, .int 0, .int 5] (upd g fM_thrown 0) r) fun v3 g1 r2 => (if am_c2 .ne v3 0 = true then (if am_c2 .ne a1 0 = true then (if am_c2 .ne a1 2 = true then (if am_c2 .ne a1 5 = true then (BM_word_48 L xs m d k a1 a2 99 g1 r2) else (BM_word_48 L xs m d k a1 a2 8 g1 r2)) else (BM_word_48 L xs m d k a1 a2 99999 g1 r2)) else (BM_word_48 L xs m d k a1 a2 78 g1 r2)) else (some (.inl (some (.int (-4))), g1, r2)))) := by
  refine (fs_r (n := n + 50) 2 (pc' := 2) (L' := [some (.ref cM), some (.int a1), some (.int a2), none]) (S' := [.int 0, .ref cM]) rfl).trans ?_
  refine (fs_pf (n := n + 49) (ci := 9) (j := 0) rfl rfl rfl rfl).trans ?_
  refine (fs_r (n := n + 46) 3 (pc' := 8) (L' := [some (.ref cM), some (.int a1), some (.int a2), none]) (S' := [.int 5, .int 0, .int a1]) rfl).trans ?_
  refine (fs_sv (n := n + 45) (N := nm_m158) (as := [.int a1, .int 0, .int 5]) (rest := []) rfl rfl (by decide) rfl rfl rfl rfl rfl).trans (fs_fv fun v3 g1 r2 => ?_)
  refine (fs_i (n := n + 44) rfl (t := 17) rfl (by decide)).trans (fs_ite ?_ ?_)
  · skip
    refine (fs_r (n := n + 43) 1 (pc' := 18) (L' := [some (.ref cM), some (.int a1), some (.int a2), none]) (S' := [.int a1]) rfl).trans ?_
    refine (fs_i (n := n + 42) rfl (t := 26) rfl (by decide)).trans (fs_ite ?_ ?_)
    · skip
      refine (fs_r (n := n + 40) 2 (pc' := 28) (L' := [some (.ref cM), some (.int a1), some (.int a2), none]) (S' := [.int 2, .int a1]) rfl).trans ?_
      refine (fs_j (n := n + 39) rfl (t := 36) rfl (by decide)).trans (fs_ite ?_ ?_)
      · skip
        refine (fs_r (n := n + 37) 2 (pc' := 38) (L' := [some (.ref cM), some (.int a1), some (.int a2), none]) (S' := [.int 5, .int a1]) rfl).trans ?_
        refine (fs_j (n := n + 36) rfl (t := 46) rfl (by decide)).trans (fs_ite ?_ ?_)
        · skip
          refine (fs_r (n := n + 35) 1 (pc' := 48) (L' := [some (.ref cM), some (.int a1), some (.int a2), none]) (S' := [.int 99]) rfl).trans ?_
          exact bM_word_48 L xs m d k (n + 1) a1 a2 99 g1 r2
        · skip
          refine (fs_r (n := n + 35) 1 (pc' := 43) (L' := [some (.ref cM), some (.int a1), some (.int a2), none]) (S' := [.int 8]) rfl).trans ?_
          refine (fs_go (n := n + 34) rfl (t := 48) rfl (by decide)).trans ?_
          exact bM_word_48 L xs m d k (n + 0) a1 a2 8 g1 r2
      · skip
        refine (fs_r (n := n + 38) 1 (pc' := 33) (L' := [some (.ref cM), some (.int a1), some (.int a2), none]) (S' := [.int 99999]) rfl).trans ?_
        refine (fs_go (n := n + 37) rfl (t := 48) rfl (by decide)).trans ?_
        exact bM_word_48 L xs m d k (n + 3) a1 a2 99999 g1 r2
    · skip
      refine (fs_r (n := n + 41) 1 (pc' := 23) (L' := [some (.ref cM), some (.int a1), some (.int a2), none]) (S' := [.int 78]) rfl).trans ?_
      refine (fs_go (n := n + 40) rfl (t := 48) rfl (by decide)).trans ?_
      exact bM_word_48 L xs m d k (n + 6) a1 a2 78 g1 r2
  · skip
    refine (fs_r (n := n + 43) 1 (pc' := 16) (L' := [some (.ref cM), some (.int a1), some (.int a2), none]) (S' := [.int (-4)]) rfl).trans ?_
    exact (fs_ri (n := n + 42) rfl rfl).trans rfl
theorem qM_word (L : Nat) (xs : Nat → Int32) (m d : Nat) (a1 a2 : Int32) (g : a2_G) (r : a2_A) : ev L xs (m + 1) (d + 1) nM_word [.ref cM, .int a1, .int a2] g r = (fn_v (ev L xs (m + 1) d nM_in [.int a1, .int 0, .int 5] (upd g fM_thrown 0) r) fun v3 g1 r2 => (if am_c2 .ne v3 0 = true then (if am_c2 .ne a1 0 = true then (if am_c2 .ne a1 2 = true then (if am_c2 .ne a1 5 = true then (BM_word_48 L xs (m + 1) d m a1 a2 99 g1 r2) else (BM_word_48 L xs (m + 1) d m a1 a2 8 g1 r2)) else (BM_word_48 L xs (m + 1) d m a1 a2 99999 g1 r2)) else (BM_word_48 L xs (m + 1) d m a1 a2 78 g1 r2)) else (some (.inl (some (.int (-4))), g1, r2)))) := (fs_ev (M := nm_m157) rfl rfl).trans (eM_word L xs (m + 1) d m 848 a1 a2 g r)
/-- CobolParserModel.in(III)Z -/
def BM_in_15 (L : Nat) (xs : Nat → Int32) (m d k : Nat) (x1 x2 x3 x4 : Int32) (g : a2_G) (r : a2_A) : Option fn_Z := (if x4 = 0 ∨ x4 = 1 then some (.inl (some (.int x4)), g, r) else none)
theorem bM_in_15 (L : Nat) (xs : Nat → Int32) (m d k : Nat) (n : Nat) (x1 x2 x3 x4 : Int32) (g : a2_G) (r : a2_A) : bk L xs nM_in nm_m158 m d k (n + 1) 15 [some (.int x1), some (.int x2), some (.int x3)] [.int x4] g r = BM_in_15 L xs m d k x1 x2 x3 x4 g r := by
  show _ = ((if x4 = 0 ∨ x4 = 1 then some (.inl (some (.int x4)), g, r) else none) : Option fn_Z)
  exact (fs_rb (n := n + 0) rfl rfl).trans rfl
def BM_in_14 (L : Nat) (xs : Nat → Int32) (m d k : Nat) (x1 x2 x3 : Int32) (g : a2_G) (r : a2_A) : Option fn_Z := (BM_in_15 L xs m d k x1 x2 x3 0 g r)
theorem bM_in_14 (L : Nat) (xs : Nat → Int32) (m d k : Nat) (n : Nat) (x1 x2 x3 : Int32) (g : a2_G) (r : a2_A) : bk L xs nM_in nm_m158 m d k (n + 2) 14 [some (.int x1), some (.int x2), some (.int x3)] [] g r = BM_in_14 L xs m d k x1 x2 x3 g r := by
  show _ = ((BM_in_15 L xs m d k x1 x2 x3 0 g r) : Option fn_Z)
  refine (fs_r (n := n + 1) 1 (pc' := 15) (L' := [some (.int x1), some (.int x2), some (.int x3)]) (S' := [.int 0]) rfl).trans ?_
  exact bM_in_15 L xs m d k (n + 0) x1 x2 x3 0 g r
theorem eM_in (L : Nat) (xs : Nat → Int32) (m d k : Nat) (n : Nat) (a1 a2 a3 : Int32) (g : a2_G) (r : a2_A) : bk L xs nM_in nm_m158 m d k (n + 9) 0 [some (.int a1), some (.int a2), some (.int a3)] [] g r = (if am_c2 .lt a1 a2 = true then (BM_in_14 L xs m d k a1 a2 a3 g r) else (if am_c2 .gt a1 a3 = true then (BM_in_14 L xs m d k a1 a2 a3 g r) else (BM_in_15 L xs m d k a1 a2 a3 1 g r))) := by
  refine (fs_r (n := n + 7) 2 (pc' := 2) (L' := [some (.int a1), some (.int a2), some (.int a3)]) (S' := [.int a2, .int a1]) rfl).trans ?_
  refine (fs_j (n := n + 6) rfl (t := 14) rfl (by decide)).trans (fs_ite ?_ ?_)
  · skip
    exact bM_in_14 L xs m d k (n + 4) a1 a2 a3 g r
  · skip
    refine (fs_r (n := n + 4) 2 (pc' := 7) (L' := [some (.int a1), some (.int a2), some (.int a3)]) (S' := [.int a3, .int a1]) rfl).trans ?_
    refine (fs_j (n := n + 3) rfl (t := 14) rfl (by decide)).trans (fs_ite ?_ ?_)
    · skip
      exact bM_in_14 L xs m d k (n + 1) a1 a2 a3 g r
    · skip
      refine (fs_r (n := n + 2) 1 (pc' := 11) (L' := [some (.int a1), some (.int a2), some (.int a3)]) (S' := [.int 1]) rfl).trans ?_
      refine (fs_go (n := n + 1) rfl (t := 15) rfl (by decide)).trans ?_
      exact bM_in_15 L xs m d k (n + 0) a1 a2 a3 1 g r
theorem qM_in (L : Nat) (xs : Nat → Int32) (m d : Nat) (a1 a2 a3 : Int32) (g : a2_G) (r : a2_A) : ev L xs (m + 1) (d + 1) nM_in [.int a1, .int a2, .int a3] g r = (if am_c2 .lt a1 a2 = true then (BM_in_14 L xs (m + 1) d m a1 a2 a3 g r) else (if am_c2 .gt a1 a3 = true then (BM_in_14 L xs (m + 1) d m a1 a2 a3 g r) else (BM_in_15 L xs (m + 1) d m a1 a2 a3 1 g r))) := (fs_ev (M := nm_m158) rfl rfl).trans (eM_in L xs (m + 1) d m 891 a1 a2 a3 g r)
/-- CobolParserModel.parse()I -/
def BM_parse_238 (L : Nat) (xs : Nat → Int32) (m d k : Nat) (x1 x2 x3 : Int32) (g : a2_G) (r : a2_A) : Option fn_Z := (if am_c2 .le (g fM_faults) 0 = true then (fn_n (ev L xs m d nM_numberAll [.ref cM, .int x1] (upd g fM_thrown x3) r) fun g4 r5 => (some (.inl (some (.int (g4 fM_units))), g4, r5))) else (some (.inl (some (.int 0)), (upd (upd g fM_thrown x3) fM_units 0), r)))
theorem bM_parse_238 (L : Nat) (xs : Nat → Int32) (m d k : Nat) (n : Nat) (x1 x2 x3 : Int32) (g : a2_G) (r : a2_A) : bk L xs nM_parse nm_m159 m d k (n + 10) 238 [some (.ref cM), some (.int x1), some (.int x2)] [.int x3, .ref cM] g r = BM_parse_238 L xs m d k x1 x2 x3 g r := by
  show _ = ((if am_c2 .le (g fM_faults) 0 = true then (fn_n (ev L xs m d nM_numberAll [.ref cM, .int x1] (upd g fM_thrown x3) r) fun g4 r5 => (some (.inl (some (.int (g4 fM_units))), g4, r5))) else (some (.inl (some (.int 0)), (upd (upd g fM_thrown x3) fM_units 0), r))) : Option fn_Z)
  refine (fs_pf (n := n + 9) (ci := 9) (j := 0) rfl rfl rfl rfl).trans ?_
  refine (fs_r (n := n + 7) 2 (pc' := 245) (L' := [some (.ref cM), some (.int x1), some (.int x2)]) (S' := [.int (g fM_faults)]) rfl).trans ?_
  refine (fs_i (n := n + 6) rfl (t := 255) rfl (by decide)).trans (fs_ite ?_ ?_)
  · skip
    refine (fs_r (n := n + 4) 2 (pc' := 257) (L' := [some (.ref cM), some (.int x1), some (.int x2)]) (S' := [.int x1, .ref cM]) rfl).trans ?_
    refine (fs_cn (n := n + 3) (N := nm_m225) (as := [.ref cM, .int x1]) (rest := []) rfl rfl (Or.inl rfl) rfl rfl rfl rfl rfl).trans (fs_fn fun g4 r5 => ?_)
    refine (fs_r (n := n + 1) 2 (pc' := 264) (L' := [some (.ref cM), some (.int x1), some (.int x2)]) (S' := [.int (g4 fM_units)]) rfl).trans ?_
    exact (fs_ri (n := n + 0) rfl rfl).trans rfl
  · skip
    refine (fs_r (n := n + 4) 2 (pc' := 250) (L' := [some (.ref cM), some (.int x1), some (.int x2)]) (S' := [.int 0, .ref cM]) rfl).trans ?_
    refine (fs_pf (n := n + 3) (ci := 9) (j := 20) rfl rfl rfl rfl).trans ?_
    refine (fs_r (n := n + 2) 1 (pc' := 254) (L' := [some (.ref cM), some (.int x1), some (.int x2)]) (S' := [.int 0]) rfl).trans ?_
    exact (fs_ri (n := n + 1) rfl rfl).trans rfl
def BM_parse_225 (L : Nat) (xs : Nat → Int32) (m d k : Nat) (x1 x2 : Int32) (g : a2_G) (r : a2_A) : Option fn_Z := (if am_c2 .le (g fM_faults) 0 = true then (BM_parse_238 L xs m d k x1 x2 0 g r) else (BM_parse_238 L xs m d k x1 x2 1 g r))
theorem bM_parse_225 (L : Nat) (xs : Nat → Int32) (m d k : Nat) (n : Nat) (x1 x2 : Int32) (g : a2_G) (r : a2_A) : bk L xs nM_parse nm_m159 m d k (n + 16) 225 [some (.ref cM), some (.int x1), some (.int x2)] [] g r = BM_parse_225 L xs m d k x1 x2 g r := by
  show _ = ((if am_c2 .le (g fM_faults) 0 = true then (BM_parse_238 L xs m d k x1 x2 0 g r) else (BM_parse_238 L xs m d k x1 x2 1 g r)) : Option fn_Z)
  refine (fs_r (n := n + 13) 3 (pc' := 230) (L' := [some (.ref cM), some (.int x1), some (.int x2)]) (S' := [.int (g fM_faults), .ref cM]) rfl).trans ?_
  refine (fs_i (n := n + 12) rfl (t := 237) rfl (by decide)).trans (fs_ite ?_ ?_)
  · skip
    refine (fs_r (n := n + 11) 1 (pc' := 238) (L' := [some (.ref cM), some (.int x1), some (.int x2)]) (S' := [.int 0, .ref cM]) rfl).trans ?_
    exact bM_parse_238 L xs m d k (n + 1) x1 x2 0 g r
  · skip
    refine (fs_r (n := n + 11) 1 (pc' := 234) (L' := [some (.ref cM), some (.int x1), some (.int x2)]) (S' := [.int 1, .ref cM]) rfl).trans ?_
    refine (fs_go (n := n + 10) rfl (t := 238) rfl (by decide)).trans ?_
    exact bM_parse_238 L xs m d k (n + 0) x1 x2 1 g r
def BM_parse_195 (L : Nat) (xs : Nat → Int32) (m d k : Nat) (x1 x2 : Int32) (g : a2_G) (r : a2_A) : Option fn_Z := (if am_c2 .ge (g fM_faults) 20 = true then (BM_parse_225 L xs m d k x1 x2 g r) else (if am_c2 .le (g fM_open) 0 = true then (BM_parse_225 L xs m d k x1 x2 g r) else (if am_c2 .ne x2 0 = true then (BM_parse_225 L xs m d k x1 x2 g r) else (fn_n (ev L xs m d nM_note [.ref cM, .int 1, .int (g fM_n)] g r) fun g6 r7 => (BM_parse_225 L xs m d k x1 x2 g6 r7)))))
theorem bM_parse_195 (L : Nat) (xs : Nat → Int32) (m d k : Nat) (n : Nat) (x1 x2 : Int32) (g : a2_G) (r : a2_A) : bk L xs nM_parse nm_m159 m d k (n + 31) 195 [some (.ref cM), some (.int x1), none] [.int x2] g r = BM_parse_195 L xs m d k x1 x2 g r := by
  show _ = ((if am_c2 .ge (g fM_faults) 20 = true then (BM_parse_225 L xs m d k x1 x2 g r) else (if am_c2 .le (g fM_open) 0 = true then (BM_parse_225 L xs m d k x1 x2 g r) else (if am_c2 .ne x2 0 = true then (BM_parse_225 L xs m d k x1 x2 g r) else (fn_n (ev L xs m d nM_note [.ref cM, .int 1, .int (g fM_n)] g r) fun g6 r7 => (BM_parse_225 L xs m d k x1 x2 g6 r7))))) : Option fn_Z)
  refine (fs_r (n := n + 27) 4 (pc' := 202) (L' := [some (.ref cM), some (.int x1), some (.int x2)]) (S' := [.int 20, .int (g fM_faults)]) rfl).trans ?_
  refine (fs_j (n := n + 26) rfl (t := 225) rfl (by decide)).trans (fs_ite ?_ ?_)
  · skip
    exact bM_parse_225 L xs m d k (n + 10) x1 x2 g r
  · skip
    refine (fs_r (n := n + 24) 2 (pc' := 209) (L' := [some (.ref cM), some (.int x1), some (.int x2)]) (S' := [.int (g fM_open)]) rfl).trans ?_
    refine (fs_i (n := n + 23) rfl (t := 225) rfl (by decide)).trans (fs_ite ?_ ?_)
    · skip
      exact bM_parse_225 L xs m d k (n + 7) x1 x2 g r
    · skip
      refine (fs_r (n := n + 22) 1 (pc' := 213) (L' := [some (.ref cM), some (.int x1), some (.int x2)]) (S' := [.int x2]) rfl).trans ?_
      refine (fs_i (n := n + 21) rfl (t := 225) rfl (by decide)).trans (fs_ite ?_ ?_)
      · skip
        exact bM_parse_225 L xs m d k (n + 5) x1 x2 g r
      · skip
        refine (fs_r (n := n + 17) 4 (pc' := 222) (L' := [some (.ref cM), some (.int x1), some (.int x2)]) (S' := [.int (g fM_n), .int 1, .ref cM]) rfl).trans ?_
        refine (fs_cn (n := n + 16) (N := nm_m165) (as := [.ref cM, .int 1, .int (g fM_n)]) (rest := []) rfl rfl (Or.inl rfl) rfl rfl rfl rfl rfl).trans (fs_fn fun g6 r7 => ?_)
        exact bM_parse_225 L xs m d k (n + 0) x1 x2 g6 r7
def BM_parse_194 (L : Nat) (xs : Nat → Int32) (m d k : Nat) (x1 : Int32) (g : a2_G) (r : a2_A) : Option fn_Z := (BM_parse_195 L xs m d k x1 0 g r)
theorem bM_parse_194 (L : Nat) (xs : Nat → Int32) (m d k : Nat) (n : Nat) (x1 : Int32) (g : a2_G) (r : a2_A) : bk L xs nM_parse nm_m159 m d k (n + 32) 194 [some (.ref cM), some (.int x1), none] [] g r = BM_parse_194 L xs m d k x1 g r := by
  show _ = ((BM_parse_195 L xs m d k x1 0 g r) : Option fn_Z)
  refine (fs_r (n := n + 31) 1 (pc' := 195) (L' := [some (.ref cM), some (.int x1), none]) (S' := [.int 0]) rfl).trans ?_
  exact bM_parse_195 L xs m d k (n + 0) x1 0 g r
def BM_parse_153 (L : Nat) (xs : Nat → Int32) (m d k : Nat) (x1 : Int32) (g : a2_G) (r : a2_A) : Option fn_Z := (if am_c2 .ne (g fM_open) 1 = true then (BM_parse_194 L xs m d k x1 g r) else (if am_inr 0 (r fM_state).1 = true then (if am_c2 .eq ((r fM_state).2 (0 : Int32).toNatClampNeg) 0 = true then (BM_parse_194 L xs m d k x1 g r) else (if am_inr 0 (r fM_state).1 = true then (if am_c2 .eq ((r fM_state).2 (0 : Int32).toNatClampNeg) 9 = true then (BM_parse_194 L xs m d k x1 g r) else (if am_inr 0 (r fM_had).1 = true then (if am_c2 .ne ((r fM_had).2 (0 : Int32).toNatClampNeg) 0 = true then (BM_parse_194 L xs m d k x1 g r) else (BM_parse_195 L xs m d k x1 1 g r)) else none)) else none)) else none))
theorem bM_parse_153 (L : Nat) (xs : Nat → Int32) (m d k : Nat) (n : Nat) (x1 : Int32) (g : a2_G) (r : a2_A) : bk L xs nM_parse nm_m159 m d k (n + 53) 153 [some (.ref cM), some (.int x1), none] [] g r = BM_parse_153 L xs m d k x1 g r := by
  show _ = ((if am_c2 .ne (g fM_open) 1 = true then (BM_parse_194 L xs m d k x1 g r) else (if am_inr 0 (r fM_state).1 = true then (if am_c2 .eq ((r fM_state).2 (0 : Int32).toNatClampNeg) 0 = true then (BM_parse_194 L xs m d k x1 g r) else (if am_inr 0 (r fM_state).1 = true then (if am_c2 .eq ((r fM_state).2 (0 : Int32).toNatClampNeg) 9 = true then (BM_parse_194 L xs m d k x1 g r) else (if am_inr 0 (r fM_had).1 = true then (if am_c2 .ne ((r fM_had).2 (0 : Int32).toNatClampNeg) 0 = true then (BM_parse_194 L xs m d k x1 g r) else (BM_parse_195 L xs m d k x1 1 g r)) else none)) else none)) else none)) : Option fn_Z)
  refine (fs_r (n := n + 50) 3 (pc' := 158) (L' := [some (.ref cM), some (.int x1), none]) (S' := [.int 1, .int (g fM_open)]) rfl).trans ?_
  refine (fs_j (n := n + 49) rfl (t := 194) rfl (by decide)).trans (fs_ite ?_ ?_)
  · skip
    exact bM_parse_194 L xs m d k (n + 17) x1 g r
  · skip
    refine (fs_r (n := n + 46) 3 (pc' := 166) (L' := [some (.ref cM), some (.int x1), none]) (S' := [.int 0, .ref 10927]) rfl).trans ?_
    refine (fs_il (n := n + 45) (k := 927) rfl rfl).trans (fs_ite ?_ rfl)
    refine (fs_i (n := n + 44) rfl (t := 194) rfl (by decide)).trans (fs_ite ?_ ?_)
    · skip
      exact bM_parse_194 L xs m d k (n + 12) x1 g r
    · skip
      refine (fs_r (n := n + 41) 3 (pc' := 175) (L' := [some (.ref cM), some (.int x1), none]) (S' := [.int 0, .ref 10927]) rfl).trans ?_
      refine (fs_il (n := n + 40) (k := 927) rfl rfl).trans (fs_ite ?_ rfl)
      refine (fs_r (n := n + 39) 1 (pc' := 178) (L' := [some (.ref cM), some (.int x1), none]) (S' := [.int 9, .int ((r fM_state).2 (0 : Int32).toNatClampNeg)]) rfl).trans ?_
      refine (fs_j (n := n + 38) rfl (t := 194) rfl (by decide)).trans (fs_ite ?_ ?_)
      · skip
        exact bM_parse_194 L xs m d k (n + 6) x1 g r
      · skip
        refine (fs_r (n := n + 35) 3 (pc' := 186) (L' := [some (.ref cM), some (.int x1), none]) (S' := [.int 0, .ref 10931]) rfl).trans ?_
        refine (fs_bl (n := n + 34) (k := 931) rfl rfl).trans (fs_ite ?_ rfl)
        refine (fs_i (n := n + 33) rfl (t := 194) rfl (by decide)).trans (fs_ite ?_ ?_)
        · skip
          exact bM_parse_194 L xs m d k (n + 1) x1 g r
        · skip
          refine (fs_r (n := n + 32) 1 (pc' := 191) (L' := [some (.ref cM), some (.int x1), none]) (S' := [.int 1]) rfl).trans ?_
          refine (fs_go (n := n + 31) rfl (t := 195) rfl (by decide)).trans ?_
          exact bM_parse_195 L xs m d k (n + 0) x1 1 g r
def BM_parse_140 (L : Nat) (xs : Nat → Int32) (m d k : Nat) (x1 : Int32) (g : a2_G) (r : a2_A) : Option fn_Z := (lp L xs nM_parse nm_m159 m d k 56 [some (.ref cM), some (.int x1), none] (upd g fM_at ((g fM_at) + 1)) r)
theorem bM_parse_140 (L : Nat) (xs : Nat → Int32) (m d k : Nat) (n : Nat) (x1 : Int32) (g : a2_G) (r : a2_A) : bk L xs nM_parse nm_m159 m d k (n + 7) 140 [some (.ref cM), some (.int x1), none] [] g r = BM_parse_140 L xs m d k x1 g r := by
  show _ = ((lp L xs nM_parse nm_m159 m d k 56 [some (.ref cM), some (.int x1), none] (upd g fM_at ((g fM_at) + 1)) r) : Option fn_Z)
  refine (fs_r (n := n + 2) 5 (pc' := 147) (L' := [some (.ref cM), some (.int x1), none]) (S' := [.int ((g fM_at) + 1), .ref cM]) rfl).trans ?_
  refine (fs_pf (n := n + 1) (ci := 9) (j := 41) rfl rfl rfl rfl).trans ?_
  exact (fs_gb (n := n + 0) rfl (t := 56) rfl (by decide)).trans rfl
def BM_parse_103 (L : Nat) (xs : Nat → Int32) (m d k : Nat) (x1 : Int32) (g : a2_G) (r : a2_A) : Option fn_Z := (if am_c2 .ge (g fM_at) (g fM_n) = true then (BM_parse_140 L xs m d k x1 g r) else (if am_inr (g fM_at) (r fM_kinds).1 = true then (if am_c2 .eq ((r fM_kinds).2 ((g fM_at) : Int32).toNatClampNeg) 4 = true then (BM_parse_140 L xs m d k x1 g r) else (lp L xs nM_parse nm_m159 m d k 103 [some (.ref cM), some (.int x1), none] (upd g fM_at ((g fM_at) + 1)) r)) else none))
theorem bM_parse_103 (L : Nat) (xs : Nat → Int32) (m d k : Nat) (n : Nat) (x1 : Int32) (g : a2_G) (r : a2_A) : bk L xs nM_parse nm_m159 m d k (n + 19) 103 [some (.ref cM), some (.int x1), none] [] g r = BM_parse_103 L xs m d k x1 g r := by
  show _ = ((if am_c2 .ge (g fM_at) (g fM_n) = true then (BM_parse_140 L xs m d k x1 g r) else (if am_inr (g fM_at) (r fM_kinds).1 = true then (if am_c2 .eq ((r fM_kinds).2 ((g fM_at) : Int32).toNatClampNeg) 4 = true then (BM_parse_140 L xs m d k x1 g r) else (lp L xs nM_parse nm_m159 m d k 103 [some (.ref cM), some (.int x1), none] (upd g fM_at ((g fM_at) + 1)) r)) else none)) : Option fn_Z)
  refine (fs_r (n := n + 15) 4 (pc' := 111) (L' := [some (.ref cM), some (.int x1), none]) (S' := [.int (g fM_n), .int (g fM_at)]) rfl).trans ?_
  refine (fs_j (n := n + 14) rfl (t := 140) rfl (by decide)).trans (fs_ite ?_ ?_)
  · skip
    exact bM_parse_140 L xs m d k (n + 7) x1 g r
  · skip
    refine (fs_r (n := n + 10) 4 (pc' := 122) (L' := [some (.ref cM), some (.int x1), none]) (S' := [.int (g fM_at), .ref 10902]) rfl).trans ?_
    refine (fs_il (n := n + 9) (k := 902) rfl rfl).trans (fs_ite ?_ rfl)
    refine (fs_r (n := n + 8) 1 (pc' := 124) (L' := [some (.ref cM), some (.int x1), none]) (S' := [.int 4, .int ((r fM_kinds).2 ((g fM_at) : Int32).toNatClampNeg)]) rfl).trans ?_
    refine (fs_j (n := n + 7) rfl (t := 140) rfl (by decide)).trans (fs_ite ?_ ?_)
    · skip
      exact bM_parse_140 L xs m d k (n + 0) x1 g r
    · skip
      refine (fs_r (n := n + 2) 5 (pc' := 134) (L' := [some (.ref cM), some (.int x1), none]) (S' := [.int ((g fM_at) + 1), .ref cM]) rfl).trans ?_
      refine (fs_pf (n := n + 1) (ci := 9) (j := 41) rfl rfl rfl rfl).trans ?_
      exact (fs_gb (n := n + 0) rfl (t := 103) rfl (by decide)).trans rfl
theorem lM_parse_103 (L : Nat) (xs : Nat → Int32) (m d k : Nat) (x1 : Int32) (g : a2_G) (r : a2_A) : lp L xs nM_parse nm_m159 m d (k + 1) 103 [some (.ref cM), some (.int x1), none] g r = BM_parse_103 L xs m d k x1 g r := fs_lp.trans (bM_parse_103 L xs m d k 881 x1 g r)
def BM_parse_56 (L : Nat) (xs : Nat → Int32) (m d k : Nat) (x1 : Int32) (g : a2_G) (r : a2_A) : Option fn_Z := (if am_c2 .ge (g fM_at) (g fM_n) = true then (BM_parse_153 L xs m d k x1 g r) else (if am_c2 .ge (g fM_faults) 20 = true then (BM_parse_153 L xs m d k x1 g r) else (fn_n (ev L xs m d nM_clause [.ref cM] (upd g fM_bad 0) r) fun g8 r9 => (if am_c2 .ne (g8 fM_bad) 0 = true then (BM_parse_103 L xs m d k x1 (upd g8 fM_at (g8 fM_failed)) r9) else (lp L xs nM_parse nm_m159 m d k 56 [some (.ref cM), some (.int x1), none] g8 r9)))))
theorem bM_parse_56 (L : Nat) (xs : Nat → Int32) (m d k : Nat) (n : Nat) (x1 : Int32) (g : a2_G) (r : a2_A) : bk L xs nM_parse nm_m159 m d k (n + 62) 56 [some (.ref cM), some (.int x1), none] [] g r = BM_parse_56 L xs m d k x1 g r := by
  show _ = ((if am_c2 .ge (g fM_at) (g fM_n) = true then (BM_parse_153 L xs m d k x1 g r) else (if am_c2 .ge (g fM_faults) 20 = true then (BM_parse_153 L xs m d k x1 g r) else (fn_n (ev L xs m d nM_clause [.ref cM] (upd g fM_bad 0) r) fun g8 r9 => (if am_c2 .ne (g8 fM_bad) 0 = true then (BM_parse_103 L xs m d k x1 (upd g8 fM_at (g8 fM_failed)) r9) else (lp L xs nM_parse nm_m159 m d k 56 [some (.ref cM), some (.int x1), none] g8 r9))))) : Option fn_Z)
  refine (fs_r (n := n + 58) 4 (pc' := 64) (L' := [some (.ref cM), some (.int x1), none]) (S' := [.int (g fM_n), .int (g fM_at)]) rfl).trans ?_
  refine (fs_j (n := n + 57) rfl (t := 153) rfl (by decide)).trans (fs_ite ?_ ?_)
  · skip
    exact bM_parse_153 L xs m d k (n + 4) x1 g r
  · skip
    refine (fs_r (n := n + 54) 3 (pc' := 73) (L' := [some (.ref cM), some (.int x1), none]) (S' := [.int 20, .int (g fM_faults)]) rfl).trans ?_
    refine (fs_j (n := n + 53) rfl (t := 153) rfl (by decide)).trans (fs_ite ?_ ?_)
    · skip
      exact bM_parse_153 L xs m d k (n + 0) x1 g r
    · skip
      refine (fs_r (n := n + 51) 2 (pc' := 78) (L' := [some (.ref cM), some (.int x1), none]) (S' := [.int 0, .ref cM]) rfl).trans ?_
      refine (fs_pb (n := n + 50) (ci := 9) (j := 43) rfl rfl rfl rfl).trans ((if_pos (by decide)).trans ?_)
      refine (fs_r (n := n + 49) 1 (pc' := 82) (L' := [some (.ref cM), some (.int x1), none]) (S' := [.ref cM]) rfl).trans ?_
      refine (fs_cn (n := n + 48) (N := nm_m161) (as := [.ref cM]) (rest := []) rfl rfl (Or.inl rfl) rfl rfl rfl rfl rfl).trans (fs_fn fun g8 r9 => ?_)
      refine (fs_r (n := n + 46) 2 (pc' := 89) (L' := [some (.ref cM), some (.int x1), none]) (S' := [.int (g8 fM_bad)]) rfl).trans ?_
      refine (fs_i (n := n + 45) rfl (t := 95) rfl (by decide)).trans (fs_ite ?_ ?_)
      · skip
        refine (fs_r (n := n + 42) 3 (pc' := 100) (L' := [some (.ref cM), some (.int x1), none]) (S' := [.int (g8 fM_failed), .ref cM]) rfl).trans ?_
        refine (fs_pf (n := n + 41) (ci := 9) (j := 41) rfl rfl rfl rfl).trans ?_
        exact bM_parse_103 L xs m d k (n + 22) x1 (upd g8 fM_at (g8 fM_failed)) r9
      · skip
        exact (fs_gb (n := n + 44) rfl (t := 56) rfl (by decide)).trans rfl
theorem lM_parse_56 (L : Nat) (xs : Nat → Int32) (m d k : Nat) (x1 : Int32) (g : a2_G) (r : a2_A) : lp L xs nM_parse nm_m159 m d (k + 1) 56 [some (.ref cM), some (.int x1), none] g r = BM_parse_56 L xs m d k x1 g r := fs_lp.trans (bM_parse_56 L xs m d k 838 x1 g r)
theorem eM_parse (L : Nat) (xs : Nat → Int32) (m d k : Nat) (n : Nat) (g : a2_G) (r : a2_A) : bk L xs nM_parse nm_m159 m d k (n + 96) 0 [some (.ref cM), none, none] [] g r = (fn_v (ev L xs m d nM_make [.ref cM, .int 0, .int 0, .int 0] (upd (upd (upd (upd (upd (upd (upd (upd (upd g fM_n (g fM_size)) fM_size 0) fM_at 0) fM_faults 0) fM_nodes 0) fM_units 0) fM_open 0) fM_told 0) fM_deepest 0) r) fun v3 g1 r2 => (BM_parse_56 L xs m d k v3 g1 r2)) := by
  refine (fs_r (n := n + 93) 3 (pc' := 5) (L' := [some (.ref cM), none, none]) (S' := [.int (g fM_size), .ref cM]) rfl).trans ?_
  refine (fs_pf (n := n + 92) (ci := 9) (j := 4) rfl rfl rfl rfl).trans ?_
  refine (fs_r (n := n + 90) 2 (pc' := 10) (L' := [some (.ref cM), none, none]) (S' := [.int 0, .ref cM]) rfl).trans ?_
  refine (fs_pf (n := n + 89) (ci := 9) (j := 1) rfl rfl rfl rfl).trans ?_
  refine (fs_r (n := n + 87) 2 (pc' := 15) (L' := [some (.ref cM), none, none]) (S' := [.int 0, .ref cM]) rfl).trans ?_
  refine (fs_pf (n := n + 86) (ci := 9) (j := 41) rfl rfl rfl rfl).trans ?_
  refine (fs_r (n := n + 84) 2 (pc' := 20) (L' := [some (.ref cM), none, none]) (S' := [.int 0, .ref cM]) rfl).trans ?_
  refine (fs_pf (n := n + 83) (ci := 9) (j := 5) rfl rfl rfl rfl).trans ?_
  refine (fs_r (n := n + 81) 2 (pc' := 25) (L' := [some (.ref cM), none, none]) (S' := [.int 0, .ref cM]) rfl).trans ?_
  refine (fs_pf (n := n + 80) (ci := 9) (j := 8) rfl rfl rfl rfl).trans ?_
  refine (fs_r (n := n + 78) 2 (pc' := 30) (L' := [some (.ref cM), none, none]) (S' := [.int 0, .ref cM]) rfl).trans ?_
  refine (fs_pf (n := n + 77) (ci := 9) (j := 20) rfl rfl rfl rfl).trans ?_
  refine (fs_r (n := n + 75) 2 (pc' := 35) (L' := [some (.ref cM), none, none]) (S' := [.int 0, .ref cM]) rfl).trans ?_
  refine (fs_pf (n := n + 74) (ci := 9) (j := 26) rfl rfl rfl rfl).trans ?_
  refine (fs_r (n := n + 72) 2 (pc' := 40) (L' := [some (.ref cM), none, none]) (S' := [.int 0, .ref cM]) rfl).trans ?_
  refine (fs_pf (n := n + 71) (ci := 9) (j := 19) rfl rfl rfl rfl).trans ?_
  refine (fs_r (n := n + 69) 2 (pc' := 45) (L' := [some (.ref cM), none, none]) (S' := [.int 0, .ref cM]) rfl).trans ?_
  refine (fs_pf (n := n + 68) (ci := 9) (j := 21) rfl rfl rfl rfl).trans ?_
  refine (fs_r (n := n + 64) 4 (pc' := 52) (L' := [some (.ref cM), none, none]) (S' := [.int 0, .int 0, .int 0, .ref cM]) rfl).trans ?_
  refine (fs_cv (n := n + 63) (N := nm_m160) (as := [.ref cM, .int 0, .int 0, .int 0]) (rest := []) rfl rfl (Or.inl rfl) rfl rfl rfl rfl rfl).trans (fs_fv fun v3 g1 r2 => ?_)
  refine (fs_r (n := n + 62) 1 (pc' := 56) (L' := [some (.ref cM), some (.int v3), none]) (S' := []) rfl).trans ?_
  exact bM_parse_56 L xs m d k (n + 0) v3 g1 r2
theorem qM_parse (L : Nat) (xs : Nat → Int32) (m d : Nat) (g : a2_G) (r : a2_A) : ev L xs (m + 1) (d + 1) nM_parse [.ref cM] g r = (fn_v (ev L xs (m + 1) d nM_make [.ref cM, .int 0, .int 0, .int 0] (upd (upd (upd (upd (upd (upd (upd (upd (upd g fM_n (g fM_size)) fM_size 0) fM_at 0) fM_faults 0) fM_nodes 0) fM_units 0) fM_open 0) fM_told 0) fM_deepest 0) r) fun v3 g1 r2 => (BM_parse_56 L xs (m + 1) d m v3 g1 r2)) := (fs_ev (M := nm_m159) rfl rfl).trans (eM_parse L xs (m + 1) d m 804 g r)
/-- CobolParserModel.make(III)I -/
theorem eM_make (L : Nat) (xs : Nat → Int32) (m d k : Nat) (n : Nat) (a1 a2 a3 : Int32) (g : a2_G) (r : a2_A) : bk L xs nM_make nm_m160 m d k (n + 51) 0 [some (.ref cM), some (.int a1), some (.int a2), some (.int a3), none] [] g r = (if am_inr (g fM_nodes) (r fM_kind).1 = true then (if am_inr (g fM_nodes) (r fM_value).1 = true then (if am_inr (g fM_nodes) (r fM_place).1 = true then (if am_inr (g fM_nodes) (r fM_extra).1 = true then (if am_inr (g fM_nodes) (r fM_first).1 = true then (if am_inr (g fM_nodes) (r fM_last).1 = true then (if am_inr (g fM_nodes) (r fM_next).1 = true then (if am_inr (g fM_nodes) (r fM_above).1 = true then (some (.inl (some (.int (g fM_nodes))), (upd g fM_nodes ((g fM_nodes) + 1)), (a2_ua (a2_ua (a2_ua (a2_ua (a2_ua (a2_ua (a2_ua (a2_ua r fM_kind ((r fM_kind).1, (upd (r fM_kind).2 ((g fM_nodes) : Int32).toNatClampNeg a1))) fM_value ((r fM_value).1, (upd (r fM_value).2 ((g fM_nodes) : Int32).toNatClampNeg a2))) fM_place ((r fM_place).1, (upd (r fM_place).2 ((g fM_nodes) : Int32).toNatClampNeg a3))) fM_extra ((r fM_extra).1, (upd (r fM_extra).2 ((g fM_nodes) : Int32).toNatClampNeg 0))) fM_first ((r fM_first).1, (upd (r fM_first).2 ((g fM_nodes) : Int32).toNatClampNeg 0))) fM_last ((r fM_last).1, (upd (r fM_last).2 ((g fM_nodes) : Int32).toNatClampNeg 0))) fM_next ((r fM_next).1, (upd (r fM_next).2 ((g fM_nodes) : Int32).toNatClampNeg 0))) fM_above ((r fM_above).1, (upd (r fM_above).2 ((g fM_nodes) : Int32).toNatClampNeg 0))))) else none) else none) else none) else none) else none) else none) else none) else none) := by
  refine (fs_r (n := n + 43) 8 (pc' := 13) (L' := [some (.ref cM), some (.int a1), some (.int a2), some (.int a3), some (.int (g fM_nodes))]) (S' := [.int ((g fM_nodes) + 1), .ref cM]) rfl).trans ?_
  refine (fs_pf (n := n + 42) (ci := 9) (j := 8) rfl rfl rfl rfl).trans ?_
  refine (fs_r (n := n + 38) 4 (pc' := 23) (L' := [some (.ref cM), some (.int a1), some (.int a2), some (.int a3), some (.int (g fM_nodes))]) (S' := [.int a1, .int (g fM_nodes), .ref 10909]) rfl).trans ?_
  refine (fs_is (n := n + 37) (k := 909) rfl rfl).trans (fs_ite ?_ rfl)
  refine (fs_r (n := n + 33) 4 (pc' := 31) (L' := [some (.ref cM), some (.int a1), some (.int a2), some (.int a3), some (.int (g fM_nodes))]) (S' := [.int a2, .int (g fM_nodes), .ref 10910]) rfl).trans ?_
  refine (fs_is (n := n + 32) (k := 910) rfl rfl).trans (fs_ite ?_ rfl)
  refine (fs_r (n := n + 28) 4 (pc' := 39) (L' := [some (.ref cM), some (.int a1), some (.int a2), some (.int a3), some (.int (g fM_nodes))]) (S' := [.int a3, .int (g fM_nodes), .ref 10911]) rfl).trans ?_
  refine (fs_is (n := n + 27) (k := 911) rfl rfl).trans (fs_ite ?_ rfl)
  refine (fs_r (n := n + 23) 4 (pc' := 47) (L' := [some (.ref cM), some (.int a1), some (.int a2), some (.int a3), some (.int (g fM_nodes))]) (S' := [.int 0, .int (g fM_nodes), .ref 10912]) rfl).trans ?_
  refine (fs_is (n := n + 22) (k := 912) rfl rfl).trans (fs_ite ?_ rfl)
  refine (fs_r (n := n + 18) 4 (pc' := 55) (L' := [some (.ref cM), some (.int a1), some (.int a2), some (.int a3), some (.int (g fM_nodes))]) (S' := [.int 0, .int (g fM_nodes), .ref 10913]) rfl).trans ?_
  refine (fs_is (n := n + 17) (k := 913) rfl rfl).trans (fs_ite ?_ rfl)
  refine (fs_r (n := n + 13) 4 (pc' := 63) (L' := [some (.ref cM), some (.int a1), some (.int a2), some (.int a3), some (.int (g fM_nodes))]) (S' := [.int 0, .int (g fM_nodes), .ref 10914]) rfl).trans ?_
  refine (fs_is (n := n + 12) (k := 914) rfl rfl).trans (fs_ite ?_ rfl)
  refine (fs_r (n := n + 8) 4 (pc' := 71) (L' := [some (.ref cM), some (.int a1), some (.int a2), some (.int a3), some (.int (g fM_nodes))]) (S' := [.int 0, .int (g fM_nodes), .ref 10915]) rfl).trans ?_
  refine (fs_is (n := n + 7) (k := 915) rfl rfl).trans (fs_ite ?_ rfl)
  refine (fs_r (n := n + 3) 4 (pc' := 79) (L' := [some (.ref cM), some (.int a1), some (.int a2), some (.int a3), some (.int (g fM_nodes))]) (S' := [.int 0, .int (g fM_nodes), .ref 10916]) rfl).trans ?_
  refine (fs_is (n := n + 2) (k := 916) rfl rfl).trans (fs_ite ?_ rfl)
  refine (fs_r (n := n + 1) 1 (pc' := 82) (L' := [some (.ref cM), some (.int a1), some (.int a2), some (.int a3), some (.int (g fM_nodes))]) (S' := [.int (g fM_nodes)]) rfl).trans ?_
  exact (fs_ri (n := n + 0) rfl rfl).trans rfl
theorem qM_make (L : Nat) (xs : Nat → Int32) (m d : Nat) (a1 a2 a3 : Int32) (g : a2_G) (r : a2_A) : ev L xs (m + 1) (d + 1) nM_make [.ref cM, .int a1, .int a2, .int a3] g r = (if am_inr (g fM_nodes) (r fM_kind).1 = true then (if am_inr (g fM_nodes) (r fM_value).1 = true then (if am_inr (g fM_nodes) (r fM_place).1 = true then (if am_inr (g fM_nodes) (r fM_extra).1 = true then (if am_inr (g fM_nodes) (r fM_first).1 = true then (if am_inr (g fM_nodes) (r fM_last).1 = true then (if am_inr (g fM_nodes) (r fM_next).1 = true then (if am_inr (g fM_nodes) (r fM_above).1 = true then (some (.inl (some (.int (g fM_nodes))), (upd g fM_nodes ((g fM_nodes) + 1)), (a2_ua (a2_ua (a2_ua (a2_ua (a2_ua (a2_ua (a2_ua (a2_ua r fM_kind ((r fM_kind).1, (upd (r fM_kind).2 ((g fM_nodes) : Int32).toNatClampNeg a1))) fM_value ((r fM_value).1, (upd (r fM_value).2 ((g fM_nodes) : Int32).toNatClampNeg a2))) fM_place ((r fM_place).1, (upd (r fM_place).2 ((g fM_nodes) : Int32).toNatClampNeg a3))) fM_extra ((r fM_extra).1, (upd (r fM_extra).2 ((g fM_nodes) : Int32).toNatClampNeg 0))) fM_first ((r fM_first).1, (upd (r fM_first).2 ((g fM_nodes) : Int32).toNatClampNeg 0))) fM_last ((r fM_last).1, (upd (r fM_last).2 ((g fM_nodes) : Int32).toNatClampNeg 0))) fM_next ((r fM_next).1, (upd (r fM_next).2 ((g fM_nodes) : Int32).toNatClampNeg 0))) fM_above ((r fM_above).1, (upd (r fM_above).2 ((g fM_nodes) : Int32).toNatClampNeg 0))))) else none) else none) else none) else none) else none) else none) else none) else none) := (fs_ev (M := nm_m160) rfl rfl).trans (eM_make L xs (m + 1) d m 849 a1 a2 a3 g r)
/-- CobolParserModel.clause()V -/
def BM_clause_124 (L : Nat) (xs : Nat → Int32) (m d k : Nat) (x1 : Int32) (g : a2_G) (r : a2_A) : Option fn_Z := (some (.inl none, g, r))
theorem bM_clause_124 (L : Nat) (xs : Nat → Int32) (m d k : Nat) (n : Nat) (x1 : Int32) (g : a2_G) (r : a2_A) : bk L xs nM_clause nm_m161 m d k (n + 1) 124 [some (.ref cM), some (.int x1)] [] g r = BM_clause_124 L xs m d k x1 g r := by
  show _ = ((some (.inl none, g, r)) : Option fn_Z)
  exact (fs_rv (n := n + 0) rfl rfl).trans rfl
def BM_clause_85 (L : Nat) (xs : Nat → Int32) (m d k : Nat) (x1 : Int32) (g : a2_G) (r : a2_A) : Option fn_Z := (if am_inr (g fM_at) (r fM_kinds).1 = true then (if am_c2 .eq ((r fM_kinds).2 ((g fM_at) : Int32).toNatClampNeg) 0 = true then (if am_inr (g fM_at) (r fM_values).1 = true then (fn_n (ev L xs m d nM_reserved [.ref cM, .int x1, .int ((r fM_values).2 ((g fM_at) : Int32).toNatClampNeg)] g r) fun g1 r2 => (BM_clause_124 L xs m d k x1 g1 r2)) else none) else (fn_v (ev L xs m d nM_fail [.ref cM, .int 1, .int (g fM_at)] g r) fun v5 g3 r4 => (BM_clause_124 L xs m d k x1 g3 r4))) else none)
theorem bM_clause_85 (L : Nat) (xs : Nat → Int32) (m d k : Nat) (n : Nat) (x1 : Int32) (g : a2_G) (r : a2_A) : bk L xs nM_clause nm_m161 m d k (n + 15) 85 [some (.ref cM), some (.int x1)] [] g r = BM_clause_85 L xs m d k x1 g r := by
  show _ = ((if am_inr (g fM_at) (r fM_kinds).1 = true then (if am_c2 .eq ((r fM_kinds).2 ((g fM_at) : Int32).toNatClampNeg) 0 = true then (if am_inr (g fM_at) (r fM_values).1 = true then (fn_n (ev L xs m d nM_reserved [.ref cM, .int x1, .int ((r fM_values).2 ((g fM_at) : Int32).toNatClampNeg)] g r) fun g1 r2 => (BM_clause_124 L xs m d k x1 g1 r2)) else none) else (fn_v (ev L xs m d nM_fail [.ref cM, .int 1, .int (g fM_at)] g r) fun v5 g3 r4 => (BM_clause_124 L xs m d k x1 g3 r4))) else none) : Option fn_Z)
  refine (fs_r (n := n + 11) 4 (pc' := 93) (L' := [some (.ref cM), some (.int x1)]) (S' := [.int (g fM_at), .ref 10902]) rfl).trans ?_
  refine (fs_il (n := n + 10) (k := 902) rfl rfl).trans (fs_ite ?_ rfl)
  refine (fs_i (n := n + 9) rfl (t := 110) rfl (by decide)).trans (fs_ite ?_ ?_)
  · skip
    refine (fs_r (n := n + 3) 6 (pc' := 120) (L' := [some (.ref cM), some (.int x1)]) (S' := [.int (g fM_at), .ref 10903, .int x1, .ref cM]) rfl).trans ?_
    refine (fs_il (n := n + 2) (k := 903) rfl rfl).trans (fs_ite ?_ rfl)
    refine (fs_cn (n := n + 1) (N := nm_m183) (as := [.ref cM, .int x1, .int ((r fM_values).2 ((g fM_at) : Int32).toNatClampNeg)]) (rest := []) rfl rfl (Or.inl rfl) rfl rfl rfl rfl rfl).trans (fs_fn fun g1 r2 => ?_)
    exact bM_clause_124 L xs m d k (n + 0) x1 g1 r2
  · skip
    refine (fs_r (n := n + 5) 4 (pc' := 103) (L' := [some (.ref cM), some (.int x1)]) (S' := [.int (g fM_at), .int 1, .ref cM]) rfl).trans ?_
    refine (fs_cv (n := n + 4) (N := nm_m164) (as := [.ref cM, .int 1, .int (g fM_at)]) (rest := []) rfl rfl (Or.inl rfl) rfl rfl rfl rfl rfl).trans (fs_fv fun v5 g3 r4 => ?_)
    refine (fs_r (n := n + 3) 1 (pc' := 107) (L' := [some (.ref cM), some (.int x1)]) (S' := []) rfl).trans ?_
    refine (fs_go (n := n + 2) rfl (t := 124) rfl (by decide)).trans ?_
    exact bM_clause_124 L xs m d k (n + 1) x1 g3 r4
def BM_clause_53 (L : Nat) (xs : Nat → Int32) (m d k : Nat) (x1 : Int32) (g : a2_G) (r : a2_A) : Option fn_Z := (if am_inr (g fM_at) (r fM_kinds).1 = true then (if am_c2 .ne ((r fM_kinds).2 ((g fM_at) : Int32).toNatClampNeg) 1 = true then (BM_clause_85 L xs m d k x1 g r) else (fn_v (ev L xs m d nM_in [.int x1, .int 8, .int 11] g r) fun v8 g6 r7 => (if am_c2 .eq v8 0 = true then (BM_clause_85 L xs m d k x1 g6 r7) else (fn_n (ev L xs m d nM_named [.ref cM, .int x1] g6 r7) fun g9 r10 => (BM_clause_124 L xs m d k x1 g9 r10))))) else none)
theorem bM_clause_53 (L : Nat) (xs : Nat → Int32) (m d k : Nat) (n : Nat) (x1 : Int32) (g : a2_G) (r : a2_A) : bk L xs nM_clause nm_m161 m d k (n + 27) 53 [some (.ref cM), some (.int x1)] [] g r = BM_clause_53 L xs m d k x1 g r := by
  show _ = ((if am_inr (g fM_at) (r fM_kinds).1 = true then (if am_c2 .ne ((r fM_kinds).2 ((g fM_at) : Int32).toNatClampNeg) 1 = true then (BM_clause_85 L xs m d k x1 g r) else (fn_v (ev L xs m d nM_in [.int x1, .int 8, .int 11] g r) fun v8 g6 r7 => (if am_c2 .eq v8 0 = true then (BM_clause_85 L xs m d k x1 g6 r7) else (fn_n (ev L xs m d nM_named [.ref cM, .int x1] g6 r7) fun g9 r10 => (BM_clause_124 L xs m d k x1 g9 r10))))) else none) : Option fn_Z)
  refine (fs_r (n := n + 23) 4 (pc' := 61) (L' := [some (.ref cM), some (.int x1)]) (S' := [.int (g fM_at), .ref 10902]) rfl).trans ?_
  refine (fs_il (n := n + 22) (k := 902) rfl rfl).trans (fs_ite ?_ rfl)
  refine (fs_r (n := n + 21) 1 (pc' := 63) (L' := [some (.ref cM), some (.int x1)]) (S' := [.int 1, .int ((r fM_kinds).2 ((g fM_at) : Int32).toNatClampNeg)]) rfl).trans ?_
  refine (fs_j (n := n + 20) rfl (t := 85) rfl (by decide)).trans (fs_ite ?_ ?_)
  · skip
    exact bM_clause_85 L xs m d k (n + 5) x1 g r
  · skip
    refine (fs_r (n := n + 17) 3 (pc' := 71) (L' := [some (.ref cM), some (.int x1)]) (S' := [.int 11, .int 8, .int x1]) rfl).trans ?_
    refine (fs_sv (n := n + 16) (N := nm_m158) (as := [.int x1, .int 8, .int 11]) (rest := []) rfl rfl (by decide) rfl rfl rfl rfl rfl).trans (fs_fv fun v8 g6 r7 => ?_)
    refine (fs_i (n := n + 15) rfl (t := 85) rfl (by decide)).trans (fs_ite ?_ ?_)
    · skip
      exact bM_clause_85 L xs m d k (n + 0) x1 g6 r7
    · skip
      refine (fs_r (n := n + 13) 2 (pc' := 79) (L' := [some (.ref cM), some (.int x1)]) (S' := [.int x1, .ref cM]) rfl).trans ?_
      refine (fs_cn (n := n + 12) (N := nm_m180) (as := [.ref cM, .int x1]) (rest := []) rfl rfl (Or.inl rfl) rfl rfl rfl rfl rfl).trans (fs_fn fun g9 r10 => ?_)
      refine (fs_go (n := n + 11) rfl (t := 124) rfl (by decide)).trans ?_
      exact bM_clause_124 L xs m d k (n + 10) x1 g9 r10
def BM_clause_22 (L : Nat) (xs : Nat → Int32) (m d k : Nat) (x1 : Int32) (g : a2_G) (r : a2_A) : Option fn_Z := (if am_inr (g fM_at) (r fM_kinds).1 = true then (if am_c2 .ne ((r fM_kinds).2 ((g fM_at) : Int32).toNatClampNeg) 2 = true then (BM_clause_53 L xs m d k x1 g r) else (fn_v (ev L xs m d nM_in [.int x1, .int 5, .int 7] g r) fun v13 g11 r12 => (if am_c2 .eq v13 0 = true then (BM_clause_53 L xs m d k x1 g11 r12) else (fn_n (ev L xs m d nM_item [.ref cM] g11 r12) fun g14 r15 => (BM_clause_124 L xs m d k x1 g14 r15))))) else none)
theorem bM_clause_22 (L : Nat) (xs : Nat → Int32) (m d k : Nat) (n : Nat) (x1 : Int32) (g : a2_G) (r : a2_A) : bk L xs nM_clause nm_m161 m d k (n + 40) 22 [some (.ref cM), none] [.int x1] g r = BM_clause_22 L xs m d k x1 g r := by
  show _ = ((if am_inr (g fM_at) (r fM_kinds).1 = true then (if am_c2 .ne ((r fM_kinds).2 ((g fM_at) : Int32).toNatClampNeg) 2 = true then (BM_clause_53 L xs m d k x1 g r) else (fn_v (ev L xs m d nM_in [.int x1, .int 5, .int 7] g r) fun v13 g11 r12 => (if am_c2 .eq v13 0 = true then (BM_clause_53 L xs m d k x1 g11 r12) else (fn_n (ev L xs m d nM_item [.ref cM] g11 r12) fun g14 r15 => (BM_clause_124 L xs m d k x1 g14 r15))))) else none) : Option fn_Z)
  refine (fs_r (n := n + 35) 5 (pc' := 31) (L' := [some (.ref cM), some (.int x1)]) (S' := [.int (g fM_at), .ref 10902]) rfl).trans ?_
  refine (fs_il (n := n + 34) (k := 902) rfl rfl).trans (fs_ite ?_ rfl)
  refine (fs_r (n := n + 33) 1 (pc' := 33) (L' := [some (.ref cM), some (.int x1)]) (S' := [.int 2, .int ((r fM_kinds).2 ((g fM_at) : Int32).toNatClampNeg)]) rfl).trans ?_
  refine (fs_j (n := n + 32) rfl (t := 53) rfl (by decide)).trans (fs_ite ?_ ?_)
  · skip
    exact bM_clause_53 L xs m d k (n + 5) x1 g r
  · skip
    refine (fs_r (n := n + 29) 3 (pc' := 40) (L' := [some (.ref cM), some (.int x1)]) (S' := [.int 7, .int 5, .int x1]) rfl).trans ?_
    refine (fs_sv (n := n + 28) (N := nm_m158) (as := [.int x1, .int 5, .int 7]) (rest := []) rfl rfl (by decide) rfl rfl rfl rfl rfl).trans (fs_fv fun v13 g11 r12 => ?_)
    refine (fs_i (n := n + 27) rfl (t := 53) rfl (by decide)).trans (fs_ite ?_ ?_)
    · skip
      exact bM_clause_53 L xs m d k (n + 0) x1 g11 r12
    · skip
      refine (fs_r (n := n + 26) 1 (pc' := 47) (L' := [some (.ref cM), some (.int x1)]) (S' := [.ref cM]) rfl).trans ?_
      refine (fs_cn (n := n + 25) (N := nm_m162) (as := [.ref cM]) (rest := []) rfl rfl (Or.inl rfl) rfl rfl rfl rfl rfl).trans (fs_fn fun g14 r15 => ?_)
      refine (fs_go (n := n + 24) rfl (t := 124) rfl (by decide)).trans ?_
      exact bM_clause_124 L xs m d k (n + 23) x1 g14 r15
theorem eM_clause (L : Nat) (xs : Nat → Int32) (m d k : Nat) (n : Nat) (g : a2_G) (r : a2_A) : bk L xs nM_clause nm_m161 m d k (n + 50) 0 [some (.ref cM), none] [] g r = (if am_c2 .ne (g fM_open) 0 = true then (if am_inr ((g fM_open) - 1) (r fM_state).1 = true then (BM_clause_22 L xs m d k ((r fM_state).2 (((g fM_open) - 1) : Int32).toNatClampNeg) g r) else none) else (BM_clause_22 L xs m d k (-1) g r)) := by
  refine (fs_r (n := n + 48) 2 (pc' := 4) (L' := [some (.ref cM), none]) (S' := [.int (g fM_open)]) rfl).trans ?_
  refine (fs_i (n := n + 47) rfl (t := 11) rfl (by decide)).trans (fs_ite ?_ ?_)
  · skip
    refine (fs_r (n := n + 41) 6 (pc' := 21) (L' := [some (.ref cM), none]) (S' := [.int ((g fM_open) - 1), .ref 10927]) rfl).trans ?_
    refine (fs_il (n := n + 40) (k := 927) rfl rfl).trans (fs_ite ?_ rfl)
    exact bM_clause_22 L xs m d k (n + 0) ((r fM_state).2 (((g fM_open) - 1) : Int32).toNatClampNeg) g r
  · skip
    refine (fs_r (n := n + 46) 1 (pc' := 8) (L' := [some (.ref cM), none]) (S' := [.int (-1)]) rfl).trans ?_
    refine (fs_go (n := n + 45) rfl (t := 22) rfl (by decide)).trans ?_
    exact bM_clause_22 L xs m d k (n + 5) (-1) g r
theorem qM_clause (L : Nat) (xs : Nat → Int32) (m d : Nat) (g : a2_G) (r : a2_A) : ev L xs (m + 1) (d + 1) nM_clause [.ref cM] g r = (if am_c2 .ne (g fM_open) 0 = true then (if am_inr ((g fM_open) - 1) (r fM_state).1 = true then (BM_clause_22 L xs (m + 1) d m ((r fM_state).2 (((g fM_open) - 1) : Int32).toNatClampNeg) g r) else none) else (BM_clause_22 L xs (m + 1) d m (-1) g r)) := (fs_ev (M := nm_m161) rfl rfl).trans (eM_clause L xs (m + 1) d m 850 g r)
/-- CobolParserModel.item()V -/
def BM_item_300 (L : Nat) (xs : Nat → Int32) (m d k : Nat) (x1 x2 x3 x4 x5 x6 x7 : Int32) (g : a2_G) (r : a2_A) : Option fn_Z := (fn_n (ev L xs m d nM_attach [.ref cM, .int x7, .int x5] g r) fun g13 r14 => (if am_inr (g13 fM_items) (r14 fM_levels).1 = true then (if am_inr (g13 fM_items) (r14 fM_itemNode).1 = true then (some (.inl none, (upd (upd g13 fM_items ((g13 fM_items) + 1)) fM_latest x5), (a2_ua (a2_ua r14 fM_levels ((r14 fM_levels).1, (upd (r14 fM_levels).2 ((g13 fM_items) : Int32).toNatClampNeg x2))) fM_itemNode ((r14 fM_itemNode).1, (upd (r14 fM_itemNode).2 ((g13 fM_items) : Int32).toNatClampNeg x5))))) else none) else none))
theorem bM_item_300 (L : Nat) (xs : Nat → Int32) (m d k : Nat) (n : Nat) (x1 x2 x3 x4 x5 x6 x7 : Int32) (g : a2_G) (r : a2_A) : bk L xs nM_item nm_m162 m d k (n + 24) 300 [some (.ref cM), some (.int x1), some (.int x2), some (.int x3), some (.int x4), some (.int x5), some (.int x6)] [.int x7, .ref cM] g r = BM_item_300 L xs m d k x1 x2 x3 x4 x5 x6 x7 g r := by
  show _ = ((fn_n (ev L xs m d nM_attach [.ref cM, .int x7, .int x5] g r) fun g13 r14 => (if am_inr (g13 fM_items) (r14 fM_levels).1 = true then (if am_inr (g13 fM_items) (r14 fM_itemNode).1 = true then (some (.inl none, (upd (upd g13 fM_items ((g13 fM_items) + 1)) fM_latest x5), (a2_ua (a2_ua r14 fM_levels ((r14 fM_levels).1, (upd (r14 fM_levels).2 ((g13 fM_items) : Int32).toNatClampNeg x2))) fM_itemNode ((r14 fM_itemNode).1, (upd (r14 fM_itemNode).2 ((g13 fM_items) : Int32).toNatClampNeg x5))))) else none) else none)) : Option fn_Z)
  refine (fs_r (n := n + 23) 1 (pc' := 302) (L' := [some (.ref cM), some (.int x1), some (.int x2), some (.int x3), some (.int x4), some (.int x5), some (.int x6)]) (S' := [.int x5, .int x7, .ref cM]) rfl).trans ?_
  refine (fs_cn (n := n + 22) (N := nm_m173) (as := [.ref cM, .int x7, .int x5]) (rest := []) rfl rfl (Or.inl rfl) rfl rfl rfl rfl rfl).trans (fs_fn fun g13 r14 => ?_)
  refine (fs_r (n := n + 17) 5 (pc' := 314) (L' := [some (.ref cM), some (.int x1), some (.int x2), some (.int x3), some (.int x4), some (.int x5), some (.int x6)]) (S' := [.int x2, .int (g13 fM_items), .ref 10939]) rfl).trans ?_
  refine (fs_is (n := n + 16) (k := 939) rfl rfl).trans (fs_ite ?_ rfl)
  refine (fs_r (n := n + 11) 5 (pc' := 325) (L' := [some (.ref cM), some (.int x1), some (.int x2), some (.int x3), some (.int x4), some (.int x5), some (.int x6)]) (S' := [.int x5, .int (g13 fM_items), .ref 10940]) rfl).trans ?_
  refine (fs_is (n := n + 10) (k := 940) rfl rfl).trans (fs_ite ?_ rfl)
  refine (fs_r (n := n + 5) 5 (pc' := 333) (L' := [some (.ref cM), some (.int x1), some (.int x2), some (.int x3), some (.int x4), some (.int x5), some (.int x6)]) (S' := [.int ((g13 fM_items) + 1), .ref cM]) rfl).trans ?_
  refine (fs_pf (n := n + 4) (ci := 9) (j := 37) rfl rfl rfl rfl).trans ?_
  refine (fs_r (n := n + 2) 2 (pc' := 339) (L' := [some (.ref cM), some (.int x1), some (.int x2), some (.int x3), some (.int x4), some (.int x5), some (.int x6)]) (S' := [.int x5, .ref cM]) rfl).trans ?_
  refine (fs_pf (n := n + 1) (ci := 9) (j := 38) rfl rfl rfl rfl).trans ?_
  exact (fs_rv (n := n + 0) rfl rfl).trans rfl
def BM_item_274 (L : Nat) (xs : Nat → Int32) (m d k : Nat) (x1 x2 x3 x4 x5 x6 x7 : Int32) (g : a2_G) (r : a2_A) : Option fn_Z := (if am_c2 .eq x3 0 = true then (if am_inr (x7 - 1) (r fM_itemNode).1 = true then (BM_item_300 L xs m d k x1 x2 x3 x4 x5 x6 ((r fM_itemNode).2 ((x7 - 1) : Int32).toNatClampNeg) (upd g fM_items x7) r) else none) else (BM_item_300 L xs m d k x1 x2 x3 x4 x5 x6 (g fM_holder) (upd g fM_items x7) r))
theorem bM_item_274 (L : Nat) (xs : Nat → Int32) (m d k : Nat) (n : Nat) (x1 x2 x3 x4 x5 x6 x7 : Int32) (g : a2_G) (r : a2_A) : bk L xs nM_item nm_m162 m d k (n + 35) 274 [some (.ref cM), some (.int x1), some (.int x2), some (.int x3), some (.int x4), some (.int x5), some (.int x6)] [.int x7, .ref cM] g r = BM_item_274 L xs m d k x1 x2 x3 x4 x5 x6 x7 g r := by
  show _ = ((if am_c2 .eq x3 0 = true then (if am_inr (x7 - 1) (r fM_itemNode).1 = true then (BM_item_300 L xs m d k x1 x2 x3 x4 x5 x6 ((r fM_itemNode).2 ((x7 - 1) : Int32).toNatClampNeg) (upd g fM_items x7) r) else none) else (BM_item_300 L xs m d k x1 x2 x3 x4 x5 x6 (g fM_holder) (upd g fM_items x7) r)) : Option fn_Z)
  refine (fs_pf (n := n + 34) (ci := 9) (j := 37) rfl rfl rfl rfl).trans ?_
  refine (fs_r (n := n + 32) 2 (pc' := 279) (L' := [some (.ref cM), some (.int x1), some (.int x2), some (.int x3), some (.int x4), some (.int x5), some (.int x6)]) (S' := [.int x3, .ref cM]) rfl).trans ?_
  refine (fs_i (n := n + 31) rfl (t := 289) rfl (by decide)).trans (fs_ite ?_ ?_)
  · skip
    refine (fs_r (n := n + 25) 6 (pc' := 299) (L' := [some (.ref cM), some (.int x1), some (.int x2), some (.int x3), some (.int x4), some (.int x5), some (.int x6)]) (S' := [.int (x7 - 1), .ref 10940, .ref cM]) rfl).trans ?_
    refine (fs_il (n := n + 24) (k := 940) rfl rfl).trans (fs_ite ?_ rfl)
    exact bM_item_300 L xs m d k (n + 0) x1 x2 x3 x4 x5 x6 ((r fM_itemNode).2 ((x7 - 1) : Int32).toNatClampNeg) (upd g fM_items x7) r
  · skip
    refine (fs_r (n := n + 29) 2 (pc' := 286) (L' := [some (.ref cM), some (.int x1), some (.int x2), some (.int x3), some (.int x4), some (.int x5), some (.int x6)]) (S' := [.int (g fM_holder), .ref cM]) rfl).trans ?_
    refine (fs_go (n := n + 28) rfl (t := 300) rfl (by decide)).trans ?_
    exact bM_item_300 L xs m d k (n + 4) x1 x2 x3 x4 x5 x6 (g fM_holder) (upd g fM_items x7) r
def BM_item_223 (L : Nat) (xs : Nat → Int32) (m d k : Nat) (x1 x2 x3 x4 x5 x6 : Int32) (g : a2_G) (r : a2_A) : Option fn_Z := (if am_c2 .eq (g fM_bad) 0 = true then (if am_c2 .ne x2 88 = true then (if am_c2 .eq x3 0 = true then (fn_v (ev L xs m d nM_within [.ref cM, .int x2] (upd g fM_at ((g fM_at) + 1)) r) fun v12 g10 r11 => (BM_item_274 L xs m d k x1 x2 x3 x4 x5 x6 (v12 + 1) g10 r11)) else (BM_item_274 L xs m d k x1 x2 x3 x4 x5 x6 0 (upd g fM_at ((g fM_at) + 1)) r)) else (fn_n (ev L xs m d nM_attach [.ref cM, .int (g fM_latest), .int x5] (upd g fM_at ((g fM_at) + 1)) r) fun g15 r16 => (some (.inl none, g15, r16)))) else (some (.inl none, g, r)))
theorem bM_item_223 (L : Nat) (xs : Nat → Int32) (m d k : Nat) (n : Nat) (x1 x2 x3 x4 x5 x6 : Int32) (g : a2_G) (r : a2_A) : bk L xs nM_item nm_m162 m d k (n + 55) 223 [some (.ref cM), some (.int x1), some (.int x2), some (.int x3), some (.int x4), some (.int x5), some (.int x6)] [] g r = BM_item_223 L xs m d k x1 x2 x3 x4 x5 x6 g r := by
  show _ = ((if am_c2 .eq (g fM_bad) 0 = true then (if am_c2 .ne x2 88 = true then (if am_c2 .eq x3 0 = true then (fn_v (ev L xs m d nM_within [.ref cM, .int x2] (upd g fM_at ((g fM_at) + 1)) r) fun v12 g10 r11 => (BM_item_274 L xs m d k x1 x2 x3 x4 x5 x6 (v12 + 1) g10 r11)) else (BM_item_274 L xs m d k x1 x2 x3 x4 x5 x6 0 (upd g fM_at ((g fM_at) + 1)) r)) else (fn_n (ev L xs m d nM_attach [.ref cM, .int (g fM_latest), .int x5] (upd g fM_at ((g fM_at) + 1)) r) fun g15 r16 => (some (.inl none, g15, r16)))) else (some (.inl none, g, r))) : Option fn_Z)
  refine (fs_r (n := n + 53) 2 (pc' := 227) (L' := [some (.ref cM), some (.int x1), some (.int x2), some (.int x3), some (.int x4), some (.int x5), some (.int x6)]) (S' := [.int (g fM_bad)]) rfl).trans ?_
  refine (fs_i (n := n + 52) rfl (t := 231) rfl (by decide)).trans (fs_ite ?_ ?_)
  · skip
    refine (fs_r (n := n + 47) 5 (pc' := 238) (L' := [some (.ref cM), some (.int x1), some (.int x2), some (.int x3), some (.int x4), some (.int x5), some (.int x6)]) (S' := [.int ((g fM_at) + 1), .ref cM]) rfl).trans ?_
    refine (fs_pf (n := n + 46) (ci := 9) (j := 41) rfl rfl rfl rfl).trans ?_
    refine (fs_r (n := n + 44) 2 (pc' := 244) (L' := [some (.ref cM), some (.int x1), some (.int x2), some (.int x3), some (.int x4), some (.int x5), some (.int x6)]) (S' := [.int 88, .int x2]) rfl).trans ?_
    refine (fs_j (n := n + 43) rfl (t := 258) rfl (by decide)).trans (fs_ite ?_ ?_)
    · skip
      refine (fs_r (n := n + 41) 2 (pc' := 260) (L' := [some (.ref cM), some (.int x1), some (.int x2), some (.int x3), some (.int x4), some (.int x5), some (.int x6)]) (S' := [.int x3, .ref cM]) rfl).trans ?_
      refine (fs_i (n := n + 40) rfl (t := 267) rfl (by decide)).trans (fs_ite ?_ ?_)
      · skip
        refine (fs_r (n := n + 38) 2 (pc' := 269) (L' := [some (.ref cM), some (.int x1), some (.int x2), some (.int x3), some (.int x4), some (.int x5), some (.int x6)]) (S' := [.int x2, .ref cM, .ref cM]) rfl).trans ?_
        refine (fs_cv (n := n + 37) (N := nm_m163) (as := [.ref cM, .int x2]) (rest := [.ref cM]) rfl rfl (Or.inl rfl) rfl rfl rfl rfl rfl).trans (fs_fv fun v12 g10 r11 => ?_)
        refine (fs_r (n := n + 35) 2 (pc' := 274) (L' := [some (.ref cM), some (.int x1), some (.int x2), some (.int x3), some (.int x4), some (.int x5), some (.int x6)]) (S' := [.int (v12 + 1), .ref cM]) rfl).trans ?_
        exact bM_item_274 L xs m d k (n + 0) x1 x2 x3 x4 x5 x6 (v12 + 1) g10 r11
      · skip
        refine (fs_r (n := n + 39) 1 (pc' := 264) (L' := [some (.ref cM), some (.int x1), some (.int x2), some (.int x3), some (.int x4), some (.int x5), some (.int x6)]) (S' := [.int 0, .ref cM]) rfl).trans ?_
        refine (fs_go (n := n + 38) rfl (t := 274) rfl (by decide)).trans ?_
        exact bM_item_274 L xs m d k (n + 3) x1 x2 x3 x4 x5 x6 0 (upd g fM_at ((g fM_at) + 1)) r
    · skip
      refine (fs_r (n := n + 39) 4 (pc' := 254) (L' := [some (.ref cM), some (.int x1), some (.int x2), some (.int x3), some (.int x4), some (.int x5), some (.int x6)]) (S' := [.int x5, .int (g fM_latest), .ref cM]) rfl).trans ?_
      refine (fs_cn (n := n + 38) (N := nm_m173) (as := [.ref cM, .int (g fM_latest), .int x5]) (rest := []) rfl rfl (Or.inl rfl) rfl rfl rfl rfl rfl).trans (fs_fn fun g15 r16 => ?_)
      exact (fs_rv (n := n + 37) rfl rfl).trans rfl
  · skip
    exact (fs_rv (n := n + 51) rfl rfl).trans rfl
def BM_item_207 (L : Nat) (xs : Nat → Int32) (m d k : Nat) (x1 x2 x3 x4 x5 x6 x7 : Int32) (g : a2_G) (r : a2_A) : Option fn_Z := (if am_c2 .eq x7 0 = true then (lp L xs nM_item nm_m162 m d k 178 [some (.ref cM), some (.int x1), some (.int x2), some (.int x3), some (.int x4), some (.int x5), some (.int x7)] g r) else (fn_n (ev L xs m d nM_described2 [.ref cM, .int x5] g r) fun g20 r21 => (lp L xs nM_item nm_m162 m d k 178 [some (.ref cM), some (.int x1), some (.int x2), some (.int x3), some (.int x4), some (.int x5), some (.int x7)] g20 r21)))
theorem bM_item_207 (L : Nat) (xs : Nat → Int32) (m d k : Nat) (n : Nat) (x1 x2 x3 x4 x5 x6 x7 : Int32) (g : a2_G) (r : a2_A) : bk L xs nM_item nm_m162 m d k (n + 7) 207 [some (.ref cM), some (.int x1), some (.int x2), some (.int x3), some (.int x4), some (.int x5), some (.int x6)] [.int x7] g r = BM_item_207 L xs m d k x1 x2 x3 x4 x5 x6 x7 g r := by
  show _ = ((if am_c2 .eq x7 0 = true then (lp L xs nM_item nm_m162 m d k 178 [some (.ref cM), some (.int x1), some (.int x2), some (.int x3), some (.int x4), some (.int x5), some (.int x7)] g r) else (fn_n (ev L xs m d nM_described2 [.ref cM, .int x5] g r) fun g20 r21 => (lp L xs nM_item nm_m162 m d k 178 [some (.ref cM), some (.int x1), some (.int x2), some (.int x3), some (.int x4), some (.int x5), some (.int x7)] g20 r21))) : Option fn_Z)
  refine (fs_r (n := n + 5) 2 (pc' := 211) (L' := [some (.ref cM), some (.int x1), some (.int x2), some (.int x3), some (.int x4), some (.int x5), some (.int x7)]) (S' := [.int x7]) rfl).trans ?_
  refine (fs_ib (n := n + 4) rfl (t := 178) rfl (by decide)).trans (fs_ite ?_ ?_)
  · skip
    exact rfl
  · skip
    refine (fs_r (n := n + 2) 2 (pc' := 217) (L' := [some (.ref cM), some (.int x1), some (.int x2), some (.int x3), some (.int x4), some (.int x5), some (.int x7)]) (S' := [.int x5, .ref cM]) rfl).trans ?_
    refine (fs_cn (n := n + 1) (N := nm_m168) (as := [.ref cM, .int x5]) (rest := []) rfl rfl (Or.inl rfl) rfl rfl rfl rfl rfl).trans (fs_fn fun g20 r21 => ?_)
    exact (fs_gb (n := n + 0) rfl (t := 178) rfl (by decide)).trans rfl
def BM_item_178 (L : Nat) (xs : Nat → Int32) (m d k : Nat) (x1 x2 x3 x4 x5 x6 : Int32) (g : a2_G) (r : a2_A) : Option fn_Z := (if am_c2 .eq x6 0 = true then (BM_item_223 L xs m d k x1 x2 x3 x4 x5 x6 g r) else (if am_c2 .ne (g fM_bad) 0 = true then (BM_item_223 L xs m d k x1 x2 x3 x4 x5 x6 g r) else (fn_v (ev L xs m d nM_isKind [.ref cM, .int (g fM_at), .int 4] g r) fun v19 g17 r18 => (if am_c2 .ne v19 0 = true then (BM_item_207 L xs m d k x1 x2 x3 x4 x5 x6 0 g17 r18) else (BM_item_207 L xs m d k x1 x2 x3 x4 x5 x6 1 g17 r18)))))
theorem bM_item_178 (L : Nat) (xs : Nat → Int32) (m d k : Nat) (n : Nat) (x1 x2 x3 x4 x5 x6 : Int32) (g : a2_G) (r : a2_A) : bk L xs nM_item nm_m162 m d k (n + 60) 178 [some (.ref cM), some (.int x1), some (.int x2), some (.int x3), some (.int x4), some (.int x5), some (.int x6)] [] g r = BM_item_178 L xs m d k x1 x2 x3 x4 x5 x6 g r := by
  show _ = ((if am_c2 .eq x6 0 = true then (BM_item_223 L xs m d k x1 x2 x3 x4 x5 x6 g r) else (if am_c2 .ne (g fM_bad) 0 = true then (BM_item_223 L xs m d k x1 x2 x3 x4 x5 x6 g r) else (fn_v (ev L xs m d nM_isKind [.ref cM, .int (g fM_at), .int 4] g r) fun v19 g17 r18 => (if am_c2 .ne v19 0 = true then (BM_item_207 L xs m d k x1 x2 x3 x4 x5 x6 0 g17 r18) else (BM_item_207 L xs m d k x1 x2 x3 x4 x5 x6 1 g17 r18))))) : Option fn_Z)
  refine (fs_r (n := n + 59) 1 (pc' := 180) (L' := [some (.ref cM), some (.int x1), some (.int x2), some (.int x3), some (.int x4), some (.int x5), some (.int x6)]) (S' := [.int x6]) rfl).trans ?_
  refine (fs_i (n := n + 58) rfl (t := 223) rfl (by decide)).trans (fs_ite ?_ ?_)
  · skip
    exact bM_item_223 L xs m d k (n + 3) x1 x2 x3 x4 x5 x6 g r
  · skip
    refine (fs_r (n := n + 56) 2 (pc' := 187) (L' := [some (.ref cM), some (.int x1), some (.int x2), some (.int x3), some (.int x4), some (.int x5), some (.int x6)]) (S' := [.int (g fM_bad)]) rfl).trans ?_
    refine (fs_i (n := n + 55) rfl (t := 223) rfl (by decide)).trans (fs_ite ?_ ?_)
    · skip
      exact bM_item_223 L xs m d k (n + 0) x1 x2 x3 x4 x5 x6 g r
    · skip
      refine (fs_r (n := n + 51) 4 (pc' := 196) (L' := [some (.ref cM), some (.int x1), some (.int x2), some (.int x3), some (.int x4), some (.int x5), some (.int x6)]) (S' := [.int 4, .int (g fM_at), .ref cM]) rfl).trans ?_
      refine (fs_cv (n := n + 50) (N := nm_m166) (as := [.ref cM, .int (g fM_at), .int 4]) (rest := []) rfl rfl (Or.inl rfl) rfl rfl rfl rfl rfl).trans (fs_fv fun v19 g17 r18 => ?_)
      refine (fs_i (n := n + 49) rfl (t := 206) rfl (by decide)).trans (fs_ite ?_ ?_)
      · skip
        refine (fs_r (n := n + 48) 1 (pc' := 207) (L' := [some (.ref cM), some (.int x1), some (.int x2), some (.int x3), some (.int x4), some (.int x5), some (.int x6)]) (S' := [.int 0]) rfl).trans ?_
        exact bM_item_207 L xs m d k (n + 41) x1 x2 x3 x4 x5 x6 0 g17 r18
      · skip
        refine (fs_r (n := n + 48) 1 (pc' := 203) (L' := [some (.ref cM), some (.int x1), some (.int x2), some (.int x3), some (.int x4), some (.int x5), some (.int x6)]) (S' := [.int 1]) rfl).trans ?_
        refine (fs_go (n := n + 47) rfl (t := 207) rfl (by decide)).trans ?_
        exact bM_item_207 L xs m d k (n + 40) x1 x2 x3 x4 x5 x6 1 g17 r18
theorem lM_item_178 (L : Nat) (xs : Nat → Int32) (m d k : Nat) (x1 x2 x3 x4 x5 x6 : Int32) (g : a2_G) (r : a2_A) : lp L xs nM_item nm_m162 m d (k + 1) 178 [some (.ref cM), some (.int x1), some (.int x2), some (.int x3), some (.int x4), some (.int x5), some (.int x6)] g r = BM_item_178 L xs m d k x1 x2 x3 x4 x5 x6 g r := fs_lp.trans (bM_item_178 L xs m d k 840 x1 x2 x3 x4 x5 x6 g r)
def BM_item_158 (L : Nat) (xs : Nat → Int32) (m d k : Nat) (x1 x2 x3 x4 : Int32) (g : a2_G) (r : a2_A) : Option fn_Z := (fn_v (ev L xs m d nM_make [.ref cM, .int 12, .int ((1000 * x2) + x4), .int x1] g r) fun v9 g7 r8 => (BM_item_178 L xs m d k x1 x2 x3 x4 v9 1 g7 r8))
theorem bM_item_158 (L : Nat) (xs : Nat → Int32) (m d k : Nat) (n : Nat) (x1 x2 x3 x4 : Int32) (g : a2_G) (r : a2_A) : bk L xs nM_item nm_m162 m d k (n + 72) 158 [some (.ref cM), some (.int x1), some (.int x2), some (.int x3), some (.int x4), none, none] [] g r = BM_item_158 L xs m d k x1 x2 x3 x4 g r := by
  show _ = ((fn_v (ev L xs m d nM_make [.ref cM, .int 12, .int ((1000 * x2) + x4), .int x1] g r) fun v9 g7 r8 => (BM_item_178 L xs m d k x1 x2 x3 x4 v9 1 g7 r8)) : Option fn_Z)
  refine (fs_r (n := n + 64) 8 (pc' := 170) (L' := [some (.ref cM), some (.int x1), some (.int x2), some (.int x3), some (.int x4), none, none]) (S' := [.int x1, .int ((1000 * x2) + x4), .int 12, .ref cM]) rfl).trans ?_
  refine (fs_cv (n := n + 63) (N := nm_m160) (as := [.ref cM, .int 12, .int ((1000 * x2) + x4), .int x1]) (rest := []) rfl rfl (Or.inl rfl) rfl rfl rfl rfl rfl).trans (fs_fv fun v9 g7 r8 => ?_)
  refine (fs_r (n := n + 60) 3 (pc' := 178) (L' := [some (.ref cM), some (.int x1), some (.int x2), some (.int x3), some (.int x4), some (.int v9), some (.int 1)]) (S' := []) rfl).trans ?_
  exact bM_item_178 L xs m d k (n + 0) x1 x2 x3 x4 v9 1 g7 r8
def BM_item_115 (L : Nat) (xs : Nat → Int32) (m d k : Nat) (x1 x2 x3 x4 : Int32) (g : a2_G) (r : a2_A) : Option fn_Z := (if am_c2 .le x4 0 = true then (fn_v (ev L xs m d nM_isWord [.ref cM, .int (g fM_at), .int 18] g r) fun v6 g4 r5 => (if am_c2 .eq v6 0 = true then (BM_item_158 L xs m d k x1 x2 x3 x4 g4 r5) else (BM_item_158 L xs m d k x1 x2 x3 x4 (upd g4 fM_at ((g4 fM_at) + 1)) r5))) else (BM_item_158 L xs m d k x1 x2 x3 x4 (upd g fM_at ((g fM_at) + 1)) r))
theorem bM_item_115 (L : Nat) (xs : Nat → Int32) (m d k : Nat) (n : Nat) (x1 x2 x3 x4 : Int32) (g : a2_G) (r : a2_A) : bk L xs nM_item nm_m162 m d k (n + 87) 115 [some (.ref cM), some (.int x1), some (.int x2), some (.int x3), none, none, none] [.int x4] g r = BM_item_115 L xs m d k x1 x2 x3 x4 g r := by
  show _ = ((if am_c2 .le x4 0 = true then (fn_v (ev L xs m d nM_isWord [.ref cM, .int (g fM_at), .int 18] g r) fun v6 g4 r5 => (if am_c2 .eq v6 0 = true then (BM_item_158 L xs m d k x1 x2 x3 x4 g4 r5) else (BM_item_158 L xs m d k x1 x2 x3 x4 (upd g4 fM_at ((g4 fM_at) + 1)) r5))) else (BM_item_158 L xs m d k x1 x2 x3 x4 (upd g fM_at ((g fM_at) + 1)) r)) : Option fn_Z)
  refine (fs_r (n := n + 85) 2 (pc' := 119) (L' := [some (.ref cM), some (.int x1), some (.int x2), some (.int x3), some (.int x4), none, none]) (S' := [.int x4]) rfl).trans ?_
  refine (fs_i (n := n + 84) rfl (t := 135) rfl (by decide)).trans (fs_ite ?_ ?_)
  · skip
    refine (fs_r (n := n + 80) 4 (pc' := 142) (L' := [some (.ref cM), some (.int x1), some (.int x2), some (.int x3), some (.int x4), none, none]) (S' := [.int 18, .int (g fM_at), .ref cM]) rfl).trans ?_
    refine (fs_cv (n := n + 79) (N := nm_m167) (as := [.ref cM, .int (g fM_at), .int 18]) (rest := []) rfl rfl (Or.inl rfl) rfl rfl rfl rfl rfl).trans (fs_fv fun v6 g4 r5 => ?_)
    refine (fs_i (n := n + 78) rfl (t := 158) rfl (by decide)).trans (fs_ite ?_ ?_)
    · skip
      exact bM_item_158 L xs m d k (n + 6) x1 x2 x3 x4 g4 r5
    · skip
      refine (fs_r (n := n + 73) 5 (pc' := 155) (L' := [some (.ref cM), some (.int x1), some (.int x2), some (.int x3), some (.int x4), none, none]) (S' := [.int ((g4 fM_at) + 1), .ref cM]) rfl).trans ?_
      refine (fs_pf (n := n + 72) (ci := 9) (j := 41) rfl rfl rfl rfl).trans ?_
      exact bM_item_158 L xs m d k (n + 0) x1 x2 x3 x4 (upd g4 fM_at ((g4 fM_at) + 1)) r5
  · skip
    refine (fs_r (n := n + 79) 5 (pc' := 129) (L' := [some (.ref cM), some (.int x1), some (.int x2), some (.int x3), some (.int x4), none, none]) (S' := [.int ((g fM_at) + 1), .ref cM]) rfl).trans ?_
    refine (fs_pf (n := n + 78) (ci := 9) (j := 41) rfl rfl rfl rfl).trans ?_
    refine (fs_go (n := n + 77) rfl (t := 158) rfl (by decide)).trans ?_
    exact bM_item_158 L xs m d k (n + 5) x1 x2 x3 x4 (upd g fM_at ((g fM_at) + 1)) r
def BM_item_78 (L : Nat) (xs : Nat → Int32) (m d k : Nat) (x1 x2 x3 : Int32) (g : a2_G) (r : a2_A) : Option fn_Z := (fn_v (ev L xs m d nM_isKind [.ref cM, .int ((g fM_at) + 1), .int 1] (upd g fM_at ((g fM_at) + 1)) r) fun v3 g1 r2 => (if am_c2 .eq v3 0 = true then (BM_item_115 L xs m d k x1 x2 x3 0 g1 r2) else (if am_inr (g1 fM_at) (r2 fM_values).1 = true then (BM_item_115 L xs m d k x1 x2 x3 (((r2 fM_values).2 ((g1 fM_at) : Int32).toNatClampNeg) + 1) g1 r2) else none)))
theorem bM_item_78 (L : Nat) (xs : Nat → Int32) (m d k : Nat) (n : Nat) (x1 x2 x3 : Int32) (g : a2_G) (r : a2_A) : bk L xs nM_item nm_m162 m d k (n + 107) 78 [some (.ref cM), some (.int x1), some (.int x2), some (.int x3), none, none, none] [] g r = BM_item_78 L xs m d k x1 x2 x3 g r := by
  show _ = ((fn_v (ev L xs m d nM_isKind [.ref cM, .int ((g fM_at) + 1), .int 1] (upd g fM_at ((g fM_at) + 1)) r) fun v3 g1 r2 => (if am_c2 .eq v3 0 = true then (BM_item_115 L xs m d k x1 x2 x3 0 g1 r2) else (if am_inr (g1 fM_at) (r2 fM_values).1 = true then (BM_item_115 L xs m d k x1 x2 x3 (((r2 fM_values).2 ((g1 fM_at) : Int32).toNatClampNeg) + 1) g1 r2) else none))) : Option fn_Z)
  refine (fs_r (n := n + 102) 5 (pc' := 85) (L' := [some (.ref cM), some (.int x1), some (.int x2), some (.int x3), none, none, none]) (S' := [.int ((g fM_at) + 1), .ref cM]) rfl).trans ?_
  refine (fs_pf (n := n + 101) (ci := 9) (j := 41) rfl rfl rfl rfl).trans ?_
  refine (fs_r (n := n + 97) 4 (pc' := 94) (L' := [some (.ref cM), some (.int x1), some (.int x2), some (.int x3), none, none, none]) (S' := [.int 1, .int ((g fM_at) + 1), .ref cM]) rfl).trans ?_
  refine (fs_cv (n := n + 96) (N := nm_m166) (as := [.ref cM, .int ((g fM_at) + 1), .int 1]) (rest := []) rfl rfl (Or.inl rfl) rfl rfl rfl rfl rfl).trans (fs_fv fun v3 g1 r2 => ?_)
  refine (fs_i (n := n + 95) rfl (t := 114) rfl (by decide)).trans (fs_ite ?_ ?_)
  · skip
    refine (fs_r (n := n + 94) 1 (pc' := 115) (L' := [some (.ref cM), some (.int x1), some (.int x2), some (.int x3), none, none, none]) (S' := [.int 0]) rfl).trans ?_
    exact bM_item_115 L xs m d k (n + 7) x1 x2 x3 0 g1 r2
  · skip
    refine (fs_r (n := n + 91) 4 (pc' := 108) (L' := [some (.ref cM), some (.int x1), some (.int x2), some (.int x3), none, none, none]) (S' := [.int (g1 fM_at), .ref 10903]) rfl).trans ?_
    refine (fs_il (n := n + 90) (k := 903) rfl rfl).trans (fs_ite ?_ rfl)
    refine (fs_r (n := n + 88) 2 (pc' := 111) (L' := [some (.ref cM), some (.int x1), some (.int x2), some (.int x3), none, none, none]) (S' := [.int (((r2 fM_values).2 ((g1 fM_at) : Int32).toNatClampNeg) + 1)]) rfl).trans ?_
    refine (fs_go (n := n + 87) rfl (t := 115) rfl (by decide)).trans ?_
    exact bM_item_115 L xs m d k (n + 0) x1 x2 x3 (((r2 fM_values).2 ((g1 fM_at) : Int32).toNatClampNeg) + 1) g1 r2
def BM_item_67 (L : Nat) (xs : Nat → Int32) (m d k : Nat) (x1 x2 x3 : Int32) (g : a2_G) (r : a2_A) : Option fn_Z := (fn_v (ev L xs m d nM_fail [.ref cM, .int 1, .int (g fM_at)] g r) fun v27 g25 r26 => (some (.inl none, g25, r26)))
theorem bM_item_67 (L : Nat) (xs : Nat → Int32) (m d k : Nat) (n : Nat) (x1 x2 x3 : Int32) (g : a2_G) (r : a2_A) : bk L xs nM_item nm_m162 m d k (n + 7) 67 [some (.ref cM), some (.int x1), some (.int x2), some (.int x3), none, none, none] [] g r = BM_item_67 L xs m d k x1 x2 x3 g r := by
  show _ = ((fn_v (ev L xs m d nM_fail [.ref cM, .int 1, .int (g fM_at)] g r) fun v27 g25 r26 => (some (.inl none, g25, r26))) : Option fn_Z)
  refine (fs_r (n := n + 3) 4 (pc' := 73) (L' := [some (.ref cM), some (.int x1), some (.int x2), some (.int x3), none, none, none]) (S' := [.int (g fM_at), .int 1, .ref cM]) rfl).trans ?_
  refine (fs_cv (n := n + 2) (N := nm_m164) (as := [.ref cM, .int 1, .int (g fM_at)]) (rest := []) rfl rfl (Or.inl rfl) rfl rfl rfl rfl rfl).trans (fs_fv fun v27 g25 r26 => ?_)
  refine (fs_r (n := n + 1) 1 (pc' := 77) (L' := [some (.ref cM), some (.int x1), some (.int x2), some (.int x3), none, none, none]) (S' := []) rfl).trans ?_
  exact (fs_rv (n := n + 0) rfl rfl).trans rfl
def BM_item_49 (L : Nat) (xs : Nat → Int32) (m d k : Nat) (x1 x2 x3 : Int32) (g : a2_G) (r : a2_A) : Option fn_Z := (fn_v (ev L xs m d nM_in [.int x2, .int 2, .int 49] g r) fun v24 g22 r23 => (if am_c2 .eq v24 0 = true then (BM_item_67 L xs m d k x1 x2 x3 g22 r23) else (fn_v (ev L xs m d nM_within [.ref cM, .int x2] g22 r23) fun v30 g28 r29 => (if am_c2 .ge v30 0 = true then (BM_item_78 L xs m d k x1 x2 x3 g28 r29) else (BM_item_67 L xs m d k x1 x2 x3 g28 r29)))))
theorem bM_item_49 (L : Nat) (xs : Nat → Int32) (m d k : Nat) (n : Nat) (x1 x2 x3 : Int32) (g : a2_G) (r : a2_A) : bk L xs nM_item nm_m162 m d k (n + 116) 49 [some (.ref cM), some (.int x1), some (.int x2), some (.int x3), none, none, none] [] g r = BM_item_49 L xs m d k x1 x2 x3 g r := by
  show _ = ((fn_v (ev L xs m d nM_in [.int x2, .int 2, .int 49] g r) fun v24 g22 r23 => (if am_c2 .eq v24 0 = true then (BM_item_67 L xs m d k x1 x2 x3 g22 r23) else (fn_v (ev L xs m d nM_within [.ref cM, .int x2] g22 r23) fun v30 g28 r29 => (if am_c2 .ge v30 0 = true then (BM_item_78 L xs m d k x1 x2 x3 g28 r29) else (BM_item_67 L xs m d k x1 x2 x3 g28 r29))))) : Option fn_Z)
  refine (fs_r (n := n + 113) 3 (pc' := 53) (L' := [some (.ref cM), some (.int x1), some (.int x2), some (.int x3), none, none, none]) (S' := [.int 49, .int 2, .int x2]) rfl).trans ?_
  refine (fs_sv (n := n + 112) (N := nm_m158) (as := [.int x2, .int 2, .int 49]) (rest := []) rfl rfl (by decide) rfl rfl rfl rfl rfl).trans (fs_fv fun v24 g22 r23 => ?_)
  refine (fs_i (n := n + 111) rfl (t := 67) rfl (by decide)).trans (fs_ite ?_ ?_)
  · skip
    exact bM_item_67 L xs m d k (n + 104) x1 x2 x3 g22 r23
  · skip
    refine (fs_r (n := n + 109) 2 (pc' := 61) (L' := [some (.ref cM), some (.int x1), some (.int x2), some (.int x3), none, none, none]) (S' := [.int x2, .ref cM]) rfl).trans ?_
    refine (fs_cv (n := n + 108) (N := nm_m163) (as := [.ref cM, .int x2]) (rest := []) rfl rfl (Or.inl rfl) rfl rfl rfl rfl rfl).trans (fs_fv fun v30 g28 r29 => ?_)
    refine (fs_i (n := n + 107) rfl (t := 78) rfl (by decide)).trans (fs_ite ?_ ?_)
    · skip
      exact bM_item_78 L xs m d k (n + 0) x1 x2 x3 g28 r29
    · skip
      exact bM_item_67 L xs m d k (n + 100) x1 x2 x3 g28 r29
def BM_item_31 (L : Nat) (xs : Nat → Int32) (m d k : Nat) (x1 x2 x3 : Int32) (g : a2_G) (r : a2_A) : Option fn_Z := (if am_c2 .ne x3 0 = true then (BM_item_78 L xs m d k x1 x2 x3 g r) else (if am_c2 .ne x2 88 = true then (BM_item_49 L xs m d k x1 x2 x3 g r) else (if am_c2 .gt (g fM_latest) 0 = true then (BM_item_78 L xs m d k x1 x2 x3 g r) else (BM_item_49 L xs m d k x1 x2 x3 g r))))
theorem bM_item_31 (L : Nat) (xs : Nat → Int32) (m d k : Nat) (n : Nat) (x1 x2 x3 : Int32) (g : a2_G) (r : a2_A) : bk L xs nM_item nm_m162 m d k (n + 125) 31 [some (.ref cM), some (.int x1), some (.int x2), none, none, none, none] [.int x3] g r = BM_item_31 L xs m d k x1 x2 x3 g r := by
  show _ = ((if am_c2 .ne x3 0 = true then (BM_item_78 L xs m d k x1 x2 x3 g r) else (if am_c2 .ne x2 88 = true then (BM_item_49 L xs m d k x1 x2 x3 g r) else (if am_c2 .gt (g fM_latest) 0 = true then (BM_item_78 L xs m d k x1 x2 x3 g r) else (BM_item_49 L xs m d k x1 x2 x3 g r)))) : Option fn_Z)
  refine (fs_r (n := n + 123) 2 (pc' := 33) (L' := [some (.ref cM), some (.int x1), some (.int x2), some (.int x3), none, none, none]) (S' := [.int x3]) rfl).trans ?_
  refine (fs_i (n := n + 122) rfl (t := 78) rfl (by decide)).trans (fs_ite ?_ ?_)
  · skip
    exact bM_item_78 L xs m d k (n + 15) x1 x2 x3 g r
  · skip
    refine (fs_r (n := n + 120) 2 (pc' := 39) (L' := [some (.ref cM), some (.int x1), some (.int x2), some (.int x3), none, none, none]) (S' := [.int 88, .int x2]) rfl).trans ?_
    refine (fs_j (n := n + 119) rfl (t := 49) rfl (by decide)).trans (fs_ite ?_ ?_)
    · skip
      exact bM_item_49 L xs m d k (n + 3) x1 x2 x3 g r
    · skip
      refine (fs_r (n := n + 117) 2 (pc' := 46) (L' := [some (.ref cM), some (.int x1), some (.int x2), some (.int x3), none, none, none]) (S' := [.int (g fM_latest)]) rfl).trans ?_
      refine (fs_i (n := n + 116) rfl (t := 78) rfl (by decide)).trans (fs_ite ?_ ?_)
      · skip
        exact bM_item_78 L xs m d k (n + 9) x1 x2 x3 g r
      · skip
        exact bM_item_49 L xs m d k (n + 0) x1 x2 x3 g r
def BM_item_26 (L : Nat) (xs : Nat → Int32) (m d k : Nat) (x1 x2 : Int32) (g : a2_G) (r : a2_A) : Option fn_Z := (BM_item_31 L xs m d k x1 x2 1 g r)
theorem bM_item_26 (L : Nat) (xs : Nat → Int32) (m d k : Nat) (n : Nat) (x1 x2 : Int32) (g : a2_G) (r : a2_A) : bk L xs nM_item nm_m162 m d k (n + 127) 26 [some (.ref cM), some (.int x1), some (.int x2), none, none, none, none] [] g r = BM_item_26 L xs m d k x1 x2 g r := by
  show _ = ((BM_item_31 L xs m d k x1 x2 1 g r) : Option fn_Z)
  refine (fs_r (n := n + 126) 1 (pc' := 27) (L' := [some (.ref cM), some (.int x1), some (.int x2), none, none, none, none]) (S' := [.int 1]) rfl).trans ?_
  refine (fs_go (n := n + 125) rfl (t := 31) rfl (by decide)).trans ?_
  exact bM_item_31 L xs m d k (n + 0) x1 x2 1 g r
theorem eM_item (L : Nat) (xs : Nat → Int32) (m d k : Nat) (n : Nat) (g : a2_G) (r : a2_A) : bk L xs nM_item nm_m162 m d k (n + 142) 0 [some (.ref cM), none, none, none, none, none, none] [] g r = (if am_inr (g fM_at) (r fM_values).1 = true then (if am_c2 .eq ((r fM_values).2 ((g fM_at) : Int32).toNatClampNeg) 1 = true then (BM_item_26 L xs m d k (g fM_at) ((r fM_values).2 ((g fM_at) : Int32).toNatClampNeg) g r) else (if am_c2 .ne ((r fM_values).2 ((g fM_at) : Int32).toNatClampNeg) 77 = true then (BM_item_31 L xs m d k (g fM_at) ((r fM_values).2 ((g fM_at) : Int32).toNatClampNeg) 0 g r) else (BM_item_26 L xs m d k (g fM_at) ((r fM_values).2 ((g fM_at) : Int32).toNatClampNeg) g r))) else none) := by
  refine (fs_r (n := n + 135) 7 (pc' := 13) (L' := [some (.ref cM), some (.int (g fM_at)), none, none, none, none, none]) (S' := [.int (g fM_at), .ref 10903]) rfl).trans ?_
  refine (fs_il (n := n + 134) (k := 903) rfl rfl).trans (fs_ite ?_ rfl)
  refine (fs_r (n := n + 131) 3 (pc' := 17) (L' := [some (.ref cM), some (.int (g fM_at)), some (.int ((r fM_values).2 ((g fM_at) : Int32).toNatClampNeg)), none, none, none, none]) (S' := [.int 1, .int ((r fM_values).2 ((g fM_at) : Int32).toNatClampNeg)]) rfl).trans ?_
  refine (fs_j (n := n + 130) rfl (t := 26) rfl (by decide)).trans (fs_ite ?_ ?_)
  · skip
    exact bM_item_26 L xs m d k (n + 3) (g fM_at) ((r fM_values).2 ((g fM_at) : Int32).toNatClampNeg) g r
  · skip
    refine (fs_r (n := n + 128) 2 (pc' := 23) (L' := [some (.ref cM), some (.int (g fM_at)), some (.int ((r fM_values).2 ((g fM_at) : Int32).toNatClampNeg)), none, none, none, none]) (S' := [.int 77, .int ((r fM_values).2 ((g fM_at) : Int32).toNatClampNeg)]) rfl).trans ?_
    refine (fs_j (n := n + 127) rfl (t := 30) rfl (by decide)).trans (fs_ite ?_ ?_)
    · skip
      refine (fs_r (n := n + 126) 1 (pc' := 31) (L' := [some (.ref cM), some (.int (g fM_at)), some (.int ((r fM_values).2 ((g fM_at) : Int32).toNatClampNeg)), none, none, none, none]) (S' := [.int 0]) rfl).trans ?_
      exact bM_item_31 L xs m d k (n + 1) (g fM_at) ((r fM_values).2 ((g fM_at) : Int32).toNatClampNeg) 0 g r
    · skip
      exact bM_item_26 L xs m d k (n + 0) (g fM_at) ((r fM_values).2 ((g fM_at) : Int32).toNatClampNeg) g r
theorem qM_item (L : Nat) (xs : Nat → Int32) (m d : Nat) (g : a2_G) (r : a2_A) : ev L xs (m + 1) (d + 1) nM_item [.ref cM] g r = (if am_inr (g fM_at) (r fM_values).1 = true then (if am_c2 .eq ((r fM_values).2 ((g fM_at) : Int32).toNatClampNeg) 1 = true then (BM_item_26 L xs (m + 1) d m (g fM_at) ((r fM_values).2 ((g fM_at) : Int32).toNatClampNeg) g r) else (if am_c2 .ne ((r fM_values).2 ((g fM_at) : Int32).toNatClampNeg) 77 = true then (BM_item_31 L xs (m + 1) d m (g fM_at) ((r fM_values).2 ((g fM_at) : Int32).toNatClampNeg) 0 g r) else (BM_item_26 L xs (m + 1) d m (g fM_at) ((r fM_values).2 ((g fM_at) : Int32).toNatClampNeg) g r))) else none) := (fs_ev (M := nm_m162) rfl rfl).trans (eM_item L xs (m + 1) d m 758 g r)
/-- CobolParserModel.within(I)I -/
def BM_within_27 (L : Nat) (xs : Nat → Int32) (m d k : Nat) (x1 x2 : Int32) (g : a2_G) (r : a2_A) : Option fn_Z := (some (.inl (some (.int x2)), g, r))
theorem bM_within_27 (L : Nat) (xs : Nat → Int32) (m d k : Nat) (n : Nat) (x1 x2 : Int32) (g : a2_G) (r : a2_A) : bk L xs nM_within nm_m163 m d k (n + 2) 27 [some (.ref cM), some (.int x1), some (.int x2)] [] g r = BM_within_27 L xs m d k x1 x2 g r := by
  show _ = ((some (.inl (some (.int x2)), g, r)) : Option fn_Z)
  refine (fs_r (n := n + 1) 1 (pc' := 28) (L' := [some (.ref cM), some (.int x1), some (.int x2)]) (S' := [.int x2]) rfl).trans ?_
  exact (fs_ri (n := n + 0) rfl rfl).trans rfl
def BM_within_7 (L : Nat) (xs : Nat → Int32) (m d k : Nat) (x1 x2 : Int32) (g : a2_G) (r : a2_A) : Option fn_Z := (if am_c2 .lt x2 0 = true then (BM_within_27 L xs m d k x1 x2 g r) else (if am_inr x2 (r fM_levels).1 = true then (if am_c2 .lt ((r fM_levels).2 (x2 : Int32).toNatClampNeg) x1 = true then (BM_within_27 L xs m d k x1 x2 g r) else (lp L xs nM_within nm_m163 m d k 7 [some (.ref cM), some (.int x1), some (.int (x2 + (-1)))] g r)) else none))
theorem bM_within_7 (L : Nat) (xs : Nat → Int32) (m d k : Nat) (n : Nat) (x1 x2 : Int32) (g : a2_G) (r : a2_A) : bk L xs nM_within nm_m163 m d k (n + 10) 7 [some (.ref cM), some (.int x1), some (.int x2)] [] g r = BM_within_7 L xs m d k x1 x2 g r := by
  show _ = ((if am_c2 .lt x2 0 = true then (BM_within_27 L xs m d k x1 x2 g r) else (if am_inr x2 (r fM_levels).1 = true then (if am_c2 .lt ((r fM_levels).2 (x2 : Int32).toNatClampNeg) x1 = true then (BM_within_27 L xs m d k x1 x2 g r) else (lp L xs nM_within nm_m163 m d k 7 [some (.ref cM), some (.int x1), some (.int (x2 + (-1)))] g r)) else none)) : Option fn_Z)
  refine (fs_r (n := n + 9) 1 (pc' := 8) (L' := [some (.ref cM), some (.int x1), some (.int x2)]) (S' := [.int x2]) rfl).trans ?_
  refine (fs_i (n := n + 8) rfl (t := 27) rfl (by decide)).trans (fs_ite ?_ ?_)
  · skip
    exact bM_within_27 L xs m d k (n + 6) x1 x2 g r
  · skip
    refine (fs_r (n := n + 5) 3 (pc' := 16) (L' := [some (.ref cM), some (.int x1), some (.int x2)]) (S' := [.int x2, .ref 10939]) rfl).trans ?_
    refine (fs_il (n := n + 4) (k := 939) rfl rfl).trans (fs_ite ?_ rfl)
    refine (fs_r (n := n + 3) 1 (pc' := 18) (L' := [some (.ref cM), some (.int x1), some (.int x2)]) (S' := [.int x1, .int ((r fM_levels).2 (x2 : Int32).toNatClampNeg)]) rfl).trans ?_
    refine (fs_j (n := n + 2) rfl (t := 27) rfl (by decide)).trans (fs_ite ?_ ?_)
    · skip
      exact bM_within_27 L xs m d k (n + 0) x1 x2 g r
    · skip
      refine (fs_r (n := n + 1) 1 (pc' := 24) (L' := [some (.ref cM), some (.int x1), some (.int (x2 + (-1)))]) (S' := []) rfl).trans ?_
      exact (fs_gb (n := n + 0) rfl (t := 7) rfl (by decide)).trans rfl
theorem lM_within_7 (L : Nat) (xs : Nat → Int32) (m d k : Nat) (x1 x2 : Int32) (g : a2_G) (r : a2_A) : lp L xs nM_within nm_m163 m d (k + 1) 7 [some (.ref cM), some (.int x1), some (.int x2)] g r = BM_within_7 L xs m d k x1 x2 g r := fs_lp.trans (bM_within_7 L xs m d k 890 x1 x2 g r)
theorem eM_within (L : Nat) (xs : Nat → Int32) (m d k : Nat) (n : Nat) (a1 : Int32) (g : a2_G) (r : a2_A) : bk L xs nM_within nm_m163 m d k (n + 15) 0 [some (.ref cM), some (.int a1), none] [] g r = (BM_within_7 L xs m d k a1 ((g fM_items) - 1) g r) := by
  refine (fs_r (n := n + 10) 5 (pc' := 7) (L' := [some (.ref cM), some (.int a1), some (.int ((g fM_items) - 1))]) (S' := []) rfl).trans ?_
  exact bM_within_7 L xs m d k (n + 0) a1 ((g fM_items) - 1) g r
theorem qM_within (L : Nat) (xs : Nat → Int32) (m d : Nat) (a1 : Int32) (g : a2_G) (r : a2_A) : ev L xs (m + 1) (d + 1) nM_within [.ref cM, .int a1] g r = (BM_within_7 L xs (m + 1) d m a1 ((g fM_items) - 1) g r) := (fs_ev (M := nm_m163) rfl rfl).trans (eM_within L xs (m + 1) d m 885 a1 g r)
/-- CobolParserModel.fail(II)Z -/
def BM_fail_29 (L : Nat) (xs : Nat → Int32) (m d k : Nat) (x1 x2 x3 : Int32) (g : a2_G) (r : a2_A) : Option fn_Z := (some (.inl (some (.int 0)), (upd (upd g fM_failed x3) fM_bad 1), r))
theorem bM_fail_29 (L : Nat) (xs : Nat → Int32) (m d k : Nat) (n : Nat) (x1 x2 x3 : Int32) (g : a2_G) (r : a2_A) : bk L xs nM_fail nm_m164 m d k (n + 6) 29 [some (.ref cM), some (.int x1), some (.int x2)] [.int x3, .ref cM] g r = BM_fail_29 L xs m d k x1 x2 x3 g r := by
  show _ = ((some (.inl (some (.int 0)), (upd (upd g fM_failed x3) fM_bad 1), r)) : Option fn_Z)
  refine (fs_pf (n := n + 5) (ci := 9) (j := 42) rfl rfl rfl rfl).trans ?_
  refine (fs_r (n := n + 3) 2 (pc' := 34) (L' := [some (.ref cM), some (.int x1), some (.int x2)]) (S' := [.int 1, .ref cM]) rfl).trans ?_
  refine (fs_pb (n := n + 2) (ci := 9) (j := 43) rfl rfl rfl rfl).trans ((if_pos (by decide)).trans ?_)
  refine (fs_r (n := n + 1) 1 (pc' := 38) (L' := [some (.ref cM), some (.int x1), some (.int x2)]) (S' := [.int 0]) rfl).trans ?_
  exact (fs_rb (n := n + 0) rfl rfl).trans ((if_pos (by decide)).trans rfl)
def BM_fail_13 (L : Nat) (xs : Nat → Int32) (m d k : Nat) (x1 x2 : Int32) (g : a2_G) (r : a2_A) : Option fn_Z := (if am_c2 .eq (g fM_bad) 0 = true then (BM_fail_29 L xs m d k x1 x2 x2 g r) else (BM_fail_29 L xs m d k x1 x2 (g fM_failed) g r))
theorem bM_fail_13 (L : Nat) (xs : Nat → Int32) (m d k : Nat) (n : Nat) (x1 x2 : Int32) (g : a2_G) (r : a2_A) : bk L xs nM_fail nm_m164 m d k (n + 13) 13 [some (.ref cM), some (.int x1), some (.int x2)] [] g r = BM_fail_13 L xs m d k x1 x2 g r := by
  show _ = ((if am_c2 .eq (g fM_bad) 0 = true then (BM_fail_29 L xs m d k x1 x2 x2 g r) else (BM_fail_29 L xs m d k x1 x2 (g fM_failed) g r)) : Option fn_Z)
  refine (fs_r (n := n + 10) 3 (pc' := 18) (L' := [some (.ref cM), some (.int x1), some (.int x2)]) (S' := [.int (g fM_bad), .ref cM]) rfl).trans ?_
  refine (fs_i (n := n + 9) rfl (t := 28) rfl (by decide)).trans (fs_ite ?_ ?_)
  · skip
    refine (fs_r (n := n + 8) 1 (pc' := 29) (L' := [some (.ref cM), some (.int x1), some (.int x2)]) (S' := [.int x2, .ref cM]) rfl).trans ?_
    exact bM_fail_29 L xs m d k (n + 2) x1 x2 x2 g r
  · skip
    refine (fs_r (n := n + 7) 2 (pc' := 25) (L' := [some (.ref cM), some (.int x1), some (.int x2)]) (S' := [.int (g fM_failed), .ref cM]) rfl).trans ?_
    refine (fs_go (n := n + 6) rfl (t := 29) rfl (by decide)).trans ?_
    exact bM_fail_29 L xs m d k (n + 0) x1 x2 (g fM_failed) g r
theorem eM_fail (L : Nat) (xs : Nat → Int32) (m d k : Nat) (n : Nat) (a1 a2 : Int32) (g : a2_G) (r : a2_A) : bk L xs nM_fail nm_m164 m d k (n + 20) 0 [some (.ref cM), some (.int a1), some (.int a2)] [] g r = (if am_c2 .ne (g fM_bad) 0 = true then (BM_fail_13 L xs m d k a1 a2 g r) else (fn_n (ev L xs m d nM_note [.ref cM, .int a1, .int a2] g r) fun g1 r2 => (BM_fail_13 L xs m d k a1 a2 g1 r2))) := by
  refine (fs_r (n := n + 18) 2 (pc' := 4) (L' := [some (.ref cM), some (.int a1), some (.int a2)]) (S' := [.int (g fM_bad)]) rfl).trans ?_
  refine (fs_i (n := n + 17) rfl (t := 13) rfl (by decide)).trans (fs_ite ?_ ?_)
  · skip
    exact bM_fail_13 L xs m d k (n + 4) a1 a2 g r
  · skip
    refine (fs_r (n := n + 14) 3 (pc' := 10) (L' := [some (.ref cM), some (.int a1), some (.int a2)]) (S' := [.int a2, .int a1, .ref cM]) rfl).trans ?_
    refine (fs_cn (n := n + 13) (N := nm_m165) (as := [.ref cM, .int a1, .int a2]) (rest := []) rfl rfl (Or.inl rfl) rfl rfl rfl rfl rfl).trans (fs_fn fun g1 r2 => ?_)
    exact bM_fail_13 L xs m d k (n + 0) a1 a2 g1 r2
theorem qM_fail (L : Nat) (xs : Nat → Int32) (m d : Nat) (a1 a2 : Int32) (g : a2_G) (r : a2_A) : ev L xs (m + 1) (d + 1) nM_fail [.ref cM, .int a1, .int a2] g r = (if am_c2 .ne (g fM_bad) 0 = true then (BM_fail_13 L xs (m + 1) d m a1 a2 g r) else (fn_n (ev L xs (m + 1) d nM_note [.ref cM, .int a1, .int a2] g r) fun g1 r2 => (BM_fail_13 L xs (m + 1) d m a1 a2 g1 r2))) := (fs_ev (M := nm_m164) rfl rfl).trans (eM_fail L xs (m + 1) d m 880 a1 a2 g r)
/-- CobolParserModel.note(II)V -/
theorem eM_note (L : Nat) (xs : Nat → Int32) (m d k : Nat) (n : Nat) (a1 a2 : Int32) (g : a2_G) (r : a2_A) : bk L xs nM_note nm_m165 m d k (n + 23) 0 [some (.ref cM), some (.int a1), some (.int a2)] [] g r = (if am_c2 .ne (g fM_faults) 20 = true then (if am_inr (g fM_faults) (r fM_faultNumber).1 = true then (if am_inr (g fM_faults) (r fM_faultWord).1 = true then (some (.inl none, (upd g fM_faults ((g fM_faults) + 1)), (a2_ua (a2_ua r fM_faultNumber ((r fM_faultNumber).1, (upd (r fM_faultNumber).2 ((g fM_faults) : Int32).toNatClampNeg a1))) fM_faultWord ((r fM_faultWord).1, (upd (r fM_faultWord).2 ((g fM_faults) : Int32).toNatClampNeg a2))))) else none) else none) else (some (.inl none, g, r))) := by
  refine (fs_r (n := n + 20) 3 (pc' := 6) (L' := [some (.ref cM), some (.int a1), some (.int a2)]) (S' := [.int 20, .int (g fM_faults)]) rfl).trans ?_
  refine (fs_j (n := n + 19) rfl (t := 10) rfl (by decide)).trans (fs_ite ?_ ?_)
  · skip
    refine (fs_r (n := n + 14) 5 (pc' := 19) (L' := [some (.ref cM), some (.int a1), some (.int a2)]) (S' := [.int a1, .int (g fM_faults), .ref 10906]) rfl).trans ?_
    refine (fs_is (n := n + 13) (k := 906) rfl rfl).trans (fs_ite ?_ rfl)
    refine (fs_r (n := n + 8) 5 (pc' := 29) (L' := [some (.ref cM), some (.int a1), some (.int a2)]) (S' := [.int a2, .int (g fM_faults), .ref 10907]) rfl).trans ?_
    refine (fs_is (n := n + 7) (k := 907) rfl rfl).trans (fs_ite ?_ rfl)
    refine (fs_r (n := n + 2) 5 (pc' := 37) (L' := [some (.ref cM), some (.int a1), some (.int a2)]) (S' := [.int ((g fM_faults) + 1), .ref cM]) rfl).trans ?_
    refine (fs_pf (n := n + 1) (ci := 9) (j := 5) rfl rfl rfl rfl).trans ?_
    exact (fs_rv (n := n + 0) rfl rfl).trans rfl
  · skip
    exact (fs_rv (n := n + 18) rfl rfl).trans rfl
theorem qM_note (L : Nat) (xs : Nat → Int32) (m d : Nat) (a1 a2 : Int32) (g : a2_G) (r : a2_A) : ev L xs (m + 1) (d + 1) nM_note [.ref cM, .int a1, .int a2] g r = (if am_c2 .ne (g fM_faults) 20 = true then (if am_inr (g fM_faults) (r fM_faultNumber).1 = true then (if am_inr (g fM_faults) (r fM_faultWord).1 = true then (some (.inl none, (upd g fM_faults ((g fM_faults) + 1)), (a2_ua (a2_ua r fM_faultNumber ((r fM_faultNumber).1, (upd (r fM_faultNumber).2 ((g fM_faults) : Int32).toNatClampNeg a1))) fM_faultWord ((r fM_faultWord).1, (upd (r fM_faultWord).2 ((g fM_faults) : Int32).toNatClampNeg a2))))) else none) else none) else (some (.inl none, g, r))) := (fs_ev (M := nm_m165) rfl rfl).trans (eM_note L xs (m + 1) d m 877 a1 a2 g r)
/-- CobolParserModel.isKind(II)Z -/
def BM_isKind_23 (L : Nat) (xs : Nat → Int32) (m d k : Nat) (x1 x2 x3 : Int32) (g : a2_G) (r : a2_A) : Option fn_Z := (if x3 = 0 ∨ x3 = 1 then some (.inl (some (.int x3)), g, r) else none)
theorem bM_isKind_23 (L : Nat) (xs : Nat → Int32) (m d k : Nat) (n : Nat) (x1 x2 x3 : Int32) (g : a2_G) (r : a2_A) : bk L xs nM_isKind nm_m166 m d k (n + 1) 23 [some (.ref cM), some (.int x1), some (.int x2)] [.int x3] g r = BM_isKind_23 L xs m d k x1 x2 x3 g r := by
  show _ = ((if x3 = 0 ∨ x3 = 1 then some (.inl (some (.int x3)), g, r) else none) : Option fn_Z)
  exact (fs_rb (n := n + 0) rfl rfl).trans rfl
def BM_isKind_22 (L : Nat) (xs : Nat → Int32) (m d k : Nat) (x1 x2 : Int32) (g : a2_G) (r : a2_A) : Option fn_Z := (BM_isKind_23 L xs m d k x1 x2 0 g r)
theorem bM_isKind_22 (L : Nat) (xs : Nat → Int32) (m d k : Nat) (n : Nat) (x1 x2 : Int32) (g : a2_G) (r : a2_A) : bk L xs nM_isKind nm_m166 m d k (n + 2) 22 [some (.ref cM), some (.int x1), some (.int x2)] [] g r = BM_isKind_22 L xs m d k x1 x2 g r := by
  show _ = ((BM_isKind_23 L xs m d k x1 x2 0 g r) : Option fn_Z)
  refine (fs_r (n := n + 1) 1 (pc' := 23) (L' := [some (.ref cM), some (.int x1), some (.int x2)]) (S' := [.int 0]) rfl).trans ?_
  exact bM_isKind_23 L xs m d k (n + 0) x1 x2 0 g r
theorem eM_isKind (L : Nat) (xs : Nat → Int32) (m d k : Nat) (n : Nat) (a1 a2 : Int32) (g : a2_G) (r : a2_A) : bk L xs nM_isKind nm_m166 m d k (n + 13) 0 [some (.ref cM), some (.int a1), some (.int a2)] [] g r = (if am_c2 .ge a1 (g fM_n) = true then (BM_isKind_22 L xs m d k a1 a2 g r) else (if am_inr a1 (r fM_kinds).1 = true then (if am_c2 .ne ((r fM_kinds).2 (a1 : Int32).toNatClampNeg) a2 = true then (BM_isKind_22 L xs m d k a1 a2 g r) else (BM_isKind_23 L xs m d k a1 a2 1 g r)) else none)) := by
  refine (fs_r (n := n + 10) 3 (pc' := 5) (L' := [some (.ref cM), some (.int a1), some (.int a2)]) (S' := [.int (g fM_n), .int a1]) rfl).trans ?_
  refine (fs_j (n := n + 9) rfl (t := 22) rfl (by decide)).trans (fs_ite ?_ ?_)
  · skip
    exact bM_isKind_22 L xs m d k (n + 7) a1 a2 g r
  · skip
    refine (fs_r (n := n + 6) 3 (pc' := 13) (L' := [some (.ref cM), some (.int a1), some (.int a2)]) (S' := [.int a1, .ref 10902]) rfl).trans ?_
    refine (fs_il (n := n + 5) (k := 902) rfl rfl).trans (fs_ite ?_ rfl)
    refine (fs_r (n := n + 4) 1 (pc' := 15) (L' := [some (.ref cM), some (.int a1), some (.int a2)]) (S' := [.int a2, .int ((r fM_kinds).2 (a1 : Int32).toNatClampNeg)]) rfl).trans ?_
    refine (fs_j (n := n + 3) rfl (t := 22) rfl (by decide)).trans (fs_ite ?_ ?_)
    · skip
      exact bM_isKind_22 L xs m d k (n + 1) a1 a2 g r
    · skip
      refine (fs_r (n := n + 2) 1 (pc' := 19) (L' := [some (.ref cM), some (.int a1), some (.int a2)]) (S' := [.int 1]) rfl).trans ?_
      refine (fs_go (n := n + 1) rfl (t := 23) rfl (by decide)).trans ?_
      exact bM_isKind_23 L xs m d k (n + 0) a1 a2 1 g r
theorem qM_isKind (L : Nat) (xs : Nat → Int32) (m d : Nat) (a1 a2 : Int32) (g : a2_G) (r : a2_A) : ev L xs (m + 1) (d + 1) nM_isKind [.ref cM, .int a1, .int a2] g r = (if am_c2 .ge a1 (g fM_n) = true then (BM_isKind_22 L xs (m + 1) d m a1 a2 g r) else (if am_inr a1 (r fM_kinds).1 = true then (if am_c2 .ne ((r fM_kinds).2 (a1 : Int32).toNatClampNeg) a2 = true then (BM_isKind_22 L xs (m + 1) d m a1 a2 g r) else (BM_isKind_23 L xs (m + 1) d m a1 a2 1 g r)) else none)) := (fs_ev (M := nm_m166) rfl rfl).trans (eM_isKind L xs (m + 1) d m 887 a1 a2 g r)
/-- CobolParserModel.isWord(II)Z -/
def BM_isWord_24 (L : Nat) (xs : Nat → Int32) (m d k : Nat) (x1 x2 x3 : Int32) (g : a2_G) (r : a2_A) : Option fn_Z := (if x3 = 0 ∨ x3 = 1 then some (.inl (some (.int x3)), g, r) else none)
theorem bM_isWord_24 (L : Nat) (xs : Nat → Int32) (m d k : Nat) (n : Nat) (x1 x2 x3 : Int32) (g : a2_G) (r : a2_A) : bk L xs nM_isWord nm_m167 m d k (n + 1) 24 [some (.ref cM), some (.int x1), some (.int x2)] [.int x3] g r = BM_isWord_24 L xs m d k x1 x2 x3 g r := by
  show _ = ((if x3 = 0 ∨ x3 = 1 then some (.inl (some (.int x3)), g, r) else none) : Option fn_Z)
  exact (fs_rb (n := n + 0) rfl rfl).trans rfl
def BM_isWord_23 (L : Nat) (xs : Nat → Int32) (m d k : Nat) (x1 x2 : Int32) (g : a2_G) (r : a2_A) : Option fn_Z := (BM_isWord_24 L xs m d k x1 x2 0 g r)
theorem bM_isWord_23 (L : Nat) (xs : Nat → Int32) (m d k : Nat) (n : Nat) (x1 x2 : Int32) (g : a2_G) (r : a2_A) : bk L xs nM_isWord nm_m167 m d k (n + 2) 23 [some (.ref cM), some (.int x1), some (.int x2)] [] g r = BM_isWord_23 L xs m d k x1 x2 g r := by
  show _ = ((BM_isWord_24 L xs m d k x1 x2 0 g r) : Option fn_Z)
  refine (fs_r (n := n + 1) 1 (pc' := 24) (L' := [some (.ref cM), some (.int x1), some (.int x2)]) (S' := [.int 0]) rfl).trans ?_
  exact bM_isWord_24 L xs m d k (n + 0) x1 x2 0 g r
theorem eM_isWord (L : Nat) (xs : Nat → Int32) (m d k : Nat) (n : Nat) (a1 a2 : Int32) (g : a2_G) (r : a2_A) : bk L xs nM_isWord nm_m167 m d k (n + 14) 0 [some (.ref cM), some (.int a1), some (.int a2)] [] g r = (fn_v (ev L xs m d nM_isKind [.ref cM, .int a1, .int 0] g r) fun v3 g1 r2 => (if am_c2 .eq v3 0 = true then (BM_isWord_23 L xs m d k a1 a2 g1 r2) else (if am_inr a1 (r2 fM_values).1 = true then (if am_c2 .ne ((r2 fM_values).2 (a1 : Int32).toNatClampNeg) a2 = true then (BM_isWord_23 L xs m d k a1 a2 g1 r2) else (BM_isWord_24 L xs m d k a1 a2 1 g1 r2)) else none))) := by
  refine (fs_r (n := n + 11) 3 (pc' := 3) (L' := [some (.ref cM), some (.int a1), some (.int a2)]) (S' := [.int 0, .int a1, .ref cM]) rfl).trans ?_
  refine (fs_cv (n := n + 10) (N := nm_m166) (as := [.ref cM, .int a1, .int 0]) (rest := []) rfl rfl (Or.inl rfl) rfl rfl rfl rfl rfl).trans (fs_fv fun v3 g1 r2 => ?_)
  refine (fs_i (n := n + 9) rfl (t := 23) rfl (by decide)).trans (fs_ite ?_ ?_)
  · skip
    exact bM_isWord_23 L xs m d k (n + 7) a1 a2 g1 r2
  · skip
    refine (fs_r (n := n + 6) 3 (pc' := 14) (L' := [some (.ref cM), some (.int a1), some (.int a2)]) (S' := [.int a1, .ref 10903]) rfl).trans ?_
    refine (fs_il (n := n + 5) (k := 903) rfl rfl).trans (fs_ite ?_ rfl)
    refine (fs_r (n := n + 4) 1 (pc' := 16) (L' := [some (.ref cM), some (.int a1), some (.int a2)]) (S' := [.int a2, .int ((r2 fM_values).2 (a1 : Int32).toNatClampNeg)]) rfl).trans ?_
    refine (fs_j (n := n + 3) rfl (t := 23) rfl (by decide)).trans (fs_ite ?_ ?_)
    · skip
      exact bM_isWord_23 L xs m d k (n + 1) a1 a2 g1 r2
    · skip
      refine (fs_r (n := n + 2) 1 (pc' := 20) (L' := [some (.ref cM), some (.int a1), some (.int a2)]) (S' := [.int 1]) rfl).trans ?_
      refine (fs_go (n := n + 1) rfl (t := 24) rfl (by decide)).trans ?_
      exact bM_isWord_24 L xs m d k (n + 0) a1 a2 1 g1 r2
theorem qM_isWord (L : Nat) (xs : Nat → Int32) (m d : Nat) (a1 a2 : Int32) (g : a2_G) (r : a2_A) : ev L xs (m + 1) (d + 1) nM_isWord [.ref cM, .int a1, .int a2] g r = (fn_v (ev L xs (m + 1) d nM_isKind [.ref cM, .int a1, .int 0] g r) fun v3 g1 r2 => (if am_c2 .eq v3 0 = true then (BM_isWord_23 L xs (m + 1) d m a1 a2 g1 r2) else (if am_inr a1 (r2 fM_values).1 = true then (if am_c2 .ne ((r2 fM_values).2 (a1 : Int32).toNatClampNeg) a2 = true then (BM_isWord_23 L xs (m + 1) d m a1 a2 g1 r2) else (BM_isWord_24 L xs (m + 1) d m a1 a2 1 g1 r2)) else none))) := (fs_ev (M := nm_m167) rfl rfl).trans (eM_isWord L xs (m + 1) d m 886 a1 a2 g r)
/-- CobolParserModel.described2(I)V -/
def BM_described2_320 (L : Nat) (xs : Nat → Int32) (m d k : Nat) (x1 x2 x3 x4 : Int32) (g : a2_G) (r : a2_A) : Option fn_Z := (some (.inl none, g, r))
theorem bM_described2_320 (L : Nat) (xs : Nat → Int32) (m d k : Nat) (n : Nat) (x1 x2 x3 x4 : Int32) (g : a2_G) (r : a2_A) : bk L xs nM_described2 nm_m168 m d k (n + 1) 320 [some (.ref cM), some (.int x1), some (.int x2), some (.int x3), some (.int x4), none, none] [] g r = BM_described2_320 L xs m d k x1 x2 x3 x4 g r := by
  show _ = ((some (.inl none, g, r)) : Option fn_Z)
  exact (fs_rv (n := n + 0) rfl rfl).trans rfl
def BM_described2_320_1 (L : Nat) (xs : Nat → Int32) (m d k : Nat) (x1 x2 x3 x4 x5 : Int32) (g : a2_G) (r : a2_A) : Option fn_Z := (some (.inl none, g, r))
theorem bM_described2_320_1 (L : Nat) (xs : Nat → Int32) (m d k : Nat) (n : Nat) (x1 x2 x3 x4 x5 : Int32) (g : a2_G) (r : a2_A) : bk L xs nM_described2 nm_m168 m d k (n + 1) 320 [some (.ref cM), some (.int x1), some (.int x2), some (.int x3), some (.int x4), some (.int x5), none] [] g r = BM_described2_320_1 L xs m d k x1 x2 x3 x4 x5 g r := by
  show _ = ((some (.inl none, g, r)) : Option fn_Z)
  exact (fs_rv (n := n + 0) rfl rfl).trans rfl
def BM_described2_313 (L : Nat) (xs : Nat → Int32) (m d k : Nat) (x1 x2 x3 x4 : Int32) (g : a2_G) (r : a2_A) : Option fn_Z := (fn_v (ev L xs m d nM_fail [.ref cM, .int 1, .int x2] g r) fun v29 g27 r28 => (BM_described2_320 L xs m d k x1 x2 x3 x4 g27 r28))
theorem bM_described2_313 (L : Nat) (xs : Nat → Int32) (m d k : Nat) (n : Nat) (x1 x2 x3 x4 : Int32) (g : a2_G) (r : a2_A) : bk L xs nM_described2 nm_m168 m d k (n + 6) 313 [some (.ref cM), some (.int x1), some (.int x2), some (.int x3), some (.int x4), none, none] [] g r = BM_described2_313 L xs m d k x1 x2 x3 x4 g r := by
  show _ = ((fn_v (ev L xs m d nM_fail [.ref cM, .int 1, .int x2] g r) fun v29 g27 r28 => (BM_described2_320 L xs m d k x1 x2 x3 x4 g27 r28)) : Option fn_Z)
  refine (fs_r (n := n + 3) 3 (pc' := 316) (L' := [some (.ref cM), some (.int x1), some (.int x2), some (.int x3), some (.int x4), none, none]) (S' := [.int x2, .int 1, .ref cM]) rfl).trans ?_
  refine (fs_cv (n := n + 2) (N := nm_m164) (as := [.ref cM, .int 1, .int x2]) (rest := []) rfl rfl (Or.inl rfl) rfl rfl rfl rfl rfl).trans (fs_fv fun v29 g27 r28 => ?_)
  refine (fs_r (n := n + 1) 1 (pc' := 320) (L' := [some (.ref cM), some (.int x1), some (.int x2), some (.int x3), some (.int x4), none, none]) (S' := []) rfl).trans ?_
  exact bM_described2_320 L xs m d k (n + 0) x1 x2 x3 x4 g27 r28
def BM_described2_320_2 (L : Nat) (xs : Nat → Int32) (m d k : Nat) (x1 x2 x3 x4 x5 : Int32) (g : a2_G) (r : a2_A) : Option fn_Z := (some (.inl none, g, r))
theorem bM_described2_320_2 (L : Nat) (xs : Nat → Int32) (m d k : Nat) (n : Nat) (x1 x2 x3 x4 x5 : Int32) (g : a2_G) (r : a2_A) : bk L xs nM_described2 nm_m168 m d k (n + 1) 320 [some (.ref cM), some (.int x1), some (.int x2), some (.int x3), some (.int x4), none, some (.int x5)] [] g r = BM_described2_320_2 L xs m d k x1 x2 x3 x4 x5 g r := by
  show _ = ((some (.inl none, g, r)) : Option fn_Z)
  exact (fs_rv (n := n + 0) rfl rfl).trans rfl
def BM_described2_282 (L : Nat) (xs : Nat → Int32) (m d k : Nat) (x1 x2 x3 x4 x5 : Int32) (g : a2_G) (r : a2_A) : Option fn_Z := (if am_c2 .eq x5 0 = true then (fn_v (ev L xs m d nM_fail [.ref cM, .int 1, .int (g fM_at)] g r) fun v45 g43 r44 => (BM_described2_320_2 L xs m d k x1 x2 x3 x4 x5 g43 r44)) else (BM_described2_320_2 L xs m d k x1 x2 x3 x4 x5 (upd g fM_at ((g fM_at) + 1)) r))
theorem bM_described2_282 (L : Nat) (xs : Nat → Int32) (m d k : Nat) (n : Nat) (x1 x2 x3 x4 x5 : Int32) (g : a2_G) (r : a2_A) : bk L xs nM_described2 nm_m168 m d k (n + 10) 282 [some (.ref cM), some (.int x1), some (.int x2), some (.int x3), some (.int x4), none, some (.int x5)] [] g r = BM_described2_282 L xs m d k x1 x2 x3 x4 x5 g r := by
  show _ = ((if am_c2 .eq x5 0 = true then (fn_v (ev L xs m d nM_fail [.ref cM, .int 1, .int (g fM_at)] g r) fun v45 g43 r44 => (BM_described2_320_2 L xs m d k x1 x2 x3 x4 x5 g43 r44)) else (BM_described2_320_2 L xs m d k x1 x2 x3 x4 x5 (upd g fM_at ((g fM_at) + 1)) r)) : Option fn_Z)
  refine (fs_r (n := n + 9) 1 (pc' := 284) (L' := [some (.ref cM), some (.int x1), some (.int x2), some (.int x3), some (.int x4), none, some (.int x5)]) (S' := [.int x5]) rfl).trans ?_
  refine (fs_i (n := n + 8) rfl (t := 300) rfl (by decide)).trans (fs_ite ?_ ?_)
  · skip
    refine (fs_r (n := n + 4) 4 (pc' := 306) (L' := [some (.ref cM), some (.int x1), some (.int x2), some (.int x3), some (.int x4), none, some (.int x5)]) (S' := [.int (g fM_at), .int 1, .ref cM]) rfl).trans ?_
    refine (fs_cv (n := n + 3) (N := nm_m164) (as := [.ref cM, .int 1, .int (g fM_at)]) (rest := []) rfl rfl (Or.inl rfl) rfl rfl rfl rfl rfl).trans (fs_fv fun v45 g43 r44 => ?_)
    refine (fs_r (n := n + 2) 1 (pc' := 310) (L' := [some (.ref cM), some (.int x1), some (.int x2), some (.int x3), some (.int x4), none, some (.int x5)]) (S' := []) rfl).trans ?_
    refine (fs_go (n := n + 1) rfl (t := 320) rfl (by decide)).trans ?_
    exact bM_described2_320_2 L xs m d k (n + 0) x1 x2 x3 x4 x5 g43 r44
  · skip
    refine (fs_r (n := n + 3) 5 (pc' := 294) (L' := [some (.ref cM), some (.int x1), some (.int x2), some (.int x3), some (.int x4), none, some (.int x5)]) (S' := [.int ((g fM_at) + 1), .ref cM]) rfl).trans ?_
    refine (fs_pf (n := n + 2) (ci := 9) (j := 41) rfl rfl rfl rfl).trans ?_
    refine (fs_go (n := n + 1) rfl (t := 320) rfl (by decide)).trans ?_
    exact bM_described2_320_2 L xs m d k (n + 0) x1 x2 x3 x4 x5 (upd g fM_at ((g fM_at) + 1)) r
def BM_described2_255 (L : Nat) (xs : Nat → Int32) (m d k : Nat) (x1 x2 x3 x4 x5 : Int32) (g : a2_G) (r : a2_A) : Option fn_Z := (if am_c2 .eq x5 0 = true then (BM_described2_282 L xs m d k x1 x2 x3 x4 x5 g r) else (if am_inr (g fM_at) (r fM_values).1 = true then (fn_n (ev L xs m d nM_child4 [.ref cM, .int x1, .int 19, .int (((r fM_values).2 ((g fM_at) : Int32).toNatClampNeg) - 28), .int x2] g r) fun g46 r47 => (BM_described2_282 L xs m d k x1 x2 x3 x4 x5 g46 r47)) else none))
theorem bM_described2_255 (L : Nat) (xs : Nat → Int32) (m d k : Nat) (n : Nat) (x1 x2 x3 x4 x5 : Int32) (g : a2_G) (r : a2_A) : bk L xs nM_described2 nm_m168 m d k (n + 25) 255 [some (.ref cM), some (.int x1), some (.int x2), some (.int x3), some (.int x4), none, none] [.int x5] g r = BM_described2_255 L xs m d k x1 x2 x3 x4 x5 g r := by
  show _ = ((if am_c2 .eq x5 0 = true then (BM_described2_282 L xs m d k x1 x2 x3 x4 x5 g r) else (if am_inr (g fM_at) (r fM_values).1 = true then (fn_n (ev L xs m d nM_child4 [.ref cM, .int x1, .int 19, .int (((r fM_values).2 ((g fM_at) : Int32).toNatClampNeg) - 28), .int x2] g r) fun g46 r47 => (BM_described2_282 L xs m d k x1 x2 x3 x4 x5 g46 r47)) else none)) : Option fn_Z)
  refine (fs_r (n := n + 23) 2 (pc' := 259) (L' := [some (.ref cM), some (.int x1), some (.int x2), some (.int x3), some (.int x4), none, some (.int x5)]) (S' := [.int x5]) rfl).trans ?_
  refine (fs_i (n := n + 22) rfl (t := 282) rfl (by decide)).trans (fs_ite ?_ ?_)
  · skip
    exact bM_described2_282 L xs m d k (n + 12) x1 x2 x3 x4 x5 g r
  · skip
    refine (fs_r (n := n + 15) 7 (pc' := 274) (L' := [some (.ref cM), some (.int x1), some (.int x2), some (.int x3), some (.int x4), none, some (.int x5)]) (S' := [.int (g fM_at), .ref 10903, .int 19, .int x1, .ref cM]) rfl).trans ?_
    refine (fs_il (n := n + 14) (k := 903) rfl rfl).trans (fs_ite ?_ rfl)
    refine (fs_r (n := n + 11) 3 (pc' := 279) (L' := [some (.ref cM), some (.int x1), some (.int x2), some (.int x3), some (.int x4), none, some (.int x5)]) (S' := [.int x2, .int (((r fM_values).2 ((g fM_at) : Int32).toNatClampNeg) - 28), .int 19, .int x1, .ref cM]) rfl).trans ?_
    refine (fs_cn (n := n + 10) (N := nm_m172) (as := [.ref cM, .int x1, .int 19, .int (((r fM_values).2 ((g fM_at) : Int32).toNatClampNeg) - 28), .int x2]) (rest := []) rfl rfl (Or.inl rfl) rfl rfl rfl rfl rfl).trans (fs_fn fun g46 r47 => ?_)
    exact bM_described2_282 L xs m d k (n + 0) x1 x2 x3 x4 x5 g46 r47
def BM_described2_250 (L : Nat) (xs : Nat → Int32) (m d k : Nat) (x1 x2 x3 x4 : Int32) (g : a2_G) (r : a2_A) : Option fn_Z := (BM_described2_255 L xs m d k x1 x2 x3 x4 1 g r)
theorem bM_described2_250 (L : Nat) (xs : Nat → Int32) (m d k : Nat) (n : Nat) (x1 x2 x3 x4 : Int32) (g : a2_G) (r : a2_A) : bk L xs nM_described2 nm_m168 m d k (n + 27) 250 [some (.ref cM), some (.int x1), some (.int x2), some (.int x3), some (.int x4), none, none] [] g r = BM_described2_250 L xs m d k x1 x2 x3 x4 g r := by
  show _ = ((BM_described2_255 L xs m d k x1 x2 x3 x4 1 g r) : Option fn_Z)
  refine (fs_r (n := n + 26) 1 (pc' := 251) (L' := [some (.ref cM), some (.int x1), some (.int x2), some (.int x3), some (.int x4), none, none]) (S' := [.int 1]) rfl).trans ?_
  refine (fs_go (n := n + 25) rfl (t := 255) rfl (by decide)).trans ?_
  exact bM_described2_255 L xs m d k (n + 0) x1 x2 x3 x4 1 g r
def BM_described2_73 (L : Nat) (xs : Nat → Int32) (m d k : Nat) (x1 x2 x3 x4 : Int32) (g : a2_G) (r : a2_A) : Option fn_Z := (if (x3 : Int32).toInt = 19 then (fn_v (ev L xs m d nM_mustBe [.ref cM, .int 3] g r) fun v9 g7 r8 => (if am_c2 .eq v9 0 = true then (BM_described2_320 L xs m d k x1 x2 x3 x4 g7 r8) else (fn_v (ev L xs m d nM_passed [.ref cM] g7 r8) fun v12 g10 r11 => (fn_n (ev L xs m d nM_child4 [.ref cM, .int x1, .int 13, .int v12, .int x2] g10 r11) fun g13 r14 => (BM_described2_320 L xs m d k x1 x2 x3 x4 g13 r14))))) else (if (x3 : Int32).toInt = 20 then (fn_v (ev L xs m d nM_make [.ref cM, .int 14, .int 0, .int x2] g r) fun v17 g15 r16 => (fn_n (ev L xs m d nM_attach [.ref cM, .int x1, .int v17] g15 r16) fun g18 r19 => (fn_n (ev L xs m d nM_literal [.ref cM, .int v17] g18 r19) fun g20 r21 => (fn_v (ev L xs m d nM_meets [.ref cM, .int 21] g20 r21) fun v24 g22 r23 => (if am_c2 .eq v24 0 = true then (BM_described2_320_1 L xs m d k x1 x2 x3 x4 v17 g22 r23) else (fn_n (ev L xs m d nM_literal [.ref cM, .int v17] g22 r23) fun g25 r26 => (BM_described2_320_1 L xs m d k x1 x2 x3 x4 v17 g25 r26))))))) else (if (x3 : Int32).toInt = 21 then (BM_described2_313 L xs m d k x1 x2 x3 x4 g r) else (if (x3 : Int32).toInt = 22 then (fn_n (ev L xs m d nM_occurs [.ref cM, .int x1, .int x2] g r) fun g30 r31 => (BM_described2_320 L xs m d k x1 x2 x3 x4 g30 r31)) else (if (x3 : Int32).toInt = 23 then (BM_described2_313 L xs m d k x1 x2 x3 x4 g r) else (if (x3 : Int32).toInt = 24 then (BM_described2_313 L xs m d k x1 x2 x3 x4 g r) else (if (x3 : Int32).toInt = 25 then (BM_described2_313 L xs m d k x1 x2 x3 x4 g r) else (if (x3 : Int32).toInt = 26 then (fn_v (ev L xs m d nM_mustBe [.ref cM, .int 1] g r) fun v34 g32 r33 => (if am_c2 .eq v34 0 = true then (BM_described2_320 L xs m d k x1 x2 x3 x4 g32 r33) else (fn_v (ev L xs m d nM_passed [.ref cM] g32 r33) fun v37 g35 r36 => (fn_n (ev L xs m d nM_child4 [.ref cM, .int x1, .int 18, .int v37, .int x2] g35 r36) fun g38 r39 => (BM_described2_320 L xs m d k x1 x2 x3 x4 g38 r39))))) else (if (x3 : Int32).toInt = 27 then (fn_v (ev L xs m d nM_isWord [.ref cM, .int (g fM_at), .int 28] g r) fun v42 g40 r41 => (if am_c2 .ne v42 0 = true then (BM_described2_250 L xs m d k x1 x2 x3 x4 g40 r41) else (fn_v (ev L xs m d nM_isWord [.ref cM, .int (g40 fM_at), .int 29] g40 r41) fun v50 g48 r49 => (if am_c2 .eq v50 0 = true then (BM_described2_255 L xs m d k x1 x2 x3 x4 0 g48 r49) else (BM_described2_250 L xs m d k x1 x2 x3 x4 g48 r49))))) else (BM_described2_313 L xs m d k x1 x2 x3 x4 g r))))))))))
theorem bM_described2_73 (L : Nat) (xs : Nat → Int32) (m d k : Nat) (n : Nat) (x1 x2 x3 x4 : Int32) (g : a2_G) (r : a2_A) : bk L xs nM_described2 nm_m168 m d k (n + 42) 73 [some (.ref cM), some (.int x1), some (.int x2), some (.int x3), none, none, none] [.int x4] g r = BM_described2_73 L xs m d k x1 x2 x3 x4 g r := by
  show _ = ((if (x3 : Int32).toInt = 19 then (fn_v (ev L xs m d nM_mustBe [.ref cM, .int 3] g r) fun v9 g7 r8 => (if am_c2 .eq v9 0 = true then (BM_described2_320 L xs m d k x1 x2 x3 x4 g7 r8) else (fn_v (ev L xs m d nM_passed [.ref cM] g7 r8) fun v12 g10 r11 => (fn_n (ev L xs m d nM_child4 [.ref cM, .int x1, .int 13, .int v12, .int x2] g10 r11) fun g13 r14 => (BM_described2_320 L xs m d k x1 x2 x3 x4 g13 r14))))) else (if (x3 : Int32).toInt = 20 then (fn_v (ev L xs m d nM_make [.ref cM, .int 14, .int 0, .int x2] g r) fun v17 g15 r16 => (fn_n (ev L xs m d nM_attach [.ref cM, .int x1, .int v17] g15 r16) fun g18 r19 => (fn_n (ev L xs m d nM_literal [.ref cM, .int v17] g18 r19) fun g20 r21 => (fn_v (ev L xs m d nM_meets [.ref cM, .int 21] g20 r21) fun v24 g22 r23 => (if am_c2 .eq v24 0 = true then (BM_described2_320_1 L xs m d k x1 x2 x3 x4 v17 g22 r23) else (fn_n (ev L xs m d nM_literal [.ref cM, .int v17] g22 r23) fun g25 r26 => (BM_described2_320_1 L xs m d k x1 x2 x3 x4 v17 g25 r26))))))) else (if (x3 : Int32).toInt = 21 then (BM_described2_313 L xs m d k x1 x2 x3 x4 g r) else (if (x3 : Int32).toInt = 22 then (fn_n (ev L xs m d nM_occurs [.ref cM, .int x1, .int x2] g r) fun g30 r31 => (BM_described2_320 L xs m d k x1 x2 x3 x4 g30 r31)) else (if (x3 : Int32).toInt = 23 then (BM_described2_313 L xs m d k x1 x2 x3 x4 g r) else (if (x3 : Int32).toInt = 24 then (BM_described2_313 L xs m d k x1 x2 x3 x4 g r) else (if (x3 : Int32).toInt = 25 then (BM_described2_313 L xs m d k x1 x2 x3 x4 g r) else (if (x3 : Int32).toInt = 26 then (fn_v (ev L xs m d nM_mustBe [.ref cM, .int 1] g r) fun v34 g32 r33 => (if am_c2 .eq v34 0 = true then (BM_described2_320 L xs m d k x1 x2 x3 x4 g32 r33) else (fn_v (ev L xs m d nM_passed [.ref cM] g32 r33) fun v37 g35 r36 => (fn_n (ev L xs m d nM_child4 [.ref cM, .int x1, .int 18, .int v37, .int x2] g35 r36) fun g38 r39 => (BM_described2_320 L xs m d k x1 x2 x3 x4 g38 r39))))) else (if (x3 : Int32).toInt = 27 then (fn_v (ev L xs m d nM_isWord [.ref cM, .int (g fM_at), .int 28] g r) fun v42 g40 r41 => (if am_c2 .ne v42 0 = true then (BM_described2_250 L xs m d k x1 x2 x3 x4 g40 r41) else (fn_v (ev L xs m d nM_isWord [.ref cM, .int (g40 fM_at), .int 29] g40 r41) fun v50 g48 r49 => (if am_c2 .eq v50 0 = true then (BM_described2_255 L xs m d k x1 x2 x3 x4 0 g48 r49) else (BM_described2_250 L xs m d k x1 x2 x3 x4 g48 r49))))) else (BM_described2_313 L xs m d k x1 x2 x3 x4 g r)))))))))) : Option fn_Z)
  refine (fs_r (n := n + 40) 2 (pc' := 76) (L' := [some (.ref cM), some (.int x1), some (.int x2), some (.int x3), some (.int x4), none, none]) (S' := [.int x3]) rfl).trans ?_
  refine (fs_ts (n := n + 39) (l := [52, 75, 237, 116, 237, 237, 237, 125, 148]) rfl rfl rfl).trans ?_
  refine fs_tc (v' := 20) rfl ?_ (fs_tc (v' := 21) rfl ?_ (fs_tc (v' := 22) rfl ?_ (fs_tc (v' := 23) rfl ?_ (fs_tc (v' := 24) rfl ?_ (fs_tc (v' := 25) rfl ?_ (fs_tc (v' := 26) rfl ?_ (fs_tc (v' := 27) rfl ?_ (fs_tc (v' := 28) rfl ?_ (fs_tn ?_)))))))))
  · refine (fs_J1 (n := n + 39) (t := 128) rfl (by decide)).trans ?_
    refine (fs_r (n := n + 37) 2 (pc' := 130) (L' := [some (.ref cM), some (.int x1), some (.int x2), some (.int x3), some (.int x4), none, none]) (S' := [.int 3, .ref cM]) rfl).trans ?_
    refine (fs_cv (n := n + 36) (N := nm_m170) (as := [.ref cM, .int 3]) (rest := []) rfl rfl (Or.inl rfl) rfl rfl rfl rfl rfl).trans (fs_fv fun v9 g7 r8 => ?_)
    refine (fs_i (n := n + 35) rfl (t := 320) rfl (by decide)).trans (fs_ite ?_ ?_)
    · skip
      exact bM_described2_320 L xs m d k (n + 34) x1 x2 x3 x4 g7 r8
    · skip
      refine (fs_r (n := n + 31) 4 (pc' := 141) (L' := [some (.ref cM), some (.int x1), some (.int x2), some (.int x3), some (.int x4), none, none]) (S' := [.ref cM, .int 13, .int x1, .ref cM]) rfl).trans ?_
      refine (fs_cv (n := n + 30) (N := nm_m171) (as := [.ref cM]) (rest := [.int 13, .int x1, .ref cM]) rfl rfl (Or.inl rfl) rfl rfl rfl rfl rfl).trans (fs_fv fun v12 g10 r11 => ?_)
      refine (fs_r (n := n + 29) 1 (pc' := 145) (L' := [some (.ref cM), some (.int x1), some (.int x2), some (.int x3), some (.int x4), none, none]) (S' := [.int x2, .int v12, .int 13, .int x1, .ref cM]) rfl).trans ?_
      refine (fs_cn (n := n + 28) (N := nm_m172) (as := [.ref cM, .int x1, .int 13, .int v12, .int x2]) (rest := []) rfl rfl (Or.inl rfl) rfl rfl rfl rfl rfl).trans (fs_fn fun g13 r14 => ?_)
      refine (fs_go (n := n + 27) rfl (t := 320) rfl (by decide)).trans ?_
      exact bM_described2_320 L xs m d k (n + 26) x1 x2 x3 x4 g13 r14
  · refine (fs_J1 (n := n + 39) (t := 151) rfl (by decide)).trans ?_
    refine (fs_r (n := n + 35) 4 (pc' := 156) (L' := [some (.ref cM), some (.int x1), some (.int x2), some (.int x3), some (.int x4), none, none]) (S' := [.int x2, .int 0, .int 14, .ref cM]) rfl).trans ?_
    refine (fs_cv (n := n + 34) (N := nm_m160) (as := [.ref cM, .int 14, .int 0, .int x2]) (rest := []) rfl rfl (Or.inl rfl) rfl rfl rfl rfl rfl).trans (fs_fv fun v17 g15 r16 => ?_)
    refine (fs_r (n := n + 30) 4 (pc' := 165) (L' := [some (.ref cM), some (.int x1), some (.int x2), some (.int x3), some (.int x4), some (.int v17), none]) (S' := [.int v17, .int x1, .ref cM]) rfl).trans ?_
    refine (fs_cn (n := n + 29) (N := nm_m173) (as := [.ref cM, .int x1, .int v17]) (rest := []) rfl rfl (Or.inl rfl) rfl rfl rfl rfl rfl).trans (fs_fn fun g18 r19 => ?_)
    refine (fs_r (n := n + 27) 2 (pc' := 171) (L' := [some (.ref cM), some (.int x1), some (.int x2), some (.int x3), some (.int x4), some (.int v17), none]) (S' := [.int v17, .ref cM]) rfl).trans ?_
    refine (fs_cn (n := n + 26) (N := nm_m174) (as := [.ref cM, .int v17]) (rest := []) rfl rfl (Or.inl rfl) rfl rfl rfl rfl rfl).trans (fs_fn fun g20 r21 => ?_)
    refine (fs_r (n := n + 24) 2 (pc' := 177) (L' := [some (.ref cM), some (.int x1), some (.int x2), some (.int x3), some (.int x4), some (.int v17), none]) (S' := [.int 21, .ref cM]) rfl).trans ?_
    refine (fs_cv (n := n + 23) (N := nm_m169) (as := [.ref cM, .int 21]) (rest := []) rfl rfl (Or.inl rfl) rfl rfl rfl rfl rfl).trans (fs_fv fun v24 g22 r23 => ?_)
    refine (fs_i (n := n + 22) rfl (t := 320) rfl (by decide)).trans (fs_ite ?_ ?_)
    · skip
      exact bM_described2_320_1 L xs m d k (n + 21) x1 x2 x3 x4 v17 g22 r23
    · skip
      refine (fs_r (n := n + 20) 2 (pc' := 186) (L' := [some (.ref cM), some (.int x1), some (.int x2), some (.int x3), some (.int x4), some (.int v17), none]) (S' := [.int v17, .ref cM]) rfl).trans ?_
      refine (fs_cn (n := n + 19) (N := nm_m174) (as := [.ref cM, .int v17]) (rest := []) rfl rfl (Or.inl rfl) rfl rfl rfl rfl rfl).trans (fs_fn fun g25 r26 => ?_)
      refine (fs_go (n := n + 18) rfl (t := 320) rfl (by decide)).trans ?_
      exact bM_described2_320_1 L xs m d k (n + 17) x1 x2 x3 x4 v17 g25 r26
  · refine (fs_J1 (n := n + 39) (t := 313) rfl (by decide)).trans ?_
    exact bM_described2_313 L xs m d k (n + 33) x1 x2 x3 x4 g r
  · refine (fs_J1 (n := n + 39) (t := 192) rfl (by decide)).trans ?_
    refine (fs_r (n := n + 36) 3 (pc' := 195) (L' := [some (.ref cM), some (.int x1), some (.int x2), some (.int x3), some (.int x4), none, none]) (S' := [.int x2, .int x1, .ref cM]) rfl).trans ?_
    refine (fs_cn (n := n + 35) (N := nm_m178) (as := [.ref cM, .int x1, .int x2]) (rest := []) rfl rfl (Or.inl rfl) rfl rfl rfl rfl rfl).trans (fs_fn fun g30 r31 => ?_)
    refine (fs_go (n := n + 34) rfl (t := 320) rfl (by decide)).trans ?_
    exact bM_described2_320 L xs m d k (n + 33) x1 x2 x3 x4 g30 r31
  · refine (fs_J1 (n := n + 39) (t := 313) rfl (by decide)).trans ?_
    exact bM_described2_313 L xs m d k (n + 33) x1 x2 x3 x4 g r
  · refine (fs_J1 (n := n + 39) (t := 313) rfl (by decide)).trans ?_
    exact bM_described2_313 L xs m d k (n + 33) x1 x2 x3 x4 g r
  · refine (fs_J1 (n := n + 39) (t := 313) rfl (by decide)).trans ?_
    exact bM_described2_313 L xs m d k (n + 33) x1 x2 x3 x4 g r
  · refine (fs_J1 (n := n + 39) (t := 201) rfl (by decide)).trans ?_
    refine (fs_r (n := n + 37) 2 (pc' := 203) (L' := [some (.ref cM), some (.int x1), some (.int x2), some (.int x3), some (.int x4), none, none]) (S' := [.int 1, .ref cM]) rfl).trans ?_
    refine (fs_cv (n := n + 36) (N := nm_m170) (as := [.ref cM, .int 1]) (rest := []) rfl rfl (Or.inl rfl) rfl rfl rfl rfl rfl).trans (fs_fv fun v34 g32 r33 => ?_)
    refine (fs_i (n := n + 35) rfl (t := 320) rfl (by decide)).trans (fs_ite ?_ ?_)
    · skip
      exact bM_described2_320 L xs m d k (n + 34) x1 x2 x3 x4 g32 r33
    · skip
      refine (fs_r (n := n + 31) 4 (pc' := 214) (L' := [some (.ref cM), some (.int x1), some (.int x2), some (.int x3), some (.int x4), none, none]) (S' := [.ref cM, .int 18, .int x1, .ref cM]) rfl).trans ?_
      refine (fs_cv (n := n + 30) (N := nm_m171) (as := [.ref cM]) (rest := [.int 18, .int x1, .ref cM]) rfl rfl (Or.inl rfl) rfl rfl rfl rfl rfl).trans (fs_fv fun v37 g35 r36 => ?_)
      refine (fs_r (n := n + 29) 1 (pc' := 218) (L' := [some (.ref cM), some (.int x1), some (.int x2), some (.int x3), some (.int x4), none, none]) (S' := [.int x2, .int v37, .int 18, .int x1, .ref cM]) rfl).trans ?_
      refine (fs_cn (n := n + 28) (N := nm_m172) (as := [.ref cM, .int x1, .int 18, .int v37, .int x2]) (rest := []) rfl rfl (Or.inl rfl) rfl rfl rfl rfl rfl).trans (fs_fn fun g38 r39 => ?_)
      refine (fs_go (n := n + 27) rfl (t := 320) rfl (by decide)).trans ?_
      exact bM_described2_320 L xs m d k (n + 26) x1 x2 x3 x4 g38 r39
  · refine (fs_J1 (n := n + 39) (t := 224) rfl (by decide)).trans ?_
    refine (fs_r (n := n + 35) 4 (pc' := 231) (L' := [some (.ref cM), some (.int x1), some (.int x2), some (.int x3), some (.int x4), none, none]) (S' := [.int 28, .int (g fM_at), .ref cM]) rfl).trans ?_
    refine (fs_cv (n := n + 34) (N := nm_m167) (as := [.ref cM, .int (g fM_at), .int 28]) (rest := []) rfl rfl (Or.inl rfl) rfl rfl rfl rfl rfl).trans (fs_fv fun v42 g40 r41 => ?_)
    refine (fs_i (n := n + 33) rfl (t := 250) rfl (by decide)).trans (fs_ite ?_ ?_)
    · skip
      exact bM_described2_250 L xs m d k (n + 6) x1 x2 x3 x4 g40 r41
    · skip
      refine (fs_r (n := n + 29) 4 (pc' := 244) (L' := [some (.ref cM), some (.int x1), some (.int x2), some (.int x3), some (.int x4), none, none]) (S' := [.int 29, .int (g40 fM_at), .ref cM]) rfl).trans ?_
      refine (fs_cv (n := n + 28) (N := nm_m167) (as := [.ref cM, .int (g40 fM_at), .int 29]) (rest := []) rfl rfl (Or.inl rfl) rfl rfl rfl rfl rfl).trans (fs_fv fun v50 g48 r49 => ?_)
      refine (fs_i (n := n + 27) rfl (t := 254) rfl (by decide)).trans (fs_ite ?_ ?_)
      · skip
        refine (fs_r (n := n + 26) 1 (pc' := 255) (L' := [some (.ref cM), some (.int x1), some (.int x2), some (.int x3), some (.int x4), none, none]) (S' := [.int 0]) rfl).trans ?_
        exact bM_described2_255 L xs m d k (n + 1) x1 x2 x3 x4 0 g48 r49
      · skip
        exact bM_described2_250 L xs m d k (n + 0) x1 x2 x3 x4 g48 r49
  · refine (fs_J1 (n := n + 39) (t := 313) rfl (by decide)).trans ?_
    exact bM_described2_313 L xs m d k (n + 33) x1 x2 x3 x4 g r
def BM_described2_72 (L : Nat) (xs : Nat → Int32) (m d k : Nat) (x1 x2 x3 : Int32) (g : a2_G) (r : a2_A) : Option fn_Z := (BM_described2_73 L xs m d k x1 x2 x3 0 g r)
theorem bM_described2_72 (L : Nat) (xs : Nat → Int32) (m d k : Nat) (n : Nat) (x1 x2 x3 : Int32) (g : a2_G) (r : a2_A) : bk L xs nM_described2 nm_m168 m d k (n + 43) 72 [some (.ref cM), some (.int x1), some (.int x2), some (.int x3), none, none, none] [] g r = BM_described2_72 L xs m d k x1 x2 x3 g r := by
  show _ = ((BM_described2_73 L xs m d k x1 x2 x3 0 g r) : Option fn_Z)
  refine (fs_r (n := n + 42) 1 (pc' := 73) (L' := [some (.ref cM), some (.int x1), some (.int x2), some (.int x3), none, none, none]) (S' := [.int 0]) rfl).trans ?_
  exact bM_described2_73 L xs m d k (n + 0) x1 x2 x3 0 g r
def BM_described2_59 (L : Nat) (xs : Nat → Int32) (m d k : Nat) (x1 x2 x3 : Int32) (g : a2_G) (r : a2_A) : Option fn_Z := (fn_v (ev L xs m d nM_meets [.ref cM, .int 67] g r) fun v6 g4 r5 => (if am_c2 .eq v6 0 = true then (BM_described2_72 L xs m d k x1 x2 x3 g4 r5) else (BM_described2_73 L xs m d k x1 x2 x3 1 g4 r5)))
theorem bM_described2_59 (L : Nat) (xs : Nat → Int32) (m d k : Nat) (n : Nat) (x1 x2 x3 : Int32) (g : a2_G) (r : a2_A) : bk L xs nM_described2 nm_m168 m d k (n + 48) 59 [some (.ref cM), some (.int x1), some (.int x2), some (.int x3), none, none, none] [] g r = BM_described2_59 L xs m d k x1 x2 x3 g r := by
  show _ = ((fn_v (ev L xs m d nM_meets [.ref cM, .int 67] g r) fun v6 g4 r5 => (if am_c2 .eq v6 0 = true then (BM_described2_72 L xs m d k x1 x2 x3 g4 r5) else (BM_described2_73 L xs m d k x1 x2 x3 1 g4 r5))) : Option fn_Z)
  refine (fs_r (n := n + 46) 2 (pc' := 62) (L' := [some (.ref cM), some (.int x1), some (.int x2), some (.int x3), none, none, none]) (S' := [.int 67, .ref cM]) rfl).trans ?_
  refine (fs_cv (n := n + 45) (N := nm_m169) (as := [.ref cM, .int 67]) (rest := []) rfl rfl (Or.inl rfl) rfl rfl rfl rfl rfl).trans (fs_fv fun v6 g4 r5 => ?_)
  refine (fs_i (n := n + 44) rfl (t := 72) rfl (by decide)).trans (fs_ite ?_ ?_)
  · skip
    exact bM_described2_72 L xs m d k (n + 1) x1 x2 x3 g4 r5
  · skip
    refine (fs_r (n := n + 43) 1 (pc' := 69) (L' := [some (.ref cM), some (.int x1), some (.int x2), some (.int x3), none, none, none]) (S' := [.int 1]) rfl).trans ?_
    refine (fs_go (n := n + 42) rfl (t := 73) rfl (by decide)).trans ?_
    exact bM_described2_73 L xs m d k (n + 0) x1 x2 x3 1 g4 r5
def BM_described2_30 (L : Nat) (xs : Nat → Int32) (m d k : Nat) (x1 x2 x3 : Int32) (g : a2_G) (r : a2_A) : Option fn_Z := (if am_c2 .eq x3 19 = true then (BM_described2_59 L xs m d k x1 x2 x3 (upd g fM_at ((g fM_at) + 1)) r) else (if am_c2 .eq x3 20 = true then (BM_described2_59 L xs m d k x1 x2 x3 (upd g fM_at ((g fM_at) + 1)) r) else (if am_c2 .ne x3 27 = true then (BM_described2_72 L xs m d k x1 x2 x3 (upd g fM_at ((g fM_at) + 1)) r) else (BM_described2_59 L xs m d k x1 x2 x3 (upd g fM_at ((g fM_at) + 1)) r))))
theorem bM_described2_30 (L : Nat) (xs : Nat → Int32) (m d k : Nat) (n : Nat) (x1 x2 x3 : Int32) (g : a2_G) (r : a2_A) : bk L xs nM_described2 nm_m168 m d k (n + 64) 30 [some (.ref cM), some (.int x1), some (.int x2), none, none, none, none] [.int x3] g r = BM_described2_30 L xs m d k x1 x2 x3 g r := by
  show _ = ((if am_c2 .eq x3 19 = true then (BM_described2_59 L xs m d k x1 x2 x3 (upd g fM_at ((g fM_at) + 1)) r) else (if am_c2 .eq x3 20 = true then (BM_described2_59 L xs m d k x1 x2 x3 (upd g fM_at ((g fM_at) + 1)) r) else (if am_c2 .ne x3 27 = true then (BM_described2_72 L xs m d k x1 x2 x3 (upd g fM_at ((g fM_at) + 1)) r) else (BM_described2_59 L xs m d k x1 x2 x3 (upd g fM_at ((g fM_at) + 1)) r)))) : Option fn_Z)
  refine (fs_r (n := n + 58) 6 (pc' := 38) (L' := [some (.ref cM), some (.int x1), some (.int x2), some (.int x3), none, none, none]) (S' := [.int ((g fM_at) + 1), .ref cM]) rfl).trans ?_
  refine (fs_pf (n := n + 57) (ci := 9) (j := 41) rfl rfl rfl rfl).trans ?_
  refine (fs_r (n := n + 55) 2 (pc' := 44) (L' := [some (.ref cM), some (.int x1), some (.int x2), some (.int x3), none, none, none]) (S' := [.int 19, .int x3]) rfl).trans ?_
  refine (fs_j (n := n + 54) rfl (t := 59) rfl (by decide)).trans (fs_ite ?_ ?_)
  · skip
    exact bM_described2_59 L xs m d k (n + 6) x1 x2 x3 (upd g fM_at ((g fM_at) + 1)) r
  · skip
    refine (fs_r (n := n + 52) 2 (pc' := 50) (L' := [some (.ref cM), some (.int x1), some (.int x2), some (.int x3), none, none, none]) (S' := [.int 20, .int x3]) rfl).trans ?_
    refine (fs_j (n := n + 51) rfl (t := 59) rfl (by decide)).trans (fs_ite ?_ ?_)
    · skip
      exact bM_described2_59 L xs m d k (n + 3) x1 x2 x3 (upd g fM_at ((g fM_at) + 1)) r
    · skip
      refine (fs_r (n := n + 49) 2 (pc' := 56) (L' := [some (.ref cM), some (.int x1), some (.int x2), some (.int x3), none, none, none]) (S' := [.int 27, .int x3]) rfl).trans ?_
      refine (fs_j (n := n + 48) rfl (t := 72) rfl (by decide)).trans (fs_ite ?_ ?_)
      · skip
        exact bM_described2_72 L xs m d k (n + 5) x1 x2 x3 (upd g fM_at ((g fM_at) + 1)) r
      · skip
        exact bM_described2_59 L xs m d k (n + 0) x1 x2 x3 (upd g fM_at ((g fM_at) + 1)) r
theorem eM_described2 (L : Nat) (xs : Nat → Int32) (m d k : Nat) (n : Nat) (a1 : Int32) (g : a2_G) (r : a2_A) : bk L xs nM_described2 nm_m168 m d k (n + 79) 0 [some (.ref cM), some (.int a1), none, none, none, none, none] [] g r = (fn_v (ev L xs m d nM_isKind [.ref cM, .int (g fM_at), .int 0] g r) fun v3 g1 r2 => (if am_c2 .eq v3 0 = true then (BM_described2_30 L xs m d k a1 (g fM_at) (-1) g1 r2) else (if am_inr (g1 fM_at) (r2 fM_values).1 = true then (BM_described2_30 L xs m d k a1 (g fM_at) ((r2 fM_values).2 ((g1 fM_at) : Int32).toNatClampNeg) g1 r2) else none))) := by
  refine (fs_r (n := n + 72) 7 (pc' := 11) (L' := [some (.ref cM), some (.int a1), some (.int (g fM_at)), none, none, none, none]) (S' := [.int 0, .int (g fM_at), .ref cM]) rfl).trans ?_
  refine (fs_cv (n := n + 71) (N := nm_m166) (as := [.ref cM, .int (g fM_at), .int 0]) (rest := []) rfl rfl (Or.inl rfl) rfl rfl rfl rfl rfl).trans (fs_fv fun v3 g1 r2 => ?_)
  refine (fs_i (n := n + 70) rfl (t := 29) rfl (by decide)).trans (fs_ite ?_ ?_)
  · skip
    refine (fs_r (n := n + 69) 1 (pc' := 30) (L' := [some (.ref cM), some (.int a1), some (.int (g fM_at)), none, none, none, none]) (S' := [.int (-1)]) rfl).trans ?_
    exact bM_described2_30 L xs m d k (n + 5) a1 (g fM_at) (-1) g1 r2
  · skip
    refine (fs_r (n := n + 66) 4 (pc' := 25) (L' := [some (.ref cM), some (.int a1), some (.int (g fM_at)), none, none, none, none]) (S' := [.int (g1 fM_at), .ref 10903]) rfl).trans ?_
    refine (fs_il (n := n + 65) (k := 903) rfl rfl).trans (fs_ite ?_ rfl)
    refine (fs_go (n := n + 64) rfl (t := 30) rfl (by decide)).trans ?_
    exact bM_described2_30 L xs m d k (n + 0) a1 (g fM_at) ((r2 fM_values).2 ((g1 fM_at) : Int32).toNatClampNeg) g1 r2
theorem qM_described2 (L : Nat) (xs : Nat → Int32) (m d : Nat) (a1 : Int32) (g : a2_G) (r : a2_A) : ev L xs (m + 1) (d + 1) nM_described2 [.ref cM, .int a1] g r = (fn_v (ev L xs (m + 1) d nM_isKind [.ref cM, .int (g fM_at), .int 0] g r) fun v3 g1 r2 => (if am_c2 .eq v3 0 = true then (BM_described2_30 L xs (m + 1) d m a1 (g fM_at) (-1) g1 r2) else (if am_inr (g1 fM_at) (r2 fM_values).1 = true then (BM_described2_30 L xs (m + 1) d m a1 (g fM_at) ((r2 fM_values).2 ((g1 fM_at) : Int32).toNatClampNeg) g1 r2) else none))) := (fs_ev (M := nm_m168) rfl rfl).trans (eM_described2 L xs (m + 1) d m 821 a1 g r)
/-- CobolParserModel.meets(I)Z -/
def BM_meets_19 (L : Nat) (xs : Nat → Int32) (m d k : Nat) (x1 : Int32) (g : a2_G) (r : a2_A) : Option fn_Z := (some (.inl (some (.int 0)), g, r))
theorem bM_meets_19 (L : Nat) (xs : Nat → Int32) (m d k : Nat) (n : Nat) (x1 : Int32) (g : a2_G) (r : a2_A) : bk L xs nM_meets nm_m169 m d k (n + 2) 19 [some (.ref cM), some (.int x1)] [] g r = BM_meets_19 L xs m d k x1 g r := by
  show _ = ((some (.inl (some (.int 0)), g, r)) : Option fn_Z)
  refine (fs_r (n := n + 1) 1 (pc' := 20) (L' := [some (.ref cM), some (.int x1)]) (S' := [.int 0]) rfl).trans ?_
  exact (fs_rb (n := n + 0) rfl rfl).trans ((if_pos (by decide)).trans rfl)
theorem eM_meets (L : Nat) (xs : Nat → Int32) (m d k : Nat) (n : Nat) (a1 : Int32) (g : a2_G) (r : a2_A) : bk L xs nM_meets nm_m169 m d k (n + 17) 0 [some (.ref cM), some (.int a1)] [] g r = (if am_c2 .ne (g fM_bad) 0 = true then (BM_meets_19 L xs m d k a1 g r) else (fn_v (ev L xs m d nM_isWord [.ref cM, .int (g fM_at), .int a1] g r) fun v3 g1 r2 => (if am_c2 .ne v3 0 = true then (some (.inl (some (.int 1)), (upd g1 fM_at ((g1 fM_at) + 1)), r2)) else (BM_meets_19 L xs m d k a1 g1 r2)))) := by
  refine (fs_r (n := n + 15) 2 (pc' := 4) (L' := [some (.ref cM), some (.int a1)]) (S' := [.int (g fM_bad)]) rfl).trans ?_
  refine (fs_i (n := n + 14) rfl (t := 19) rfl (by decide)).trans (fs_ite ?_ ?_)
  · skip
    exact bM_meets_19 L xs m d k (n + 12) a1 g r
  · skip
    refine (fs_r (n := n + 10) 4 (pc' := 13) (L' := [some (.ref cM), some (.int a1)]) (S' := [.int a1, .int (g fM_at), .ref cM]) rfl).trans ?_
    refine (fs_cv (n := n + 9) (N := nm_m167) (as := [.ref cM, .int (g fM_at), .int a1]) (rest := []) rfl rfl (Or.inl rfl) rfl rfl rfl rfl rfl).trans (fs_fv fun v3 g1 r2 => ?_)
    refine (fs_i (n := n + 8) rfl (t := 21) rfl (by decide)).trans (fs_ite ?_ ?_)
    · skip
      refine (fs_r (n := n + 3) 5 (pc' := 28) (L' := [some (.ref cM), some (.int a1)]) (S' := [.int ((g1 fM_at) + 1), .ref cM]) rfl).trans ?_
      refine (fs_pf (n := n + 2) (ci := 9) (j := 41) rfl rfl rfl rfl).trans ?_
      refine (fs_r (n := n + 1) 1 (pc' := 32) (L' := [some (.ref cM), some (.int a1)]) (S' := [.int 1]) rfl).trans ?_
      exact (fs_rb (n := n + 0) rfl rfl).trans ((if_pos (by decide)).trans rfl)
    · skip
      exact bM_meets_19 L xs m d k (n + 6) a1 g1 r2
theorem qM_meets (L : Nat) (xs : Nat → Int32) (m d : Nat) (a1 : Int32) (g : a2_G) (r : a2_A) : ev L xs (m + 1) (d + 1) nM_meets [.ref cM, .int a1] g r = (if am_c2 .ne (g fM_bad) 0 = true then (BM_meets_19 L xs (m + 1) d m a1 g r) else (fn_v (ev L xs (m + 1) d nM_isWord [.ref cM, .int (g fM_at), .int a1] g r) fun v3 g1 r2 => (if am_c2 .ne v3 0 = true then (some (.inl (some (.int 1)), (upd g1 fM_at ((g1 fM_at) + 1)), r2)) else (BM_meets_19 L xs (m + 1) d m a1 g1 r2)))) := (fs_ev (M := nm_m169) rfl rfl).trans (eM_meets L xs (m + 1) d m 883 a1 g r)
/-- CobolParserModel.mustBe(I)Z -/
def BM_mustBe_19 (L : Nat) (xs : Nat → Int32) (m d k : Nat) (x1 : Int32) (g : a2_G) (r : a2_A) : Option fn_Z := (fn_v (ev L xs m d nM_fail [.ref cM, .int 1, .int (g fM_at)] g r) fun v3 g1 r2 => (if v3 = 0 ∨ v3 = 1 then some (.inl (some (.int v3)), g1, r2) else none))
theorem bM_mustBe_19 (L : Nat) (xs : Nat → Int32) (m d k : Nat) (n : Nat) (x1 : Int32) (g : a2_G) (r : a2_A) : bk L xs nM_mustBe nm_m170 m d k (n + 6) 19 [some (.ref cM), some (.int x1)] [] g r = BM_mustBe_19 L xs m d k x1 g r := by
  show _ = ((fn_v (ev L xs m d nM_fail [.ref cM, .int 1, .int (g fM_at)] g r) fun v3 g1 r2 => (if v3 = 0 ∨ v3 = 1 then some (.inl (some (.int v3)), g1, r2) else none)) : Option fn_Z)
  refine (fs_r (n := n + 2) 4 (pc' := 25) (L' := [some (.ref cM), some (.int x1)]) (S' := [.int (g fM_at), .int 1, .ref cM]) rfl).trans ?_
  refine (fs_cv (n := n + 1) (N := nm_m164) (as := [.ref cM, .int 1, .int (g fM_at)]) (rest := []) rfl rfl (Or.inl rfl) rfl rfl rfl rfl rfl).trans (fs_fv fun v3 g1 r2 => ?_)
  exact (fs_rb (n := n + 0) rfl rfl).trans rfl
theorem eM_mustBe (L : Nat) (xs : Nat → Int32) (m d k : Nat) (n : Nat) (a1 : Int32) (g : a2_G) (r : a2_A) : bk L xs nM_mustBe nm_m170 m d k (n + 17) 0 [some (.ref cM), some (.int a1)] [] g r = (if am_c2 .ne (g fM_bad) 0 = true then (BM_mustBe_19 L xs m d k a1 g r) else (fn_v (ev L xs m d nM_isKind [.ref cM, .int (g fM_at), .int a1] g r) fun v6 g4 r5 => (if am_c2 .ne v6 0 = true then (some (.inl (some (.int 1)), (upd g4 fM_at ((g4 fM_at) + 1)), r5)) else (BM_mustBe_19 L xs m d k a1 g4 r5)))) := by
  refine (fs_r (n := n + 15) 2 (pc' := 4) (L' := [some (.ref cM), some (.int a1)]) (S' := [.int (g fM_bad)]) rfl).trans ?_
  refine (fs_i (n := n + 14) rfl (t := 19) rfl (by decide)).trans (fs_ite ?_ ?_)
  · skip
    exact bM_mustBe_19 L xs m d k (n + 8) a1 g r
  · skip
    refine (fs_r (n := n + 10) 4 (pc' := 13) (L' := [some (.ref cM), some (.int a1)]) (S' := [.int a1, .int (g fM_at), .ref cM]) rfl).trans ?_
    refine (fs_cv (n := n + 9) (N := nm_m166) (as := [.ref cM, .int (g fM_at), .int a1]) (rest := []) rfl rfl (Or.inl rfl) rfl rfl rfl rfl rfl).trans (fs_fv fun v6 g4 r5 => ?_)
    refine (fs_i (n := n + 8) rfl (t := 29) rfl (by decide)).trans (fs_ite ?_ ?_)
    · skip
      refine (fs_r (n := n + 3) 5 (pc' := 36) (L' := [some (.ref cM), some (.int a1)]) (S' := [.int ((g4 fM_at) + 1), .ref cM]) rfl).trans ?_
      refine (fs_pf (n := n + 2) (ci := 9) (j := 41) rfl rfl rfl rfl).trans ?_
      refine (fs_r (n := n + 1) 1 (pc' := 40) (L' := [some (.ref cM), some (.int a1)]) (S' := [.int 1]) rfl).trans ?_
      exact (fs_rb (n := n + 0) rfl rfl).trans ((if_pos (by decide)).trans rfl)
    · skip
      exact bM_mustBe_19 L xs m d k (n + 2) a1 g4 r5
theorem qM_mustBe (L : Nat) (xs : Nat → Int32) (m d : Nat) (a1 : Int32) (g : a2_G) (r : a2_A) : ev L xs (m + 1) (d + 1) nM_mustBe [.ref cM, .int a1] g r = (if am_c2 .ne (g fM_bad) 0 = true then (BM_mustBe_19 L xs (m + 1) d m a1 g r) else (fn_v (ev L xs (m + 1) d nM_isKind [.ref cM, .int (g fM_at), .int a1] g r) fun v6 g4 r5 => (if am_c2 .ne v6 0 = true then (some (.inl (some (.int 1)), (upd g4 fM_at ((g4 fM_at) + 1)), r5)) else (BM_mustBe_19 L xs (m + 1) d m a1 g4 r5)))) := (fs_ev (M := nm_m170) rfl rfl).trans (eM_mustBe L xs (m + 1) d m 883 a1 g r)
/-- CobolParserModel.passed()I -/
def BM_passed_22 (L : Nat) (xs : Nat → Int32) (m d k : Nat) (x1 : Int32) (g : a2_G) (r : a2_A) : Option fn_Z := (some (.inl (some (.int x1)), g, r))
theorem bM_passed_22 (L : Nat) (xs : Nat → Int32) (m d k : Nat) (n : Nat) (x1 : Int32) (g : a2_G) (r : a2_A) : bk L xs nM_passed nm_m171 m d k (n + 1) 22 [some (.ref cM)] [.int x1] g r = BM_passed_22 L xs m d k x1 g r := by
  show _ = ((some (.inl (some (.int x1)), g, r)) : Option fn_Z)
  exact (fs_ri (n := n + 0) rfl rfl).trans rfl
theorem eM_passed (L : Nat) (xs : Nat → Int32) (m d k : Nat) (n : Nat) (g : a2_G) (r : a2_A) : bk L xs nM_passed nm_m171 m d k (n + 12) 0 [some (.ref cM)] [] g r = (if am_c2 .le (g fM_at) 0 = true then (BM_passed_22 L xs m d k 0 g r) else (if am_inr ((g fM_at) - 1) (r fM_values).1 = true then (BM_passed_22 L xs m d k ((r fM_values).2 (((g fM_at) - 1) : Int32).toNatClampNeg) g r) else none)) := by
  refine (fs_r (n := n + 10) 2 (pc' := 4) (L' := [some (.ref cM)]) (S' := [.int (g fM_at)]) rfl).trans ?_
  refine (fs_i (n := n + 9) rfl (t := 21) rfl (by decide)).trans (fs_ite ?_ ?_)
  · skip
    refine (fs_r (n := n + 8) 1 (pc' := 22) (L' := [some (.ref cM)]) (S' := [.int 0]) rfl).trans ?_
    exact bM_passed_22 L xs m d k (n + 7) 0 g r
  · skip
    refine (fs_r (n := n + 3) 6 (pc' := 17) (L' := [some (.ref cM)]) (S' := [.int ((g fM_at) - 1), .ref 10903]) rfl).trans ?_
    refine (fs_il (n := n + 2) (k := 903) rfl rfl).trans (fs_ite ?_ rfl)
    refine (fs_go (n := n + 1) rfl (t := 22) rfl (by decide)).trans ?_
    exact bM_passed_22 L xs m d k (n + 0) ((r fM_values).2 (((g fM_at) - 1) : Int32).toNatClampNeg) g r
theorem qM_passed (L : Nat) (xs : Nat → Int32) (m d : Nat) (g : a2_G) (r : a2_A) : ev L xs (m + 1) (d + 1) nM_passed [.ref cM] g r = (if am_c2 .le (g fM_at) 0 = true then (BM_passed_22 L xs (m + 1) d m 0 g r) else (if am_inr ((g fM_at) - 1) (r fM_values).1 = true then (BM_passed_22 L xs (m + 1) d m ((r fM_values).2 (((g fM_at) - 1) : Int32).toNatClampNeg) g r) else none)) := (fs_ev (M := nm_m171) rfl rfl).trans (eM_passed L xs (m + 1) d m 888 g r)
/-- CobolParserModel.child(IIII)V -/
theorem eM_child4 (L : Nat) (xs : Nat → Int32) (m d k : Nat) (n : Nat) (a1 a2 a3 a4 : Int32) (g : a2_G) (r : a2_A) : bk L xs nM_child4 nm_m172 m d k (n + 9) 0 [some (.ref cM), some (.int a1), some (.int a2), some (.int a3), some (.int a4)] [] g r = (fn_v (ev L xs m d nM_make [.ref cM, .int a2, .int a3, .int a4] g r) fun v3 g1 r2 => (fn_n (ev L xs m d nM_attach [.ref cM, .int a1, .int v3] g1 r2) fun g4 r5 => (some (.inl none, g4, r5)))) := by
  refine (fs_r (n := n + 3) 6 (pc' := 7) (L' := [some (.ref cM), some (.int a1), some (.int a2), some (.int a3), some (.int a4)]) (S' := [.int a4, .int a3, .int a2, .ref cM, .int a1, .ref cM]) rfl).trans ?_
  refine (fs_cv (n := n + 2) (N := nm_m160) (as := [.ref cM, .int a2, .int a3, .int a4]) (rest := [.int a1, .ref cM]) rfl rfl (Or.inl rfl) rfl rfl rfl rfl rfl).trans (fs_fv fun v3 g1 r2 => ?_)
  refine (fs_cn (n := n + 1) (N := nm_m173) (as := [.ref cM, .int a1, .int v3]) (rest := []) rfl rfl (Or.inl rfl) rfl rfl rfl rfl rfl).trans (fs_fn fun g4 r5 => ?_)
  exact (fs_rv (n := n + 0) rfl rfl).trans rfl
theorem qM_child4 (L : Nat) (xs : Nat → Int32) (m d : Nat) (a1 a2 a3 a4 : Int32) (g : a2_G) (r : a2_A) : ev L xs (m + 1) (d + 1) nM_child4 [.ref cM, .int a1, .int a2, .int a3, .int a4] g r = (fn_v (ev L xs (m + 1) d nM_make [.ref cM, .int a2, .int a3, .int a4] g r) fun v3 g1 r2 => (fn_n (ev L xs (m + 1) d nM_attach [.ref cM, .int a1, .int v3] g1 r2) fun g4 r5 => (some (.inl none, g4, r5)))) := (fs_ev (M := nm_m172) rfl rfl).trans (eM_child4 L xs (m + 1) d m 891 a1 a2 a3 a4 g r)
/-- CobolParserModel.attach(II)V -/
def BM_attach_45 (L : Nat) (xs : Nat → Int32) (m d k : Nat) (x1 x2 : Int32) (g : a2_G) (r : a2_A) : Option fn_Z := (if am_inr x1 (r fM_last).1 = true then (some (.inl none, g, (a2_ua r fM_last ((r fM_last).1, (upd (r fM_last).2 (x1 : Int32).toNatClampNeg x2))))) else none)
theorem bM_attach_45 (L : Nat) (xs : Nat → Int32) (m d k : Nat) (n : Nat) (x1 x2 : Int32) (g : a2_G) (r : a2_A) : bk L xs nM_attach nm_m173 m d k (n + 6) 45 [some (.ref cM), some (.int x1), some (.int x2)] [] g r = BM_attach_45 L xs m d k x1 x2 g r := by
  show _ = ((if am_inr x1 (r fM_last).1 = true then (some (.inl none, g, (a2_ua r fM_last ((r fM_last).1, (upd (r fM_last).2 (x1 : Int32).toNatClampNeg x2))))) else none) : Option fn_Z)
  refine (fs_r (n := n + 2) 4 (pc' := 51) (L' := [some (.ref cM), some (.int x1), some (.int x2)]) (S' := [.int x2, .int x1, .ref 10914]) rfl).trans ?_
  refine (fs_is (n := n + 1) (k := 914) rfl rfl).trans (fs_ite ?_ rfl)
  exact (fs_rv (n := n + 0) rfl rfl).trans rfl
theorem eM_attach (L : Nat) (xs : Nat → Int32) (m d k : Nat) (n : Nat) (a1 a2 : Int32) (g : a2_G) (r : a2_A) : bk L xs nM_attach nm_m173 m d k (n + 29) 0 [some (.ref cM), some (.int a1), some (.int a2)] [] g r = (if am_inr a2 (r fM_above).1 = true then (if am_inr a2 (r fM_next).1 = true then (if am_inr a1 (r fM_first).1 = true then (if am_c2 .ne ((r fM_first).2 (a1 : Int32).toNatClampNeg) 0 = true then (if am_inr a1 (r fM_last).1 = true then (if am_inr ((r fM_last).2 (a1 : Int32).toNatClampNeg) (r fM_next).1 = true then (BM_attach_45 L xs m d k a1 a2 g (a2_ua (a2_ua (a2_ua r fM_above ((r fM_above).1, (upd (r fM_above).2 (a2 : Int32).toNatClampNeg a1))) fM_next ((r fM_next).1, (upd (r fM_next).2 (a2 : Int32).toNatClampNeg 0))) fM_next ((r fM_next).1, (upd (upd (r fM_next).2 (a2 : Int32).toNatClampNeg 0) (((r fM_last).2 (a1 : Int32).toNatClampNeg) : Int32).toNatClampNeg a2)))) else none) else none) else (if am_inr a1 (r fM_first).1 = true then (BM_attach_45 L xs m d k a1 a2 g (a2_ua (a2_ua (a2_ua r fM_above ((r fM_above).1, (upd (r fM_above).2 (a2 : Int32).toNatClampNeg a1))) fM_next ((r fM_next).1, (upd (r fM_next).2 (a2 : Int32).toNatClampNeg 0))) fM_first ((r fM_first).1, (upd (r fM_first).2 (a1 : Int32).toNatClampNeg a2)))) else none)) else none) else none) else none) := by
  refine (fs_r (n := n + 25) 4 (pc' := 6) (L' := [some (.ref cM), some (.int a1), some (.int a2)]) (S' := [.int a1, .int a2, .ref 10916]) rfl).trans ?_
  refine (fs_is (n := n + 24) (k := 916) rfl rfl).trans (fs_ite ?_ rfl)
  refine (fs_r (n := n + 20) 4 (pc' := 13) (L' := [some (.ref cM), some (.int a1), some (.int a2)]) (S' := [.int 0, .int a2, .ref 10915]) rfl).trans ?_
  refine (fs_is (n := n + 19) (k := 915) rfl rfl).trans (fs_ite ?_ rfl)
  refine (fs_r (n := n + 16) 3 (pc' := 19) (L' := [some (.ref cM), some (.int a1), some (.int a2)]) (S' := [.int a1, .ref 10913]) rfl).trans ?_
  refine (fs_il (n := n + 15) (k := 913) rfl rfl).trans (fs_ite ?_ rfl)
  refine (fs_i (n := n + 14) rfl (t := 33) rfl (by decide)).trans (fs_ite ?_ ?_)
  · skip
    refine (fs_r (n := n + 9) 5 (pc' := 42) (L' := [some (.ref cM), some (.int a1), some (.int a2)]) (S' := [.int a1, .ref 10914, .ref 10915]) rfl).trans ?_
    refine (fs_il (n := n + 8) (k := 914) rfl rfl).trans (fs_ite ?_ rfl)
    refine (fs_r (n := n + 7) 1 (pc' := 44) (L' := [some (.ref cM), some (.int a1), some (.int a2)]) (S' := [.int a2, .int ((r fM_last).2 (a1 : Int32).toNatClampNeg), .ref 10915]) rfl).trans ?_
    refine (fs_is (n := n + 6) (k := 915) rfl rfl).trans (fs_ite ?_ rfl)
    exact bM_attach_45 L xs m d k (n + 0) a1 a2 g (a2_ua (a2_ua (a2_ua r fM_above ((r fM_above).1, (upd (r fM_above).2 (a2 : Int32).toNatClampNeg a1))) fM_next ((r fM_next).1, (upd (r fM_next).2 (a2 : Int32).toNatClampNeg 0))) fM_next ((r fM_next).1, (upd (upd (r fM_next).2 (a2 : Int32).toNatClampNeg 0) (((r fM_last).2 (a1 : Int32).toNatClampNeg) : Int32).toNatClampNeg a2)))
  · skip
    refine (fs_r (n := n + 10) 4 (pc' := 29) (L' := [some (.ref cM), some (.int a1), some (.int a2)]) (S' := [.int a2, .int a1, .ref 10913]) rfl).trans ?_
    refine (fs_is (n := n + 9) (k := 913) rfl rfl).trans (fs_ite ?_ rfl)
    refine (fs_go (n := n + 8) rfl (t := 45) rfl (by decide)).trans ?_
    exact bM_attach_45 L xs m d k (n + 2) a1 a2 g (a2_ua (a2_ua (a2_ua r fM_above ((r fM_above).1, (upd (r fM_above).2 (a2 : Int32).toNatClampNeg a1))) fM_next ((r fM_next).1, (upd (r fM_next).2 (a2 : Int32).toNatClampNeg 0))) fM_first ((r fM_first).1, (upd (r fM_first).2 (a1 : Int32).toNatClampNeg a2)))
theorem qM_attach (L : Nat) (xs : Nat → Int32) (m d : Nat) (a1 a2 : Int32) (g : a2_G) (r : a2_A) : ev L xs (m + 1) (d + 1) nM_attach [.ref cM, .int a1, .int a2] g r = (if am_inr a2 (r fM_above).1 = true then (if am_inr a2 (r fM_next).1 = true then (if am_inr a1 (r fM_first).1 = true then (if am_c2 .ne ((r fM_first).2 (a1 : Int32).toNatClampNeg) 0 = true then (if am_inr a1 (r fM_last).1 = true then (if am_inr ((r fM_last).2 (a1 : Int32).toNatClampNeg) (r fM_next).1 = true then (BM_attach_45 L xs (m + 1) d m a1 a2 g (a2_ua (a2_ua (a2_ua r fM_above ((r fM_above).1, (upd (r fM_above).2 (a2 : Int32).toNatClampNeg a1))) fM_next ((r fM_next).1, (upd (r fM_next).2 (a2 : Int32).toNatClampNeg 0))) fM_next ((r fM_next).1, (upd (upd (r fM_next).2 (a2 : Int32).toNatClampNeg 0) (((r fM_last).2 (a1 : Int32).toNatClampNeg) : Int32).toNatClampNeg a2)))) else none) else none) else (if am_inr a1 (r fM_first).1 = true then (BM_attach_45 L xs (m + 1) d m a1 a2 g (a2_ua (a2_ua (a2_ua r fM_above ((r fM_above).1, (upd (r fM_above).2 (a2 : Int32).toNatClampNeg a1))) fM_next ((r fM_next).1, (upd (r fM_next).2 (a2 : Int32).toNatClampNeg 0))) fM_first ((r fM_first).1, (upd (r fM_first).2 (a1 : Int32).toNatClampNeg a2)))) else none)) else none) else none) else none) := (fs_ev (M := nm_m173) rfl rfl).trans (eM_attach L xs (m + 1) d m 871 a1 a2 g r)
/-- CobolParserModel.literal(I)V -/
def BM_literal_42 (L : Nat) (xs : Nat → Int32) (m d k : Nat) (x1 : Int32) (g : a2_G) (r : a2_A) : Option fn_Z := (some (.inl none, g, r))
theorem bM_literal_42 (L : Nat) (xs : Nat → Int32) (m d k : Nat) (n : Nat) (x1 : Int32) (g : a2_G) (r : a2_A) : bk L xs nM_literal nm_m174 m d k (n + 1) 42 [some (.ref cM), some (.int x1)] [] g r = BM_literal_42 L xs m d k x1 g r := by
  show _ = ((some (.inl none, g, r)) : Option fn_Z)
  exact (fs_rv (n := n + 0) rfl rfl).trans rfl
def BM_literal_37 (L : Nat) (xs : Nat → Int32) (m d k : Nat) (x1 : Int32) (g : a2_G) (r : a2_A) : Option fn_Z := (fn_n (ev L xs m d nM_operandOf [.ref cM, .int x1] g r) fun g4 r5 => (BM_literal_42 L xs m d k x1 g4 r5))
theorem bM_literal_37 (L : Nat) (xs : Nat → Int32) (m d k : Nat) (n : Nat) (x1 : Int32) (g : a2_G) (r : a2_A) : bk L xs nM_literal nm_m174 m d k (n + 4) 37 [some (.ref cM), some (.int x1)] [] g r = BM_literal_37 L xs m d k x1 g r := by
  show _ = ((fn_n (ev L xs m d nM_operandOf [.ref cM, .int x1] g r) fun g4 r5 => (BM_literal_42 L xs m d k x1 g4 r5)) : Option fn_Z)
  refine (fs_r (n := n + 2) 2 (pc' := 39) (L' := [some (.ref cM), some (.int x1)]) (S' := [.int x1, .ref cM]) rfl).trans ?_
  refine (fs_cn (n := n + 1) (N := nm_m175) (as := [.ref cM, .int x1]) (rest := []) rfl rfl (Or.inl rfl) rfl rfl rfl rfl rfl).trans (fs_fn fun g4 r5 => ?_)
  exact bM_literal_42 L xs m d k (n + 0) x1 g4 r5
theorem eM_literal (L : Nat) (xs : Nat → Int32) (m d k : Nat) (n : Nat) (a1 : Int32) (g : a2_G) (r : a2_A) : bk L xs nM_literal nm_m174 m d k (n + 20) 0 [some (.ref cM), some (.int a1)] [] g r = (fn_v (ev L xs m d nM_isKind [.ref cM, .int (g fM_at), .int 2] g r) fun v3 g1 r2 => (if am_c2 .ne v3 0 = true then (BM_literal_37 L xs m d k a1 g1 r2) else (fn_v (ev L xs m d nM_isKind [.ref cM, .int (g1 fM_at), .int 3] g1 r2) fun v8 g6 r7 => (if am_c2 .ne v8 0 = true then (BM_literal_37 L xs m d k a1 g6 r7) else (fn_v (ev L xs m d nM_fail [.ref cM, .int 1, .int (g6 fM_at)] g6 r7) fun v11 g9 r10 => (BM_literal_42 L xs m d k a1 g9 r10)))))) := by
  refine (fs_r (n := n + 16) 4 (pc' := 6) (L' := [some (.ref cM), some (.int a1)]) (S' := [.int 2, .int (g fM_at), .ref cM]) rfl).trans ?_
  refine (fs_cv (n := n + 15) (N := nm_m166) (as := [.ref cM, .int (g fM_at), .int 2]) (rest := []) rfl rfl (Or.inl rfl) rfl rfl rfl rfl rfl).trans (fs_fv fun v3 g1 r2 => ?_)
  refine (fs_i (n := n + 14) rfl (t := 37) rfl (by decide)).trans (fs_ite ?_ ?_)
  · skip
    exact bM_literal_37 L xs m d k (n + 10) a1 g1 r2
  · skip
    refine (fs_r (n := n + 10) 4 (pc' := 18) (L' := [some (.ref cM), some (.int a1)]) (S' := [.int 3, .int (g1 fM_at), .ref cM]) rfl).trans ?_
    refine (fs_cv (n := n + 9) (N := nm_m166) (as := [.ref cM, .int (g1 fM_at), .int 3]) (rest := []) rfl rfl (Or.inl rfl) rfl rfl rfl rfl rfl).trans (fs_fv fun v8 g6 r7 => ?_)
    refine (fs_i (n := n + 8) rfl (t := 37) rfl (by decide)).trans (fs_ite ?_ ?_)
    · skip
      exact bM_literal_37 L xs m d k (n + 4) a1 g6 r7
    · skip
      refine (fs_r (n := n + 4) 4 (pc' := 30) (L' := [some (.ref cM), some (.int a1)]) (S' := [.int (g6 fM_at), .int 1, .ref cM]) rfl).trans ?_
      refine (fs_cv (n := n + 3) (N := nm_m164) (as := [.ref cM, .int 1, .int (g6 fM_at)]) (rest := []) rfl rfl (Or.inl rfl) rfl rfl rfl rfl rfl).trans (fs_fv fun v11 g9 r10 => ?_)
      refine (fs_r (n := n + 2) 1 (pc' := 34) (L' := [some (.ref cM), some (.int a1)]) (S' := []) rfl).trans ?_
      refine (fs_go (n := n + 1) rfl (t := 42) rfl (by decide)).trans ?_
      exact bM_literal_42 L xs m d k (n + 0) a1 g9 r10
theorem qM_literal (L : Nat) (xs : Nat → Int32) (m d : Nat) (a1 : Int32) (g : a2_G) (r : a2_A) : ev L xs (m + 1) (d + 1) nM_literal [.ref cM, .int a1] g r = (fn_v (ev L xs (m + 1) d nM_isKind [.ref cM, .int (g fM_at), .int 2] g r) fun v3 g1 r2 => (if am_c2 .ne v3 0 = true then (BM_literal_37 L xs (m + 1) d m a1 g1 r2) else (fn_v (ev L xs (m + 1) d nM_isKind [.ref cM, .int (g1 fM_at), .int 3] g1 r2) fun v8 g6 r7 => (if am_c2 .ne v8 0 = true then (BM_literal_37 L xs (m + 1) d m a1 g6 r7) else (fn_v (ev L xs (m + 1) d nM_fail [.ref cM, .int 1, .int (g6 fM_at)] g6 r7) fun v11 g9 r10 => (BM_literal_42 L xs (m + 1) d m a1 g9 r10)))))) := (fs_ev (M := nm_m174) rfl rfl).trans (eM_literal L xs (m + 1) d m 880 a1 g r)
/-- CobolParserModel.operandOf(I)V -/
def BM_operandOf_15 (L : Nat) (xs : Nat → Int32) (m d k : Nat) (x1 x2 : Int32) (g : a2_G) (r : a2_A) : Option fn_Z := (some (.inl none, g, r))
theorem bM_operandOf_15 (L : Nat) (xs : Nat → Int32) (m d k : Nat) (n : Nat) (x1 x2 : Int32) (g : a2_G) (r : a2_A) : bk L xs nM_operandOf nm_m175 m d k (n + 1) 15 [some (.ref cM), some (.int x1), some (.int x2)] [] g r = BM_operandOf_15 L xs m d k x1 x2 g r := by
  show _ = ((some (.inl none, g, r)) : Option fn_Z)
  exact (fs_rv (n := n + 0) rfl rfl).trans rfl
theorem eM_operandOf (L : Nat) (xs : Nat → Int32) (m d k : Nat) (n : Nat) (a1 : Int32) (g : a2_G) (r : a2_A) : bk L xs nM_operandOf nm_m175 m d k (n + 10) 0 [some (.ref cM), some (.int a1), none] [] g r = (fn_v (ev L xs m d nM_operand [.ref cM] g r) fun v3 g1 r2 => (if am_c2 .le v3 0 = true then (BM_operandOf_15 L xs m d k a1 v3 g1 r2) else (fn_n (ev L xs m d nM_attach [.ref cM, .int a1, .int v3] g1 r2) fun g4 r5 => (BM_operandOf_15 L xs m d k a1 v3 g4 r5)))) := by
  refine (fs_r (n := n + 9) 1 (pc' := 1) (L' := [some (.ref cM), some (.int a1), none]) (S' := [.ref cM]) rfl).trans ?_
  refine (fs_cv (n := n + 8) (N := nm_m176) (as := [.ref cM]) (rest := []) rfl rfl (Or.inl rfl) rfl rfl rfl rfl rfl).trans (fs_fv fun v3 g1 r2 => ?_)
  refine (fs_r (n := n + 6) 2 (pc' := 6) (L' := [some (.ref cM), some (.int a1), some (.int v3)]) (S' := [.int v3]) rfl).trans ?_
  refine (fs_i (n := n + 5) rfl (t := 15) rfl (by decide)).trans (fs_ite ?_ ?_)
  · skip
    exact bM_operandOf_15 L xs m d k (n + 4) a1 v3 g1 r2
  · skip
    refine (fs_r (n := n + 2) 3 (pc' := 12) (L' := [some (.ref cM), some (.int a1), some (.int v3)]) (S' := [.int v3, .int a1, .ref cM]) rfl).trans ?_
    refine (fs_cn (n := n + 1) (N := nm_m173) (as := [.ref cM, .int a1, .int v3]) (rest := []) rfl rfl (Or.inl rfl) rfl rfl rfl rfl rfl).trans (fs_fn fun g4 r5 => ?_)
    exact bM_operandOf_15 L xs m d k (n + 0) a1 v3 g4 r5
theorem qM_operandOf (L : Nat) (xs : Nat → Int32) (m d : Nat) (a1 : Int32) (g : a2_G) (r : a2_A) : ev L xs (m + 1) (d + 1) nM_operandOf [.ref cM, .int a1] g r = (fn_v (ev L xs (m + 1) d nM_operand [.ref cM] g r) fun v3 g1 r2 => (if am_c2 .le v3 0 = true then (BM_operandOf_15 L xs (m + 1) d m a1 v3 g1 r2) else (fn_n (ev L xs (m + 1) d nM_attach [.ref cM, .int a1, .int v3] g1 r2) fun g4 r5 => (BM_operandOf_15 L xs (m + 1) d m a1 v3 g4 r5)))) := (fs_ev (M := nm_m175) rfl rfl).trans (eM_operandOf L xs (m + 1) d m 890 a1 g r)
/-- CobolParserModel.operand()I -/
def BM_operand_18 (L : Nat) (xs : Nat → Int32) (m d k : Nat) (g : a2_G) (r : a2_A) : Option fn_Z := (fn_v (ev L xs m d nM_fail [.ref cM, .int 1, .int (g fM_at)] g r) fun v3 g1 r2 => (some (.inl (some (.int 0)), g1, r2)))
theorem bM_operand_18 (L : Nat) (xs : Nat → Int32) (m d k : Nat) (n : Nat) (g : a2_G) (r : a2_A) : bk L xs nM_operand nm_m176 m d k (n + 8) 18 [some (.ref cM)] [] g r = BM_operand_18 L xs m d k g r := by
  show _ = ((fn_v (ev L xs m d nM_fail [.ref cM, .int 1, .int (g fM_at)] g r) fun v3 g1 r2 => (some (.inl (some (.int 0)), g1, r2))) : Option fn_Z)
  refine (fs_r (n := n + 4) 4 (pc' := 24) (L' := [some (.ref cM)]) (S' := [.int (g fM_at), .int 1, .ref cM]) rfl).trans ?_
  refine (fs_cv (n := n + 3) (N := nm_m164) (as := [.ref cM, .int 1, .int (g fM_at)]) (rest := []) rfl rfl (Or.inl rfl) rfl rfl rfl rfl rfl).trans (fs_fv fun v3 g1 r2 => ?_)
  refine (fs_r (n := n + 1) 2 (pc' := 29) (L' := [some (.ref cM)]) (S' := [.int 0]) rfl).trans ?_
  exact (fs_ri (n := n + 0) rfl rfl).trans rfl
theorem eM_operand (L : Nat) (xs : Nat → Int32) (m d k : Nat) (n : Nat) (g : a2_G) (r : a2_A) : bk L xs nM_operand nm_m176 m d k (n + 39) 0 [some (.ref cM)] [] g r = (if am_c2 .ne (g fM_bad) 0 = true then (BM_operand_18 L xs m d k g r) else (fn_v (ev L xs m d nM_isOperand [.ref cM, .int (g fM_at)] g r) fun v6 g4 r5 => (if am_c2 .ne v6 0 = true then (if am_inr (((g4 fM_at) + 1) - 1) (r5 fM_kinds).1 = true then (if am_inr (((g4 fM_at) + 1) - 1) (r5 fM_values).1 = true then (fn_v (ev L xs m d nM_make [.ref cM, .int 41, .int ((100000 * ((r5 fM_kinds).2 ((((g4 fM_at) + 1) - 1) : Int32).toNatClampNeg)) + ((r5 fM_values).2 ((((g4 fM_at) + 1) - 1) : Int32).toNatClampNeg)), .int (((g4 fM_at) + 1) - 1)] (upd g4 fM_at ((g4 fM_at) + 1)) r5) fun v9 g7 r8 => (some (.inl (some (.int v9)), g7, r8))) else none) else none) else (BM_operand_18 L xs m d k g4 r5)))) := by
  refine (fs_r (n := n + 37) 2 (pc' := 4) (L' := [some (.ref cM)]) (S' := [.int (g fM_bad)]) rfl).trans ?_
  refine (fs_i (n := n + 36) rfl (t := 18) rfl (by decide)).trans (fs_ite ?_ ?_)
  · skip
    exact bM_operand_18 L xs m d k (n + 28) g r
  · skip
    refine (fs_r (n := n + 33) 3 (pc' := 12) (L' := [some (.ref cM)]) (S' := [.int (g fM_at), .ref cM]) rfl).trans ?_
    refine (fs_cv (n := n + 32) (N := nm_m177) (as := [.ref cM, .int (g fM_at)]) (rest := []) rfl rfl (Or.inl rfl) rfl rfl rfl rfl rfl).trans (fs_fv fun v6 g4 r5 => ?_)
    refine (fs_i (n := n + 31) rfl (t := 30) rfl (by decide)).trans (fs_ite ?_ ?_)
    · skip
      refine (fs_r (n := n + 26) 5 (pc' := 37) (L' := [some (.ref cM)]) (S' := [.int ((g4 fM_at) + 1), .ref cM]) rfl).trans ?_
      refine (fs_pf (n := n + 25) (ci := 9) (j := 41) rfl rfl rfl rfl).trans ?_
      refine (fs_r (n := n + 16) 9 (pc' := 55) (L' := [some (.ref cM)]) (S' := [.int (((g4 fM_at) + 1) - 1), .ref 10902, .int 100000, .int 41, .ref cM]) rfl).trans ?_
      refine (fs_il (n := n + 15) (k := 902) rfl rfl).trans (fs_ite ?_ rfl)
      refine (fs_r (n := n + 8) 7 (pc' := 67) (L' := [some (.ref cM)]) (S' := [.int (((g4 fM_at) + 1) - 1), .ref 10903, .int (100000 * ((r5 fM_kinds).2 ((((g4 fM_at) + 1) - 1) : Int32).toNatClampNeg)), .int 41, .ref cM]) rfl).trans ?_
      refine (fs_il (n := n + 7) (k := 903) rfl rfl).trans (fs_ite ?_ rfl)
      refine (fs_r (n := n + 2) 5 (pc' := 75) (L' := [some (.ref cM)]) (S' := [.int (((g4 fM_at) + 1) - 1), .int ((100000 * ((r5 fM_kinds).2 ((((g4 fM_at) + 1) - 1) : Int32).toNatClampNeg)) + ((r5 fM_values).2 ((((g4 fM_at) + 1) - 1) : Int32).toNatClampNeg)), .int 41, .ref cM]) rfl).trans ?_
      refine (fs_cv (n := n + 1) (N := nm_m160) (as := [.ref cM, .int 41, .int ((100000 * ((r5 fM_kinds).2 ((((g4 fM_at) + 1) - 1) : Int32).toNatClampNeg)) + ((r5 fM_values).2 ((((g4 fM_at) + 1) - 1) : Int32).toNatClampNeg)), .int (((g4 fM_at) + 1) - 1)]) (rest := []) rfl rfl (Or.inl rfl) rfl rfl rfl rfl rfl).trans (fs_fv fun v9 g7 r8 => ?_)
      exact (fs_ri (n := n + 0) rfl rfl).trans rfl
    · skip
      exact bM_operand_18 L xs m d k (n + 23) g4 r5
theorem qM_operand (L : Nat) (xs : Nat → Int32) (m d : Nat) (g : a2_G) (r : a2_A) : ev L xs (m + 1) (d + 1) nM_operand [.ref cM] g r = (if am_c2 .ne (g fM_bad) 0 = true then (BM_operand_18 L xs (m + 1) d m g r) else (fn_v (ev L xs (m + 1) d nM_isOperand [.ref cM, .int (g fM_at)] g r) fun v6 g4 r5 => (if am_c2 .ne v6 0 = true then (if am_inr (((g4 fM_at) + 1) - 1) (r5 fM_kinds).1 = true then (if am_inr (((g4 fM_at) + 1) - 1) (r5 fM_values).1 = true then (fn_v (ev L xs (m + 1) d nM_make [.ref cM, .int 41, .int ((100000 * ((r5 fM_kinds).2 ((((g4 fM_at) + 1) - 1) : Int32).toNatClampNeg)) + ((r5 fM_values).2 ((((g4 fM_at) + 1) - 1) : Int32).toNatClampNeg)), .int (((g4 fM_at) + 1) - 1)] (upd g4 fM_at ((g4 fM_at) + 1)) r5) fun v9 g7 r8 => (some (.inl (some (.int v9)), g7, r8))) else none) else none) else (BM_operand_18 L xs (m + 1) d m g4 r5)))) := (fs_ev (M := nm_m176) rfl rfl).trans (eM_operand L xs (m + 1) d m 861 g r)
/-- CobolParserModel.isOperand(I)Z -/
def BM_isOperand_32 (L : Nat) (xs : Nat → Int32) (m d k : Nat) (x1 x2 : Int32) (g : a2_G) (r : a2_A) : Option fn_Z := (if x2 = 0 ∨ x2 = 1 then some (.inl (some (.int x2)), g, r) else none)
theorem bM_isOperand_32 (L : Nat) (xs : Nat → Int32) (m d k : Nat) (n : Nat) (x1 x2 : Int32) (g : a2_G) (r : a2_A) : bk L xs nM_isOperand nm_m177 m d k (n + 1) 32 [some (.ref cM), some (.int x1)] [.int x2] g r = BM_isOperand_32 L xs m d k x1 x2 g r := by
  show _ = ((if x2 = 0 ∨ x2 = 1 then some (.inl (some (.int x2)), g, r) else none) : Option fn_Z)
  exact (fs_rb (n := n + 0) rfl rfl).trans rfl
def BM_isOperand_27 (L : Nat) (xs : Nat → Int32) (m d k : Nat) (x1 : Int32) (g : a2_G) (r : a2_A) : Option fn_Z := (BM_isOperand_32 L xs m d k x1 1 g r)
theorem bM_isOperand_27 (L : Nat) (xs : Nat → Int32) (m d k : Nat) (n : Nat) (x1 : Int32) (g : a2_G) (r : a2_A) : bk L xs nM_isOperand nm_m177 m d k (n + 3) 27 [some (.ref cM), some (.int x1)] [] g r = BM_isOperand_27 L xs m d k x1 g r := by
  show _ = ((BM_isOperand_32 L xs m d k x1 1 g r) : Option fn_Z)
  refine (fs_r (n := n + 2) 1 (pc' := 28) (L' := [some (.ref cM), some (.int x1)]) (S' := [.int 1]) rfl).trans ?_
  refine (fs_go (n := n + 1) rfl (t := 32) rfl (by decide)).trans ?_
  exact bM_isOperand_32 L xs m d k (n + 0) x1 1 g r
theorem eM_isOperand (L : Nat) (xs : Nat → Int32) (m d k : Nat) (n : Nat) (a1 : Int32) (g : a2_G) (r : a2_A) : bk L xs nM_isOperand nm_m177 m d k (n + 18) 0 [some (.ref cM), some (.int a1)] [] g r = (fn_v (ev L xs m d nM_isKind [.ref cM, .int a1, .int 1] g r) fun v3 g1 r2 => (if am_c2 .ne v3 0 = true then (BM_isOperand_27 L xs m d k a1 g1 r2) else (fn_v (ev L xs m d nM_isKind [.ref cM, .int a1, .int 2] g1 r2) fun v6 g4 r5 => (if am_c2 .ne v6 0 = true then (BM_isOperand_27 L xs m d k a1 g4 r5) else (fn_v (ev L xs m d nM_isKind [.ref cM, .int a1, .int 3] g4 r5) fun v9 g7 r8 => (if am_c2 .eq v9 0 = true then (BM_isOperand_32 L xs m d k a1 0 g7 r8) else (BM_isOperand_27 L xs m d k a1 g7 r8))))))) := by
  refine (fs_r (n := n + 15) 3 (pc' := 3) (L' := [some (.ref cM), some (.int a1)]) (S' := [.int 1, .int a1, .ref cM]) rfl).trans ?_
  refine (fs_cv (n := n + 14) (N := nm_m166) (as := [.ref cM, .int a1, .int 1]) (rest := []) rfl rfl (Or.inl rfl) rfl rfl rfl rfl rfl).trans (fs_fv fun v3 g1 r2 => ?_)
  refine (fs_i (n := n + 13) rfl (t := 27) rfl (by decide)).trans (fs_ite ?_ ?_)
  · skip
    exact bM_isOperand_27 L xs m d k (n + 10) a1 g1 r2
  · skip
    refine (fs_r (n := n + 10) 3 (pc' := 12) (L' := [some (.ref cM), some (.int a1)]) (S' := [.int 2, .int a1, .ref cM]) rfl).trans ?_
    refine (fs_cv (n := n + 9) (N := nm_m166) (as := [.ref cM, .int a1, .int 2]) (rest := []) rfl rfl (Or.inl rfl) rfl rfl rfl rfl rfl).trans (fs_fv fun v6 g4 r5 => ?_)
    refine (fs_i (n := n + 8) rfl (t := 27) rfl (by decide)).trans (fs_ite ?_ ?_)
    · skip
      exact bM_isOperand_27 L xs m d k (n + 5) a1 g4 r5
    · skip
      refine (fs_r (n := n + 5) 3 (pc' := 21) (L' := [some (.ref cM), some (.int a1)]) (S' := [.int 3, .int a1, .ref cM]) rfl).trans ?_
      refine (fs_cv (n := n + 4) (N := nm_m166) (as := [.ref cM, .int a1, .int 3]) (rest := []) rfl rfl (Or.inl rfl) rfl rfl rfl rfl rfl).trans (fs_fv fun v9 g7 r8 => ?_)
      refine (fs_i (n := n + 3) rfl (t := 31) rfl (by decide)).trans (fs_ite ?_ ?_)
      · skip
        refine (fs_r (n := n + 2) 1 (pc' := 32) (L' := [some (.ref cM), some (.int a1)]) (S' := [.int 0]) rfl).trans ?_
        exact bM_isOperand_32 L xs m d k (n + 1) a1 0 g7 r8
      · skip
        exact bM_isOperand_27 L xs m d k (n + 0) a1 g7 r8
theorem qM_isOperand (L : Nat) (xs : Nat → Int32) (m d : Nat) (a1 : Int32) (g : a2_G) (r : a2_A) : ev L xs (m + 1) (d + 1) nM_isOperand [.ref cM, .int a1] g r = (fn_v (ev L xs (m + 1) d nM_isKind [.ref cM, .int a1, .int 1] g r) fun v3 g1 r2 => (if am_c2 .ne v3 0 = true then (BM_isOperand_27 L xs (m + 1) d m a1 g1 r2) else (fn_v (ev L xs (m + 1) d nM_isKind [.ref cM, .int a1, .int 2] g1 r2) fun v6 g4 r5 => (if am_c2 .ne v6 0 = true then (BM_isOperand_27 L xs (m + 1) d m a1 g4 r5) else (fn_v (ev L xs (m + 1) d nM_isKind [.ref cM, .int a1, .int 3] g4 r5) fun v9 g7 r8 => (if am_c2 .eq v9 0 = true then (BM_isOperand_32 L xs (m + 1) d m a1 0 g7 r8) else (BM_isOperand_27 L xs (m + 1) d m a1 g7 r8))))))) := (fs_ev (M := nm_m177) rfl rfl).trans (eM_isOperand L xs (m + 1) d m 882 a1 g r)
/-- CobolParserModel.occurs(II)V -/
def BM_occurs_93 (L : Nat) (xs : Nat → Int32) (m d k : Nat) (x1 x2 x3 x4 : Int32) (g : a2_G) (r : a2_A) : Option fn_Z := (some (.inl none, g, r))
theorem bM_occurs_93 (L : Nat) (xs : Nat → Int32) (m d k : Nat) (n : Nat) (x1 x2 x3 x4 : Int32) (g : a2_G) (r : a2_A) : bk L xs nM_occurs nm_m178 m d k (n + 1) 93 [some (.ref cM), some (.int x1), some (.int x2), some (.int x3), some (.int x4)] [] g r = BM_occurs_93 L xs m d k x1 x2 x3 x4 g r := by
  show _ = ((some (.inl none, g, r)) : Option fn_Z)
  exact (fs_rv (n := n + 0) rfl rfl).trans rfl
def BM_occurs_69 (L : Nat) (xs : Nat → Int32) (m d k : Nat) (x1 x2 x3 x4 : Int32) (g : a2_G) (r : a2_A) : Option fn_Z := (fn_v (ev L xs m d nM_meets [.ref cM, .int 10] g r) fun v20 g18 r19 => (if am_c2 .eq v20 0 = true then (BM_occurs_93 L xs m d k x1 x2 x3 x4 g18 r19) else (fn_v (ev L xs m d nM_meets [.ref cM, .int 25] g18 r19) fun v23 g21 r22 => (fn_n (ev L xs m d nM_names [.ref cM, .int x3, .int 17] g21 r22) fun g24 r25 => (BM_occurs_93 L xs m d k x1 x2 x3 v23 g24 r25)))))
theorem bM_occurs_69 (L : Nat) (xs : Nat → Int32) (m d k : Nat) (n : Nat) (x1 x2 x3 x4 : Int32) (g : a2_G) (r : a2_A) : bk L xs nM_occurs nm_m178 m d k (n + 13) 69 [some (.ref cM), some (.int x1), some (.int x2), some (.int x3), some (.int x4)] [] g r = BM_occurs_69 L xs m d k x1 x2 x3 x4 g r := by
  show _ = ((fn_v (ev L xs m d nM_meets [.ref cM, .int 10] g r) fun v20 g18 r19 => (if am_c2 .eq v20 0 = true then (BM_occurs_93 L xs m d k x1 x2 x3 x4 g18 r19) else (fn_v (ev L xs m d nM_meets [.ref cM, .int 25] g18 r19) fun v23 g21 r22 => (fn_n (ev L xs m d nM_names [.ref cM, .int x3, .int 17] g21 r22) fun g24 r25 => (BM_occurs_93 L xs m d k x1 x2 x3 v23 g24 r25))))) : Option fn_Z)
  refine (fs_r (n := n + 11) 2 (pc' := 72) (L' := [some (.ref cM), some (.int x1), some (.int x2), some (.int x3), some (.int x4)]) (S' := [.int 10, .ref cM]) rfl).trans ?_
  refine (fs_cv (n := n + 10) (N := nm_m169) (as := [.ref cM, .int 10]) (rest := []) rfl rfl (Or.inl rfl) rfl rfl rfl rfl rfl).trans (fs_fv fun v20 g18 r19 => ?_)
  refine (fs_i (n := n + 9) rfl (t := 93) rfl (by decide)).trans (fs_ite ?_ ?_)
  · skip
    exact bM_occurs_93 L xs m d k (n + 8) x1 x2 x3 x4 g18 r19
  · skip
    refine (fs_r (n := n + 7) 2 (pc' := 81) (L' := [some (.ref cM), some (.int x1), some (.int x2), some (.int x3), some (.int x4)]) (S' := [.int 25, .ref cM]) rfl).trans ?_
    refine (fs_cv (n := n + 6) (N := nm_m169) (as := [.ref cM, .int 25]) (rest := []) rfl rfl (Or.inl rfl) rfl rfl rfl rfl rfl).trans (fs_fv fun v23 g21 r22 => ?_)
    refine (fs_r (n := n + 2) 4 (pc' := 90) (L' := [some (.ref cM), some (.int x1), some (.int x2), some (.int x3), some (.int v23)]) (S' := [.int 17, .int x3, .ref cM]) rfl).trans ?_
    refine (fs_cn (n := n + 1) (N := nm_m179) (as := [.ref cM, .int x3, .int 17]) (rest := []) rfl rfl (Or.inl rfl) rfl rfl rfl rfl rfl).trans (fs_fn fun g24 r25 => ?_)
    exact bM_occurs_93 L xs m d k (n + 0) x1 x2 x3 v23 g24 r25
theorem eM_occurs (L : Nat) (xs : Nat → Int32) (m d k : Nat) (n : Nat) (a1 a2 : Int32) (g : a2_G) (r : a2_A) : bk L xs nM_occurs nm_m178 m d k (n + 50) 0 [some (.ref cM), some (.int a1), some (.int a2), none, none] [] g r = (fn_v (ev L xs m d nM_mustBe [.ref cM, .int 2] g r) fun v3 g1 r2 => (if am_c2 .ne v3 0 = true then (fn_v (ev L xs m d nM_passed [.ref cM] g1 r2) fun v6 g4 r5 => (fn_v (ev L xs m d nM_make [.ref cM, .int 15, .int v6, .int a2] g4 r5) fun v9 g7 r8 => (fn_n (ev L xs m d nM_attach [.ref cM, .int a1, .int v9] g7 r8) fun g10 r11 => (fn_v (ev L xs m d nM_meets [.ref cM, .int 23] g10 r11) fun v14 g12 r13 => (fn_v (ev L xs m d nM_meets [.ref cM, .int 24] g12 r13) fun v17 g15 r16 => (if am_c2 .eq v17 0 = true then (BM_occurs_69 L xs m d k a1 a2 v9 v14 g15 r16) else (fn_v (ev L xs m d nM_mustBe [.ref cM, .int 1] g15 r16) fun v28 g26 r27 => (if am_c2 .eq v28 0 = true then (BM_occurs_69 L xs m d k a1 a2 v9 v14 g26 r27) else (fn_v (ev L xs m d nM_passed [.ref cM] g26 r27) fun v31 g29 r30 => (fn_n (ev L xs m d nM_child4 [.ref cM, .int v9, .int 16, .int v31, .int ((g29 fM_at) - 1)] g29 r30) fun g32 r33 => (BM_occurs_69 L xs m d k a1 a2 v9 v14 g32 r33))))))))))) else (some (.inl none, g1, r2)))) := by
  refine (fs_r (n := n + 48) 2 (pc' := 2) (L' := [some (.ref cM), some (.int a1), some (.int a2), none, none]) (S' := [.int 2, .ref cM]) rfl).trans ?_
  refine (fs_cv (n := n + 47) (N := nm_m170) (as := [.ref cM, .int 2]) (rest := []) rfl rfl (Or.inl rfl) rfl rfl rfl rfl rfl).trans (fs_fv fun v3 g1 r2 => ?_)
  refine (fs_i (n := n + 46) rfl (t := 9) rfl (by decide)).trans (fs_ite ?_ ?_)
  · skip
    refine (fs_r (n := n + 43) 3 (pc' := 13) (L' := [some (.ref cM), some (.int a1), some (.int a2), none, none]) (S' := [.ref cM, .int 15, .ref cM]) rfl).trans ?_
    refine (fs_cv (n := n + 42) (N := nm_m171) (as := [.ref cM]) (rest := [.int 15, .ref cM]) rfl rfl (Or.inl rfl) rfl rfl rfl rfl rfl).trans (fs_fv fun v6 g4 r5 => ?_)
    refine (fs_r (n := n + 41) 1 (pc' := 17) (L' := [some (.ref cM), some (.int a1), some (.int a2), none, none]) (S' := [.int a2, .int v6, .int 15, .ref cM]) rfl).trans ?_
    refine (fs_cv (n := n + 40) (N := nm_m160) (as := [.ref cM, .int 15, .int v6, .int a2]) (rest := []) rfl rfl (Or.inl rfl) rfl rfl rfl rfl rfl).trans (fs_fv fun v9 g7 r8 => ?_)
    refine (fs_r (n := n + 36) 4 (pc' := 24) (L' := [some (.ref cM), some (.int a1), some (.int a2), some (.int v9), none]) (S' := [.int v9, .int a1, .ref cM]) rfl).trans ?_
    refine (fs_cn (n := n + 35) (N := nm_m173) (as := [.ref cM, .int a1, .int v9]) (rest := []) rfl rfl (Or.inl rfl) rfl rfl rfl rfl rfl).trans (fs_fn fun g10 r11 => ?_)
    refine (fs_r (n := n + 33) 2 (pc' := 30) (L' := [some (.ref cM), some (.int a1), some (.int a2), some (.int v9), none]) (S' := [.int 23, .ref cM]) rfl).trans ?_
    refine (fs_cv (n := n + 32) (N := nm_m169) (as := [.ref cM, .int 23]) (rest := []) rfl rfl (Or.inl rfl) rfl rfl rfl rfl rfl).trans (fs_fv fun v14 g12 r13 => ?_)
    refine (fs_r (n := n + 29) 3 (pc' := 38) (L' := [some (.ref cM), some (.int a1), some (.int a2), some (.int v9), some (.int v14)]) (S' := [.int 24, .ref cM]) rfl).trans ?_
    refine (fs_cv (n := n + 28) (N := nm_m169) (as := [.ref cM, .int 24]) (rest := []) rfl rfl (Or.inl rfl) rfl rfl rfl rfl rfl).trans (fs_fv fun v17 g15 r16 => ?_)
    refine (fs_i (n := n + 27) rfl (t := 69) rfl (by decide)).trans (fs_ite ?_ ?_)
    · skip
      exact bM_occurs_69 L xs m d k (n + 14) a1 a2 v9 v14 g15 r16
    · skip
      refine (fs_r (n := n + 25) 2 (pc' := 46) (L' := [some (.ref cM), some (.int a1), some (.int a2), some (.int v9), some (.int v14)]) (S' := [.int 1, .ref cM]) rfl).trans ?_
      refine (fs_cv (n := n + 24) (N := nm_m170) (as := [.ref cM, .int 1]) (rest := []) rfl rfl (Or.inl rfl) rfl rfl rfl rfl rfl).trans (fs_fv fun v28 g26 r27 => ?_)
      refine (fs_i (n := n + 23) rfl (t := 69) rfl (by decide)).trans (fs_ite ?_ ?_)
      · skip
        exact bM_occurs_69 L xs m d k (n + 10) a1 a2 v9 v14 g26 r27
      · skip
        refine (fs_r (n := n + 19) 4 (pc' := 57) (L' := [some (.ref cM), some (.int a1), some (.int a2), some (.int v9), some (.int v14)]) (S' := [.ref cM, .int 16, .int v9, .ref cM]) rfl).trans ?_
        refine (fs_cv (n := n + 18) (N := nm_m171) (as := [.ref cM]) (rest := [.int 16, .int v9, .ref cM]) rfl rfl (Or.inl rfl) rfl rfl rfl rfl rfl).trans (fs_fv fun v31 g29 r30 => ?_)
        refine (fs_r (n := n + 14) 4 (pc' := 66) (L' := [some (.ref cM), some (.int a1), some (.int a2), some (.int v9), some (.int v14)]) (S' := [.int ((g29 fM_at) - 1), .int v31, .int 16, .int v9, .ref cM]) rfl).trans ?_
        refine (fs_cn (n := n + 13) (N := nm_m172) (as := [.ref cM, .int v9, .int 16, .int v31, .int ((g29 fM_at) - 1)]) (rest := []) rfl rfl (Or.inl rfl) rfl rfl rfl rfl rfl).trans (fs_fn fun g32 r33 => ?_)
        exact bM_occurs_69 L xs m d k (n + 0) a1 a2 v9 v14 g32 r33
  · skip
    exact (fs_rv (n := n + 45) rfl rfl).trans rfl
theorem qM_occurs (L : Nat) (xs : Nat → Int32) (m d : Nat) (a1 a2 : Int32) (g : a2_G) (r : a2_A) : ev L xs (m + 1) (d + 1) nM_occurs [.ref cM, .int a1, .int a2] g r = (fn_v (ev L xs (m + 1) d nM_mustBe [.ref cM, .int 2] g r) fun v3 g1 r2 => (if am_c2 .ne v3 0 = true then (fn_v (ev L xs (m + 1) d nM_passed [.ref cM] g1 r2) fun v6 g4 r5 => (fn_v (ev L xs (m + 1) d nM_make [.ref cM, .int 15, .int v6, .int a2] g4 r5) fun v9 g7 r8 => (fn_n (ev L xs (m + 1) d nM_attach [.ref cM, .int a1, .int v9] g7 r8) fun g10 r11 => (fn_v (ev L xs (m + 1) d nM_meets [.ref cM, .int 23] g10 r11) fun v14 g12 r13 => (fn_v (ev L xs (m + 1) d nM_meets [.ref cM, .int 24] g12 r13) fun v17 g15 r16 => (if am_c2 .eq v17 0 = true then (BM_occurs_69 L xs (m + 1) d m a1 a2 v9 v14 g15 r16) else (fn_v (ev L xs (m + 1) d nM_mustBe [.ref cM, .int 1] g15 r16) fun v28 g26 r27 => (if am_c2 .eq v28 0 = true then (BM_occurs_69 L xs (m + 1) d m a1 a2 v9 v14 g26 r27) else (fn_v (ev L xs (m + 1) d nM_passed [.ref cM] g26 r27) fun v31 g29 r30 => (fn_n (ev L xs (m + 1) d nM_child4 [.ref cM, .int v9, .int 16, .int v31, .int ((g29 fM_at) - 1)] g29 r30) fun g32 r33 => (BM_occurs_69 L xs (m + 1) d m a1 a2 v9 v14 g32 r33))))))))))) else (some (.inl none, g1, r2)))) := (fs_ev (M := nm_m178) rfl rfl).trans (eM_occurs L xs (m + 1) d m 850 a1 a2 g r)
/-- CobolParserModel.names(II)V -/
def BM_names_66 (L : Nat) (xs : Nat → Int32) (m d k : Nat) (x1 x2 x3 x4 x5 : Int32) (g : a2_G) (r : a2_A) : Option fn_Z := (lp L xs nM_names nm_m179 m d k 6 [some (.ref cM), some (.int x1), some (.int x2), some (.int x3)] (upd g fM_at (x5 + x4)) r)
theorem bM_names_66 (L : Nat) (xs : Nat → Int32) (m d k : Nat) (n : Nat) (x1 x2 x3 x4 x5 : Int32) (g : a2_G) (r : a2_A) : bk L xs nM_names nm_m179 m d k (n + 3) 66 [some (.ref cM), some (.int x1), some (.int x2), some (.int x3)] [.int x4, .int x5, .ref cM] g r = BM_names_66 L xs m d k x1 x2 x3 x4 x5 g r := by
  show _ = ((lp L xs nM_names nm_m179 m d k 6 [some (.ref cM), some (.int x1), some (.int x2), some (.int x3)] (upd g fM_at (x5 + x4)) r) : Option fn_Z)
  refine (fs_r (n := n + 2) 1 (pc' := 67) (L' := [some (.ref cM), some (.int x1), some (.int x2), some (.int x3)]) (S' := [.int (x5 + x4), .ref cM]) rfl).trans ?_
  refine (fs_pf (n := n + 1) (ci := 9) (j := 41) rfl rfl rfl rfl).trans ?_
  exact (fs_gb (n := n + 0) rfl (t := 6) rfl (by decide)).trans rfl
def BM_names_33 (L : Nat) (xs : Nat → Int32) (m d k : Nat) (x1 x2 x3 x4 x5 x6 : Int32) (g : a2_G) (r : a2_A) : Option fn_Z := (fn_n (ev L xs m d nM_child4 [.ref cM, .int x6, .int x5, .int x4, .int ((g fM_at) - 1)] g r) fun g7 r8 => (fn_v (ev L xs m d nM_isKind [.ref cM, .int (g7 fM_at), .int 1] g7 r8) fun v11 g9 r10 => (if am_c2 .eq v11 0 = true then (BM_names_66 L xs m d k x1 x2 v11 0 (g9 fM_at) g9 r10) else (BM_names_66 L xs m d k x1 x2 v11 1 (g9 fM_at) g9 r10))))
theorem bM_names_33 (L : Nat) (xs : Nat → Int32) (m d k : Nat) (n : Nat) (x1 x2 x3 x4 x5 x6 : Int32) (g : a2_G) (r : a2_A) : bk L xs nM_names nm_m179 m d k (n + 21) 33 [some (.ref cM), some (.int x1), some (.int x2), some (.int x3)] [.int x4, .int x5, .int x6, .ref cM] g r = BM_names_33 L xs m d k x1 x2 x3 x4 x5 x6 g r := by
  show _ = ((fn_n (ev L xs m d nM_child4 [.ref cM, .int x6, .int x5, .int x4, .int ((g fM_at) - 1)] g r) fun g7 r8 => (fn_v (ev L xs m d nM_isKind [.ref cM, .int (g7 fM_at), .int 1] g7 r8) fun v11 g9 r10 => (if am_c2 .eq v11 0 = true then (BM_names_66 L xs m d k x1 x2 v11 0 (g9 fM_at) g9 r10) else (BM_names_66 L xs m d k x1 x2 v11 1 (g9 fM_at) g9 r10)))) : Option fn_Z)
  refine (fs_r (n := n + 17) 4 (pc' := 39) (L' := [some (.ref cM), some (.int x1), some (.int x2), some (.int x3)]) (S' := [.int ((g fM_at) - 1), .int x4, .int x5, .int x6, .ref cM]) rfl).trans ?_
  refine (fs_cn (n := n + 16) (N := nm_m172) (as := [.ref cM, .int x6, .int x5, .int x4, .int ((g fM_at) - 1)]) (rest := []) rfl rfl (Or.inl rfl) rfl rfl rfl rfl rfl).trans (fs_fn fun g7 r8 => ?_)
  refine (fs_r (n := n + 12) 4 (pc' := 48) (L' := [some (.ref cM), some (.int x1), some (.int x2), some (.int x3)]) (S' := [.int 1, .int (g7 fM_at), .ref cM]) rfl).trans ?_
  refine (fs_cv (n := n + 11) (N := nm_m166) (as := [.ref cM, .int (g7 fM_at), .int 1]) (rest := []) rfl rfl (Or.inl rfl) rfl rfl rfl rfl rfl).trans (fs_fv fun v11 g9 r10 => ?_)
  refine (fs_r (n := n + 6) 5 (pc' := 58) (L' := [some (.ref cM), some (.int x1), some (.int x2), some (.int v11)]) (S' := [.int v11, .int (g9 fM_at), .ref cM]) rfl).trans ?_
  refine (fs_i (n := n + 5) rfl (t := 65) rfl (by decide)).trans (fs_ite ?_ ?_)
  · skip
    refine (fs_r (n := n + 4) 1 (pc' := 66) (L' := [some (.ref cM), some (.int x1), some (.int x2), some (.int v11)]) (S' := [.int 0, .int (g9 fM_at), .ref cM]) rfl).trans ?_
    exact bM_names_66 L xs m d k (n + 1) x1 x2 v11 0 (g9 fM_at) g9 r10
  · skip
    refine (fs_r (n := n + 4) 1 (pc' := 62) (L' := [some (.ref cM), some (.int x1), some (.int x2), some (.int v11)]) (S' := [.int 1, .int (g9 fM_at), .ref cM]) rfl).trans ?_
    refine (fs_go (n := n + 3) rfl (t := 66) rfl (by decide)).trans ?_
    exact bM_names_66 L xs m d k (n + 0) x1 x2 v11 1 (g9 fM_at) g9 r10
def BM_names_6 (L : Nat) (xs : Nat → Int32) (m d k : Nat) (x1 x2 x3 : Int32) (g : a2_G) (r : a2_A) : Option fn_Z := (if am_c2 .eq x3 0 = true then (some (.inl none, g, r)) else (if am_c2 .ne x2 41 = true then (fn_v (ev L xs m d nM_passed [.ref cM] g r) fun v6 g4 r5 => (BM_names_33 L xs m d k x1 x2 x3 v6 x2 x1 g4 r5)) else (fn_v (ev L xs m d nM_passed [.ref cM] g r) fun v14 g12 r13 => (BM_names_33 L xs m d k x1 x2 x3 (100000 + v14) x2 x1 g12 r13))))
theorem bM_names_6 (L : Nat) (xs : Nat → Int32) (m d k : Nat) (n : Nat) (x1 x2 x3 : Int32) (g : a2_G) (r : a2_A) : bk L xs nM_names nm_m179 m d k (n + 34) 6 [some (.ref cM), some (.int x1), some (.int x2), some (.int x3)] [] g r = BM_names_6 L xs m d k x1 x2 x3 g r := by
  show _ = ((if am_c2 .eq x3 0 = true then (some (.inl none, g, r)) else (if am_c2 .ne x2 41 = true then (fn_v (ev L xs m d nM_passed [.ref cM] g r) fun v6 g4 r5 => (BM_names_33 L xs m d k x1 x2 x3 v6 x2 x1 g4 r5)) else (fn_v (ev L xs m d nM_passed [.ref cM] g r) fun v14 g12 r13 => (BM_names_33 L xs m d k x1 x2 x3 (100000 + v14) x2 x1 g12 r13)))) : Option fn_Z)
  refine (fs_r (n := n + 33) 1 (pc' := 7) (L' := [some (.ref cM), some (.int x1), some (.int x2), some (.int x3)]) (S' := [.int x3]) rfl).trans ?_
  refine (fs_i (n := n + 32) rfl (t := 73) rfl (by decide)).trans (fs_ite ?_ ?_)
  · skip
    exact (fs_rv (n := n + 31) rfl rfl).trans rfl
  · skip
    refine (fs_r (n := n + 27) 5 (pc' := 16) (L' := [some (.ref cM), some (.int x1), some (.int x2), some (.int x3)]) (S' := [.int 41, .int x2, .int x2, .int x1, .ref cM]) rfl).trans ?_
    refine (fs_j (n := n + 26) rfl (t := 29) rfl (by decide)).trans (fs_ite ?_ ?_)
    · skip
      refine (fs_r (n := n + 25) 1 (pc' := 30) (L' := [some (.ref cM), some (.int x1), some (.int x2), some (.int x3)]) (S' := [.ref cM, .int x2, .int x1, .ref cM]) rfl).trans ?_
      refine (fs_cv (n := n + 24) (N := nm_m171) (as := [.ref cM]) (rest := [.int x2, .int x1, .ref cM]) rfl rfl (Or.inl rfl) rfl rfl rfl rfl rfl).trans (fs_fv fun v6 g4 r5 => ?_)
      exact bM_names_33 L xs m d k (n + 3) x1 x2 x3 v6 x2 x1 g4 r5
    · skip
      refine (fs_r (n := n + 24) 2 (pc' := 22) (L' := [some (.ref cM), some (.int x1), some (.int x2), some (.int x3)]) (S' := [.ref cM, .int 100000, .int x2, .int x1, .ref cM]) rfl).trans ?_
      refine (fs_cv (n := n + 23) (N := nm_m171) (as := [.ref cM]) (rest := [.int 100000, .int x2, .int x1, .ref cM]) rfl rfl (Or.inl rfl) rfl rfl rfl rfl rfl).trans (fs_fv fun v14 g12 r13 => ?_)
      refine (fs_r (n := n + 22) 1 (pc' := 26) (L' := [some (.ref cM), some (.int x1), some (.int x2), some (.int x3)]) (S' := [.int (100000 + v14), .int x2, .int x1, .ref cM]) rfl).trans ?_
      refine (fs_go (n := n + 21) rfl (t := 33) rfl (by decide)).trans ?_
      exact bM_names_33 L xs m d k (n + 0) x1 x2 x3 (100000 + v14) x2 x1 g12 r13
theorem lM_names_6 (L : Nat) (xs : Nat → Int32) (m d k : Nat) (x1 x2 x3 : Int32) (g : a2_G) (r : a2_A) : lp L xs nM_names nm_m179 m d (k + 1) 6 [some (.ref cM), some (.int x1), some (.int x2), some (.int x3)] g r = BM_names_6 L xs m d k x1 x2 x3 g r := fs_lp.trans (bM_names_6 L xs m d k 866 x1 x2 x3 g r)
theorem eM_names (L : Nat) (xs : Nat → Int32) (m d k : Nat) (n : Nat) (a1 a2 : Int32) (g : a2_G) (r : a2_A) : bk L xs nM_names nm_m179 m d k (n + 38) 0 [some (.ref cM), some (.int a1), some (.int a2), none] [] g r = (fn_v (ev L xs m d nM_mustBe [.ref cM, .int 1] g r) fun v3 g1 r2 => (BM_names_6 L xs m d k a1 a2 v3 g1 r2)) := by
  refine (fs_r (n := n + 36) 2 (pc' := 2) (L' := [some (.ref cM), some (.int a1), some (.int a2), none]) (S' := [.int 1, .ref cM]) rfl).trans ?_
  refine (fs_cv (n := n + 35) (N := nm_m170) (as := [.ref cM, .int 1]) (rest := []) rfl rfl (Or.inl rfl) rfl rfl rfl rfl rfl).trans (fs_fv fun v3 g1 r2 => ?_)
  refine (fs_r (n := n + 34) 1 (pc' := 6) (L' := [some (.ref cM), some (.int a1), some (.int a2), some (.int v3)]) (S' := []) rfl).trans ?_
  exact bM_names_6 L xs m d k (n + 0) a1 a2 v3 g1 r2
theorem qM_names (L : Nat) (xs : Nat → Int32) (m d : Nat) (a1 a2 : Int32) (g : a2_G) (r : a2_A) : ev L xs (m + 1) (d + 1) nM_names [.ref cM, .int a1, .int a2] g r = (fn_v (ev L xs (m + 1) d nM_mustBe [.ref cM, .int 1] g r) fun v3 g1 r2 => (BM_names_6 L xs (m + 1) d m a1 a2 v3 g1 r2)) := (fs_ev (M := nm_m179) rfl rfl).trans (eM_names L xs (m + 1) d m 862 a1 a2 g r)
/-- CobolParserModel.named(I)V -/
def BM_named_216 (L : Nat) (xs : Nat → Int32) (m d k : Nat) (x1 x2 x3 x4 : Int32) (g : a2_G) (r : a2_A) : Option fn_Z := (some (.inl none, g, r))
theorem bM_named_216 (L : Nat) (xs : Nat → Int32) (m d k : Nat) (n : Nat) (x1 x2 x3 x4 : Int32) (g : a2_G) (r : a2_A) : bk L xs nM_named nm_m180 m d k (n + 1) 216 [some (.ref cM), some (.int x1), some (.int x2), some (.int x3), some (.int x4)] [] g r = BM_named_216 L xs m d k x1 x2 x3 x4 g r := by
  show _ = ((some (.inl none, g, r)) : Option fn_Z)
  exact (fs_rv (n := n + 0) rfl rfl).trans rfl
def BM_named_201 (L : Nat) (xs : Nat → Int32) (m d k : Nat) (x1 x2 x3 x4 x5 : Int32) (g : a2_G) (r : a2_A) : Option fn_Z := (if am_c2 .eq x1 9 = true then (BM_named_216 L xs m d k x1 x2 x3 x4 (upd g fM_paragraph x5) r) else (fn_n (ev L xs m d nM_to [.ref cM, .int 11] (upd g fM_paragraph x5) r) fun g12 r13 => (BM_named_216 L xs m d k x1 x2 x3 x4 g12 r13)))
theorem bM_named_201 (L : Nat) (xs : Nat → Int32) (m d k : Nat) (n : Nat) (x1 x2 x3 x4 x5 : Int32) (g : a2_G) (r : a2_A) : bk L xs nM_named nm_m180 m d k (n + 8) 201 [some (.ref cM), some (.int x1), some (.int x2), some (.int x3), some (.int x4)] [.int x5, .ref cM] g r = BM_named_201 L xs m d k x1 x2 x3 x4 x5 g r := by
  show _ = ((if am_c2 .eq x1 9 = true then (BM_named_216 L xs m d k x1 x2 x3 x4 (upd g fM_paragraph x5) r) else (fn_n (ev L xs m d nM_to [.ref cM, .int 11] (upd g fM_paragraph x5) r) fun g12 r13 => (BM_named_216 L xs m d k x1 x2 x3 x4 g12 r13))) : Option fn_Z)
  refine (fs_pf (n := n + 7) (ci := 9) (j := 36) rfl rfl rfl rfl).trans ?_
  refine (fs_r (n := n + 5) 2 (pc' := 207) (L' := [some (.ref cM), some (.int x1), some (.int x2), some (.int x3), some (.int x4)]) (S' := [.int 9, .int x1]) rfl).trans ?_
  refine (fs_j (n := n + 4) rfl (t := 216) rfl (by decide)).trans (fs_ite ?_ ?_)
  · skip
    exact bM_named_216 L xs m d k (n + 3) x1 x2 x3 x4 (upd g fM_paragraph x5) r
  · skip
    refine (fs_r (n := n + 2) 2 (pc' := 213) (L' := [some (.ref cM), some (.int x1), some (.int x2), some (.int x3), some (.int x4)]) (S' := [.int 11, .ref cM]) rfl).trans ?_
    refine (fs_cn (n := n + 1) (N := nm_m182) (as := [.ref cM, .int 11]) (rest := []) rfl rfl (Or.inl rfl) rfl rfl rfl rfl rfl).trans (fs_fn fun g12 r13 => ?_)
    exact bM_named_216 L xs m d k (n + 0) x1 x2 x3 x4 g12 r13
def BM_named_187 (L : Nat) (xs : Nat → Int32) (m d k : Nat) (x1 x2 x3 x4 x5 : Int32) (g : a2_G) (r : a2_A) : Option fn_Z := (if am_c2 .eq x3 0 = true then (BM_named_201 L xs m d k x1 x2 x3 x4 x4 (upd g fM_section x5) r) else (BM_named_201 L xs m d k x1 x2 x3 x4 0 (upd g fM_section x5) r))
theorem bM_named_187 (L : Nat) (xs : Nat → Int32) (m d k : Nat) (n : Nat) (x1 x2 x3 x4 x5 : Int32) (g : a2_G) (r : a2_A) : bk L xs nM_named nm_m180 m d k (n + 14) 187 [some (.ref cM), some (.int x1), some (.int x2), some (.int x3), some (.int x4)] [.int x5, .ref cM] g r = BM_named_187 L xs m d k x1 x2 x3 x4 x5 g r := by
  show _ = ((if am_c2 .eq x3 0 = true then (BM_named_201 L xs m d k x1 x2 x3 x4 x4 (upd g fM_section x5) r) else (BM_named_201 L xs m d k x1 x2 x3 x4 0 (upd g fM_section x5) r)) : Option fn_Z)
  refine (fs_pf (n := n + 13) (ci := 9) (j := 35) rfl rfl rfl rfl).trans ?_
  refine (fs_r (n := n + 11) 2 (pc' := 192) (L' := [some (.ref cM), some (.int x1), some (.int x2), some (.int x3), some (.int x4)]) (S' := [.int x3, .ref cM]) rfl).trans ?_
  refine (fs_i (n := n + 10) rfl (t := 199) rfl (by decide)).trans (fs_ite ?_ ?_)
  · skip
    refine (fs_r (n := n + 9) 1 (pc' := 201) (L' := [some (.ref cM), some (.int x1), some (.int x2), some (.int x3), some (.int x4)]) (S' := [.int x4, .ref cM]) rfl).trans ?_
    exact bM_named_201 L xs m d k (n + 1) x1 x2 x3 x4 x4 (upd g fM_section x5) r
  · skip
    refine (fs_r (n := n + 9) 1 (pc' := 196) (L' := [some (.ref cM), some (.int x1), some (.int x2), some (.int x3), some (.int x4)]) (S' := [.int 0, .ref cM]) rfl).trans ?_
    refine (fs_go (n := n + 8) rfl (t := 201) rfl (by decide)).trans ?_
    exact bM_named_201 L xs m d k (n + 0) x1 x2 x3 x4 0 (upd g fM_section x5) r
def BM_named_173 (L : Nat) (xs : Nat → Int32) (m d k : Nat) (x1 x2 x3 x4 : Int32) (g : a2_G) (r : a2_A) : Option fn_Z := (if am_c2 .eq x3 0 = true then (BM_named_187 L xs m d k x1 x2 x3 x4 (g fM_section) g r) else (BM_named_187 L xs m d k x1 x2 x3 x4 x4 g r))
theorem bM_named_173 (L : Nat) (xs : Nat → Int32) (m d k : Nat) (n : Nat) (x1 x2 x3 x4 : Int32) (g : a2_G) (r : a2_A) : bk L xs nM_named nm_m180 m d k (n + 19) 173 [some (.ref cM), some (.int x1), some (.int x2), some (.int x3), some (.int x4)] [] g r = BM_named_173 L xs m d k x1 x2 x3 x4 g r := by
  show _ = ((if am_c2 .eq x3 0 = true then (BM_named_187 L xs m d k x1 x2 x3 x4 (g fM_section) g r) else (BM_named_187 L xs m d k x1 x2 x3 x4 x4 g r)) : Option fn_Z)
  refine (fs_r (n := n + 17) 2 (pc' := 175) (L' := [some (.ref cM), some (.int x1), some (.int x2), some (.int x3), some (.int x4)]) (S' := [.int x3, .ref cM]) rfl).trans ?_
  refine (fs_i (n := n + 16) rfl (t := 183) rfl (by decide)).trans (fs_ite ?_ ?_)
  · skip
    refine (fs_r (n := n + 14) 2 (pc' := 187) (L' := [some (.ref cM), some (.int x1), some (.int x2), some (.int x3), some (.int x4)]) (S' := [.int (g fM_section), .ref cM]) rfl).trans ?_
    exact bM_named_187 L xs m d k (n + 0) x1 x2 x3 x4 (g fM_section) g r
  · skip
    refine (fs_r (n := n + 15) 1 (pc' := 180) (L' := [some (.ref cM), some (.int x1), some (.int x2), some (.int x3), some (.int x4)]) (S' := [.int x4, .ref cM]) rfl).trans ?_
    refine (fs_go (n := n + 14) rfl (t := 187) rfl (by decide)).trans ?_
    exact bM_named_187 L xs m d k (n + 0) x1 x2 x3 x4 x4 g r
def BM_named_168 (L : Nat) (xs : Nat → Int32) (m d k : Nat) (x1 x2 x3 x4 x5 : Int32) (g : a2_G) (r : a2_A) : Option fn_Z := (fn_n (ev L xs m d nM_attach [.ref cM, .int x5, .int x4] g r) fun g10 r11 => (BM_named_173 L xs m d k x1 x2 x3 x4 g10 r11))
theorem bM_named_168 (L : Nat) (xs : Nat → Int32) (m d k : Nat) (n : Nat) (x1 x2 x3 x4 x5 : Int32) (g : a2_G) (r : a2_A) : bk L xs nM_named nm_m180 m d k (n + 21) 168 [some (.ref cM), some (.int x1), some (.int x2), some (.int x3), some (.int x4)] [.int x5, .ref cM] g r = BM_named_168 L xs m d k x1 x2 x3 x4 x5 g r := by
  show _ = ((fn_n (ev L xs m d nM_attach [.ref cM, .int x5, .int x4] g r) fun g10 r11 => (BM_named_173 L xs m d k x1 x2 x3 x4 g10 r11)) : Option fn_Z)
  refine (fs_r (n := n + 20) 1 (pc' := 170) (L' := [some (.ref cM), some (.int x1), some (.int x2), some (.int x3), some (.int x4)]) (S' := [.int x4, .int x5, .ref cM]) rfl).trans ?_
  refine (fs_cn (n := n + 19) (N := nm_m173) (as := [.ref cM, .int x5, .int x4]) (rest := []) rfl rfl (Or.inl rfl) rfl rfl rfl rfl rfl).trans (fs_fn fun g10 r11 => ?_)
  exact bM_named_173 L xs m d k (n + 0) x1 x2 x3 x4 g10 r11
def BM_named_136 (L : Nat) (xs : Nat → Int32) (m d k : Nat) (x1 x2 x3 x4 x5 : Int32) (g : a2_G) (r : a2_A) : Option fn_Z := (fn_n (ev L xs m d nM_attach [.ref cM, .int x5, .int x4] g r) fun g17 r18 => (BM_named_173 L xs m d k x1 x2 x3 x4 g17 r18))
theorem bM_named_136 (L : Nat) (xs : Nat → Int32) (m d k : Nat) (n : Nat) (x1 x2 x3 x4 x5 : Int32) (g : a2_G) (r : a2_A) : bk L xs nM_named nm_m180 m d k (n + 22) 136 [some (.ref cM), some (.int x1), some (.int x2), some (.int x3), some (.int x4)] [.int x5, .ref cM] g r = BM_named_136 L xs m d k x1 x2 x3 x4 x5 g r := by
  show _ = ((fn_n (ev L xs m d nM_attach [.ref cM, .int x5, .int x4] g r) fun g17 r18 => (BM_named_173 L xs m d k x1 x2 x3 x4 g17 r18)) : Option fn_Z)
  refine (fs_r (n := n + 21) 1 (pc' := 138) (L' := [some (.ref cM), some (.int x1), some (.int x2), some (.int x3), some (.int x4)]) (S' := [.int x4, .int x5, .ref cM]) rfl).trans ?_
  refine (fs_cn (n := n + 20) (N := nm_m173) (as := [.ref cM, .int x5, .int x4]) (rest := []) rfl rfl (Or.inl rfl) rfl rfl rfl rfl rfl).trans (fs_fn fun g17 r18 => ?_)
  refine (fs_go (n := n + 19) rfl (t := 173) rfl (by decide)).trans ?_
  exact bM_named_173 L xs m d k (n + 0) x1 x2 x3 x4 g17 r18
def BM_named_97 (L : Nat) (xs : Nat → Int32) (m d k : Nat) (x1 x2 x3 x4 : Int32) (g : a2_G) (r : a2_A) : Option fn_Z := (if am_inr x2 (r fM_values).1 = true then (fn_v (ev L xs m d nM_make [.ref cM, .int x4, .int ((r fM_values).2 (x2 : Int32).toNatClampNeg), .int x2] g r) fun v6 g4 r5 => (if am_c2 .eq x3 0 = true then (if am_c2 .le (g4 fM_section) 0 = true then (fn_v (ev L xs m d nM_here [.ref cM] g4 r5) fun v9 g7 r8 => (if am_inr v9 (r8 fM_procedure).1 = true then (BM_named_168 L xs m d k x1 x2 x3 v6 ((r8 fM_procedure).2 (v9 : Int32).toNatClampNeg) g7 r8) else none)) else (BM_named_168 L xs m d k x1 x2 x3 v6 (g4 fM_section) g4 r5)) else (if am_c2 .ne x1 9 = true then (fn_v (ev L xs m d nM_here [.ref cM] g4 r5) fun v16 g14 r15 => (if am_inr v16 (r15 fM_procedure).1 = true then (BM_named_136 L xs m d k x1 x2 x3 v6 ((r15 fM_procedure).2 (v16 : Int32).toNatClampNeg) g14 r15) else none)) else (BM_named_136 L xs m d k x1 x2 x3 v6 (g4 fM_declaratives) g4 r5)))) else none)
theorem bM_named_97 (L : Nat) (xs : Nat → Int32) (m d k : Nat) (n : Nat) (x1 x2 x3 x4 : Int32) (g : a2_G) (r : a2_A) : bk L xs nM_named nm_m180 m d k (n + 40) 97 [some (.ref cM), some (.int x1), some (.int x2), some (.int x3), none] [.int x4, .ref cM] g r = BM_named_97 L xs m d k x1 x2 x3 x4 g r := by
  show _ = ((if am_inr x2 (r fM_values).1 = true then (fn_v (ev L xs m d nM_make [.ref cM, .int x4, .int ((r fM_values).2 (x2 : Int32).toNatClampNeg), .int x2] g r) fun v6 g4 r5 => (if am_c2 .eq x3 0 = true then (if am_c2 .le (g4 fM_section) 0 = true then (fn_v (ev L xs m d nM_here [.ref cM] g4 r5) fun v9 g7 r8 => (if am_inr v9 (r8 fM_procedure).1 = true then (BM_named_168 L xs m d k x1 x2 x3 v6 ((r8 fM_procedure).2 (v9 : Int32).toNatClampNeg) g7 r8) else none)) else (BM_named_168 L xs m d k x1 x2 x3 v6 (g4 fM_section) g4 r5)) else (if am_c2 .ne x1 9 = true then (fn_v (ev L xs m d nM_here [.ref cM] g4 r5) fun v16 g14 r15 => (if am_inr v16 (r15 fM_procedure).1 = true then (BM_named_136 L xs m d k x1 x2 x3 v6 ((r15 fM_procedure).2 (v16 : Int32).toNatClampNeg) g14 r15) else none)) else (BM_named_136 L xs m d k x1 x2 x3 v6 (g4 fM_declaratives) g4 r5)))) else none) : Option fn_Z)
  refine (fs_r (n := n + 37) 3 (pc' := 102) (L' := [some (.ref cM), some (.int x1), some (.int x2), some (.int x3), none]) (S' := [.int x2, .ref 10903, .int x4, .ref cM]) rfl).trans ?_
  refine (fs_il (n := n + 36) (k := 903) rfl rfl).trans (fs_ite ?_ rfl)
  refine (fs_r (n := n + 35) 1 (pc' := 104) (L' := [some (.ref cM), some (.int x1), some (.int x2), some (.int x3), none]) (S' := [.int x2, .int ((r fM_values).2 (x2 : Int32).toNatClampNeg), .int x4, .ref cM]) rfl).trans ?_
  refine (fs_cv (n := n + 34) (N := nm_m160) (as := [.ref cM, .int x4, .int ((r fM_values).2 (x2 : Int32).toNatClampNeg), .int x2]) (rest := []) rfl rfl (Or.inl rfl) rfl rfl rfl rfl rfl).trans (fs_fv fun v6 g4 r5 => ?_)
  refine (fs_r (n := n + 32) 2 (pc' := 110) (L' := [some (.ref cM), some (.int x1), some (.int x2), some (.int x3), some (.int v6)]) (S' := [.int x3]) rfl).trans ?_
  refine (fs_i (n := n + 31) rfl (t := 144) rfl (by decide)).trans (fs_ite ?_ ?_)
  · skip
    refine (fs_r (n := n + 28) 3 (pc' := 149) (L' := [some (.ref cM), some (.int x1), some (.int x2), some (.int x3), some (.int v6)]) (S' := [.int (g4 fM_section), .ref cM]) rfl).trans ?_
    refine (fs_i (n := n + 27) rfl (t := 159) rfl (by decide)).trans (fs_ite ?_ ?_)
    · skip
      refine (fs_r (n := n + 24) 3 (pc' := 164) (L' := [some (.ref cM), some (.int x1), some (.int x2), some (.int x3), some (.int v6)]) (S' := [.ref cM, .ref 10925, .ref cM]) rfl).trans ?_
      refine (fs_cv (n := n + 23) (N := nm_m181) (as := [.ref cM]) (rest := [.ref 10925, .ref cM]) rfl rfl (Or.inl rfl) rfl rfl rfl rfl rfl).trans (fs_fv fun v9 g7 r8 => ?_)
      refine (fs_il (n := n + 22) (k := 925) rfl rfl).trans (fs_ite ?_ rfl)
      exact bM_named_168 L xs m d k (n + 1) x1 x2 x3 v6 ((r8 fM_procedure).2 (v9 : Int32).toNatClampNeg) g7 r8
    · skip
      refine (fs_r (n := n + 25) 2 (pc' := 156) (L' := [some (.ref cM), some (.int x1), some (.int x2), some (.int x3), some (.int v6)]) (S' := [.int (g4 fM_section), .ref cM]) rfl).trans ?_
      refine (fs_go (n := n + 24) rfl (t := 168) rfl (by decide)).trans ?_
      exact bM_named_168 L xs m d k (n + 3) x1 x2 x3 v6 (g4 fM_section) g4 r5
  · skip
    refine (fs_r (n := n + 28) 3 (pc' := 117) (L' := [some (.ref cM), some (.int x1), some (.int x2), some (.int x3), some (.int v6)]) (S' := [.int 9, .int x1, .ref cM]) rfl).trans ?_
    refine (fs_j (n := n + 27) rfl (t := 127) rfl (by decide)).trans (fs_ite ?_ ?_)
    · skip
      refine (fs_r (n := n + 24) 3 (pc' := 132) (L' := [some (.ref cM), some (.int x1), some (.int x2), some (.int x3), some (.int v6)]) (S' := [.ref cM, .ref 10925, .ref cM]) rfl).trans ?_
      refine (fs_cv (n := n + 23) (N := nm_m181) (as := [.ref cM]) (rest := [.ref 10925, .ref cM]) rfl rfl (Or.inl rfl) rfl rfl rfl rfl rfl).trans (fs_fv fun v16 g14 r15 => ?_)
      refine (fs_il (n := n + 22) (k := 925) rfl rfl).trans (fs_ite ?_ rfl)
      exact bM_named_136 L xs m d k (n + 0) x1 x2 x3 v6 ((r15 fM_procedure).2 (v16 : Int32).toNatClampNeg) g14 r15
    · skip
      refine (fs_r (n := n + 25) 2 (pc' := 124) (L' := [some (.ref cM), some (.int x1), some (.int x2), some (.int x3), some (.int v6)]) (S' := [.int (g4 fM_declaratives), .ref cM]) rfl).trans ?_
      refine (fs_go (n := n + 24) rfl (t := 136) rfl (by decide)).trans ?_
      exact bM_named_136 L xs m d k (n + 2) x1 x2 x3 v6 (g4 fM_declaratives) g4 r5
def BM_named_85 (L : Nat) (xs : Nat → Int32) (m d k : Nat) (x1 x2 x3 : Int32) (g : a2_G) (r : a2_A) : Option fn_Z := (if am_c2 .eq x3 0 = true then (BM_named_97 L xs m d k x1 x2 x3 24 g r) else (BM_named_97 L xs m d k x1 x2 x3 23 g r))
theorem bM_named_85 (L : Nat) (xs : Nat → Int32) (m d k : Nat) (n : Nat) (x1 x2 x3 : Int32) (g : a2_G) (r : a2_A) : bk L xs nM_named nm_m180 m d k (n + 45) 85 [some (.ref cM), some (.int x1), some (.int x2), some (.int x3), none] [] g r = BM_named_85 L xs m d k x1 x2 x3 g r := by
  show _ = ((if am_c2 .eq x3 0 = true then (BM_named_97 L xs m d k x1 x2 x3 24 g r) else (BM_named_97 L xs m d k x1 x2 x3 23 g r)) : Option fn_Z)
  refine (fs_r (n := n + 43) 2 (pc' := 87) (L' := [some (.ref cM), some (.int x1), some (.int x2), some (.int x3), none]) (S' := [.int x3, .ref cM]) rfl).trans ?_
  refine (fs_i (n := n + 42) rfl (t := 95) rfl (by decide)).trans (fs_ite ?_ ?_)
  · skip
    refine (fs_r (n := n + 41) 1 (pc' := 97) (L' := [some (.ref cM), some (.int x1), some (.int x2), some (.int x3), none]) (S' := [.int 24, .ref cM]) rfl).trans ?_
    exact bM_named_97 L xs m d k (n + 1) x1 x2 x3 24 g r
  · skip
    refine (fs_r (n := n + 41) 1 (pc' := 92) (L' := [some (.ref cM), some (.int x1), some (.int x2), some (.int x3), none]) (S' := [.int 23, .ref cM]) rfl).trans ?_
    refine (fs_go (n := n + 40) rfl (t := 97) rfl (by decide)).trans ?_
    exact bM_named_97 L xs m d k (n + 0) x1 x2 x3 23 g r
def BM_named_62 (L : Nat) (xs : Nat → Int32) (m d k : Nat) (x1 x2 x3 : Int32) (g : a2_G) (r : a2_A) : Option fn_Z := (if am_c2 .eq x3 0 = true then (BM_named_85 L xs m d k x1 x2 x3 (upd g fM_at ((g fM_at) + 2)) r) else (fn_v (ev L xs m d nM_mustBe [.ref cM, .int 4] (upd g fM_at ((g fM_at) + 2)) r) fun v21 g19 r20 => (if am_c2 .ne v21 0 = true then (BM_named_85 L xs m d k x1 x2 x3 g19 r20) else (some (.inl none, g19, r20)))))
theorem bM_named_62 (L : Nat) (xs : Nat → Int32) (m d k : Nat) (n : Nat) (x1 x2 x3 : Int32) (g : a2_G) (r : a2_A) : bk L xs nM_named nm_m180 m d k (n + 57) 62 [some (.ref cM), some (.int x1), some (.int x2), some (.int x3), none] [] g r = BM_named_62 L xs m d k x1 x2 x3 g r := by
  show _ = ((if am_c2 .eq x3 0 = true then (BM_named_85 L xs m d k x1 x2 x3 (upd g fM_at ((g fM_at) + 2)) r) else (fn_v (ev L xs m d nM_mustBe [.ref cM, .int 4] (upd g fM_at ((g fM_at) + 2)) r) fun v21 g19 r20 => (if am_c2 .ne v21 0 = true then (BM_named_85 L xs m d k x1 x2 x3 g19 r20) else (some (.inl none, g19, r20))))) : Option fn_Z)
  refine (fs_r (n := n + 52) 5 (pc' := 69) (L' := [some (.ref cM), some (.int x1), some (.int x2), some (.int x3), none]) (S' := [.int ((g fM_at) + 2), .ref cM]) rfl).trans ?_
  refine (fs_pf (n := n + 51) (ci := 9) (j := 41) rfl rfl rfl rfl).trans ?_
  refine (fs_r (n := n + 50) 1 (pc' := 73) (L' := [some (.ref cM), some (.int x1), some (.int x2), some (.int x3), none]) (S' := [.int x3]) rfl).trans ?_
  refine (fs_i (n := n + 49) rfl (t := 85) rfl (by decide)).trans (fs_ite ?_ ?_)
  · skip
    exact bM_named_85 L xs m d k (n + 4) x1 x2 x3 (upd g fM_at ((g fM_at) + 2)) r
  · skip
    refine (fs_r (n := n + 47) 2 (pc' := 78) (L' := [some (.ref cM), some (.int x1), some (.int x2), some (.int x3), none]) (S' := [.int 4, .ref cM]) rfl).trans ?_
    refine (fs_cv (n := n + 46) (N := nm_m170) (as := [.ref cM, .int 4]) (rest := []) rfl rfl (Or.inl rfl) rfl rfl rfl rfl rfl).trans (fs_fv fun v21 g19 r20 => ?_)
    refine (fs_i (n := n + 45) rfl (t := 85) rfl (by decide)).trans (fs_ite ?_ ?_)
    · skip
      exact bM_named_85 L xs m d k (n + 0) x1 x2 x3 g19 r20
    · skip
      exact (fs_rv (n := n + 44) rfl rfl).trans rfl
def BM_named_49 (L : Nat) (xs : Nat → Int32) (m d k : Nat) (x1 x2 x3 : Int32) (g : a2_G) (r : a2_A) : Option fn_Z := (fn_v (ev L xs m d nM_fail [.ref cM, .int 1, .int ((g fM_at) + 1)] g r) fun v27 g25 r26 => (some (.inl none, g25, r26)))
theorem bM_named_49 (L : Nat) (xs : Nat → Int32) (m d k : Nat) (n : Nat) (x1 x2 x3 : Int32) (g : a2_G) (r : a2_A) : bk L xs nM_named nm_m180 m d k (n + 9) 49 [some (.ref cM), some (.int x1), some (.int x2), some (.int x3), none] [] g r = BM_named_49 L xs m d k x1 x2 x3 g r := by
  show _ = ((fn_v (ev L xs m d nM_fail [.ref cM, .int 1, .int ((g fM_at) + 1)] g r) fun v27 g25 r26 => (some (.inl none, g25, r26))) : Option fn_Z)
  refine (fs_r (n := n + 3) 6 (pc' := 57) (L' := [some (.ref cM), some (.int x1), some (.int x2), some (.int x3), none]) (S' := [.int ((g fM_at) + 1), .int 1, .ref cM]) rfl).trans ?_
  refine (fs_cv (n := n + 2) (N := nm_m164) (as := [.ref cM, .int 1, .int ((g fM_at) + 1)]) (rest := []) rfl rfl (Or.inl rfl) rfl rfl rfl rfl rfl).trans (fs_fv fun v27 g25 r26 => ?_)
  refine (fs_r (n := n + 1) 1 (pc' := 61) (L' := [some (.ref cM), some (.int x1), some (.int x2), some (.int x3), none]) (S' := []) rfl).trans ?_
  exact (fs_rv (n := n + 0) rfl rfl).trans rfl
theorem eM_named (L : Nat) (xs : Nat → Int32) (m d k : Nat) (n : Nat) (a1 : Int32) (g : a2_G) (r : a2_A) : bk L xs nM_named nm_m180 m d k (n + 84) 0 [some (.ref cM), some (.int a1), none, none, none] [] g r = (fn_v (ev L xs m d nM_isWord [.ref cM, .int ((g fM_at) + 1), .int 16] g r) fun v3 g1 r2 => (if am_c2 .ne v3 0 = true then (BM_named_62 L xs m d k a1 (g fM_at) v3 g1 r2) else (fn_v (ev L xs m d nM_isKind [.ref cM, .int ((g1 fM_at) + 1), .int 4] g1 r2) fun v24 g22 r23 => (if am_c2 .eq v24 0 = true then (BM_named_49 L xs m d k a1 (g fM_at) v3 g22 r23) else (if am_c2 .ne a1 9 = true then (BM_named_62 L xs m d k a1 (g fM_at) v3 g22 r23) else (if am_c2 .gt (g22 fM_section) 0 = true then (BM_named_62 L xs m d k a1 (g fM_at) v3 g22 r23) else (BM_named_49 L xs m d k a1 (g fM_at) v3 g22 r23))))))) := by
  refine (fs_r (n := n + 75) 9 (pc' := 14) (L' := [some (.ref cM), some (.int a1), some (.int (g fM_at)), none, none]) (S' := [.int 16, .int ((g fM_at) + 1), .ref cM]) rfl).trans ?_
  refine (fs_cv (n := n + 74) (N := nm_m167) (as := [.ref cM, .int ((g fM_at) + 1), .int 16]) (rest := []) rfl rfl (Or.inl rfl) rfl rfl rfl rfl rfl).trans (fs_fv fun v3 g1 r2 => ?_)
  refine (fs_r (n := n + 72) 2 (pc' := 19) (L' := [some (.ref cM), some (.int a1), some (.int (g fM_at)), some (.int v3), none]) (S' := [.int v3]) rfl).trans ?_
  refine (fs_i (n := n + 71) rfl (t := 62) rfl (by decide)).trans (fs_ite ?_ ?_)
  · skip
    exact bM_named_62 L xs m d k (n + 14) a1 (g fM_at) v3 g1 r2
  · skip
    refine (fs_r (n := n + 65) 6 (pc' := 30) (L' := [some (.ref cM), some (.int a1), some (.int (g fM_at)), some (.int v3), none]) (S' := [.int 4, .int ((g1 fM_at) + 1), .ref cM]) rfl).trans ?_
    refine (fs_cv (n := n + 64) (N := nm_m166) (as := [.ref cM, .int ((g1 fM_at) + 1), .int 4]) (rest := []) rfl rfl (Or.inl rfl) rfl rfl rfl rfl rfl).trans (fs_fv fun v24 g22 r23 => ?_)
    refine (fs_i (n := n + 63) rfl (t := 49) rfl (by decide)).trans (fs_ite ?_ ?_)
    · skip
      exact bM_named_49 L xs m d k (n + 54) a1 (g fM_at) v3 g22 r23
    · skip
      refine (fs_r (n := n + 61) 2 (pc' := 39) (L' := [some (.ref cM), some (.int a1), some (.int (g fM_at)), some (.int v3), none]) (S' := [.int 9, .int a1]) rfl).trans ?_
      refine (fs_j (n := n + 60) rfl (t := 62) rfl (by decide)).trans (fs_ite ?_ ?_)
      · skip
        exact bM_named_62 L xs m d k (n + 3) a1 (g fM_at) v3 g22 r23
      · skip
        refine (fs_r (n := n + 58) 2 (pc' := 46) (L' := [some (.ref cM), some (.int a1), some (.int (g fM_at)), some (.int v3), none]) (S' := [.int (g22 fM_section)]) rfl).trans ?_
        refine (fs_i (n := n + 57) rfl (t := 62) rfl (by decide)).trans (fs_ite ?_ ?_)
        · skip
          exact bM_named_62 L xs m d k (n + 0) a1 (g fM_at) v3 g22 r23
        · skip
          exact bM_named_49 L xs m d k (n + 48) a1 (g fM_at) v3 g22 r23
theorem qM_named (L : Nat) (xs : Nat → Int32) (m d : Nat) (a1 : Int32) (g : a2_G) (r : a2_A) : ev L xs (m + 1) (d + 1) nM_named [.ref cM, .int a1] g r = (fn_v (ev L xs (m + 1) d nM_isWord [.ref cM, .int ((g fM_at) + 1), .int 16] g r) fun v3 g1 r2 => (if am_c2 .ne v3 0 = true then (BM_named_62 L xs (m + 1) d m a1 (g fM_at) v3 g1 r2) else (fn_v (ev L xs (m + 1) d nM_isKind [.ref cM, .int ((g1 fM_at) + 1), .int 4] g1 r2) fun v24 g22 r23 => (if am_c2 .eq v24 0 = true then (BM_named_49 L xs (m + 1) d m a1 (g fM_at) v3 g22 r23) else (if am_c2 .ne a1 9 = true then (BM_named_62 L xs (m + 1) d m a1 (g fM_at) v3 g22 r23) else (if am_c2 .gt (g22 fM_section) 0 = true then (BM_named_62 L xs (m + 1) d m a1 (g fM_at) v3 g22 r23) else (BM_named_49 L xs (m + 1) d m a1 (g fM_at) v3 g22 r23))))))) := (fs_ev (M := nm_m180) rfl rfl).trans (eM_named L xs (m + 1) d m 816 a1 g r)
/-- CobolParserModel.here()I -/
theorem eM_here (L : Nat) (xs : Nat → Int32) (m d k : Nat) (n : Nat) (g : a2_G) (r : a2_A) : bk L xs nM_here nm_m181 m d k (n + 8) 0 [some (.ref cM)] [] g r = (if am_inr ((g fM_open) - 1) (r fM_its).1 = true then (some (.inl (some (.int ((r fM_its).2 (((g fM_open) - 1) : Int32).toNatClampNeg))), g, r)) else none) := by
  refine (fs_r (n := n + 2) 6 (pc' := 10) (L' := [some (.ref cM)]) (S' := [.int ((g fM_open) - 1), .ref 10929]) rfl).trans ?_
  refine (fs_il (n := n + 1) (k := 929) rfl rfl).trans (fs_ite ?_ rfl)
  exact (fs_ri (n := n + 0) rfl rfl).trans rfl
theorem qM_here (L : Nat) (xs : Nat → Int32) (m d : Nat) (g : a2_G) (r : a2_A) : ev L xs (m + 1) (d + 1) nM_here [.ref cM] g r = (if am_inr ((g fM_open) - 1) (r fM_its).1 = true then (some (.inl (some (.int ((r fM_its).2 (((g fM_open) - 1) : Int32).toNatClampNeg))), g, r)) else none) := (fs_ev (M := nm_m181) rfl rfl).trans (eM_here L xs (m + 1) d m 892 g r)
/-- CobolParserModel.to(I)V -/
theorem eM_to (L : Nat) (xs : Nat → Int32) (m d k : Nat) (n : Nat) (a1 : Int32) (g : a2_G) (r : a2_A) : bk L xs nM_to nm_m182 m d k (n + 9) 0 [some (.ref cM), some (.int a1)] [] g r = (if am_inr ((g fM_open) - 1) (r fM_state).1 = true then (some (.inl none, g, (a2_ua r fM_state ((r fM_state).1, (upd (r fM_state).2 (((g fM_open) - 1) : Int32).toNatClampNeg a1))))) else none) := by
  refine (fs_r (n := n + 2) 7 (pc' := 11) (L' := [some (.ref cM), some (.int a1)]) (S' := [.int a1, .int ((g fM_open) - 1), .ref 10927]) rfl).trans ?_
  refine (fs_is (n := n + 1) (k := 927) rfl rfl).trans (fs_ite ?_ rfl)
  exact (fs_rv (n := n + 0) rfl rfl).trans rfl
theorem qM_to (L : Nat) (xs : Nat → Int32) (m d : Nat) (a1 : Int32) (g : a2_G) (r : a2_A) : ev L xs (m + 1) (d + 1) nM_to [.ref cM, .int a1] g r = (if am_inr ((g fM_open) - 1) (r fM_state).1 = true then (some (.inl none, g, (a2_ua r fM_state ((r fM_state).1, (upd (r fM_state).2 (((g fM_open) - 1) : Int32).toNatClampNeg a1))))) else none) := (fs_ev (M := nm_m182) rfl rfl).trans (eM_to L xs (m + 1) d m 891 a1 g r)
/-- CobolParserModel.reserved(II)V -/
def BM_reserved_446 (L : Nat) (xs : Nat → Int32) (m d k : Nat) (x1 x2 x3 x4 x5 : Int32) (g : a2_G) (r : a2_A) : Option fn_Z := (some (.inl none, g, r))
theorem bM_reserved_446 (L : Nat) (xs : Nat → Int32) (m d k : Nat) (n : Nat) (x1 x2 x3 x4 x5 : Int32) (g : a2_G) (r : a2_A) : bk L xs nM_reserved nm_m183 m d k (n + 1) 446 [some (.ref cM), some (.int x1), some (.int x2), some (.int x3), some (.int x4), some (.int x5)] [] g r = BM_reserved_446 L xs m d k x1 x2 x3 x4 x5 g r := by
  show _ = ((some (.inl none, g, r)) : Option fn_Z)
  exact (fs_rv (n := n + 0) rfl rfl).trans rfl
def BM_reserved_355 (L : Nat) (xs : Nat → Int32) (m d k : Nat) (x1 x2 x3 x4 x5 x6 : Int32) (g : a2_G) (r : a2_A) : Option fn_Z := (fn_n (ev L xs m d nM_unitNamed [.ref cM, .int x6] g r) fun g4 r5 => (BM_reserved_446 L xs m d k x1 x2 x3 x4 x5 g4 r5))
theorem bM_reserved_355 (L : Nat) (xs : Nat → Int32) (m d k : Nat) (n : Nat) (x1 x2 x3 x4 x5 x6 : Int32) (g : a2_G) (r : a2_A) : bk L xs nM_reserved nm_m183 m d k (n + 3) 355 [some (.ref cM), some (.int x1), some (.int x2), some (.int x3), some (.int x4), some (.int x5)] [.int x6, .ref cM] g r = BM_reserved_355 L xs m d k x1 x2 x3 x4 x5 x6 g r := by
  show _ = ((fn_n (ev L xs m d nM_unitNamed [.ref cM, .int x6] g r) fun g4 r5 => (BM_reserved_446 L xs m d k x1 x2 x3 x4 x5 g4 r5)) : Option fn_Z)
  refine (fs_cn (n := n + 2) (N := nm_m219) (as := [.ref cM, .int x6]) (rest := []) rfl rfl (Or.inl rfl) rfl rfl rfl rfl rfl).trans (fs_fn fun g4 r5 => ?_)
  refine (fs_go (n := n + 1) rfl (t := 446) rfl (by decide)).trans ?_
  exact bM_reserved_446 L xs m d k (n + 0) x1 x2 x3 x4 x5 g4 r5
def BM_reserved_344 (L : Nat) (xs : Nat → Int32) (m d k : Nat) (x1 x2 x3 x4 x5 : Int32) (g : a2_G) (r : a2_A) : Option fn_Z := (if am_c2 .ne x2 3 = true then (BM_reserved_355 L xs m d k x1 x2 x3 x4 x5 0 g r) else (BM_reserved_355 L xs m d k x1 x2 x3 x4 x5 1 g r))
theorem bM_reserved_344 (L : Nat) (xs : Nat → Int32) (m d k : Nat) (n : Nat) (x1 x2 x3 x4 x5 : Int32) (g : a2_G) (r : a2_A) : bk L xs nM_reserved nm_m183 m d k (n + 9) 344 [some (.ref cM), some (.int x1), some (.int x2), some (.int x3), some (.int x4), some (.int x5)] [] g r = BM_reserved_344 L xs m d k x1 x2 x3 x4 x5 g r := by
  show _ = ((if am_c2 .ne x2 3 = true then (BM_reserved_355 L xs m d k x1 x2 x3 x4 x5 0 g r) else (BM_reserved_355 L xs m d k x1 x2 x3 x4 x5 1 g r)) : Option fn_Z)
  refine (fs_r (n := n + 6) 3 (pc' := 347) (L' := [some (.ref cM), some (.int x1), some (.int x2), some (.int x3), some (.int x4), some (.int x5)]) (S' := [.int 3, .int x2, .ref cM]) rfl).trans ?_
  refine (fs_j (n := n + 5) rfl (t := 354) rfl (by decide)).trans (fs_ite ?_ ?_)
  · skip
    refine (fs_r (n := n + 4) 1 (pc' := 355) (L' := [some (.ref cM), some (.int x1), some (.int x2), some (.int x3), some (.int x4), some (.int x5)]) (S' := [.int 0, .ref cM]) rfl).trans ?_
    exact bM_reserved_355 L xs m d k (n + 1) x1 x2 x3 x4 x5 0 g r
  · skip
    refine (fs_r (n := n + 4) 1 (pc' := 351) (L' := [some (.ref cM), some (.int x1), some (.int x2), some (.int x3), some (.int x4), some (.int x5)]) (S' := [.int 1, .ref cM]) rfl).trans ?_
    refine (fs_go (n := n + 3) rfl (t := 355) rfl (by decide)).trans ?_
    exact bM_reserved_355 L xs m d k (n + 0) x1 x2 x3 x4 x5 1 g r
def BM_reserved_247 (L : Nat) (xs : Nat → Int32) (m d k : Nat) (x1 x2 x3 x4 x5 : Int32) (g : a2_G) (r : a2_A) : Option fn_Z := (if am_c2 .eq x4 0 = true then (if am_c2 .ne x2 0 = true then (if (x2 : Int32).toInt = 2 then (BM_reserved_344 L xs m d k x1 x2 x3 x4 x5 (upd g fM_at ((g fM_at) + 1)) r) else (if (x2 : Int32).toInt = 3 then (BM_reserved_344 L xs m d k x1 x2 x3 x4 x5 (upd g fM_at ((g fM_at) + 1)) r) else (if (x2 : Int32).toInt = 5 then (fn_n (ev L xs m d nM_select [.ref cM, .int x3] (upd g fM_at ((g fM_at) + 1)) r) fun g6 r7 => (BM_reserved_446 L xs m d k x1 x2 x3 x4 x5 g6 r7)) else (if (x2 : Int32).toInt = 17 then (fn_n (ev L xs m d nM_described [.ref cM, .int x3] (upd g fM_at ((g fM_at) + 1)) r) fun g8 r9 => (BM_reserved_446 L xs m d k x1 x2 x3 x4 x5 g8 r9)) else (if (x2 : Int32).toInt = 30 then (fn_n (ev L xs m d nM_begun [.ref cM, .int x3] (upd g fM_at ((g fM_at) + 1)) r) fun g10 r11 => (BM_reserved_446 L xs m d k x1 x2 x3 x4 x5 g10 r11)) else (if (x2 : Int32).toInt = 32 then (fn_v (ev L xs m d nM_mustBe [.ref cM, .int 4] (upd g fM_at ((g fM_at) + 1)) r) fun v14 g12 r13 => (if am_c2 .ne v14 0 = true then (fn_v (ev L xs m d nM_make [.ref cM, .int 22, .int 0, .int x3] g12 r13) fun v17 g15 r16 => (fn_v (ev L xs m d nM_here [.ref cM] (upd g15 fM_declaratives v17) r16) fun v20 g18 r19 => (if am_inr v20 (r19 fM_procedure).1 = true then (fn_n (ev L xs m d nM_attach [.ref cM, .int ((r19 fM_procedure).2 (v20 : Int32).toNatClampNeg), .int (g18 fM_declaratives)] g18 r19) fun g21 r22 => (fn_n (ev L xs m d nM_to [.ref cM, .int 9] g21 r22) fun g23 r24 => (BM_reserved_446 L xs m d k x1 x2 x3 x4 x5 g23 r24))) else none))) else (some (.inl none, g12, r13)))) else (if (x2 : Int32).toInt = 33 then (fn_n (ev L xs m d nM_ended [.ref cM, .int x1] (upd g fM_at ((g fM_at) + 1)) r) fun g25 r26 => (BM_reserved_446 L xs m d k x1 x2 x3 x4 x5 g25 r26)) else (fn_n (ev L xs m d nM_division2 [.ref cM, .int x2, .int x3] (upd g fM_at ((g fM_at) + 1)) r) fun g27 r28 => (BM_reserved_446 L xs m d k x1 x2 x3 x4 x5 g27 r28))))))))) else (fn_n (ev L xs m d nM_identified [.ref cM, .int x1] g r) fun g29 r30 => (some (.inl none, g29, r30)))) else (fn_n (ev L xs m d nM_sentence [.ref cM, .int x1] g r) fun g31 r32 => (some (.inl none, g31, r32))))
theorem bM_reserved_247 (L : Nat) (xs : Nat → Int32) (m d k : Nat) (n : Nat) (x1 x2 x3 x4 x5 : Int32) (g : a2_G) (r : a2_A) : bk L xs nM_reserved nm_m183 m d k (n + 37) 247 [some (.ref cM), some (.int x1), some (.int x2), some (.int x3), some (.int x4), some (.int x5)] [] g r = BM_reserved_247 L xs m d k x1 x2 x3 x4 x5 g r := by
  show _ = ((if am_c2 .eq x4 0 = true then (if am_c2 .ne x2 0 = true then (if (x2 : Int32).toInt = 2 then (BM_reserved_344 L xs m d k x1 x2 x3 x4 x5 (upd g fM_at ((g fM_at) + 1)) r) else (if (x2 : Int32).toInt = 3 then (BM_reserved_344 L xs m d k x1 x2 x3 x4 x5 (upd g fM_at ((g fM_at) + 1)) r) else (if (x2 : Int32).toInt = 5 then (fn_n (ev L xs m d nM_select [.ref cM, .int x3] (upd g fM_at ((g fM_at) + 1)) r) fun g6 r7 => (BM_reserved_446 L xs m d k x1 x2 x3 x4 x5 g6 r7)) else (if (x2 : Int32).toInt = 17 then (fn_n (ev L xs m d nM_described [.ref cM, .int x3] (upd g fM_at ((g fM_at) + 1)) r) fun g8 r9 => (BM_reserved_446 L xs m d k x1 x2 x3 x4 x5 g8 r9)) else (if (x2 : Int32).toInt = 30 then (fn_n (ev L xs m d nM_begun [.ref cM, .int x3] (upd g fM_at ((g fM_at) + 1)) r) fun g10 r11 => (BM_reserved_446 L xs m d k x1 x2 x3 x4 x5 g10 r11)) else (if (x2 : Int32).toInt = 32 then (fn_v (ev L xs m d nM_mustBe [.ref cM, .int 4] (upd g fM_at ((g fM_at) + 1)) r) fun v14 g12 r13 => (if am_c2 .ne v14 0 = true then (fn_v (ev L xs m d nM_make [.ref cM, .int 22, .int 0, .int x3] g12 r13) fun v17 g15 r16 => (fn_v (ev L xs m d nM_here [.ref cM] (upd g15 fM_declaratives v17) r16) fun v20 g18 r19 => (if am_inr v20 (r19 fM_procedure).1 = true then (fn_n (ev L xs m d nM_attach [.ref cM, .int ((r19 fM_procedure).2 (v20 : Int32).toNatClampNeg), .int (g18 fM_declaratives)] g18 r19) fun g21 r22 => (fn_n (ev L xs m d nM_to [.ref cM, .int 9] g21 r22) fun g23 r24 => (BM_reserved_446 L xs m d k x1 x2 x3 x4 x5 g23 r24))) else none))) else (some (.inl none, g12, r13)))) else (if (x2 : Int32).toInt = 33 then (fn_n (ev L xs m d nM_ended [.ref cM, .int x1] (upd g fM_at ((g fM_at) + 1)) r) fun g25 r26 => (BM_reserved_446 L xs m d k x1 x2 x3 x4 x5 g25 r26)) else (fn_n (ev L xs m d nM_division2 [.ref cM, .int x2, .int x3] (upd g fM_at ((g fM_at) + 1)) r) fun g27 r28 => (BM_reserved_446 L xs m d k x1 x2 x3 x4 x5 g27 r28))))))))) else (fn_n (ev L xs m d nM_identified [.ref cM, .int x1] g r) fun g29 r30 => (some (.inl none, g29, r30)))) else (fn_n (ev L xs m d nM_sentence [.ref cM, .int x1] g r) fun g31 r32 => (some (.inl none, g31, r32)))) : Option fn_Z)
  refine (fs_r (n := n + 36) 1 (pc' := 249) (L' := [some (.ref cM), some (.int x1), some (.int x2), some (.int x3), some (.int x4), some (.int x5)]) (S' := [.int x4]) rfl).trans ?_
  refine (fs_i (n := n + 35) rfl (t := 258) rfl (by decide)).trans (fs_ite ?_ ?_)
  · skip
    refine (fs_r (n := n + 34) 1 (pc' := 259) (L' := [some (.ref cM), some (.int x1), some (.int x2), some (.int x3), some (.int x4), some (.int x5)]) (S' := [.int x2]) rfl).trans ?_
    refine (fs_i (n := n + 33) rfl (t := 268) rfl (by decide)).trans (fs_ite ?_ ?_)
    · skip
      refine (fs_r (n := n + 28) 5 (pc' := 275) (L' := [some (.ref cM), some (.int x1), some (.int x2), some (.int x3), some (.int x4), some (.int x5)]) (S' := [.int ((g fM_at) + 1), .ref cM]) rfl).trans ?_
      refine (fs_pf (n := n + 27) (ci := 9) (j := 41) rfl rfl rfl rfl).trans ?_
      refine (fs_r (n := n + 26) 1 (pc' := 279) (L' := [some (.ref cM), some (.int x1), some (.int x2), some (.int x3), some (.int x4), some (.int x5)]) (S' := [.int x2]) rfl).trans ?_
      refine (fs_ls (n := n + 25) (l := [(2, 65), (3, 65), (5, 82), (17, 90), (30, 98), (32, 106), (33, 153)]) rfl rfl rfl).trans ?_
      refine fs_lc ?_ (fs_lc ?_ (fs_lc ?_ (fs_lc ?_ (fs_lc ?_ (fs_lc ?_ (fs_lc ?_ (fs_ln ?_)))))))
      · refine (fs_J1 (n := n + 25) (t := 344) rfl (by decide)).trans ?_
        exact bM_reserved_344 L xs m d k (n + 16) x1 x2 x3 x4 x5 (upd g fM_at ((g fM_at) + 1)) r
      · refine (fs_J1 (n := n + 25) (t := 344) rfl (by decide)).trans ?_
        exact bM_reserved_344 L xs m d k (n + 16) x1 x2 x3 x4 x5 (upd g fM_at ((g fM_at) + 1)) r
      · refine (fs_J1 (n := n + 25) (t := 361) rfl (by decide)).trans ?_
        refine (fs_r (n := n + 23) 2 (pc' := 363) (L' := [some (.ref cM), some (.int x1), some (.int x2), some (.int x3), some (.int x4), some (.int x5)]) (S' := [.int x3, .ref cM]) rfl).trans ?_
        refine (fs_cn (n := n + 22) (N := nm_m220) (as := [.ref cM, .int x3]) (rest := []) rfl rfl (Or.inl rfl) rfl rfl rfl rfl rfl).trans (fs_fn fun g6 r7 => ?_)
        refine (fs_go (n := n + 21) rfl (t := 446) rfl (by decide)).trans ?_
        exact bM_reserved_446 L xs m d k (n + 20) x1 x2 x3 x4 x5 g6 r7
      · refine (fs_J1 (n := n + 25) (t := 369) rfl (by decide)).trans ?_
        refine (fs_r (n := n + 23) 2 (pc' := 371) (L' := [some (.ref cM), some (.int x1), some (.int x2), some (.int x3), some (.int x4), some (.int x5)]) (S' := [.int x3, .ref cM]) rfl).trans ?_
        refine (fs_cn (n := n + 22) (N := nm_m221) (as := [.ref cM, .int x3]) (rest := []) rfl rfl (Or.inl rfl) rfl rfl rfl rfl rfl).trans (fs_fn fun g8 r9 => ?_)
        refine (fs_go (n := n + 21) rfl (t := 446) rfl (by decide)).trans ?_
        exact bM_reserved_446 L xs m d k (n + 20) x1 x2 x3 x4 x5 g8 r9
      · refine (fs_J1 (n := n + 25) (t := 377) rfl (by decide)).trans ?_
        refine (fs_r (n := n + 23) 2 (pc' := 379) (L' := [some (.ref cM), some (.int x1), some (.int x2), some (.int x3), some (.int x4), some (.int x5)]) (S' := [.int x3, .ref cM]) rfl).trans ?_
        refine (fs_cn (n := n + 22) (N := nm_m222) (as := [.ref cM, .int x3]) (rest := []) rfl rfl (Or.inl rfl) rfl rfl rfl rfl rfl).trans (fs_fn fun g10 r11 => ?_)
        refine (fs_go (n := n + 21) rfl (t := 446) rfl (by decide)).trans ?_
        exact bM_reserved_446 L xs m d k (n + 20) x1 x2 x3 x4 x5 g10 r11
      · refine (fs_J1 (n := n + 25) (t := 385) rfl (by decide)).trans ?_
        refine (fs_r (n := n + 23) 2 (pc' := 387) (L' := [some (.ref cM), some (.int x1), some (.int x2), some (.int x3), some (.int x4), some (.int x5)]) (S' := [.int 4, .ref cM]) rfl).trans ?_
        refine (fs_cv (n := n + 22) (N := nm_m170) (as := [.ref cM, .int 4]) (rest := []) rfl rfl (Or.inl rfl) rfl rfl rfl rfl rfl).trans (fs_fv fun v14 g12 r13 => ?_)
        refine (fs_i (n := n + 21) rfl (t := 394) rfl (by decide)).trans (fs_ite ?_ ?_)
        · skip
          refine (fs_r (n := n + 16) 5 (pc' := 400) (L' := [some (.ref cM), some (.int x1), some (.int x2), some (.int x3), some (.int x4), some (.int x5)]) (S' := [.int x3, .int 0, .int 22, .ref cM, .ref cM]) rfl).trans ?_
          refine (fs_cv (n := n + 15) (N := nm_m160) (as := [.ref cM, .int 22, .int 0, .int x3]) (rest := [.ref cM]) rfl rfl (Or.inl rfl) rfl rfl rfl rfl rfl).trans (fs_fv fun v17 g15 r16 => ?_)
          refine (fs_pf (n := n + 14) (ci := 9) (j := 34) rfl rfl rfl rfl).trans ?_
          refine (fs_r (n := n + 10) 4 (pc' := 412) (L' := [some (.ref cM), some (.int x1), some (.int x2), some (.int x3), some (.int x4), some (.int x5)]) (S' := [.ref cM, .ref 10925, .ref cM]) rfl).trans ?_
          refine (fs_cv (n := n + 9) (N := nm_m181) (as := [.ref cM]) (rest := [.ref 10925, .ref cM]) rfl rfl (Or.inl rfl) rfl rfl rfl rfl rfl).trans (fs_fv fun v20 g18 r19 => ?_)
          refine (fs_il (n := n + 8) (k := 925) rfl rfl).trans (fs_ite ?_ rfl)
          refine (fs_r (n := n + 6) 2 (pc' := 420) (L' := [some (.ref cM), some (.int x1), some (.int x2), some (.int x3), some (.int x4), some (.int x5)]) (S' := [.int (g18 fM_declaratives), .int ((r19 fM_procedure).2 (v20 : Int32).toNatClampNeg), .ref cM]) rfl).trans ?_
          refine (fs_cn (n := n + 5) (N := nm_m173) (as := [.ref cM, .int ((r19 fM_procedure).2 (v20 : Int32).toNatClampNeg), .int (g18 fM_declaratives)]) (rest := []) rfl rfl (Or.inl rfl) rfl rfl rfl rfl rfl).trans (fs_fn fun g21 r22 => ?_)
          refine (fs_r (n := n + 3) 2 (pc' := 426) (L' := [some (.ref cM), some (.int x1), some (.int x2), some (.int x3), some (.int x4), some (.int x5)]) (S' := [.int 9, .ref cM]) rfl).trans ?_
          refine (fs_cn (n := n + 2) (N := nm_m182) (as := [.ref cM, .int 9]) (rest := []) rfl rfl (Or.inl rfl) rfl rfl rfl rfl rfl).trans (fs_fn fun g23 r24 => ?_)
          refine (fs_go (n := n + 1) rfl (t := 446) rfl (by decide)).trans ?_
          exact bM_reserved_446 L xs m d k (n + 0) x1 x2 x3 x4 x5 g23 r24
        · skip
          exact (fs_rv (n := n + 20) rfl rfl).trans rfl
      · refine (fs_J1 (n := n + 25) (t := 432) rfl (by decide)).trans ?_
        refine (fs_r (n := n + 23) 2 (pc' := 434) (L' := [some (.ref cM), some (.int x1), some (.int x2), some (.int x3), some (.int x4), some (.int x5)]) (S' := [.int x1, .ref cM]) rfl).trans ?_
        refine (fs_cn (n := n + 22) (N := nm_m223) (as := [.ref cM, .int x1]) (rest := []) rfl rfl (Or.inl rfl) rfl rfl rfl rfl rfl).trans (fs_fn fun g25 r26 => ?_)
        refine (fs_go (n := n + 21) rfl (t := 446) rfl (by decide)).trans ?_
        exact bM_reserved_446 L xs m d k (n + 20) x1 x2 x3 x4 x5 g25 r26
      · refine (fs_J1 (n := n + 25) (t := 440) rfl (by decide)).trans ?_
        refine (fs_r (n := n + 22) 3 (pc' := 443) (L' := [some (.ref cM), some (.int x1), some (.int x2), some (.int x3), some (.int x4), some (.int x5)]) (S' := [.int x3, .int x2, .ref cM]) rfl).trans ?_
        refine (fs_cn (n := n + 21) (N := nm_m224) (as := [.ref cM, .int x2, .int x3]) (rest := []) rfl rfl (Or.inl rfl) rfl rfl rfl rfl rfl).trans (fs_fn fun g27 r28 => ?_)
        exact bM_reserved_446 L xs m d k (n + 20) x1 x2 x3 x4 x5 g27 r28
    · skip
      refine (fs_r (n := n + 31) 2 (pc' := 264) (L' := [some (.ref cM), some (.int x1), some (.int x2), some (.int x3), some (.int x4), some (.int x5)]) (S' := [.int x1, .ref cM]) rfl).trans ?_
      refine (fs_cn (n := n + 30) (N := nm_m218) (as := [.ref cM, .int x1]) (rest := []) rfl rfl (Or.inl rfl) rfl rfl rfl rfl rfl).trans (fs_fn fun g29 r30 => ?_)
      exact (fs_rv (n := n + 29) rfl rfl).trans rfl
  · skip
    refine (fs_r (n := n + 33) 2 (pc' := 254) (L' := [some (.ref cM), some (.int x1), some (.int x2), some (.int x3), some (.int x4), some (.int x5)]) (S' := [.int x1, .ref cM]) rfl).trans ?_
    refine (fs_cn (n := n + 32) (N := nm_m185) (as := [.ref cM, .int x1]) (rest := []) rfl rfl (Or.inl rfl) rfl rfl rfl rfl rfl).trans (fs_fn fun g31 r32 => ?_)
    exact (fs_rv (n := n + 31) rfl rfl).trans rfl
def BM_reserved_224 (L : Nat) (xs : Nat → Int32) (m d k : Nat) (x1 x2 x3 x4 x5 x6 : Int32) (g : a2_G) (r : a2_A) : Option fn_Z := (if am_c2 .ne x6 0 = true then (BM_reserved_247 L xs m d k x1 x2 x3 x4 x6 g r) else (if am_c2 .ne x4 0 = true then (BM_reserved_247 L xs m d k x1 x2 x3 x4 x6 g r) else (fn_v (ev L xs m d nM_fail [.ref cM, .int 1, .int (g fM_at)] g r) fun v35 g33 r34 => (some (.inl none, g33, r34)))))
theorem bM_reserved_224 (L : Nat) (xs : Nat → Int32) (m d k : Nat) (n : Nat) (x1 x2 x3 x4 x5 x6 : Int32) (g : a2_G) (r : a2_A) : bk L xs nM_reserved nm_m183 m d k (n + 42) 224 [some (.ref cM), some (.int x1), some (.int x2), some (.int x3), some (.int x4), some (.int x5)] [.int x6] g r = BM_reserved_224 L xs m d k x1 x2 x3 x4 x5 x6 g r := by
  show _ = ((if am_c2 .ne x6 0 = true then (BM_reserved_247 L xs m d k x1 x2 x3 x4 x6 g r) else (if am_c2 .ne x4 0 = true then (BM_reserved_247 L xs m d k x1 x2 x3 x4 x6 g r) else (fn_v (ev L xs m d nM_fail [.ref cM, .int 1, .int (g fM_at)] g r) fun v35 g33 r34 => (some (.inl none, g33, r34))))) : Option fn_Z)
  refine (fs_r (n := n + 40) 2 (pc' := 228) (L' := [some (.ref cM), some (.int x1), some (.int x2), some (.int x3), some (.int x4), some (.int x6)]) (S' := [.int x6]) rfl).trans ?_
  refine (fs_i (n := n + 39) rfl (t := 247) rfl (by decide)).trans (fs_ite ?_ ?_)
  · skip
    exact bM_reserved_247 L xs m d k (n + 2) x1 x2 x3 x4 x6 g r
  · skip
    refine (fs_r (n := n + 38) 1 (pc' := 233) (L' := [some (.ref cM), some (.int x1), some (.int x2), some (.int x3), some (.int x4), some (.int x6)]) (S' := [.int x4]) rfl).trans ?_
    refine (fs_i (n := n + 37) rfl (t := 247) rfl (by decide)).trans (fs_ite ?_ ?_)
    · skip
      exact bM_reserved_247 L xs m d k (n + 0) x1 x2 x3 x4 x6 g r
    · skip
      refine (fs_r (n := n + 33) 4 (pc' := 242) (L' := [some (.ref cM), some (.int x1), some (.int x2), some (.int x3), some (.int x4), some (.int x6)]) (S' := [.int (g fM_at), .int 1, .ref cM]) rfl).trans ?_
      refine (fs_cv (n := n + 32) (N := nm_m164) (as := [.ref cM, .int 1, .int (g fM_at)]) (rest := []) rfl rfl (Or.inl rfl) rfl rfl rfl rfl rfl).trans (fs_fv fun v35 g33 r34 => ?_)
      refine (fs_r (n := n + 31) 1 (pc' := 246) (L' := [some (.ref cM), some (.int x1), some (.int x2), some (.int x3), some (.int x4), some (.int x6)]) (S' := []) rfl).trans ?_
      exact (fs_rv (n := n + 30) rfl rfl).trans rfl
def BM_reserved_219 (L : Nat) (xs : Nat → Int32) (m d k : Nat) (x1 x2 x3 x4 x5 : Int32) (g : a2_G) (r : a2_A) : Option fn_Z := (BM_reserved_224 L xs m d k x1 x2 x3 x4 x5 1 g r)
theorem bM_reserved_219 (L : Nat) (xs : Nat → Int32) (m d k : Nat) (n : Nat) (x1 x2 x3 x4 x5 : Int32) (g : a2_G) (r : a2_A) : bk L xs nM_reserved nm_m183 m d k (n + 44) 219 [some (.ref cM), some (.int x1), some (.int x2), some (.int x3), some (.int x4), some (.int x5)] [] g r = BM_reserved_219 L xs m d k x1 x2 x3 x4 x5 g r := by
  show _ = ((BM_reserved_224 L xs m d k x1 x2 x3 x4 x5 1 g r) : Option fn_Z)
  refine (fs_r (n := n + 43) 1 (pc' := 220) (L' := [some (.ref cM), some (.int x1), some (.int x2), some (.int x3), some (.int x4), some (.int x5)]) (S' := [.int 1]) rfl).trans ?_
  refine (fs_go (n := n + 42) rfl (t := 224) rfl (by decide)).trans ?_
  exact bM_reserved_224 L xs m d k (n + 0) x1 x2 x3 x4 x5 1 g r
def BM_reserved_223 (L : Nat) (xs : Nat → Int32) (m d k : Nat) (x1 x2 x3 x4 x5 : Int32) (g : a2_G) (r : a2_A) : Option fn_Z := (BM_reserved_224 L xs m d k x1 x2 x3 x4 x5 0 g r)
theorem bM_reserved_223 (L : Nat) (xs : Nat → Int32) (m d k : Nat) (n : Nat) (x1 x2 x3 x4 x5 : Int32) (g : a2_G) (r : a2_A) : bk L xs nM_reserved nm_m183 m d k (n + 43) 223 [some (.ref cM), some (.int x1), some (.int x2), some (.int x3), some (.int x4), some (.int x5)] [] g r = BM_reserved_223 L xs m d k x1 x2 x3 x4 x5 g r := by
  show _ = ((BM_reserved_224 L xs m d k x1 x2 x3 x4 x5 0 g r) : Option fn_Z)
  refine (fs_r (n := n + 42) 1 (pc' := 224) (L' := [some (.ref cM), some (.int x1), some (.int x2), some (.int x3), some (.int x4), some (.int x5)]) (S' := [.int 0]) rfl).trans ?_
  exact bM_reserved_224 L xs m d k (n + 0) x1 x2 x3 x4 x5 0 g r
def BM_reserved_209 (L : Nat) (xs : Nat → Int32) (m d k : Nat) (x1 x2 x3 x4 x5 : Int32) (g : a2_G) (r : a2_A) : Option fn_Z := (if am_c2 .ne x2 33 = true then (BM_reserved_223 L xs m d k x1 x2 x3 x4 x5 g r) else (if am_c2 .le x1 0 = true then (BM_reserved_223 L xs m d k x1 x2 x3 x4 x5 g r) else (BM_reserved_219 L xs m d k x1 x2 x3 x4 x5 g r)))
theorem bM_reserved_209 (L : Nat) (xs : Nat → Int32) (m d k : Nat) (n : Nat) (x1 x2 x3 x4 x5 : Int32) (g : a2_G) (r : a2_A) : bk L xs nM_reserved nm_m183 m d k (n + 49) 209 [some (.ref cM), some (.int x1), some (.int x2), some (.int x3), some (.int x4), some (.int x5)] [] g r = BM_reserved_209 L xs m d k x1 x2 x3 x4 x5 g r := by
  show _ = ((if am_c2 .ne x2 33 = true then (BM_reserved_223 L xs m d k x1 x2 x3 x4 x5 g r) else (if am_c2 .le x1 0 = true then (BM_reserved_223 L xs m d k x1 x2 x3 x4 x5 g r) else (BM_reserved_219 L xs m d k x1 x2 x3 x4 x5 g r))) : Option fn_Z)
  refine (fs_r (n := n + 47) 2 (pc' := 212) (L' := [some (.ref cM), some (.int x1), some (.int x2), some (.int x3), some (.int x4), some (.int x5)]) (S' := [.int 33, .int x2]) rfl).trans ?_
  refine (fs_j (n := n + 46) rfl (t := 223) rfl (by decide)).trans (fs_ite ?_ ?_)
  · skip
    exact bM_reserved_223 L xs m d k (n + 3) x1 x2 x3 x4 x5 g r
  · skip
    refine (fs_r (n := n + 45) 1 (pc' := 216) (L' := [some (.ref cM), some (.int x1), some (.int x2), some (.int x3), some (.int x4), some (.int x5)]) (S' := [.int x1]) rfl).trans ?_
    refine (fs_i (n := n + 44) rfl (t := 223) rfl (by decide)).trans (fs_ite ?_ ?_)
    · skip
      exact bM_reserved_223 L xs m d k (n + 1) x1 x2 x3 x4 x5 g r
    · skip
      exact bM_reserved_219 L xs m d k (n + 0) x1 x2 x3 x4 x5 g r
def BM_reserved_197 (L : Nat) (xs : Nat → Int32) (m d k : Nat) (x1 x2 x3 x4 x5 : Int32) (g : a2_G) (r : a2_A) : Option fn_Z := (if am_c2 .ne x2 32 = true then (BM_reserved_209 L xs m d k x1 x2 x3 x4 x5 g r) else (if am_c2 .eq x1 8 = true then (BM_reserved_219 L xs m d k x1 x2 x3 x4 x5 g r) else (BM_reserved_209 L xs m d k x1 x2 x3 x4 x5 g r)))
theorem bM_reserved_197 (L : Nat) (xs : Nat → Int32) (m d k : Nat) (n : Nat) (x1 x2 x3 x4 x5 : Int32) (g : a2_G) (r : a2_A) : bk L xs nM_reserved nm_m183 m d k (n + 55) 197 [some (.ref cM), some (.int x1), some (.int x2), some (.int x3), some (.int x4), some (.int x5)] [] g r = BM_reserved_197 L xs m d k x1 x2 x3 x4 x5 g r := by
  show _ = ((if am_c2 .ne x2 32 = true then (BM_reserved_209 L xs m d k x1 x2 x3 x4 x5 g r) else (if am_c2 .eq x1 8 = true then (BM_reserved_219 L xs m d k x1 x2 x3 x4 x5 g r) else (BM_reserved_209 L xs m d k x1 x2 x3 x4 x5 g r))) : Option fn_Z)
  refine (fs_r (n := n + 53) 2 (pc' := 200) (L' := [some (.ref cM), some (.int x1), some (.int x2), some (.int x3), some (.int x4), some (.int x5)]) (S' := [.int 32, .int x2]) rfl).trans ?_
  refine (fs_j (n := n + 52) rfl (t := 209) rfl (by decide)).trans (fs_ite ?_ ?_)
  · skip
    exact bM_reserved_209 L xs m d k (n + 3) x1 x2 x3 x4 x5 g r
  · skip
    refine (fs_r (n := n + 50) 2 (pc' := 206) (L' := [some (.ref cM), some (.int x1), some (.int x2), some (.int x3), some (.int x4), some (.int x5)]) (S' := [.int 8, .int x1]) rfl).trans ?_
    refine (fs_j (n := n + 49) rfl (t := 219) rfl (by decide)).trans (fs_ite ?_ ?_)
    · skip
      exact bM_reserved_219 L xs m d k (n + 5) x1 x2 x3 x4 x5 g r
    · skip
      exact bM_reserved_209 L xs m d k (n + 0) x1 x2 x3 x4 x5 g r
def BM_reserved_181 (L : Nat) (xs : Nat → Int32) (m d k : Nat) (x1 x2 x3 x4 x5 : Int32) (g : a2_G) (r : a2_A) : Option fn_Z := (if am_c2 .ne x2 30 = true then (BM_reserved_197 L xs m d k x1 x2 x3 x4 x5 g r) else (fn_v (ev L xs m d nM_in [.int x1, .int 1, .int 7] g r) fun v38 g36 r37 => (if am_c2 .ne v38 0 = true then (BM_reserved_219 L xs m d k x1 x2 x3 x4 x5 g36 r37) else (BM_reserved_197 L xs m d k x1 x2 x3 x4 x5 g36 r37))))
theorem bM_reserved_181 (L : Nat) (xs : Nat → Int32) (m d k : Nat) (n : Nat) (x1 x2 x3 x4 x5 : Int32) (g : a2_G) (r : a2_A) : bk L xs nM_reserved nm_m183 m d k (n + 63) 181 [some (.ref cM), some (.int x1), some (.int x2), some (.int x3), some (.int x4), some (.int x5)] [] g r = BM_reserved_181 L xs m d k x1 x2 x3 x4 x5 g r := by
  show _ = ((if am_c2 .ne x2 30 = true then (BM_reserved_197 L xs m d k x1 x2 x3 x4 x5 g r) else (fn_v (ev L xs m d nM_in [.int x1, .int 1, .int 7] g r) fun v38 g36 r37 => (if am_c2 .ne v38 0 = true then (BM_reserved_219 L xs m d k x1 x2 x3 x4 x5 g36 r37) else (BM_reserved_197 L xs m d k x1 x2 x3 x4 x5 g36 r37)))) : Option fn_Z)
  refine (fs_r (n := n + 61) 2 (pc' := 184) (L' := [some (.ref cM), some (.int x1), some (.int x2), some (.int x3), some (.int x4), some (.int x5)]) (S' := [.int 30, .int x2]) rfl).trans ?_
  refine (fs_j (n := n + 60) rfl (t := 197) rfl (by decide)).trans (fs_ite ?_ ?_)
  · skip
    exact bM_reserved_197 L xs m d k (n + 5) x1 x2 x3 x4 x5 g r
  · skip
    refine (fs_r (n := n + 57) 3 (pc' := 191) (L' := [some (.ref cM), some (.int x1), some (.int x2), some (.int x3), some (.int x4), some (.int x5)]) (S' := [.int 7, .int 1, .int x1]) rfl).trans ?_
    refine (fs_sv (n := n + 56) (N := nm_m158) (as := [.int x1, .int 1, .int 7]) (rest := []) rfl rfl (by decide) rfl rfl rfl rfl rfl).trans (fs_fv fun v38 g36 r37 => ?_)
    refine (fs_i (n := n + 55) rfl (t := 219) rfl (by decide)).trans (fs_ite ?_ ?_)
    · skip
      exact bM_reserved_219 L xs m d k (n + 11) x1 x2 x3 x4 x5 g36 r37
    · skip
      exact bM_reserved_197 L xs m d k (n + 0) x1 x2 x3 x4 x5 g36 r37
def BM_reserved_165 (L : Nat) (xs : Nat → Int32) (m d k : Nat) (x1 x2 x3 x4 x5 : Int32) (g : a2_G) (r : a2_A) : Option fn_Z := (if am_c2 .ne x2 15 = true then (BM_reserved_181 L xs m d k x1 x2 x3 x4 x5 g r) else (fn_v (ev L xs m d nM_in [.int x1, .int 3, .int 6] g r) fun v41 g39 r40 => (if am_c2 .ne v41 0 = true then (BM_reserved_219 L xs m d k x1 x2 x3 x4 x5 g39 r40) else (BM_reserved_181 L xs m d k x1 x2 x3 x4 x5 g39 r40))))
theorem bM_reserved_165 (L : Nat) (xs : Nat → Int32) (m d k : Nat) (n : Nat) (x1 x2 x3 x4 x5 : Int32) (g : a2_G) (r : a2_A) : bk L xs nM_reserved nm_m183 m d k (n + 71) 165 [some (.ref cM), some (.int x1), some (.int x2), some (.int x3), some (.int x4), some (.int x5)] [] g r = BM_reserved_165 L xs m d k x1 x2 x3 x4 x5 g r := by
  show _ = ((if am_c2 .ne x2 15 = true then (BM_reserved_181 L xs m d k x1 x2 x3 x4 x5 g r) else (fn_v (ev L xs m d nM_in [.int x1, .int 3, .int 6] g r) fun v41 g39 r40 => (if am_c2 .ne v41 0 = true then (BM_reserved_219 L xs m d k x1 x2 x3 x4 x5 g39 r40) else (BM_reserved_181 L xs m d k x1 x2 x3 x4 x5 g39 r40)))) : Option fn_Z)
  refine (fs_r (n := n + 69) 2 (pc' := 168) (L' := [some (.ref cM), some (.int x1), some (.int x2), some (.int x3), some (.int x4), some (.int x5)]) (S' := [.int 15, .int x2]) rfl).trans ?_
  refine (fs_j (n := n + 68) rfl (t := 181) rfl (by decide)).trans (fs_ite ?_ ?_)
  · skip
    exact bM_reserved_181 L xs m d k (n + 5) x1 x2 x3 x4 x5 g r
  · skip
    refine (fs_r (n := n + 65) 3 (pc' := 175) (L' := [some (.ref cM), some (.int x1), some (.int x2), some (.int x3), some (.int x4), some (.int x5)]) (S' := [.int 6, .int 3, .int x1]) rfl).trans ?_
    refine (fs_sv (n := n + 64) (N := nm_m158) (as := [.int x1, .int 3, .int 6]) (rest := []) rfl rfl (by decide) rfl rfl rfl rfl rfl).trans (fs_fv fun v41 g39 r40 => ?_)
    refine (fs_i (n := n + 63) rfl (t := 219) rfl (by decide)).trans (fs_ite ?_ ?_)
    · skip
      exact bM_reserved_219 L xs m d k (n + 19) x1 x2 x3 x4 x5 g39 r40
    · skip
      exact bM_reserved_181 L xs m d k (n + 0) x1 x2 x3 x4 x5 g39 r40
def BM_reserved_150 (L : Nat) (xs : Nat → Int32) (m d k : Nat) (x1 x2 x3 x4 x5 : Int32) (g : a2_G) (r : a2_A) : Option fn_Z := (if am_c2 .ne x2 14 = true then (BM_reserved_165 L xs m d k x1 x2 x3 x4 x5 g r) else (fn_v (ev L xs m d nM_in [.int x1, .int 3, .int 5] g r) fun v44 g42 r43 => (if am_c2 .ne v44 0 = true then (BM_reserved_219 L xs m d k x1 x2 x3 x4 x5 g42 r43) else (BM_reserved_165 L xs m d k x1 x2 x3 x4 x5 g42 r43))))
theorem bM_reserved_150 (L : Nat) (xs : Nat → Int32) (m d k : Nat) (n : Nat) (x1 x2 x3 x4 x5 : Int32) (g : a2_G) (r : a2_A) : bk L xs nM_reserved nm_m183 m d k (n + 79) 150 [some (.ref cM), some (.int x1), some (.int x2), some (.int x3), some (.int x4), some (.int x5)] [] g r = BM_reserved_150 L xs m d k x1 x2 x3 x4 x5 g r := by
  show _ = ((if am_c2 .ne x2 14 = true then (BM_reserved_165 L xs m d k x1 x2 x3 x4 x5 g r) else (fn_v (ev L xs m d nM_in [.int x1, .int 3, .int 5] g r) fun v44 g42 r43 => (if am_c2 .ne v44 0 = true then (BM_reserved_219 L xs m d k x1 x2 x3 x4 x5 g42 r43) else (BM_reserved_165 L xs m d k x1 x2 x3 x4 x5 g42 r43)))) : Option fn_Z)
  refine (fs_r (n := n + 77) 2 (pc' := 153) (L' := [some (.ref cM), some (.int x1), some (.int x2), some (.int x3), some (.int x4), some (.int x5)]) (S' := [.int 14, .int x2]) rfl).trans ?_
  refine (fs_j (n := n + 76) rfl (t := 165) rfl (by decide)).trans (fs_ite ?_ ?_)
  · skip
    exact bM_reserved_165 L xs m d k (n + 5) x1 x2 x3 x4 x5 g r
  · skip
    refine (fs_r (n := n + 73) 3 (pc' := 159) (L' := [some (.ref cM), some (.int x1), some (.int x2), some (.int x3), some (.int x4), some (.int x5)]) (S' := [.int 5, .int 3, .int x1]) rfl).trans ?_
    refine (fs_sv (n := n + 72) (N := nm_m158) (as := [.int x1, .int 3, .int 5]) (rest := []) rfl rfl (by decide) rfl rfl rfl rfl rfl).trans (fs_fv fun v44 g42 r43 => ?_)
    refine (fs_i (n := n + 71) rfl (t := 219) rfl (by decide)).trans (fs_ite ?_ ?_)
    · skip
      exact bM_reserved_219 L xs m d k (n + 27) x1 x2 x3 x4 x5 g42 r43
    · skip
      exact bM_reserved_165 L xs m d k (n + 0) x1 x2 x3 x4 x5 g42 r43
def BM_reserved_128 (L : Nat) (xs : Nat → Int32) (m d k : Nat) (x1 x2 x3 x4 x5 : Int32) (g : a2_G) (r : a2_A) : Option fn_Z := (if am_c2 .ne x5 0 = true then (BM_reserved_219 L xs m d k x1 x2 x3 x4 x5 g r) else (if am_c2 .ne x2 17 = true then (BM_reserved_150 L xs m d k x1 x2 x3 x4 x5 g r) else (fn_v (ev L xs m d nM_in [.int x1, .int 4, .int 5] g r) fun v47 g45 r46 => (if am_c2 .ne v47 0 = true then (BM_reserved_219 L xs m d k x1 x2 x3 x4 x5 g45 r46) else (BM_reserved_150 L xs m d k x1 x2 x3 x4 x5 g45 r46)))))
theorem bM_reserved_128 (L : Nat) (xs : Nat → Int32) (m d k : Nat) (n : Nat) (x1 x2 x3 x4 x5 : Int32) (g : a2_G) (r : a2_A) : bk L xs nM_reserved nm_m183 m d k (n + 90) 128 [some (.ref cM), some (.int x1), some (.int x2), some (.int x3), some (.int x4), none] [.int x5] g r = BM_reserved_128 L xs m d k x1 x2 x3 x4 x5 g r := by
  show _ = ((if am_c2 .ne x5 0 = true then (BM_reserved_219 L xs m d k x1 x2 x3 x4 x5 g r) else (if am_c2 .ne x2 17 = true then (BM_reserved_150 L xs m d k x1 x2 x3 x4 x5 g r) else (fn_v (ev L xs m d nM_in [.int x1, .int 4, .int 5] g r) fun v47 g45 r46 => (if am_c2 .ne v47 0 = true then (BM_reserved_219 L xs m d k x1 x2 x3 x4 x5 g45 r46) else (BM_reserved_150 L xs m d k x1 x2 x3 x4 x5 g45 r46))))) : Option fn_Z)
  refine (fs_r (n := n + 88) 2 (pc' := 132) (L' := [some (.ref cM), some (.int x1), some (.int x2), some (.int x3), some (.int x4), some (.int x5)]) (S' := [.int x5]) rfl).trans ?_
  refine (fs_i (n := n + 87) rfl (t := 219) rfl (by decide)).trans (fs_ite ?_ ?_)
  · skip
    exact bM_reserved_219 L xs m d k (n + 43) x1 x2 x3 x4 x5 g r
  · skip
    refine (fs_r (n := n + 85) 2 (pc' := 138) (L' := [some (.ref cM), some (.int x1), some (.int x2), some (.int x3), some (.int x4), some (.int x5)]) (S' := [.int 17, .int x2]) rfl).trans ?_
    refine (fs_j (n := n + 84) rfl (t := 150) rfl (by decide)).trans (fs_ite ?_ ?_)
    · skip
      exact bM_reserved_150 L xs m d k (n + 5) x1 x2 x3 x4 x5 g r
    · skip
      refine (fs_r (n := n + 81) 3 (pc' := 144) (L' := [some (.ref cM), some (.int x1), some (.int x2), some (.int x3), some (.int x4), some (.int x5)]) (S' := [.int 5, .int 4, .int x1]) rfl).trans ?_
      refine (fs_sv (n := n + 80) (N := nm_m158) (as := [.int x1, .int 4, .int 5]) (rest := []) rfl rfl (by decide) rfl rfl rfl rfl rfl).trans (fs_fv fun v47 g45 r46 => ?_)
      refine (fs_i (n := n + 79) rfl (t := 219) rfl (by decide)).trans (fs_ite ?_ ?_)
      · skip
        exact bM_reserved_219 L xs m d k (n + 35) x1 x2 x3 x4 x5 g45 r46
      · skip
        exact bM_reserved_150 L xs m d k (n + 0) x1 x2 x3 x4 x5 g45 r46
def BM_reserved_123 (L : Nat) (xs : Nat → Int32) (m d k : Nat) (x1 x2 x3 x4 : Int32) (g : a2_G) (r : a2_A) : Option fn_Z := (BM_reserved_128 L xs m d k x1 x2 x3 x4 1 g r)
theorem bM_reserved_123 (L : Nat) (xs : Nat → Int32) (m d k : Nat) (n : Nat) (x1 x2 x3 x4 : Int32) (g : a2_G) (r : a2_A) : bk L xs nM_reserved nm_m183 m d k (n + 92) 123 [some (.ref cM), some (.int x1), some (.int x2), some (.int x3), some (.int x4), none] [] g r = BM_reserved_123 L xs m d k x1 x2 x3 x4 g r := by
  show _ = ((BM_reserved_128 L xs m d k x1 x2 x3 x4 1 g r) : Option fn_Z)
  refine (fs_r (n := n + 91) 1 (pc' := 124) (L' := [some (.ref cM), some (.int x1), some (.int x2), some (.int x3), some (.int x4), none]) (S' := [.int 1]) rfl).trans ?_
  refine (fs_go (n := n + 90) rfl (t := 128) rfl (by decide)).trans ?_
  exact bM_reserved_128 L xs m d k (n + 0) x1 x2 x3 x4 1 g r
def BM_reserved_127 (L : Nat) (xs : Nat → Int32) (m d k : Nat) (x1 x2 x3 x4 : Int32) (g : a2_G) (r : a2_A) : Option fn_Z := (BM_reserved_128 L xs m d k x1 x2 x3 x4 0 g r)
theorem bM_reserved_127 (L : Nat) (xs : Nat → Int32) (m d k : Nat) (n : Nat) (x1 x2 x3 x4 : Int32) (g : a2_G) (r : a2_A) : bk L xs nM_reserved nm_m183 m d k (n + 91) 127 [some (.ref cM), some (.int x1), some (.int x2), some (.int x3), some (.int x4), none] [] g r = BM_reserved_127 L xs m d k x1 x2 x3 x4 g r := by
  show _ = ((BM_reserved_128 L xs m d k x1 x2 x3 x4 0 g r) : Option fn_Z)
  refine (fs_r (n := n + 90) 1 (pc' := 128) (L' := [some (.ref cM), some (.int x1), some (.int x2), some (.int x3), some (.int x4), none]) (S' := [.int 0]) rfl).trans ?_
  exact bM_reserved_128 L xs m d k (n + 0) x1 x2 x3 x4 0 g r
def BM_reserved_112 (L : Nat) (xs : Nat → Int32) (m d k : Nat) (x1 x2 x3 x4 : Int32) (g : a2_G) (r : a2_A) : Option fn_Z := (if am_c2 .ne x2 13 = true then (BM_reserved_127 L xs m d k x1 x2 x3 x4 g r) else (if am_c2 .ne x1 3 = true then (BM_reserved_127 L xs m d k x1 x2 x3 x4 g r) else (BM_reserved_123 L xs m d k x1 x2 x3 x4 g r)))
theorem bM_reserved_112 (L : Nat) (xs : Nat → Int32) (m d k : Nat) (n : Nat) (x1 x2 x3 x4 : Int32) (g : a2_G) (r : a2_A) : bk L xs nM_reserved nm_m183 m d k (n + 98) 112 [some (.ref cM), some (.int x1), some (.int x2), some (.int x3), some (.int x4), none] [] g r = BM_reserved_112 L xs m d k x1 x2 x3 x4 g r := by
  show _ = ((if am_c2 .ne x2 13 = true then (BM_reserved_127 L xs m d k x1 x2 x3 x4 g r) else (if am_c2 .ne x1 3 = true then (BM_reserved_127 L xs m d k x1 x2 x3 x4 g r) else (BM_reserved_123 L xs m d k x1 x2 x3 x4 g r))) : Option fn_Z)
  refine (fs_r (n := n + 96) 2 (pc' := 115) (L' := [some (.ref cM), some (.int x1), some (.int x2), some (.int x3), some (.int x4), none]) (S' := [.int 13, .int x2]) rfl).trans ?_
  refine (fs_j (n := n + 95) rfl (t := 127) rfl (by decide)).trans (fs_ite ?_ ?_)
  · skip
    exact bM_reserved_127 L xs m d k (n + 4) x1 x2 x3 x4 g r
  · skip
    refine (fs_r (n := n + 93) 2 (pc' := 120) (L' := [some (.ref cM), some (.int x1), some (.int x2), some (.int x3), some (.int x4), none]) (S' := [.int 3, .int x1]) rfl).trans ?_
    refine (fs_j (n := n + 92) rfl (t := 127) rfl (by decide)).trans (fs_ite ?_ ?_)
    · skip
      exact bM_reserved_127 L xs m d k (n + 1) x1 x2 x3 x4 g r
    · skip
      exact bM_reserved_123 L xs m d k (n + 0) x1 x2 x3 x4 g r
def BM_reserved_97 (L : Nat) (xs : Nat → Int32) (m d k : Nat) (x1 x2 x3 x4 : Int32) (g : a2_G) (r : a2_A) : Option fn_Z := (if am_c2 .ne x2 12 = true then (BM_reserved_112 L xs m d k x1 x2 x3 x4 g r) else (fn_v (ev L xs m d nM_in [.int x1, .int 1, .int 2] g r) fun v50 g48 r49 => (if am_c2 .ne v50 0 = true then (BM_reserved_123 L xs m d k x1 x2 x3 x4 g48 r49) else (BM_reserved_112 L xs m d k x1 x2 x3 x4 g48 r49))))
theorem bM_reserved_97 (L : Nat) (xs : Nat → Int32) (m d k : Nat) (n : Nat) (x1 x2 x3 x4 : Int32) (g : a2_G) (r : a2_A) : bk L xs nM_reserved nm_m183 m d k (n + 106) 97 [some (.ref cM), some (.int x1), some (.int x2), some (.int x3), some (.int x4), none] [] g r = BM_reserved_97 L xs m d k x1 x2 x3 x4 g r := by
  show _ = ((if am_c2 .ne x2 12 = true then (BM_reserved_112 L xs m d k x1 x2 x3 x4 g r) else (fn_v (ev L xs m d nM_in [.int x1, .int 1, .int 2] g r) fun v50 g48 r49 => (if am_c2 .ne v50 0 = true then (BM_reserved_123 L xs m d k x1 x2 x3 x4 g48 r49) else (BM_reserved_112 L xs m d k x1 x2 x3 x4 g48 r49)))) : Option fn_Z)
  refine (fs_r (n := n + 104) 2 (pc' := 100) (L' := [some (.ref cM), some (.int x1), some (.int x2), some (.int x3), some (.int x4), none]) (S' := [.int 12, .int x2]) rfl).trans ?_
  refine (fs_j (n := n + 103) rfl (t := 112) rfl (by decide)).trans (fs_ite ?_ ?_)
  · skip
    exact bM_reserved_112 L xs m d k (n + 5) x1 x2 x3 x4 g r
  · skip
    refine (fs_r (n := n + 100) 3 (pc' := 106) (L' := [some (.ref cM), some (.int x1), some (.int x2), some (.int x3), some (.int x4), none]) (S' := [.int 2, .int 1, .int x1]) rfl).trans ?_
    refine (fs_sv (n := n + 99) (N := nm_m158) (as := [.int x1, .int 1, .int 2]) (rest := []) rfl rfl (by decide) rfl rfl rfl rfl rfl).trans (fs_fv fun v50 g48 r49 => ?_)
    refine (fs_i (n := n + 98) rfl (t := 123) rfl (by decide)).trans (fs_ite ?_ ?_)
    · skip
      exact bM_reserved_123 L xs m d k (n + 6) x1 x2 x3 x4 g48 r49
    · skip
      exact bM_reserved_112 L xs m d k (n + 0) x1 x2 x3 x4 g48 r49
def BM_reserved_87 (L : Nat) (xs : Nat → Int32) (m d k : Nat) (x1 x2 x3 x4 : Int32) (g : a2_G) (r : a2_A) : Option fn_Z := (if am_c2 .ne x2 5 = true then (BM_reserved_97 L xs m d k x1 x2 x3 x4 g r) else (if am_c2 .eq x1 2 = true then (BM_reserved_123 L xs m d k x1 x2 x3 x4 g r) else (BM_reserved_97 L xs m d k x1 x2 x3 x4 g r)))
theorem bM_reserved_87 (L : Nat) (xs : Nat → Int32) (m d k : Nat) (n : Nat) (x1 x2 x3 x4 : Int32) (g : a2_G) (r : a2_A) : bk L xs nM_reserved nm_m183 m d k (n + 112) 87 [some (.ref cM), some (.int x1), some (.int x2), some (.int x3), some (.int x4), none] [] g r = BM_reserved_87 L xs m d k x1 x2 x3 x4 g r := by
  show _ = ((if am_c2 .ne x2 5 = true then (BM_reserved_97 L xs m d k x1 x2 x3 x4 g r) else (if am_c2 .eq x1 2 = true then (BM_reserved_123 L xs m d k x1 x2 x3 x4 g r) else (BM_reserved_97 L xs m d k x1 x2 x3 x4 g r))) : Option fn_Z)
  refine (fs_r (n := n + 110) 2 (pc' := 89) (L' := [some (.ref cM), some (.int x1), some (.int x2), some (.int x3), some (.int x4), none]) (S' := [.int 5, .int x2]) rfl).trans ?_
  refine (fs_j (n := n + 109) rfl (t := 97) rfl (by decide)).trans (fs_ite ?_ ?_)
  · skip
    exact bM_reserved_97 L xs m d k (n + 3) x1 x2 x3 x4 g r
  · skip
    refine (fs_r (n := n + 107) 2 (pc' := 94) (L' := [some (.ref cM), some (.int x1), some (.int x2), some (.int x3), some (.int x4), none]) (S' := [.int 2, .int x1]) rfl).trans ?_
    refine (fs_j (n := n + 106) rfl (t := 123) rfl (by decide)).trans (fs_ite ?_ ?_)
    · skip
      exact bM_reserved_123 L xs m d k (n + 14) x1 x2 x3 x4 g r
    · skip
      exact bM_reserved_97 L xs m d k (n + 0) x1 x2 x3 x4 g r
def BM_reserved_77 (L : Nat) (xs : Nat → Int32) (m d k : Nat) (x1 x2 x3 x4 : Int32) (g : a2_G) (r : a2_A) : Option fn_Z := (if am_c2 .ne x2 4 = true then (BM_reserved_87 L xs m d k x1 x2 x3 x4 g r) else (if am_c2 .eq x1 1 = true then (BM_reserved_123 L xs m d k x1 x2 x3 x4 g r) else (BM_reserved_87 L xs m d k x1 x2 x3 x4 g r)))
theorem bM_reserved_77 (L : Nat) (xs : Nat → Int32) (m d k : Nat) (n : Nat) (x1 x2 x3 x4 : Int32) (g : a2_G) (r : a2_A) : bk L xs nM_reserved nm_m183 m d k (n + 118) 77 [some (.ref cM), some (.int x1), some (.int x2), some (.int x3), some (.int x4), none] [] g r = BM_reserved_77 L xs m d k x1 x2 x3 x4 g r := by
  show _ = ((if am_c2 .ne x2 4 = true then (BM_reserved_87 L xs m d k x1 x2 x3 x4 g r) else (if am_c2 .eq x1 1 = true then (BM_reserved_123 L xs m d k x1 x2 x3 x4 g r) else (BM_reserved_87 L xs m d k x1 x2 x3 x4 g r))) : Option fn_Z)
  refine (fs_r (n := n + 116) 2 (pc' := 79) (L' := [some (.ref cM), some (.int x1), some (.int x2), some (.int x3), some (.int x4), none]) (S' := [.int 4, .int x2]) rfl).trans ?_
  refine (fs_j (n := n + 115) rfl (t := 87) rfl (by decide)).trans (fs_ite ?_ ?_)
  · skip
    exact bM_reserved_87 L xs m d k (n + 3) x1 x2 x3 x4 g r
  · skip
    refine (fs_r (n := n + 113) 2 (pc' := 84) (L' := [some (.ref cM), some (.int x1), some (.int x2), some (.int x3), some (.int x4), none]) (S' := [.int 1, .int x1]) rfl).trans ?_
    refine (fs_j (n := n + 112) rfl (t := 123) rfl (by decide)).trans (fs_ite ?_ ?_)
    · skip
      exact bM_reserved_123 L xs m d k (n + 20) x1 x2 x3 x4 g r
    · skip
      exact bM_reserved_87 L xs m d k (n + 0) x1 x2 x3 x4 g r
def BM_reserved_60 (L : Nat) (xs : Nat → Int32) (m d k : Nat) (x1 x2 x3 x4 : Int32) (g : a2_G) (r : a2_A) : Option fn_Z := (if am_c2 .ne x2 3 = true then (BM_reserved_77 L xs m d k x1 x2 x3 x4 g r) else (if am_c2 .ne x1 0 = true then (BM_reserved_77 L xs m d k x1 x2 x3 x4 g r) else (if am_c2 .eq (g fM_open) 1 = true then (BM_reserved_123 L xs m d k x1 x2 x3 x4 g r) else (BM_reserved_77 L xs m d k x1 x2 x3 x4 g r))))
theorem bM_reserved_60 (L : Nat) (xs : Nat → Int32) (m d k : Nat) (n : Nat) (x1 x2 x3 x4 : Int32) (g : a2_G) (r : a2_A) : bk L xs nM_reserved nm_m183 m d k (n + 127) 60 [some (.ref cM), some (.int x1), some (.int x2), some (.int x3), some (.int x4), none] [] g r = BM_reserved_60 L xs m d k x1 x2 x3 x4 g r := by
  show _ = ((if am_c2 .ne x2 3 = true then (BM_reserved_77 L xs m d k x1 x2 x3 x4 g r) else (if am_c2 .ne x1 0 = true then (BM_reserved_77 L xs m d k x1 x2 x3 x4 g r) else (if am_c2 .eq (g fM_open) 1 = true then (BM_reserved_123 L xs m d k x1 x2 x3 x4 g r) else (BM_reserved_77 L xs m d k x1 x2 x3 x4 g r)))) : Option fn_Z)
  refine (fs_r (n := n + 125) 2 (pc' := 62) (L' := [some (.ref cM), some (.int x1), some (.int x2), some (.int x3), some (.int x4), none]) (S' := [.int 3, .int x2]) rfl).trans ?_
  refine (fs_j (n := n + 124) rfl (t := 77) rfl (by decide)).trans (fs_ite ?_ ?_)
  · skip
    exact bM_reserved_77 L xs m d k (n + 6) x1 x2 x3 x4 g r
  · skip
    refine (fs_r (n := n + 123) 1 (pc' := 66) (L' := [some (.ref cM), some (.int x1), some (.int x2), some (.int x3), some (.int x4), none]) (S' := [.int x1]) rfl).trans ?_
    refine (fs_i (n := n + 122) rfl (t := 77) rfl (by decide)).trans (fs_ite ?_ ?_)
    · skip
      exact bM_reserved_77 L xs m d k (n + 4) x1 x2 x3 x4 g r
    · skip
      refine (fs_r (n := n + 119) 3 (pc' := 74) (L' := [some (.ref cM), some (.int x1), some (.int x2), some (.int x3), some (.int x4), none]) (S' := [.int 1, .int (g fM_open)]) rfl).trans ?_
      refine (fs_j (n := n + 118) rfl (t := 123) rfl (by decide)).trans (fs_ite ?_ ?_)
      · skip
        exact bM_reserved_123 L xs m d k (n + 26) x1 x2 x3 x4 g r
      · skip
        exact bM_reserved_77 L xs m d k (n + 0) x1 x2 x3 x4 g r
def BM_reserved_45 (L : Nat) (xs : Nat → Int32) (m d k : Nat) (x1 x2 x3 x4 : Int32) (g : a2_G) (r : a2_A) : Option fn_Z := (if am_c2 .eq x2 0 = true then (BM_reserved_123 L xs m d k x1 x2 x3 x4 g r) else (if am_c2 .ne x2 2 = true then (BM_reserved_60 L xs m d k x1 x2 x3 x4 g r) else (if am_c2 .eq x1 0 = true then (BM_reserved_123 L xs m d k x1 x2 x3 x4 g r) else (BM_reserved_60 L xs m d k x1 x2 x3 x4 g r))))
theorem bM_reserved_45 (L : Nat) (xs : Nat → Int32) (m d k : Nat) (n : Nat) (x1 x2 x3 x4 : Int32) (g : a2_G) (r : a2_A) : bk L xs nM_reserved nm_m183 m d k (n + 135) 45 [some (.ref cM), some (.int x1), some (.int x2), some (.int x3), none, none] [.int x4] g r = BM_reserved_45 L xs m d k x1 x2 x3 x4 g r := by
  show _ = ((if am_c2 .eq x2 0 = true then (BM_reserved_123 L xs m d k x1 x2 x3 x4 g r) else (if am_c2 .ne x2 2 = true then (BM_reserved_60 L xs m d k x1 x2 x3 x4 g r) else (if am_c2 .eq x1 0 = true then (BM_reserved_123 L xs m d k x1 x2 x3 x4 g r) else (BM_reserved_60 L xs m d k x1 x2 x3 x4 g r)))) : Option fn_Z)
  refine (fs_r (n := n + 133) 2 (pc' := 48) (L' := [some (.ref cM), some (.int x1), some (.int x2), some (.int x3), some (.int x4), none]) (S' := [.int x2]) rfl).trans ?_
  refine (fs_i (n := n + 132) rfl (t := 123) rfl (by decide)).trans (fs_ite ?_ ?_)
  · skip
    exact bM_reserved_123 L xs m d k (n + 40) x1 x2 x3 x4 g r
  · skip
    refine (fs_r (n := n + 130) 2 (pc' := 53) (L' := [some (.ref cM), some (.int x1), some (.int x2), some (.int x3), some (.int x4), none]) (S' := [.int 2, .int x2]) rfl).trans ?_
    refine (fs_j (n := n + 129) rfl (t := 60) rfl (by decide)).trans (fs_ite ?_ ?_)
    · skip
      exact bM_reserved_60 L xs m d k (n + 2) x1 x2 x3 x4 g r
    · skip
      refine (fs_r (n := n + 128) 1 (pc' := 57) (L' := [some (.ref cM), some (.int x1), some (.int x2), some (.int x3), some (.int x4), none]) (S' := [.int x1]) rfl).trans ?_
      refine (fs_i (n := n + 127) rfl (t := 123) rfl (by decide)).trans (fs_ite ?_ ?_)
      · skip
        exact bM_reserved_123 L xs m d k (n + 35) x1 x2 x3 x4 g r
      · skip
        exact bM_reserved_60 L xs m d k (n + 0) x1 x2 x3 x4 g r
def BM_reserved_44 (L : Nat) (xs : Nat → Int32) (m d k : Nat) (x1 x2 x3 : Int32) (g : a2_G) (r : a2_A) : Option fn_Z := (BM_reserved_45 L xs m d k x1 x2 x3 0 g r)
theorem bM_reserved_44 (L : Nat) (xs : Nat → Int32) (m d k : Nat) (n : Nat) (x1 x2 x3 : Int32) (g : a2_G) (r : a2_A) : bk L xs nM_reserved nm_m183 m d k (n + 136) 44 [some (.ref cM), some (.int x1), some (.int x2), some (.int x3), none, none] [] g r = BM_reserved_44 L xs m d k x1 x2 x3 g r := by
  show _ = ((BM_reserved_45 L xs m d k x1 x2 x3 0 g r) : Option fn_Z)
  refine (fs_r (n := n + 135) 1 (pc' := 45) (L' := [some (.ref cM), some (.int x1), some (.int x2), some (.int x3), none, none]) (S' := [.int 0]) rfl).trans ?_
  exact bM_reserved_45 L xs m d k (n + 0) x1 x2 x3 0 g r
def BM_reserved_40 (L : Nat) (xs : Nat → Int32) (m d k : Nat) (x1 x2 x3 : Int32) (g : a2_G) (r : a2_A) : Option fn_Z := (BM_reserved_45 L xs m d k x1 x2 x3 1 g r)
theorem bM_reserved_40 (L : Nat) (xs : Nat → Int32) (m d k : Nat) (n : Nat) (x1 x2 x3 : Int32) (g : a2_G) (r : a2_A) : bk L xs nM_reserved nm_m183 m d k (n + 137) 40 [some (.ref cM), some (.int x1), some (.int x2), some (.int x3), none, none] [] g r = BM_reserved_40 L xs m d k x1 x2 x3 g r := by
  show _ = ((BM_reserved_45 L xs m d k x1 x2 x3 1 g r) : Option fn_Z)
  refine (fs_r (n := n + 136) 1 (pc' := 41) (L' := [some (.ref cM), some (.int x1), some (.int x2), some (.int x3), none, none]) (S' := [.int 1]) rfl).trans ?_
  refine (fs_go (n := n + 135) rfl (t := 45) rfl (by decide)).trans ?_
  exact bM_reserved_45 L xs m d k (n + 0) x1 x2 x3 1 g r
theorem eM_reserved (L : Nat) (xs : Nat → Int32) (m d k : Nat) (n : Nat) (a1 a2 : Int32) (g : a2_G) (r : a2_A) : bk L xs nM_reserved nm_m183 m d k (n + 156) 0 [some (.ref cM), some (.int a1), some (.int a2), none, none, none] [] g r = (fn_v (ev L xs m d nM_begins [.ref cM, .int (g fM_at)] g r) fun v3 g1 r2 => (if am_c2 .eq v3 0 = true then (BM_reserved_44 L xs m d k a1 a2 (g fM_at) g1 r2) else (fn_v (ev L xs m d nM_in [.int a1, .int 8, .int 11] g1 r2) fun v53 g51 r52 => (if am_c2 .eq v53 0 = true then (BM_reserved_44 L xs m d k a1 a2 (g fM_at) g51 r52) else (if am_c2 .ne a1 9 = true then (BM_reserved_40 L xs m d k a1 a2 (g fM_at) g51 r52) else (if am_c2 .le (g51 fM_section) 0 = true then (BM_reserved_44 L xs m d k a1 a2 (g fM_at) g51 r52) else (BM_reserved_40 L xs m d k a1 a2 (g fM_at) g51 r52))))))) := by
  refine (fs_r (n := n + 150) 6 (pc' := 10) (L' := [some (.ref cM), some (.int a1), some (.int a2), some (.int (g fM_at)), none, none]) (S' := [.int (g fM_at), .ref cM]) rfl).trans ?_
  refine (fs_cv (n := n + 149) (N := nm_m184) (as := [.ref cM, .int (g fM_at)]) (rest := []) rfl rfl (Or.inl rfl) rfl rfl rfl rfl rfl).trans (fs_fv fun v3 g1 r2 => ?_)
  refine (fs_i (n := n + 148) rfl (t := 44) rfl (by decide)).trans (fs_ite ?_ ?_)
  · skip
    exact bM_reserved_44 L xs m d k (n + 12) a1 a2 (g fM_at) g1 r2
  · skip
    refine (fs_r (n := n + 145) 3 (pc' := 21) (L' := [some (.ref cM), some (.int a1), some (.int a2), some (.int (g fM_at)), none, none]) (S' := [.int 11, .int 8, .int a1]) rfl).trans ?_
    refine (fs_sv (n := n + 144) (N := nm_m158) (as := [.int a1, .int 8, .int 11]) (rest := []) rfl rfl (by decide) rfl rfl rfl rfl rfl).trans (fs_fv fun v53 g51 r52 => ?_)
    refine (fs_i (n := n + 143) rfl (t := 44) rfl (by decide)).trans (fs_ite ?_ ?_)
    · skip
      exact bM_reserved_44 L xs m d k (n + 7) a1 a2 (g fM_at) g51 r52
    · skip
      refine (fs_r (n := n + 141) 2 (pc' := 30) (L' := [some (.ref cM), some (.int a1), some (.int a2), some (.int (g fM_at)), none, none]) (S' := [.int 9, .int a1]) rfl).trans ?_
      refine (fs_j (n := n + 140) rfl (t := 40) rfl (by decide)).trans (fs_ite ?_ ?_)
      · skip
        exact bM_reserved_40 L xs m d k (n + 3) a1 a2 (g fM_at) g51 r52
      · skip
        refine (fs_r (n := n + 138) 2 (pc' := 37) (L' := [some (.ref cM), some (.int a1), some (.int a2), some (.int (g fM_at)), none, none]) (S' := [.int (g51 fM_section)]) rfl).trans ?_
        refine (fs_i (n := n + 137) rfl (t := 44) rfl (by decide)).trans (fs_ite ?_ ?_)
        · skip
          exact bM_reserved_44 L xs m d k (n + 1) a1 a2 (g fM_at) g51 r52
        · skip
          exact bM_reserved_40 L xs m d k (n + 0) a1 a2 (g fM_at) g51 r52
theorem qM_reserved (L : Nat) (xs : Nat → Int32) (m d : Nat) (a1 a2 : Int32) (g : a2_G) (r : a2_A) : ev L xs (m + 1) (d + 1) nM_reserved [.ref cM, .int a1, .int a2] g r = (fn_v (ev L xs (m + 1) d nM_begins [.ref cM, .int (g fM_at)] g r) fun v3 g1 r2 => (if am_c2 .eq v3 0 = true then (BM_reserved_44 L xs (m + 1) d m a1 a2 (g fM_at) g1 r2) else (fn_v (ev L xs (m + 1) d nM_in [.int a1, .int 8, .int 11] g1 r2) fun v53 g51 r52 => (if am_c2 .eq v53 0 = true then (BM_reserved_44 L xs (m + 1) d m a1 a2 (g fM_at) g51 r52) else (if am_c2 .ne a1 9 = true then (BM_reserved_40 L xs (m + 1) d m a1 a2 (g fM_at) g51 r52) else (if am_c2 .le (g51 fM_section) 0 = true then (BM_reserved_44 L xs (m + 1) d m a1 a2 (g fM_at) g51 r52) else (BM_reserved_40 L xs (m + 1) d m a1 a2 (g fM_at) g51 r52))))))) := (fs_ev (M := nm_m183) rfl rfl).trans (eM_reserved L xs (m + 1) d m 744 a1 a2 g r)
/-- CobolParserModel.begins(I)Z -/
def BM_begins_41 (L : Nat) (xs : Nat → Int32) (m d k : Nat) (x1 x2 : Int32) (g : a2_G) (r : a2_A) : Option fn_Z := (if x2 = 0 ∨ x2 = 1 then some (.inl (some (.int x2)), g, r) else none)
theorem bM_begins_41 (L : Nat) (xs : Nat → Int32) (m d k : Nat) (n : Nat) (x1 x2 : Int32) (g : a2_G) (r : a2_A) : bk L xs nM_begins nm_m184 m d k (n + 1) 41 [some (.ref cM), some (.int x1)] [.int x2] g r = BM_begins_41 L xs m d k x1 x2 g r := by
  show _ = ((if x2 = 0 ∨ x2 = 1 then some (.inl (some (.int x2)), g, r) else none) : Option fn_Z)
  exact (fs_rb (n := n + 0) rfl rfl).trans rfl
def BM_begins_40 (L : Nat) (xs : Nat → Int32) (m d k : Nat) (x1 : Int32) (g : a2_G) (r : a2_A) : Option fn_Z := (BM_begins_41 L xs m d k x1 0 g r)
theorem bM_begins_40 (L : Nat) (xs : Nat → Int32) (m d k : Nat) (n : Nat) (x1 : Int32) (g : a2_G) (r : a2_A) : bk L xs nM_begins nm_m184 m d k (n + 2) 40 [some (.ref cM), some (.int x1)] [] g r = BM_begins_40 L xs m d k x1 g r := by
  show _ = ((BM_begins_41 L xs m d k x1 0 g r) : Option fn_Z)
  refine (fs_r (n := n + 1) 1 (pc' := 41) (L' := [some (.ref cM), some (.int x1)]) (S' := [.int 0]) rfl).trans ?_
  exact bM_begins_41 L xs m d k (n + 0) x1 0 g r
def BM_begins_36 (L : Nat) (xs : Nat → Int32) (m d k : Nat) (x1 : Int32) (g : a2_G) (r : a2_A) : Option fn_Z := (BM_begins_41 L xs m d k x1 1 g r)
theorem bM_begins_36 (L : Nat) (xs : Nat → Int32) (m d k : Nat) (n : Nat) (x1 : Int32) (g : a2_G) (r : a2_A) : bk L xs nM_begins nm_m184 m d k (n + 3) 36 [some (.ref cM), some (.int x1)] [] g r = BM_begins_36 L xs m d k x1 g r := by
  show _ = ((BM_begins_41 L xs m d k x1 1 g r) : Option fn_Z)
  refine (fs_r (n := n + 2) 1 (pc' := 37) (L' := [some (.ref cM), some (.int x1)]) (S' := [.int 1]) rfl).trans ?_
  refine (fs_go (n := n + 1) rfl (t := 41) rfl (by decide)).trans ?_
  exact bM_begins_41 L xs m d k (n + 0) x1 1 g r
theorem eM_begins (L : Nat) (xs : Nat → Int32) (m d k : Nat) (n : Nat) (a1 : Int32) (g : a2_G) (r : a2_A) : bk L xs nM_begins nm_m184 m d k (n + 22) 0 [some (.ref cM), some (.int a1)] [] g r = (fn_v (ev L xs m d nM_isKind [.ref cM, .int a1, .int 0] g r) fun v3 g1 r2 => (if am_c2 .eq v3 0 = true then (BM_begins_40 L xs m d k a1 g1 r2) else (if am_inr a1 (r2 fM_values).1 = true then (fn_v (ev L xs m d nM_in [.int ((r2 fM_values).2 (a1 : Int32).toNatClampNeg), .int 36, .int 47] g1 r2) fun v6 g4 r5 => (if am_c2 .ne v6 0 = true then (BM_begins_36 L xs m d k a1 g4 r5) else (if am_inr a1 (r5 fM_values).1 = true then (if am_c2 .ne ((r5 fM_values).2 (a1 : Int32).toNatClampNeg) 29 = true then (BM_begins_40 L xs m d k a1 g4 r5) else (BM_begins_36 L xs m d k a1 g4 r5)) else none))) else none))) := by
  refine (fs_r (n := n + 19) 3 (pc' := 3) (L' := [some (.ref cM), some (.int a1)]) (S' := [.int 0, .int a1, .ref cM]) rfl).trans ?_
  refine (fs_cv (n := n + 18) (N := nm_m166) (as := [.ref cM, .int a1, .int 0]) (rest := []) rfl rfl (Or.inl rfl) rfl rfl rfl rfl rfl).trans (fs_fv fun v3 g1 r2 => ?_)
  refine (fs_i (n := n + 17) rfl (t := 40) rfl (by decide)).trans (fs_ite ?_ ?_)
  · skip
    exact bM_begins_40 L xs m d k (n + 15) a1 g1 r2
  · skip
    refine (fs_r (n := n + 14) 3 (pc' := 14) (L' := [some (.ref cM), some (.int a1)]) (S' := [.int a1, .ref 10903]) rfl).trans ?_
    refine (fs_il (n := n + 13) (k := 903) rfl rfl).trans (fs_ite ?_ rfl)
    refine (fs_r (n := n + 11) 2 (pc' := 19) (L' := [some (.ref cM), some (.int a1)]) (S' := [.int 47, .int 36, .int ((r2 fM_values).2 (a1 : Int32).toNatClampNeg)]) rfl).trans ?_
    refine (fs_sv (n := n + 10) (N := nm_m158) (as := [.int ((r2 fM_values).2 (a1 : Int32).toNatClampNeg), .int 36, .int 47]) (rest := []) rfl rfl (by decide) rfl rfl rfl rfl rfl).trans (fs_fv fun v6 g4 r5 => ?_)
    refine (fs_i (n := n + 9) rfl (t := 36) rfl (by decide)).trans (fs_ite ?_ ?_)
    · skip
      exact bM_begins_36 L xs m d k (n + 6) a1 g4 r5
    · skip
      refine (fs_r (n := n + 6) 3 (pc' := 30) (L' := [some (.ref cM), some (.int a1)]) (S' := [.int a1, .ref 10903]) rfl).trans ?_
      refine (fs_il (n := n + 5) (k := 903) rfl rfl).trans (fs_ite ?_ rfl)
      refine (fs_r (n := n + 4) 1 (pc' := 33) (L' := [some (.ref cM), some (.int a1)]) (S' := [.int 29, .int ((r5 fM_values).2 (a1 : Int32).toNatClampNeg)]) rfl).trans ?_
      refine (fs_j (n := n + 3) rfl (t := 40) rfl (by decide)).trans (fs_ite ?_ ?_)
      · skip
        exact bM_begins_40 L xs m d k (n + 1) a1 g4 r5
      · skip
        exact bM_begins_36 L xs m d k (n + 0) a1 g4 r5
theorem qM_begins (L : Nat) (xs : Nat → Int32) (m d : Nat) (a1 : Int32) (g : a2_G) (r : a2_A) : ev L xs (m + 1) (d + 1) nM_begins [.ref cM, .int a1] g r = (fn_v (ev L xs (m + 1) d nM_isKind [.ref cM, .int a1, .int 0] g r) fun v3 g1 r2 => (if am_c2 .eq v3 0 = true then (BM_begins_40 L xs (m + 1) d m a1 g1 r2) else (if am_inr a1 (r2 fM_values).1 = true then (fn_v (ev L xs (m + 1) d nM_in [.int ((r2 fM_values).2 (a1 : Int32).toNatClampNeg), .int 36, .int 47] g1 r2) fun v6 g4 r5 => (if am_c2 .ne v6 0 = true then (BM_begins_36 L xs (m + 1) d m a1 g4 r5) else (if am_inr a1 (r5 fM_values).1 = true then (if am_c2 .ne ((r5 fM_values).2 (a1 : Int32).toNatClampNeg) 29 = true then (BM_begins_40 L xs (m + 1) d m a1 g4 r5) else (BM_begins_36 L xs (m + 1) d m a1 g4 r5)) else none))) else none))) := (fs_ev (M := nm_m184) rfl rfl).trans (eM_begins L xs (m + 1) d m 878 a1 g r)
/-- CobolParserModel.sentence(I)V -/
def BM_sentence_80 (L : Nat) (xs : Nat → Int32) (m d k : Nat) (x1 x2 : Int32) (g : a2_G) (r : a2_A) : Option fn_Z := (some (.inl none, g, r))
theorem bM_sentence_80 (L : Nat) (xs : Nat → Int32) (m d k : Nat) (n : Nat) (x1 x2 : Int32) (g : a2_G) (r : a2_A) : bk L xs nM_sentence nm_m185 m d k (n + 1) 80 [some (.ref cM), some (.int x1), some (.int x2)] [] g r = BM_sentence_80 L xs m d k x1 x2 g r := by
  show _ = ((some (.inl none, g, r)) : Option fn_Z)
  exact (fs_rv (n := n + 0) rfl rfl).trans rfl
def BM_sentence_64 (L : Nat) (xs : Nat → Int32) (m d k : Nat) (x1 x2 x3 : Int32) (g : a2_G) (r : a2_A) : Option fn_Z := (fn_n (ev L xs m d nM_attach [.ref cM, .int x3, .int x2] g r) fun g12 r13 => (if am_c2 .eq x1 9 = true then (BM_sentence_80 L xs m d k x1 x2 g12 r13) else (fn_n (ev L xs m d nM_to [.ref cM, .int 11] g12 r13) fun g14 r15 => (BM_sentence_80 L xs m d k x1 x2 g14 r15))))
theorem bM_sentence_64 (L : Nat) (xs : Nat → Int32) (m d k : Nat) (n : Nat) (x1 x2 x3 : Int32) (g : a2_G) (r : a2_A) : bk L xs nM_sentence nm_m185 m d k (n + 9) 64 [some (.ref cM), some (.int x1), some (.int x2)] [.int x3, .ref cM] g r = BM_sentence_64 L xs m d k x1 x2 x3 g r := by
  show _ = ((fn_n (ev L xs m d nM_attach [.ref cM, .int x3, .int x2] g r) fun g12 r13 => (if am_c2 .eq x1 9 = true then (BM_sentence_80 L xs m d k x1 x2 g12 r13) else (fn_n (ev L xs m d nM_to [.ref cM, .int 11] g12 r13) fun g14 r15 => (BM_sentence_80 L xs m d k x1 x2 g14 r15)))) : Option fn_Z)
  refine (fs_r (n := n + 8) 1 (pc' := 65) (L' := [some (.ref cM), some (.int x1), some (.int x2)]) (S' := [.int x2, .int x3, .ref cM]) rfl).trans ?_
  refine (fs_cn (n := n + 7) (N := nm_m173) (as := [.ref cM, .int x3, .int x2]) (rest := []) rfl rfl (Or.inl rfl) rfl rfl rfl rfl rfl).trans (fs_fn fun g12 r13 => ?_)
  refine (fs_r (n := n + 5) 2 (pc' := 71) (L' := [some (.ref cM), some (.int x1), some (.int x2)]) (S' := [.int 9, .int x1]) rfl).trans ?_
  refine (fs_j (n := n + 4) rfl (t := 80) rfl (by decide)).trans (fs_ite ?_ ?_)
  · skip
    exact bM_sentence_80 L xs m d k (n + 3) x1 x2 g12 r13
  · skip
    refine (fs_r (n := n + 2) 2 (pc' := 77) (L' := [some (.ref cM), some (.int x1), some (.int x2)]) (S' := [.int 11, .ref cM]) rfl).trans ?_
    refine (fs_cn (n := n + 1) (N := nm_m182) (as := [.ref cM, .int 11]) (rest := []) rfl rfl (Or.inl rfl) rfl rfl rfl rfl rfl).trans (fs_fn fun g14 r15 => ?_)
    exact bM_sentence_80 L xs m d k (n + 0) x1 x2 g14 r15
theorem eM_sentence (L : Nat) (xs : Nat → Int32) (m d k : Nat) (n : Nat) (a1 : Int32) (g : a2_G) (r : a2_A) : bk L xs nM_sentence nm_m185 m d k (n + 35) 0 [some (.ref cM), some (.int a1), none] [] g r = (fn_v (ev L xs m d nM_make [.ref cM, .int 25, .int 0, .int (g fM_at)] g r) fun v3 g1 r2 => (fn_n (ev L xs m d nM_statements [.ref cM, .int v3] g1 r2) fun g4 r5 => (fn_v (ev L xs m d nM_mustBe [.ref cM, .int 4] g4 r5) fun v8 g6 r7 => (if am_c2 .ne v8 0 = true then (if am_c2 .le (g6 fM_paragraph) 0 = true then (if am_c2 .le (g6 fM_section) 0 = true then (fn_v (ev L xs m d nM_here [.ref cM] g6 r7) fun v11 g9 r10 => (if am_inr v11 (r10 fM_procedure).1 = true then (BM_sentence_64 L xs m d k a1 v3 ((r10 fM_procedure).2 (v11 : Int32).toNatClampNeg) g9 r10) else none)) else (BM_sentence_64 L xs m d k a1 v3 (g6 fM_section) g6 r7)) else (BM_sentence_64 L xs m d k a1 v3 (g6 fM_paragraph) g6 r7)) else (some (.inl none, g6, r7)))))) := by
  refine (fs_r (n := n + 30) 5 (pc' := 8) (L' := [some (.ref cM), some (.int a1), none]) (S' := [.int (g fM_at), .int 0, .int 25, .ref cM]) rfl).trans ?_
  refine (fs_cv (n := n + 29) (N := nm_m160) (as := [.ref cM, .int 25, .int 0, .int (g fM_at)]) (rest := []) rfl rfl (Or.inl rfl) rfl rfl rfl rfl rfl).trans (fs_fv fun v3 g1 r2 => ?_)
  refine (fs_r (n := n + 26) 3 (pc' := 14) (L' := [some (.ref cM), some (.int a1), some (.int v3)]) (S' := [.int v3, .ref cM]) rfl).trans ?_
  refine (fs_cn (n := n + 25) (N := nm_m186) (as := [.ref cM, .int v3]) (rest := []) rfl rfl (Or.inl rfl) rfl rfl rfl rfl rfl).trans (fs_fn fun g4 r5 => ?_)
  refine (fs_r (n := n + 23) 2 (pc' := 19) (L' := [some (.ref cM), some (.int a1), some (.int v3)]) (S' := [.int 4, .ref cM]) rfl).trans ?_
  refine (fs_cv (n := n + 22) (N := nm_m170) (as := [.ref cM, .int 4]) (rest := []) rfl rfl (Or.inl rfl) rfl rfl rfl rfl rfl).trans (fs_fv fun v8 g6 r7 => ?_)
  refine (fs_i (n := n + 21) rfl (t := 26) rfl (by decide)).trans (fs_ite ?_ ?_)
  · skip
    refine (fs_r (n := n + 18) 3 (pc' := 31) (L' := [some (.ref cM), some (.int a1), some (.int v3)]) (S' := [.int (g6 fM_paragraph), .ref cM]) rfl).trans ?_
    refine (fs_i (n := n + 17) rfl (t := 41) rfl (by decide)).trans (fs_ite ?_ ?_)
    · skip
      refine (fs_r (n := n + 15) 2 (pc' := 45) (L' := [some (.ref cM), some (.int a1), some (.int v3)]) (S' := [.int (g6 fM_section), .ref cM]) rfl).trans ?_
      refine (fs_i (n := n + 14) rfl (t := 55) rfl (by decide)).trans (fs_ite ?_ ?_)
      · skip
        refine (fs_r (n := n + 11) 3 (pc' := 60) (L' := [some (.ref cM), some (.int a1), some (.int v3)]) (S' := [.ref cM, .ref 10925, .ref cM]) rfl).trans ?_
        refine (fs_cv (n := n + 10) (N := nm_m181) (as := [.ref cM]) (rest := [.ref 10925, .ref cM]) rfl rfl (Or.inl rfl) rfl rfl rfl rfl rfl).trans (fs_fv fun v11 g9 r10 => ?_)
        refine (fs_il (n := n + 9) (k := 925) rfl rfl).trans (fs_ite ?_ rfl)
        exact bM_sentence_64 L xs m d k (n + 0) a1 v3 ((r10 fM_procedure).2 (v11 : Int32).toNatClampNeg) g9 r10
      · skip
        refine (fs_r (n := n + 12) 2 (pc' := 52) (L' := [some (.ref cM), some (.int a1), some (.int v3)]) (S' := [.int (g6 fM_section), .ref cM]) rfl).trans ?_
        refine (fs_go (n := n + 11) rfl (t := 64) rfl (by decide)).trans ?_
        exact bM_sentence_64 L xs m d k (n + 2) a1 v3 (g6 fM_section) g6 r7
    · skip
      refine (fs_r (n := n + 15) 2 (pc' := 38) (L' := [some (.ref cM), some (.int a1), some (.int v3)]) (S' := [.int (g6 fM_paragraph), .ref cM]) rfl).trans ?_
      refine (fs_go (n := n + 14) rfl (t := 64) rfl (by decide)).trans ?_
      exact bM_sentence_64 L xs m d k (n + 5) a1 v3 (g6 fM_paragraph) g6 r7
  · skip
    exact (fs_rv (n := n + 20) rfl rfl).trans rfl
theorem qM_sentence (L : Nat) (xs : Nat → Int32) (m d : Nat) (a1 : Int32) (g : a2_G) (r : a2_A) : ev L xs (m + 1) (d + 1) nM_sentence [.ref cM, .int a1] g r = (fn_v (ev L xs (m + 1) d nM_make [.ref cM, .int 25, .int 0, .int (g fM_at)] g r) fun v3 g1 r2 => (fn_n (ev L xs (m + 1) d nM_statements [.ref cM, .int v3] g1 r2) fun g4 r5 => (fn_v (ev L xs (m + 1) d nM_mustBe [.ref cM, .int 4] g4 r5) fun v8 g6 r7 => (if am_c2 .ne v8 0 = true then (if am_c2 .le (g6 fM_paragraph) 0 = true then (if am_c2 .le (g6 fM_section) 0 = true then (fn_v (ev L xs (m + 1) d nM_here [.ref cM] g6 r7) fun v11 g9 r10 => (if am_inr v11 (r10 fM_procedure).1 = true then (BM_sentence_64 L xs (m + 1) d m a1 v3 ((r10 fM_procedure).2 (v11 : Int32).toNatClampNeg) g9 r10) else none)) else (BM_sentence_64 L xs (m + 1) d m a1 v3 (g6 fM_section) g6 r7)) else (BM_sentence_64 L xs (m + 1) d m a1 v3 (g6 fM_paragraph) g6 r7)) else (some (.inl none, g6, r7)))))) := (fs_ev (M := nm_m185) rfl rfl).trans (eM_sentence L xs (m + 1) d m 865 a1 g r)
/-- CobolParserModel.statements(I)V -/
def BM_statements_136 (L : Nat) (xs : Nat → Int32) (m d k : Nat) (x1 : Int32) (g : a2_G) (r : a2_A) : Option fn_Z := (some (.inl none, g, r))
theorem bM_statements_136 (L : Nat) (xs : Nat → Int32) (m d k : Nat) (n : Nat) (x1 : Int32) (g : a2_G) (r : a2_A) : bk L xs nM_statements nm_m186 m d k (n + 1) 136 [some (.ref cM), some (.int x1), none] [] g r = BM_statements_136 L xs m d k x1 g r := by
  show _ = ((some (.inl none, g, r)) : Option fn_Z)
  exact (fs_rv (n := n + 0) rfl rfl).trans rfl
def BM_statements_133 (L : Nat) (xs : Nat → Int32) (m d k : Nat) (x1 x2 : Int32) (g : a2_G) (r : a2_A) : Option fn_Z := (lp L xs nM_statements nm_m186 m d k 16 [some (.ref cM), some (.int x1), some (.int x2)] g r)
theorem bM_statements_133 (L : Nat) (xs : Nat → Int32) (m d k : Nat) (n : Nat) (x1 x2 : Int32) (g : a2_G) (r : a2_A) : bk L xs nM_statements nm_m186 m d k (n + 1) 133 [some (.ref cM), some (.int x1), some (.int x2)] [] g r = BM_statements_133 L xs m d k x1 x2 g r := by
  show _ = ((lp L xs nM_statements nm_m186 m d k 16 [some (.ref cM), some (.int x1), some (.int x2)] g r) : Option fn_Z)
  exact (fs_gb (n := n + 0) rfl (t := 16) rfl (by decide)).trans rfl
def BM_statements_16 (L : Nat) (xs : Nat → Int32) (m d k : Nat) (x1 : Int32) (g : a2_G) (r : a2_A) : Option fn_Z := (if am_c2 .le (g fM_piled) 0 = true then (BM_statements_136 L xs m d k x1 g r) else (if am_c2 .ne (g fM_bad) 0 = true then (BM_statements_136 L xs m d k x1 g r) else (if am_inr ((g fM_piled) - 1) (r fM_pileKind).1 = true then (if am_c2 .eq ((r fM_pileKind).2 (((g fM_piled) - 1) : Int32).toNatClampNeg) 0 = true then (fn_v (ev L xs m d nM_begins [.ref cM, .int (g fM_at)] g r) fun v5 g3 r4 => (if am_c2 .eq v5 0 = true then (if am_inr ((g fM_piled) - 1) (r4 fM_pilePhase).1 = true then (if am_c2 .ne ((r4 fM_pilePhase).2 (((g fM_piled) - 1) : Int32).toNatClampNeg) 0 = true then (BM_statements_133 L xs m d k x1 ((g fM_piled) - 1) (upd (upd g3 fM_piled ((g3 fM_piled) - 1)) fM_level ((g3 fM_level) - 1)) r4) else (fn_v (ev L xs m d nM_fail [.ref cM, .int 1, .int (g3 fM_at)] g3 r4) fun v8 g6 r7 => (BM_statements_133 L xs m d k x1 ((g fM_piled) - 1) g6 r7))) else none) else (if am_inr ((g fM_piled) - 1) (r4 fM_pilePhase).1 = true then (if am_inr ((g fM_piled) - 1) (r4 fM_pileNode).1 = true then (fn_n (ev L xs m d nM_statement [.ref cM, .int ((r4 fM_pileNode).2 (((g fM_piled) - 1) : Int32).toNatClampNeg)] g3 (a2_ua r4 fM_pilePhase ((r4 fM_pilePhase).1, (upd (r4 fM_pilePhase).2 (((g fM_piled) - 1) : Int32).toNatClampNeg 1)))) fun g9 r10 => (BM_statements_133 L xs m d k x1 ((g fM_piled) - 1) g9 r10)) else none) else none))) else (if am_inr ((g fM_piled) - 1) (r fM_pileNode).1 = true then (fn_n (ev L xs m d nM_goOn [.ref cM, .int ((g fM_piled) - 1), .int ((r fM_pileNode).2 (((g fM_piled) - 1) : Int32).toNatClampNeg)] g r) fun g11 r12 => (BM_statements_133 L xs m d k x1 ((g fM_piled) - 1) g11 r12)) else none)) else none)))
theorem bM_statements_16 (L : Nat) (xs : Nat → Int32) (m d k : Nat) (n : Nat) (x1 : Int32) (g : a2_G) (r : a2_A) : bk L xs nM_statements nm_m186 m d k (n + 39) 16 [some (.ref cM), some (.int x1), none] [] g r = BM_statements_16 L xs m d k x1 g r := by
  show _ = ((if am_c2 .le (g fM_piled) 0 = true then (BM_statements_136 L xs m d k x1 g r) else (if am_c2 .ne (g fM_bad) 0 = true then (BM_statements_136 L xs m d k x1 g r) else (if am_inr ((g fM_piled) - 1) (r fM_pileKind).1 = true then (if am_c2 .eq ((r fM_pileKind).2 (((g fM_piled) - 1) : Int32).toNatClampNeg) 0 = true then (fn_v (ev L xs m d nM_begins [.ref cM, .int (g fM_at)] g r) fun v5 g3 r4 => (if am_c2 .eq v5 0 = true then (if am_inr ((g fM_piled) - 1) (r4 fM_pilePhase).1 = true then (if am_c2 .ne ((r4 fM_pilePhase).2 (((g fM_piled) - 1) : Int32).toNatClampNeg) 0 = true then (BM_statements_133 L xs m d k x1 ((g fM_piled) - 1) (upd (upd g3 fM_piled ((g3 fM_piled) - 1)) fM_level ((g3 fM_level) - 1)) r4) else (fn_v (ev L xs m d nM_fail [.ref cM, .int 1, .int (g3 fM_at)] g3 r4) fun v8 g6 r7 => (BM_statements_133 L xs m d k x1 ((g fM_piled) - 1) g6 r7))) else none) else (if am_inr ((g fM_piled) - 1) (r4 fM_pilePhase).1 = true then (if am_inr ((g fM_piled) - 1) (r4 fM_pileNode).1 = true then (fn_n (ev L xs m d nM_statement [.ref cM, .int ((r4 fM_pileNode).2 (((g fM_piled) - 1) : Int32).toNatClampNeg)] g3 (a2_ua r4 fM_pilePhase ((r4 fM_pilePhase).1, (upd (r4 fM_pilePhase).2 (((g fM_piled) - 1) : Int32).toNatClampNeg 1)))) fun g9 r10 => (BM_statements_133 L xs m d k x1 ((g fM_piled) - 1) g9 r10)) else none) else none))) else (if am_inr ((g fM_piled) - 1) (r fM_pileNode).1 = true then (fn_n (ev L xs m d nM_goOn [.ref cM, .int ((g fM_piled) - 1), .int ((r fM_pileNode).2 (((g fM_piled) - 1) : Int32).toNatClampNeg)] g r) fun g11 r12 => (BM_statements_133 L xs m d k x1 ((g fM_piled) - 1) g11 r12)) else none)) else none))) : Option fn_Z)
  refine (fs_r (n := n + 37) 2 (pc' := 20) (L' := [some (.ref cM), some (.int x1), none]) (S' := [.int (g fM_piled)]) rfl).trans ?_
  refine (fs_i (n := n + 36) rfl (t := 136) rfl (by decide)).trans (fs_ite ?_ ?_)
  · skip
    exact bM_statements_136 L xs m d k (n + 35) x1 g r
  · skip
    refine (fs_r (n := n + 34) 2 (pc' := 27) (L' := [some (.ref cM), some (.int x1), none]) (S' := [.int (g fM_bad)]) rfl).trans ?_
    refine (fs_i (n := n + 33) rfl (t := 136) rfl (by decide)).trans (fs_ite ?_ ?_)
    · skip
      exact bM_statements_136 L xs m d k (n + 32) x1 g r
    · skip
      refine (fs_r (n := n + 25) 8 (pc' := 42) (L' := [some (.ref cM), some (.int x1), some (.int ((g fM_piled) - 1))]) (S' := [.int ((g fM_piled) - 1), .ref 10946]) rfl).trans ?_
      refine (fs_il (n := n + 24) (k := 946) rfl rfl).trans (fs_ite ?_ rfl)
      refine (fs_i (n := n + 23) rfl (t := 60) rfl (by decide)).trans (fs_ite ?_ ?_)
      · skip
        refine (fs_r (n := n + 20) 3 (pc' := 65) (L' := [some (.ref cM), some (.int x1), some (.int ((g fM_piled) - 1))]) (S' := [.int (g fM_at), .ref cM]) rfl).trans ?_
        refine (fs_cv (n := n + 19) (N := nm_m184) (as := [.ref cM, .int (g fM_at)]) (rest := []) rfl rfl (Or.inl rfl) rfl rfl rfl rfl rfl).trans (fs_fv fun v5 g3 r4 => ?_)
        refine (fs_i (n := n + 18) rfl (t := 91) rfl (by decide)).trans (fs_ite ?_ ?_)
        · skip
          refine (fs_r (n := n + 15) 3 (pc' := 96) (L' := [some (.ref cM), some (.int x1), some (.int ((g fM_piled) - 1))]) (S' := [.int ((g fM_piled) - 1), .ref 10948]) rfl).trans ?_
          refine (fs_il (n := n + 14) (k := 948) rfl rfl).trans (fs_ite ?_ rfl)
          refine (fs_i (n := n + 13) rfl (t := 113) rfl (by decide)).trans (fs_ite ?_ ?_)
          · skip
            refine (fs_r (n := n + 8) 5 (pc' := 120) (L' := [some (.ref cM), some (.int x1), some (.int ((g fM_piled) - 1))]) (S' := [.int ((g3 fM_piled) - 1), .ref cM]) rfl).trans ?_
            refine (fs_pf (n := n + 7) (ci := 9) (j := 45) rfl rfl rfl rfl).trans ?_
            refine (fs_r (n := n + 2) 5 (pc' := 130) (L' := [some (.ref cM), some (.int x1), some (.int ((g fM_piled) - 1))]) (S' := [.int ((g3 fM_level) - 1), .ref cM]) rfl).trans ?_
            refine (fs_pf (n := n + 1) (ci := 9) (j := 44) rfl rfl rfl rfl).trans ?_
            exact bM_statements_133 L xs m d k (n + 0) x1 ((g fM_piled) - 1) (upd (upd g3 fM_piled ((g3 fM_piled) - 1)) fM_level ((g3 fM_level) - 1)) r4
          · skip
            refine (fs_r (n := n + 9) 4 (pc' := 106) (L' := [some (.ref cM), some (.int x1), some (.int ((g fM_piled) - 1))]) (S' := [.int (g3 fM_at), .int 1, .ref cM]) rfl).trans ?_
            refine (fs_cv (n := n + 8) (N := nm_m164) (as := [.ref cM, .int 1, .int (g3 fM_at)]) (rest := []) rfl rfl (Or.inl rfl) rfl rfl rfl rfl rfl).trans (fs_fv fun v8 g6 r7 => ?_)
            refine (fs_r (n := n + 7) 1 (pc' := 110) (L' := [some (.ref cM), some (.int x1), some (.int ((g fM_piled) - 1))]) (S' := []) rfl).trans ?_
            refine (fs_go (n := n + 6) rfl (t := 133) rfl (by decide)).trans ?_
            exact bM_statements_133 L xs m d k (n + 5) x1 ((g fM_piled) - 1) g6 r7
        · skip
          refine (fs_r (n := n + 14) 4 (pc' := 77) (L' := [some (.ref cM), some (.int x1), some (.int ((g fM_piled) - 1))]) (S' := [.int 1, .int ((g fM_piled) - 1), .ref 10948]) rfl).trans ?_
          refine (fs_is (n := n + 13) (k := 948) rfl rfl).trans (fs_ite ?_ rfl)
          refine (fs_r (n := n + 9) 4 (pc' := 84) (L' := [some (.ref cM), some (.int x1), some (.int ((g fM_piled) - 1))]) (S' := [.int ((g fM_piled) - 1), .ref 10947, .ref cM]) rfl).trans ?_
          refine (fs_il (n := n + 8) (k := 947) rfl rfl).trans (fs_ite ?_ rfl)
          refine (fs_cn (n := n + 7) (N := nm_m195) (as := [.ref cM, .int ((r4 fM_pileNode).2 (((g fM_piled) - 1) : Int32).toNatClampNeg)]) (rest := []) rfl rfl (Or.inl rfl) rfl rfl rfl rfl rfl).trans (fs_fn fun g9 r10 => ?_)
          refine (fs_go (n := n + 6) rfl (t := 133) rfl (by decide)).trans ?_
          exact bM_statements_133 L xs m d k (n + 5) x1 ((g fM_piled) - 1) g9 r10
      · skip
        refine (fs_r (n := n + 18) 5 (pc' := 53) (L' := [some (.ref cM), some (.int x1), some (.int ((g fM_piled) - 1))]) (S' := [.int ((g fM_piled) - 1), .ref 10947, .int ((g fM_piled) - 1), .ref cM]) rfl).trans ?_
        refine (fs_il (n := n + 17) (k := 947) rfl rfl).trans (fs_ite ?_ rfl)
        refine (fs_cn (n := n + 16) (N := nm_m188) (as := [.ref cM, .int ((g fM_piled) - 1), .int ((r fM_pileNode).2 (((g fM_piled) - 1) : Int32).toNatClampNeg)]) (rest := []) rfl rfl (Or.inl rfl) rfl rfl rfl rfl rfl).trans (fs_fn fun g11 r12 => ?_)
        refine (fs_go (n := n + 15) rfl (t := 133) rfl (by decide)).trans ?_
        exact bM_statements_133 L xs m d k (n + 14) x1 ((g fM_piled) - 1) g11 r12
theorem lM_statements_16 (L : Nat) (xs : Nat → Int32) (m d k : Nat) (x1 : Int32) (g : a2_G) (r : a2_A) : lp L xs nM_statements nm_m186 m d (k + 1) 16 [some (.ref cM), some (.int x1), none] g r = BM_statements_16 L xs m d k x1 g r := fs_lp.trans (bM_statements_16 L xs m d k 861 x1 g r)
def BM_statements_136_1 (L : Nat) (xs : Nat → Int32) (m d k : Nat) (x1 x2 : Int32) (g : a2_G) (r : a2_A) : Option fn_Z := (some (.inl none, g, r))
theorem bM_statements_136_1 (L : Nat) (xs : Nat → Int32) (m d k : Nat) (n : Nat) (x1 x2 : Int32) (g : a2_G) (r : a2_A) : bk L xs nM_statements nm_m186 m d k (n + 1) 136 [some (.ref cM), some (.int x1), some (.int x2)] [] g r = BM_statements_136_1 L xs m d k x1 x2 g r := by
  show _ = ((some (.inl none, g, r)) : Option fn_Z)
  exact (fs_rv (n := n + 0) rfl rfl).trans rfl
def BM_statements_16_1 (L : Nat) (xs : Nat → Int32) (m d k : Nat) (x1 x2 : Int32) (g : a2_G) (r : a2_A) : Option fn_Z := (if am_c2 .le (g fM_piled) 0 = true then (BM_statements_136_1 L xs m d k x1 x2 g r) else (if am_c2 .ne (g fM_bad) 0 = true then (BM_statements_136_1 L xs m d k x1 x2 g r) else (if am_inr ((g fM_piled) - 1) (r fM_pileKind).1 = true then (if am_c2 .eq ((r fM_pileKind).2 (((g fM_piled) - 1) : Int32).toNatClampNeg) 0 = true then (fn_v (ev L xs m d nM_begins [.ref cM, .int (g fM_at)] g r) fun v15 g13 r14 => (if am_c2 .eq v15 0 = true then (if am_inr ((g fM_piled) - 1) (r14 fM_pilePhase).1 = true then (if am_c2 .ne ((r14 fM_pilePhase).2 (((g fM_piled) - 1) : Int32).toNatClampNeg) 0 = true then (BM_statements_133 L xs m d k x1 ((g fM_piled) - 1) (upd (upd g13 fM_piled ((g13 fM_piled) - 1)) fM_level ((g13 fM_level) - 1)) r14) else (fn_v (ev L xs m d nM_fail [.ref cM, .int 1, .int (g13 fM_at)] g13 r14) fun v18 g16 r17 => (BM_statements_133 L xs m d k x1 ((g fM_piled) - 1) g16 r17))) else none) else (if am_inr ((g fM_piled) - 1) (r14 fM_pilePhase).1 = true then (if am_inr ((g fM_piled) - 1) (r14 fM_pileNode).1 = true then (fn_n (ev L xs m d nM_statement [.ref cM, .int ((r14 fM_pileNode).2 (((g fM_piled) - 1) : Int32).toNatClampNeg)] g13 (a2_ua r14 fM_pilePhase ((r14 fM_pilePhase).1, (upd (r14 fM_pilePhase).2 (((g fM_piled) - 1) : Int32).toNatClampNeg 1)))) fun g19 r20 => (BM_statements_133 L xs m d k x1 ((g fM_piled) - 1) g19 r20)) else none) else none))) else (if am_inr ((g fM_piled) - 1) (r fM_pileNode).1 = true then (fn_n (ev L xs m d nM_goOn [.ref cM, .int ((g fM_piled) - 1), .int ((r fM_pileNode).2 (((g fM_piled) - 1) : Int32).toNatClampNeg)] g r) fun g21 r22 => (BM_statements_133 L xs m d k x1 ((g fM_piled) - 1) g21 r22)) else none)) else none)))
theorem bM_statements_16_1 (L : Nat) (xs : Nat → Int32) (m d k : Nat) (n : Nat) (x1 x2 : Int32) (g : a2_G) (r : a2_A) : bk L xs nM_statements nm_m186 m d k (n + 39) 16 [some (.ref cM), some (.int x1), some (.int x2)] [] g r = BM_statements_16_1 L xs m d k x1 x2 g r := by
  show _ = ((if am_c2 .le (g fM_piled) 0 = true then (BM_statements_136_1 L xs m d k x1 x2 g r) else (if am_c2 .ne (g fM_bad) 0 = true then (BM_statements_136_1 L xs m d k x1 x2 g r) else (if am_inr ((g fM_piled) - 1) (r fM_pileKind).1 = true then (if am_c2 .eq ((r fM_pileKind).2 (((g fM_piled) - 1) : Int32).toNatClampNeg) 0 = true then (fn_v (ev L xs m d nM_begins [.ref cM, .int (g fM_at)] g r) fun v15 g13 r14 => (if am_c2 .eq v15 0 = true then (if am_inr ((g fM_piled) - 1) (r14 fM_pilePhase).1 = true then (if am_c2 .ne ((r14 fM_pilePhase).2 (((g fM_piled) - 1) : Int32).toNatClampNeg) 0 = true then (BM_statements_133 L xs m d k x1 ((g fM_piled) - 1) (upd (upd g13 fM_piled ((g13 fM_piled) - 1)) fM_level ((g13 fM_level) - 1)) r14) else (fn_v (ev L xs m d nM_fail [.ref cM, .int 1, .int (g13 fM_at)] g13 r14) fun v18 g16 r17 => (BM_statements_133 L xs m d k x1 ((g fM_piled) - 1) g16 r17))) else none) else (if am_inr ((g fM_piled) - 1) (r14 fM_pilePhase).1 = true then (if am_inr ((g fM_piled) - 1) (r14 fM_pileNode).1 = true then (fn_n (ev L xs m d nM_statement [.ref cM, .int ((r14 fM_pileNode).2 (((g fM_piled) - 1) : Int32).toNatClampNeg)] g13 (a2_ua r14 fM_pilePhase ((r14 fM_pilePhase).1, (upd (r14 fM_pilePhase).2 (((g fM_piled) - 1) : Int32).toNatClampNeg 1)))) fun g19 r20 => (BM_statements_133 L xs m d k x1 ((g fM_piled) - 1) g19 r20)) else none) else none))) else (if am_inr ((g fM_piled) - 1) (r fM_pileNode).1 = true then (fn_n (ev L xs m d nM_goOn [.ref cM, .int ((g fM_piled) - 1), .int ((r fM_pileNode).2 (((g fM_piled) - 1) : Int32).toNatClampNeg)] g r) fun g21 r22 => (BM_statements_133 L xs m d k x1 ((g fM_piled) - 1) g21 r22)) else none)) else none))) : Option fn_Z)
  refine (fs_r (n := n + 37) 2 (pc' := 20) (L' := [some (.ref cM), some (.int x1), some (.int x2)]) (S' := [.int (g fM_piled)]) rfl).trans ?_
  refine (fs_i (n := n + 36) rfl (t := 136) rfl (by decide)).trans (fs_ite ?_ ?_)
  · skip
    exact bM_statements_136_1 L xs m d k (n + 35) x1 x2 g r
  · skip
    refine (fs_r (n := n + 34) 2 (pc' := 27) (L' := [some (.ref cM), some (.int x1), some (.int x2)]) (S' := [.int (g fM_bad)]) rfl).trans ?_
    refine (fs_i (n := n + 33) rfl (t := 136) rfl (by decide)).trans (fs_ite ?_ ?_)
    · skip
      exact bM_statements_136_1 L xs m d k (n + 32) x1 x2 g r
    · skip
      refine (fs_r (n := n + 25) 8 (pc' := 42) (L' := [some (.ref cM), some (.int x1), some (.int ((g fM_piled) - 1))]) (S' := [.int ((g fM_piled) - 1), .ref 10946]) rfl).trans ?_
      refine (fs_il (n := n + 24) (k := 946) rfl rfl).trans (fs_ite ?_ rfl)
      refine (fs_i (n := n + 23) rfl (t := 60) rfl (by decide)).trans (fs_ite ?_ ?_)
      · skip
        refine (fs_r (n := n + 20) 3 (pc' := 65) (L' := [some (.ref cM), some (.int x1), some (.int ((g fM_piled) - 1))]) (S' := [.int (g fM_at), .ref cM]) rfl).trans ?_
        refine (fs_cv (n := n + 19) (N := nm_m184) (as := [.ref cM, .int (g fM_at)]) (rest := []) rfl rfl (Or.inl rfl) rfl rfl rfl rfl rfl).trans (fs_fv fun v15 g13 r14 => ?_)
        refine (fs_i (n := n + 18) rfl (t := 91) rfl (by decide)).trans (fs_ite ?_ ?_)
        · skip
          refine (fs_r (n := n + 15) 3 (pc' := 96) (L' := [some (.ref cM), some (.int x1), some (.int ((g fM_piled) - 1))]) (S' := [.int ((g fM_piled) - 1), .ref 10948]) rfl).trans ?_
          refine (fs_il (n := n + 14) (k := 948) rfl rfl).trans (fs_ite ?_ rfl)
          refine (fs_i (n := n + 13) rfl (t := 113) rfl (by decide)).trans (fs_ite ?_ ?_)
          · skip
            refine (fs_r (n := n + 8) 5 (pc' := 120) (L' := [some (.ref cM), some (.int x1), some (.int ((g fM_piled) - 1))]) (S' := [.int ((g13 fM_piled) - 1), .ref cM]) rfl).trans ?_
            refine (fs_pf (n := n + 7) (ci := 9) (j := 45) rfl rfl rfl rfl).trans ?_
            refine (fs_r (n := n + 2) 5 (pc' := 130) (L' := [some (.ref cM), some (.int x1), some (.int ((g fM_piled) - 1))]) (S' := [.int ((g13 fM_level) - 1), .ref cM]) rfl).trans ?_
            refine (fs_pf (n := n + 1) (ci := 9) (j := 44) rfl rfl rfl rfl).trans ?_
            exact bM_statements_133 L xs m d k (n + 0) x1 ((g fM_piled) - 1) (upd (upd g13 fM_piled ((g13 fM_piled) - 1)) fM_level ((g13 fM_level) - 1)) r14
          · skip
            refine (fs_r (n := n + 9) 4 (pc' := 106) (L' := [some (.ref cM), some (.int x1), some (.int ((g fM_piled) - 1))]) (S' := [.int (g13 fM_at), .int 1, .ref cM]) rfl).trans ?_
            refine (fs_cv (n := n + 8) (N := nm_m164) (as := [.ref cM, .int 1, .int (g13 fM_at)]) (rest := []) rfl rfl (Or.inl rfl) rfl rfl rfl rfl rfl).trans (fs_fv fun v18 g16 r17 => ?_)
            refine (fs_r (n := n + 7) 1 (pc' := 110) (L' := [some (.ref cM), some (.int x1), some (.int ((g fM_piled) - 1))]) (S' := []) rfl).trans ?_
            refine (fs_go (n := n + 6) rfl (t := 133) rfl (by decide)).trans ?_
            exact bM_statements_133 L xs m d k (n + 5) x1 ((g fM_piled) - 1) g16 r17
        · skip
          refine (fs_r (n := n + 14) 4 (pc' := 77) (L' := [some (.ref cM), some (.int x1), some (.int ((g fM_piled) - 1))]) (S' := [.int 1, .int ((g fM_piled) - 1), .ref 10948]) rfl).trans ?_
          refine (fs_is (n := n + 13) (k := 948) rfl rfl).trans (fs_ite ?_ rfl)
          refine (fs_r (n := n + 9) 4 (pc' := 84) (L' := [some (.ref cM), some (.int x1), some (.int ((g fM_piled) - 1))]) (S' := [.int ((g fM_piled) - 1), .ref 10947, .ref cM]) rfl).trans ?_
          refine (fs_il (n := n + 8) (k := 947) rfl rfl).trans (fs_ite ?_ rfl)
          refine (fs_cn (n := n + 7) (N := nm_m195) (as := [.ref cM, .int ((r14 fM_pileNode).2 (((g fM_piled) - 1) : Int32).toNatClampNeg)]) (rest := []) rfl rfl (Or.inl rfl) rfl rfl rfl rfl rfl).trans (fs_fn fun g19 r20 => ?_)
          refine (fs_go (n := n + 6) rfl (t := 133) rfl (by decide)).trans ?_
          exact bM_statements_133 L xs m d k (n + 5) x1 ((g fM_piled) - 1) g19 r20
      · skip
        refine (fs_r (n := n + 18) 5 (pc' := 53) (L' := [some (.ref cM), some (.int x1), some (.int ((g fM_piled) - 1))]) (S' := [.int ((g fM_piled) - 1), .ref 10947, .int ((g fM_piled) - 1), .ref cM]) rfl).trans ?_
        refine (fs_il (n := n + 17) (k := 947) rfl rfl).trans (fs_ite ?_ rfl)
        refine (fs_cn (n := n + 16) (N := nm_m188) (as := [.ref cM, .int ((g fM_piled) - 1), .int ((r fM_pileNode).2 (((g fM_piled) - 1) : Int32).toNatClampNeg)]) (rest := []) rfl rfl (Or.inl rfl) rfl rfl rfl rfl rfl).trans (fs_fn fun g21 r22 => ?_)
        refine (fs_go (n := n + 15) rfl (t := 133) rfl (by decide)).trans ?_
        exact bM_statements_133 L xs m d k (n + 14) x1 ((g fM_piled) - 1) g21 r22
theorem lM_statements_16_1 (L : Nat) (xs : Nat → Int32) (m d k : Nat) (x1 x2 : Int32) (g : a2_G) (r : a2_A) : lp L xs nM_statements nm_m186 m d (k + 1) 16 [some (.ref cM), some (.int x1), some (.int x2)] g r = BM_statements_16_1 L xs m d k x1 x2 g r := fs_lp.trans (bM_statements_16_1 L xs m d k 861 x1 x2 g r)
theorem eM_statements (L : Nat) (xs : Nat → Int32) (m d k : Nat) (n : Nat) (a1 : Int32) (g : a2_G) (r : a2_A) : bk L xs nM_statements nm_m186 m d k (n + 49) 0 [some (.ref cM), some (.int a1), none] [] g r = (fn_n (ev L xs m d nM_pile [.ref cM, .int 0, .int a1] (upd (upd g fM_piled 0) fM_level 0) r) fun g1 r2 => (BM_statements_16 L xs m d k a1 g1 r2)) := by
  refine (fs_r (n := n + 47) 2 (pc' := 2) (L' := [some (.ref cM), some (.int a1), none]) (S' := [.int 0, .ref cM]) rfl).trans ?_
  refine (fs_pf (n := n + 46) (ci := 9) (j := 45) rfl rfl rfl rfl).trans ?_
  refine (fs_r (n := n + 44) 2 (pc' := 7) (L' := [some (.ref cM), some (.int a1), none]) (S' := [.int 0, .ref cM]) rfl).trans ?_
  refine (fs_pf (n := n + 43) (ci := 9) (j := 44) rfl rfl rfl rfl).trans ?_
  refine (fs_r (n := n + 40) 3 (pc' := 13) (L' := [some (.ref cM), some (.int a1), none]) (S' := [.int a1, .int 0, .ref cM]) rfl).trans ?_
  refine (fs_cn (n := n + 39) (N := nm_m187) (as := [.ref cM, .int 0, .int a1]) (rest := []) rfl rfl (Or.inl rfl) rfl rfl rfl rfl rfl).trans (fs_fn fun g1 r2 => ?_)
  exact bM_statements_16 L xs m d k (n + 0) a1 g1 r2
theorem qM_statements (L : Nat) (xs : Nat → Int32) (m d : Nat) (a1 : Int32) (g : a2_G) (r : a2_A) : ev L xs (m + 1) (d + 1) nM_statements [.ref cM, .int a1] g r = (fn_n (ev L xs (m + 1) d nM_pile [.ref cM, .int 0, .int a1] (upd (upd g fM_piled 0) fM_level 0) r) fun g1 r2 => (BM_statements_16 L xs (m + 1) d m a1 g1 r2)) := (fs_ev (M := nm_m186) rfl rfl).trans (eM_statements L xs (m + 1) d m 851 a1 g r)
/-- CobolParserModel.pile(II)V -/
theorem eM_pile (L : Nat) (xs : Nat → Int32) (m d k : Nat) (n : Nat) (a1 a2 : Int32) (g : a2_G) (r : a2_A) : bk L xs nM_pile nm_m187 m d k (n + 25) 0 [some (.ref cM), some (.int a1), some (.int a2)] [] g r = (if am_inr (g fM_piled) (r fM_pileKind).1 = true then (if am_inr (g fM_piled) (r fM_pileNode).1 = true then (if am_inr (g fM_piled) (r fM_pilePhase).1 = true then (some (.inl none, (upd g fM_piled ((g fM_piled) + 1)), (a2_ua (a2_ua (a2_ua r fM_pileKind ((r fM_pileKind).1, (upd (r fM_pileKind).2 ((g fM_piled) : Int32).toNatClampNeg a1))) fM_pileNode ((r fM_pileNode).1, (upd (r fM_pileNode).2 ((g fM_piled) : Int32).toNatClampNeg a2))) fM_pilePhase ((r fM_pilePhase).1, (upd (r fM_pilePhase).2 ((g fM_piled) : Int32).toNatClampNeg 0))))) else none) else none) else none) := by
  refine (fs_r (n := n + 20) 5 (pc' := 9) (L' := [some (.ref cM), some (.int a1), some (.int a2)]) (S' := [.int a1, .int (g fM_piled), .ref 10946]) rfl).trans ?_
  refine (fs_is (n := n + 19) (k := 946) rfl rfl).trans (fs_ite ?_ rfl)
  refine (fs_r (n := n + 14) 5 (pc' := 19) (L' := [some (.ref cM), some (.int a1), some (.int a2)]) (S' := [.int a2, .int (g fM_piled), .ref 10947]) rfl).trans ?_
  refine (fs_is (n := n + 13) (k := 947) rfl rfl).trans (fs_ite ?_ rfl)
  refine (fs_r (n := n + 8) 5 (pc' := 29) (L' := [some (.ref cM), some (.int a1), some (.int a2)]) (S' := [.int 0, .int (g fM_piled), .ref 10948]) rfl).trans ?_
  refine (fs_is (n := n + 7) (k := 948) rfl rfl).trans (fs_ite ?_ rfl)
  refine (fs_r (n := n + 2) 5 (pc' := 37) (L' := [some (.ref cM), some (.int a1), some (.int a2)]) (S' := [.int ((g fM_piled) + 1), .ref cM]) rfl).trans ?_
  refine (fs_pf (n := n + 1) (ci := 9) (j := 45) rfl rfl rfl rfl).trans ?_
  exact (fs_rv (n := n + 0) rfl rfl).trans rfl
theorem qM_pile (L : Nat) (xs : Nat → Int32) (m d : Nat) (a1 a2 : Int32) (g : a2_G) (r : a2_A) : ev L xs (m + 1) (d + 1) nM_pile [.ref cM, .int a1, .int a2] g r = (if am_inr (g fM_piled) (r fM_pileKind).1 = true then (if am_inr (g fM_piled) (r fM_pileNode).1 = true then (if am_inr (g fM_piled) (r fM_pilePhase).1 = true then (some (.inl none, (upd g fM_piled ((g fM_piled) + 1)), (a2_ua (a2_ua (a2_ua r fM_pileKind ((r fM_pileKind).1, (upd (r fM_pileKind).2 ((g fM_piled) : Int32).toNatClampNeg a1))) fM_pileNode ((r fM_pileNode).1, (upd (r fM_pileNode).2 ((g fM_piled) : Int32).toNatClampNeg a2))) fM_pilePhase ((r fM_pilePhase).1, (upd (r fM_pilePhase).2 ((g fM_piled) : Int32).toNatClampNeg 0))))) else none) else none) else none) := (fs_ev (M := nm_m187) rfl rfl).trans (eM_pile L xs (m + 1) d m 875 a1 a2 g r)
/-- CobolParserModel.goOn(II)V -/
def BM_goOn_144 (L : Nat) (xs : Nat → Int32) (m d k : Nat) (x1 x2 x3 : Int32) (g : a2_G) (r : a2_A) : Option fn_Z := (some (.inl none, g, r))
theorem bM_goOn_144 (L : Nat) (xs : Nat → Int32) (m d k : Nat) (n : Nat) (x1 x2 x3 : Int32) (g : a2_G) (r : a2_A) : bk L xs nM_goOn nm_m188 m d k (n + 1) 144 [some (.ref cM), some (.int x1), some (.int x2), some (.int x3)] [] g r = BM_goOn_144 L xs m d k x1 x2 x3 g r := by
  show _ = ((some (.inl none, g, r)) : Option fn_Z)
  exact (fs_rv (n := n + 0) rfl rfl).trans rfl
def BM_goOn_137 (L : Nat) (xs : Nat → Int32) (m d k : Nat) (x1 x2 x3 : Int32) (g : a2_G) (r : a2_A) : Option fn_Z := (fn_n (ev L xs m d nM_whens [.ref cM, .int x1, .int x2, .int x3] g r) fun g9 r10 => (BM_goOn_144 L xs m d k x1 x2 x3 g9 r10))
theorem bM_goOn_137 (L : Nat) (xs : Nat → Int32) (m d k : Nat) (n : Nat) (x1 x2 x3 : Int32) (g : a2_G) (r : a2_A) : bk L xs nM_goOn nm_m188 m d k (n + 6) 137 [some (.ref cM), some (.int x1), some (.int x2), some (.int x3)] [] g r = BM_goOn_137 L xs m d k x1 x2 x3 g r := by
  show _ = ((fn_n (ev L xs m d nM_whens [.ref cM, .int x1, .int x2, .int x3] g r) fun g9 r10 => (BM_goOn_144 L xs m d k x1 x2 x3 g9 r10)) : Option fn_Z)
  refine (fs_r (n := n + 2) 4 (pc' := 141) (L' := [some (.ref cM), some (.int x1), some (.int x2), some (.int x3)]) (S' := [.int x3, .int x2, .int x1, .ref cM]) rfl).trans ?_
  refine (fs_cn (n := n + 1) (N := nm_m194) (as := [.ref cM, .int x1, .int x2, .int x3]) (rest := []) rfl rfl (Or.inl rfl) rfl rfl rfl rfl rfl).trans (fs_fn fun g9 r10 => ?_)
  exact bM_goOn_144 L xs m d k (n + 0) x1 x2 x3 g9 r10
theorem eM_goOn (L : Nat) (xs : Nat → Int32) (m d k : Nat) (n : Nat) (a1 a2 : Int32) (g : a2_G) (r : a2_A) : bk L xs nM_goOn nm_m188 m d k (n + 26) 0 [some (.ref cM), some (.int a1), some (.int a2), none] [] g r = (if am_inr a1 (r fM_pilePhase).1 = true then (if am_inr a1 (r fM_pilePhase).1 = true then (if am_inr a1 (r fM_pileKind).1 = true then (if (((r fM_pileKind).2 (a1 : Int32).toNatClampNeg) : Int32).toInt = 37 then (fn_n (ev L xs m d nM_asked [.ref cM, .int a2, .int ((r fM_pilePhase).2 (a1 : Int32).toNatClampNeg), .int 50, .int 51, .int 72] g (a2_ua r fM_pilePhase ((r fM_pilePhase).1, (upd (r fM_pilePhase).2 (a1 : Int32).toNatClampNeg (((r fM_pilePhase).2 (a1 : Int32).toNatClampNeg) + 1))))) fun g1 r2 => (BM_goOn_144 L xs m d k a1 a2 ((r fM_pilePhase).2 (a1 : Int32).toNatClampNeg) g1 r2)) else (if (((r fM_pileKind).2 (a1 : Int32).toNatClampNeg) : Int32).toInt = 38 then (fn_n (ev L xs m d nM_branch [.ref cM, .int a1, .int a2, .int ((r fM_pilePhase).2 (a1 : Int32).toNatClampNeg)] g (a2_ua r fM_pilePhase ((r fM_pilePhase).1, (upd (r fM_pilePhase).2 (a1 : Int32).toNatClampNeg (((r fM_pilePhase).2 (a1 : Int32).toNatClampNeg) + 1))))) fun g3 r4 => (BM_goOn_144 L xs m d k a1 a2 ((r fM_pilePhase).2 (a1 : Int32).toNatClampNeg) g3 r4)) else (if (((r fM_pileKind).2 (a1 : Int32).toNatClampNeg) : Int32).toInt = 39 then (if am_c2 .ne ((r fM_pilePhase).2 (a1 : Int32).toNatClampNeg) 0 = true then (fn_n (ev L xs m d nM_scope [.ref cM, .int a2, .int 74, .int 1] g (a2_ua r fM_pilePhase ((r fM_pilePhase).1, (upd (r fM_pilePhase).2 (a1 : Int32).toNatClampNeg (((r fM_pilePhase).2 (a1 : Int32).toNatClampNeg) + 1))))) fun g5 r6 => (BM_goOn_144 L xs m d k a1 a2 ((r fM_pilePhase).2 (a1 : Int32).toNatClampNeg) g5 r6)) else (fn_n (ev L xs m d nM_list [.ref cM, .int a2] g (a2_ua r fM_pilePhase ((r fM_pilePhase).1, (upd (r fM_pilePhase).2 (a1 : Int32).toNatClampNeg (((r fM_pilePhase).2 (a1 : Int32).toNatClampNeg) + 1))))) fun g7 r8 => (BM_goOn_144 L xs m d k a1 a2 ((r fM_pilePhase).2 (a1 : Int32).toNatClampNeg) g7 r8))) else (if (((r fM_pileKind).2 (a1 : Int32).toNatClampNeg) : Int32).toInt = 40 then (BM_goOn_137 L xs m d k a1 a2 ((r fM_pilePhase).2 (a1 : Int32).toNatClampNeg) g (a2_ua r fM_pilePhase ((r fM_pilePhase).1, (upd (r fM_pilePhase).2 (a1 : Int32).toNatClampNeg (((r fM_pilePhase).2 (a1 : Int32).toNatClampNeg) + 1))))) else (if (((r fM_pileKind).2 (a1 : Int32).toNatClampNeg) : Int32).toInt = 41 then (fn_n (ev L xs m d nM_asked [.ref cM, .int a2, .int ((r fM_pilePhase).2 (a1 : Int32).toNatClampNeg), .int 61, .int 33, .int 76] g (a2_ua r fM_pilePhase ((r fM_pilePhase).1, (upd (r fM_pilePhase).2 (a1 : Int32).toNatClampNeg (((r fM_pilePhase).2 (a1 : Int32).toNatClampNeg) + 1))))) fun g11 r12 => (BM_goOn_144 L xs m d k a1 a2 ((r fM_pilePhase).2 (a1 : Int32).toNatClampNeg) g11 r12)) else (if (((r fM_pileKind).2 (a1 : Int32).toNatClampNeg) : Int32).toInt = 42 then (fn_n (ev L xs m d nM_asked [.ref cM, .int a2, .int ((r fM_pilePhase).2 (a1 : Int32).toNatClampNeg), .int 62, .int (-1), .int 77] g (a2_ua r fM_pilePhase ((r fM_pilePhase).1, (upd (r fM_pilePhase).2 (a1 : Int32).toNatClampNeg (((r fM_pilePhase).2 (a1 : Int32).toNatClampNeg) + 1))))) fun g13 r14 => (BM_goOn_144 L xs m d k a1 a2 ((r fM_pilePhase).2 (a1 : Int32).toNatClampNeg) g13 r14)) else (BM_goOn_137 L xs m d k a1 a2 ((r fM_pilePhase).2 (a1 : Int32).toNatClampNeg) g (a2_ua r fM_pilePhase ((r fM_pilePhase).1, (upd (r fM_pilePhase).2 (a1 : Int32).toNatClampNeg (((r fM_pilePhase).2 (a1 : Int32).toNatClampNeg) + 1))))))))))) else none) else none) else none) := by
  refine (fs_r (n := n + 23) 3 (pc' := 5) (L' := [some (.ref cM), some (.int a1), some (.int a2), none]) (S' := [.int a1, .ref 10948]) rfl).trans ?_
  refine (fs_il (n := n + 22) (k := 948) rfl rfl).trans (fs_ite ?_ rfl)
  refine (fs_r (n := n + 15) 7 (pc' := 15) (L' := [some (.ref cM), some (.int a1), some (.int a2), some (.int ((r fM_pilePhase).2 (a1 : Int32).toNatClampNeg))]) (S' := [.int (((r fM_pilePhase).2 (a1 : Int32).toNatClampNeg) + 1), .int a1, .ref 10948]) rfl).trans ?_
  refine (fs_is (n := n + 14) (k := 948) rfl rfl).trans (fs_ite ?_ rfl)
  refine (fs_r (n := n + 11) 3 (pc' := 21) (L' := [some (.ref cM), some (.int a1), some (.int a2), some (.int ((r fM_pilePhase).2 (a1 : Int32).toNatClampNeg))]) (S' := [.int a1, .ref 10946]) rfl).trans ?_
  refine (fs_il (n := n + 10) (k := 946) rfl rfl).trans (fs_ite ?_ rfl)
  refine (fs_ts (n := n + 9) (l := [38, 82, 92, 115, 53, 68]) rfl rfl rfl).trans ?_
  refine fs_tc (v' := 38) rfl ?_ (fs_tc (v' := 39) rfl ?_ (fs_tc (v' := 40) rfl ?_ (fs_tc (v' := 41) rfl ?_ (fs_tc (v' := 42) rfl ?_ (fs_tc (v' := 43) rfl ?_ (fs_tn ?_))))))
  · refine (fs_J1 (n := n + 9) (t := 60) rfl (by decide)).trans ?_
    refine (fs_r (n := n + 3) 6 (pc' := 69) (L' := [some (.ref cM), some (.int a1), some (.int a2), some (.int ((r fM_pilePhase).2 (a1 : Int32).toNatClampNeg))]) (S' := [.int 72, .int 51, .int 50, .int ((r fM_pilePhase).2 (a1 : Int32).toNatClampNeg), .int a2, .ref cM]) rfl).trans ?_
    refine (fs_cn (n := n + 2) (N := nm_m189) (as := [.ref cM, .int a2, .int ((r fM_pilePhase).2 (a1 : Int32).toNatClampNeg), .int 50, .int 51, .int 72]) (rest := []) rfl rfl (Or.inl rfl) rfl rfl rfl rfl rfl).trans (fs_fn fun g1 r2 => ?_)
    refine (fs_go (n := n + 1) rfl (t := 144) rfl (by decide)).trans ?_
    exact bM_goOn_144 L xs m d k (n + 0) a1 a2 ((r fM_pilePhase).2 (a1 : Int32).toNatClampNeg) g1 r2
  · refine (fs_J1 (n := n + 9) (t := 104) rfl (by decide)).trans ?_
    refine (fs_r (n := n + 5) 4 (pc' := 108) (L' := [some (.ref cM), some (.int a1), some (.int a2), some (.int ((r fM_pilePhase).2 (a1 : Int32).toNatClampNeg))]) (S' := [.int ((r fM_pilePhase).2 (a1 : Int32).toNatClampNeg), .int a2, .int a1, .ref cM]) rfl).trans ?_
    refine (fs_cn (n := n + 4) (N := nm_m193) (as := [.ref cM, .int a1, .int a2, .int ((r fM_pilePhase).2 (a1 : Int32).toNatClampNeg)]) (rest := []) rfl rfl (Or.inl rfl) rfl rfl rfl rfl rfl).trans (fs_fn fun g3 r4 => ?_)
    refine (fs_go (n := n + 3) rfl (t := 144) rfl (by decide)).trans ?_
    exact bM_goOn_144 L xs m d k (n + 2) a1 a2 ((r fM_pilePhase).2 (a1 : Int32).toNatClampNeg) g3 r4
  · refine (fs_J1 (n := n + 9) (t := 114) rfl (by decide)).trans ?_
    refine (fs_r (n := n + 8) 1 (pc' := 115) (L' := [some (.ref cM), some (.int a1), some (.int a2), some (.int ((r fM_pilePhase).2 (a1 : Int32).toNatClampNeg))]) (S' := [.int ((r fM_pilePhase).2 (a1 : Int32).toNatClampNeg)]) rfl).trans ?_
    refine (fs_i (n := n + 7) rfl (t := 126) rfl (by decide)).trans (fs_ite ?_ ?_)
    · skip
      refine (fs_r (n := n + 3) 4 (pc' := 131) (L' := [some (.ref cM), some (.int a1), some (.int a2), some (.int ((r fM_pilePhase).2 (a1 : Int32).toNatClampNeg))]) (S' := [.int 1, .int 74, .int a2, .ref cM]) rfl).trans ?_
      refine (fs_cn (n := n + 2) (N := nm_m190) (as := [.ref cM, .int a2, .int 74, .int 1]) (rest := []) rfl rfl (Or.inl rfl) rfl rfl rfl rfl rfl).trans (fs_fn fun g5 r6 => ?_)
      refine (fs_go (n := n + 1) rfl (t := 144) rfl (by decide)).trans ?_
      exact bM_goOn_144 L xs m d k (n + 0) a1 a2 ((r fM_pilePhase).2 (a1 : Int32).toNatClampNeg) g5 r6
    · skip
      refine (fs_r (n := n + 5) 2 (pc' := 120) (L' := [some (.ref cM), some (.int a1), some (.int a2), some (.int ((r fM_pilePhase).2 (a1 : Int32).toNatClampNeg))]) (S' := [.int a2, .ref cM]) rfl).trans ?_
      refine (fs_cn (n := n + 4) (N := nm_m192) (as := [.ref cM, .int a2]) (rest := []) rfl rfl (Or.inl rfl) rfl rfl rfl rfl rfl).trans (fs_fn fun g7 r8 => ?_)
      refine (fs_go (n := n + 3) rfl (t := 144) rfl (by decide)).trans ?_
      exact bM_goOn_144 L xs m d k (n + 2) a1 a2 ((r fM_pilePhase).2 (a1 : Int32).toNatClampNeg) g7 r8
  · refine (fs_J1 (n := n + 9) (t := 137) rfl (by decide)).trans ?_
    exact bM_goOn_137 L xs m d k (n + 3) a1 a2 ((r fM_pilePhase).2 (a1 : Int32).toNatClampNeg) g (a2_ua r fM_pilePhase ((r fM_pilePhase).1, (upd (r fM_pilePhase).2 (a1 : Int32).toNatClampNeg (((r fM_pilePhase).2 (a1 : Int32).toNatClampNeg) + 1))))
  · refine (fs_J1 (n := n + 9) (t := 75) rfl (by decide)).trans ?_
    refine (fs_r (n := n + 3) 6 (pc' := 84) (L' := [some (.ref cM), some (.int a1), some (.int a2), some (.int ((r fM_pilePhase).2 (a1 : Int32).toNatClampNeg))]) (S' := [.int 76, .int 33, .int 61, .int ((r fM_pilePhase).2 (a1 : Int32).toNatClampNeg), .int a2, .ref cM]) rfl).trans ?_
    refine (fs_cn (n := n + 2) (N := nm_m189) (as := [.ref cM, .int a2, .int ((r fM_pilePhase).2 (a1 : Int32).toNatClampNeg), .int 61, .int 33, .int 76]) (rest := []) rfl rfl (Or.inl rfl) rfl rfl rfl rfl rfl).trans (fs_fn fun g11 r12 => ?_)
    refine (fs_go (n := n + 1) rfl (t := 144) rfl (by decide)).trans ?_
    exact bM_goOn_144 L xs m d k (n + 0) a1 a2 ((r fM_pilePhase).2 (a1 : Int32).toNatClampNeg) g11 r12
  · refine (fs_J1 (n := n + 9) (t := 90) rfl (by decide)).trans ?_
    refine (fs_r (n := n + 3) 6 (pc' := 98) (L' := [some (.ref cM), some (.int a1), some (.int a2), some (.int ((r fM_pilePhase).2 (a1 : Int32).toNatClampNeg))]) (S' := [.int 77, .int (-1), .int 62, .int ((r fM_pilePhase).2 (a1 : Int32).toNatClampNeg), .int a2, .ref cM]) rfl).trans ?_
    refine (fs_cn (n := n + 2) (N := nm_m189) (as := [.ref cM, .int a2, .int ((r fM_pilePhase).2 (a1 : Int32).toNatClampNeg), .int 62, .int (-1), .int 77]) (rest := []) rfl rfl (Or.inl rfl) rfl rfl rfl rfl rfl).trans (fs_fn fun g13 r14 => ?_)
    refine (fs_go (n := n + 1) rfl (t := 144) rfl (by decide)).trans ?_
    exact bM_goOn_144 L xs m d k (n + 0) a1 a2 ((r fM_pilePhase).2 (a1 : Int32).toNatClampNeg) g13 r14
  · refine (fs_J1 (n := n + 9) (t := 137) rfl (by decide)).trans ?_
    exact bM_goOn_137 L xs m d k (n + 3) a1 a2 ((r fM_pilePhase).2 (a1 : Int32).toNatClampNeg) g (a2_ua r fM_pilePhase ((r fM_pilePhase).1, (upd (r fM_pilePhase).2 (a1 : Int32).toNatClampNeg (((r fM_pilePhase).2 (a1 : Int32).toNatClampNeg) + 1))))
theorem qM_goOn (L : Nat) (xs : Nat → Int32) (m d : Nat) (a1 a2 : Int32) (g : a2_G) (r : a2_A) : ev L xs (m + 1) (d + 1) nM_goOn [.ref cM, .int a1, .int a2] g r = (if am_inr a1 (r fM_pilePhase).1 = true then (if am_inr a1 (r fM_pilePhase).1 = true then (if am_inr a1 (r fM_pileKind).1 = true then (if (((r fM_pileKind).2 (a1 : Int32).toNatClampNeg) : Int32).toInt = 37 then (fn_n (ev L xs (m + 1) d nM_asked [.ref cM, .int a2, .int ((r fM_pilePhase).2 (a1 : Int32).toNatClampNeg), .int 50, .int 51, .int 72] g (a2_ua r fM_pilePhase ((r fM_pilePhase).1, (upd (r fM_pilePhase).2 (a1 : Int32).toNatClampNeg (((r fM_pilePhase).2 (a1 : Int32).toNatClampNeg) + 1))))) fun g1 r2 => (BM_goOn_144 L xs (m + 1) d m a1 a2 ((r fM_pilePhase).2 (a1 : Int32).toNatClampNeg) g1 r2)) else (if (((r fM_pileKind).2 (a1 : Int32).toNatClampNeg) : Int32).toInt = 38 then (fn_n (ev L xs (m + 1) d nM_branch [.ref cM, .int a1, .int a2, .int ((r fM_pilePhase).2 (a1 : Int32).toNatClampNeg)] g (a2_ua r fM_pilePhase ((r fM_pilePhase).1, (upd (r fM_pilePhase).2 (a1 : Int32).toNatClampNeg (((r fM_pilePhase).2 (a1 : Int32).toNatClampNeg) + 1))))) fun g3 r4 => (BM_goOn_144 L xs (m + 1) d m a1 a2 ((r fM_pilePhase).2 (a1 : Int32).toNatClampNeg) g3 r4)) else (if (((r fM_pileKind).2 (a1 : Int32).toNatClampNeg) : Int32).toInt = 39 then (if am_c2 .ne ((r fM_pilePhase).2 (a1 : Int32).toNatClampNeg) 0 = true then (fn_n (ev L xs (m + 1) d nM_scope [.ref cM, .int a2, .int 74, .int 1] g (a2_ua r fM_pilePhase ((r fM_pilePhase).1, (upd (r fM_pilePhase).2 (a1 : Int32).toNatClampNeg (((r fM_pilePhase).2 (a1 : Int32).toNatClampNeg) + 1))))) fun g5 r6 => (BM_goOn_144 L xs (m + 1) d m a1 a2 ((r fM_pilePhase).2 (a1 : Int32).toNatClampNeg) g5 r6)) else (fn_n (ev L xs (m + 1) d nM_list [.ref cM, .int a2] g (a2_ua r fM_pilePhase ((r fM_pilePhase).1, (upd (r fM_pilePhase).2 (a1 : Int32).toNatClampNeg (((r fM_pilePhase).2 (a1 : Int32).toNatClampNeg) + 1))))) fun g7 r8 => (BM_goOn_144 L xs (m + 1) d m a1 a2 ((r fM_pilePhase).2 (a1 : Int32).toNatClampNeg) g7 r8))) else (if (((r fM_pileKind).2 (a1 : Int32).toNatClampNeg) : Int32).toInt = 40 then (BM_goOn_137 L xs (m + 1) d m a1 a2 ((r fM_pilePhase).2 (a1 : Int32).toNatClampNeg) g (a2_ua r fM_pilePhase ((r fM_pilePhase).1, (upd (r fM_pilePhase).2 (a1 : Int32).toNatClampNeg (((r fM_pilePhase).2 (a1 : Int32).toNatClampNeg) + 1))))) else (if (((r fM_pileKind).2 (a1 : Int32).toNatClampNeg) : Int32).toInt = 41 then (fn_n (ev L xs (m + 1) d nM_asked [.ref cM, .int a2, .int ((r fM_pilePhase).2 (a1 : Int32).toNatClampNeg), .int 61, .int 33, .int 76] g (a2_ua r fM_pilePhase ((r fM_pilePhase).1, (upd (r fM_pilePhase).2 (a1 : Int32).toNatClampNeg (((r fM_pilePhase).2 (a1 : Int32).toNatClampNeg) + 1))))) fun g11 r12 => (BM_goOn_144 L xs (m + 1) d m a1 a2 ((r fM_pilePhase).2 (a1 : Int32).toNatClampNeg) g11 r12)) else (if (((r fM_pileKind).2 (a1 : Int32).toNatClampNeg) : Int32).toInt = 42 then (fn_n (ev L xs (m + 1) d nM_asked [.ref cM, .int a2, .int ((r fM_pilePhase).2 (a1 : Int32).toNatClampNeg), .int 62, .int (-1), .int 77] g (a2_ua r fM_pilePhase ((r fM_pilePhase).1, (upd (r fM_pilePhase).2 (a1 : Int32).toNatClampNeg (((r fM_pilePhase).2 (a1 : Int32).toNatClampNeg) + 1))))) fun g13 r14 => (BM_goOn_144 L xs (m + 1) d m a1 a2 ((r fM_pilePhase).2 (a1 : Int32).toNatClampNeg) g13 r14)) else (BM_goOn_137 L xs (m + 1) d m a1 a2 ((r fM_pilePhase).2 (a1 : Int32).toNatClampNeg) g (a2_ua r fM_pilePhase ((r fM_pilePhase).1, (upd (r fM_pilePhase).2 (a1 : Int32).toNatClampNeg (((r fM_pilePhase).2 (a1 : Int32).toNatClampNeg) + 1))))))))))) else none) else none) else none) := (fs_ev (M := nm_m188) rfl rfl).trans (eM_goOn L xs (m + 1) d m 874 a1 a2 g r)
/-- CobolParserModel.asked(IIIII)V -/
def BM_asked_12 (L : Nat) (xs : Nat → Int32) (m d k : Nat) (x1 x2 x3 x4 x5 : Int32) (g : a2_G) (r : a2_A) : Option fn_Z := (fn_n (ev L xs m d nM_scope [.ref cM, .int x1, .int x5, .int 0] g r) fun g1 r2 => (some (.inl none, g1, r2)))
theorem bM_asked_12 (L : Nat) (xs : Nat → Int32) (m d k : Nat) (n : Nat) (x1 x2 x3 x4 x5 : Int32) (g : a2_G) (r : a2_A) : bk L xs nM_asked nm_m189 m d k (n + 6) 12 [some (.ref cM), some (.int x1), some (.int x2), some (.int x3), some (.int x4), some (.int x5), none] [] g r = BM_asked_12 L xs m d k x1 x2 x3 x4 x5 g r := by
  show _ = ((fn_n (ev L xs m d nM_scope [.ref cM, .int x1, .int x5, .int 0] g r) fun g1 r2 => (some (.inl none, g1, r2))) : Option fn_Z)
  refine (fs_r (n := n + 2) 4 (pc' := 17) (L' := [some (.ref cM), some (.int x1), some (.int x2), some (.int x3), some (.int x4), some (.int x5), none]) (S' := [.int 0, .int x5, .int x1, .ref cM]) rfl).trans ?_
  refine (fs_cn (n := n + 1) (N := nm_m190) (as := [.ref cM, .int x1, .int x5, .int 0]) (rest := []) rfl rfl (Or.inl rfl) rfl rfl rfl rfl rfl).trans (fs_fn fun g1 r2 => ?_)
  exact (fs_rv (n := n + 0) rfl rfl).trans rfl
def BM_asked_53 (L : Nat) (xs : Nat → Int32) (m d k : Nat) (x1 x2 x3 x4 x5 x6 : Int32) (g : a2_G) (r : a2_A) : Option fn_Z := (some (.inl none, g, r))
theorem bM_asked_53 (L : Nat) (xs : Nat → Int32) (m d k : Nat) (n : Nat) (x1 x2 x3 x4 x5 x6 : Int32) (g : a2_G) (r : a2_A) : bk L xs nM_asked nm_m189 m d k (n + 1) 53 [some (.ref cM), some (.int x1), some (.int x2), some (.int x3), some (.int x4), some (.int x5), some (.int x6)] [] g r = BM_asked_53 L xs m d k x1 x2 x3 x4 x5 x6 g r := by
  show _ = ((some (.inl none, g, r)) : Option fn_Z)
  exact (fs_rv (n := n + 0) rfl rfl).trans rfl
def BM_asked_41 (L : Nat) (xs : Nat → Int32) (m d k : Nat) (x1 x2 x3 x4 x5 x6 : Int32) (g : a2_G) (r : a2_A) : Option fn_Z := (if am_c2 .eq x6 0 = true then (BM_asked_53 L xs m d k x1 x2 x3 x4 x5 x6 g r) else (fn_n (ev L xs m d nM_list [.ref cM, .int x1] g r) fun g6 r7 => (BM_asked_53 L xs m d k x1 x2 x3 x4 x5 x6 g6 r7)))
theorem bM_asked_41 (L : Nat) (xs : Nat → Int32) (m d k : Nat) (n : Nat) (x1 x2 x3 x4 x5 x6 : Int32) (g : a2_G) (r : a2_A) : bk L xs nM_asked nm_m189 m d k (n + 7) 41 [some (.ref cM), some (.int x1), some (.int x2), some (.int x3), some (.int x4), some (.int x5), none] [.int x6] g r = BM_asked_41 L xs m d k x1 x2 x3 x4 x5 x6 g r := by
  show _ = ((if am_c2 .eq x6 0 = true then (BM_asked_53 L xs m d k x1 x2 x3 x4 x5 x6 g r) else (fn_n (ev L xs m d nM_list [.ref cM, .int x1] g r) fun g6 r7 => (BM_asked_53 L xs m d k x1 x2 x3 x4 x5 x6 g6 r7))) : Option fn_Z)
  refine (fs_r (n := n + 5) 2 (pc' := 45) (L' := [some (.ref cM), some (.int x1), some (.int x2), some (.int x3), some (.int x4), some (.int x5), some (.int x6)]) (S' := [.int x6]) rfl).trans ?_
  refine (fs_i (n := n + 4) rfl (t := 53) rfl (by decide)).trans (fs_ite ?_ ?_)
  · skip
    exact bM_asked_53 L xs m d k (n + 3) x1 x2 x3 x4 x5 x6 g r
  · skip
    refine (fs_r (n := n + 2) 2 (pc' := 50) (L' := [some (.ref cM), some (.int x1), some (.int x2), some (.int x3), some (.int x4), some (.int x5), some (.int x6)]) (S' := [.int x1, .ref cM]) rfl).trans ?_
    refine (fs_cn (n := n + 1) (N := nm_m192) (as := [.ref cM, .int x1]) (rest := []) rfl rfl (Or.inl rfl) rfl rfl rfl rfl rfl).trans (fs_fn fun g6 r7 => ?_)
    exact bM_asked_53 L xs m d k (n + 0) x1 x2 x3 x4 x5 x6 g6 r7
def BM_asked_36 (L : Nat) (xs : Nat → Int32) (m d k : Nat) (x1 x2 x3 x4 x5 : Int32) (g : a2_G) (r : a2_A) : Option fn_Z := (BM_asked_41 L xs m d k x1 x2 x3 x4 x5 1 g r)
theorem bM_asked_36 (L : Nat) (xs : Nat → Int32) (m d k : Nat) (n : Nat) (x1 x2 x3 x4 x5 : Int32) (g : a2_G) (r : a2_A) : bk L xs nM_asked nm_m189 m d k (n + 9) 36 [some (.ref cM), some (.int x1), some (.int x2), some (.int x3), some (.int x4), some (.int x5), none] [] g r = BM_asked_36 L xs m d k x1 x2 x3 x4 x5 g r := by
  show _ = ((BM_asked_41 L xs m d k x1 x2 x3 x4 x5 1 g r) : Option fn_Z)
  refine (fs_r (n := n + 8) 1 (pc' := 37) (L' := [some (.ref cM), some (.int x1), some (.int x2), some (.int x3), some (.int x4), some (.int x5), none]) (S' := [.int 1]) rfl).trans ?_
  refine (fs_go (n := n + 7) rfl (t := 41) rfl (by decide)).trans ?_
  exact bM_asked_41 L xs m d k (n + 0) x1 x2 x3 x4 x5 1 g r
theorem eM_asked (L : Nat) (xs : Nat → Int32) (m d k : Nat) (n : Nat) (a1 a2 a3 a4 a5 : Int32) (g : a2_G) (r : a2_A) : bk L xs nM_asked nm_m189 m d k (n + 22) 0 [some (.ref cM), some (.int a1), some (.int a2), some (.int a3), some (.int a4), some (.int a5), none] [] g r = (if am_c2 .gt a2 0 = true then (BM_asked_12 L xs m d k a1 a2 a3 a4 a5 g r) else (fn_v (ev L xs m d nM_meets [.ref cM, .int a3] g r) fun v5 g3 r4 => (if am_c2 .ne v5 0 = true then (if am_c2 .eq a4 (-1) = true then (BM_asked_36 L xs m d k a1 a2 a3 a4 a5 g3 r4) else (fn_v (ev L xs m d nM_must [.ref cM, .int a4] g3 r4) fun v10 g8 r9 => (if am_c2 .eq v10 0 = true then (BM_asked_41 L xs m d k a1 a2 a3 a4 a5 0 g8 r9) else (BM_asked_36 L xs m d k a1 a2 a3 a4 a5 g8 r9)))) else (BM_asked_12 L xs m d k a1 a2 a3 a4 a5 g3 r4)))) := by
  refine (fs_r (n := n + 21) 1 (pc' := 1) (L' := [some (.ref cM), some (.int a1), some (.int a2), some (.int a3), some (.int a4), some (.int a5), none]) (S' := [.int a2]) rfl).trans ?_
  refine (fs_i (n := n + 20) rfl (t := 12) rfl (by decide)).trans (fs_ite ?_ ?_)
  · skip
    exact bM_asked_12 L xs m d k (n + 14) a1 a2 a3 a4 a5 g r
  · skip
    refine (fs_r (n := n + 18) 2 (pc' := 6) (L' := [some (.ref cM), some (.int a1), some (.int a2), some (.int a3), some (.int a4), some (.int a5), none]) (S' := [.int a3, .ref cM]) rfl).trans ?_
    refine (fs_cv (n := n + 17) (N := nm_m169) (as := [.ref cM, .int a3]) (rest := []) rfl rfl (Or.inl rfl) rfl rfl rfl rfl rfl).trans (fs_fv fun v5 g3 r4 => ?_)
    refine (fs_i (n := n + 16) rfl (t := 21) rfl (by decide)).trans (fs_ite ?_ ?_)
    · skip
      refine (fs_r (n := n + 14) 2 (pc' := 24) (L' := [some (.ref cM), some (.int a1), some (.int a2), some (.int a3), some (.int a4), some (.int a5), none]) (S' := [.int (-1), .int a4]) rfl).trans ?_
      refine (fs_j (n := n + 13) rfl (t := 36) rfl (by decide)).trans (fs_ite ?_ ?_)
      · skip
        exact bM_asked_36 L xs m d k (n + 4) a1 a2 a3 a4 a5 g3 r4
      · skip
        refine (fs_r (n := n + 11) 2 (pc' := 30) (L' := [some (.ref cM), some (.int a1), some (.int a2), some (.int a3), some (.int a4), some (.int a5), none]) (S' := [.int a4, .ref cM]) rfl).trans ?_
        refine (fs_cv (n := n + 10) (N := nm_m191) (as := [.ref cM, .int a4]) (rest := []) rfl rfl (Or.inl rfl) rfl rfl rfl rfl rfl).trans (fs_fv fun v10 g8 r9 => ?_)
        refine (fs_i (n := n + 9) rfl (t := 40) rfl (by decide)).trans (fs_ite ?_ ?_)
        · skip
          refine (fs_r (n := n + 8) 1 (pc' := 41) (L' := [some (.ref cM), some (.int a1), some (.int a2), some (.int a3), some (.int a4), some (.int a5), none]) (S' := [.int 0]) rfl).trans ?_
          exact bM_asked_41 L xs m d k (n + 1) a1 a2 a3 a4 a5 0 g8 r9
        · skip
          exact bM_asked_36 L xs m d k (n + 0) a1 a2 a3 a4 a5 g8 r9
    · skip
      exact bM_asked_12 L xs m d k (n + 10) a1 a2 a3 a4 a5 g3 r4
theorem qM_asked (L : Nat) (xs : Nat → Int32) (m d : Nat) (a1 a2 a3 a4 a5 : Int32) (g : a2_G) (r : a2_A) : ev L xs (m + 1) (d + 1) nM_asked [.ref cM, .int a1, .int a2, .int a3, .int a4, .int a5] g r = (if am_c2 .gt a2 0 = true then (BM_asked_12 L xs (m + 1) d m a1 a2 a3 a4 a5 g r) else (fn_v (ev L xs (m + 1) d nM_meets [.ref cM, .int a3] g r) fun v5 g3 r4 => (if am_c2 .ne v5 0 = true then (if am_c2 .eq a4 (-1) = true then (BM_asked_36 L xs (m + 1) d m a1 a2 a3 a4 a5 g3 r4) else (fn_v (ev L xs (m + 1) d nM_must [.ref cM, .int a4] g3 r4) fun v10 g8 r9 => (if am_c2 .eq v10 0 = true then (BM_asked_41 L xs (m + 1) d m a1 a2 a3 a4 a5 0 g8 r9) else (BM_asked_36 L xs (m + 1) d m a1 a2 a3 a4 a5 g8 r9)))) else (BM_asked_12 L xs (m + 1) d m a1 a2 a3 a4 a5 g3 r4)))) := (fs_ev (M := nm_m189) rfl rfl).trans (eM_asked L xs (m + 1) d m 878 a1 a2 a3 a4 a5 g r)
/-- CobolParserModel.scope(IIZ)V -/
def BM_scope_34 (L : Nat) (xs : Nat → Int32) (m d k : Nat) (x1 x2 x3 x4 x5 x6 : Int32) (g : a2_G) (r : a2_A) : Option fn_Z := (if am_inr x6 (r fM_extra).1 = true then (some (.inl none, (upd g fM_piled ((g fM_piled) - 1)), (a2_ua r fM_extra ((r fM_extra).1, (upd (r fM_extra).2 (x6 : Int32).toNatClampNeg x5))))) else none)
theorem bM_scope_34 (L : Nat) (xs : Nat → Int32) (m d k : Nat) (n : Nat) (x1 x2 x3 x4 x5 x6 : Int32) (g : a2_G) (r : a2_A) : bk L xs nM_scope nm_m190 m d k (n + 8) 34 [some (.ref cM), some (.int x1), some (.int x2), some (.int x3), some (.int x4)] [.int x5, .int x6, .ref 10912] g r = BM_scope_34 L xs m d k x1 x2 x3 x4 x5 x6 g r := by
  show _ = ((if am_inr x6 (r fM_extra).1 = true then (some (.inl none, (upd g fM_piled ((g fM_piled) - 1)), (a2_ua r fM_extra ((r fM_extra).1, (upd (r fM_extra).2 (x6 : Int32).toNatClampNeg x5))))) else none) : Option fn_Z)
  refine (fs_is (n := n + 7) (k := 912) rfl rfl).trans (fs_ite ?_ rfl)
  refine (fs_r (n := n + 2) 5 (pc' := 42) (L' := [some (.ref cM), some (.int x1), some (.int x2), some (.int x3), some (.int x4)]) (S' := [.int ((g fM_piled) - 1), .ref cM]) rfl).trans ?_
  refine (fs_pf (n := n + 1) (ci := 9) (j := 45) rfl rfl rfl rfl).trans ?_
  exact (fs_rv (n := n + 0) rfl rfl).trans rfl
def BM_scope_17 (L : Nat) (xs : Nat → Int32) (m d k : Nat) (x1 x2 x3 x4 : Int32) (g : a2_G) (r : a2_A) : Option fn_Z := (if am_c2 .eq x4 0 = true then (BM_scope_34 L xs m d k x1 x2 x3 x4 0 x1 g r) else (BM_scope_34 L xs m d k x1 x2 x3 x4 1 x1 g r))
theorem bM_scope_17 (L : Nat) (xs : Nat → Int32) (m d k : Nat) (n : Nat) (x1 x2 x3 x4 : Int32) (g : a2_G) (r : a2_A) : bk L xs nM_scope nm_m190 m d k (n + 16) 17 [some (.ref cM), some (.int x1), some (.int x2), some (.int x3), none] [.int x4] g r = BM_scope_17 L xs m d k x1 x2 x3 x4 g r := by
  show _ = ((if am_c2 .eq x4 0 = true then (BM_scope_34 L xs m d k x1 x2 x3 x4 0 x1 g r) else (BM_scope_34 L xs m d k x1 x2 x3 x4 1 x1 g r)) : Option fn_Z)
  refine (fs_r (n := n + 11) 5 (pc' := 26) (L' := [some (.ref cM), some (.int x1), some (.int x2), some (.int x3), some (.int x4)]) (S' := [.int x4, .int x1, .ref 10912]) rfl).trans ?_
  refine (fs_i (n := n + 10) rfl (t := 33) rfl (by decide)).trans (fs_ite ?_ ?_)
  · skip
    refine (fs_r (n := n + 9) 1 (pc' := 34) (L' := [some (.ref cM), some (.int x1), some (.int x2), some (.int x3), some (.int x4)]) (S' := [.int 0, .int x1, .ref 10912]) rfl).trans ?_
    exact bM_scope_34 L xs m d k (n + 1) x1 x2 x3 x4 0 x1 g r
  · skip
    refine (fs_r (n := n + 9) 1 (pc' := 30) (L' := [some (.ref cM), some (.int x1), some (.int x2), some (.int x3), some (.int x4)]) (S' := [.int 1, .int x1, .ref 10912]) rfl).trans ?_
    refine (fs_go (n := n + 8) rfl (t := 34) rfl (by decide)).trans ?_
    exact bM_scope_34 L xs m d k (n + 0) x1 x2 x3 x4 1 x1 g r
theorem eM_scope (L : Nat) (xs : Nat → Int32) (m d k : Nat) (n : Nat) (a1 a2 a3 : Int32) (g : a2_G) (r : a2_A) : bk L xs nM_scope nm_m190 m d k (n + 22) 0 [some (.ref cM), some (.int a1), some (.int a2), some (.int a3), none] [] g r = (if am_c2 .eq a3 0 = true then (fn_v (ev L xs m d nM_meets [.ref cM, .int a2] g r) fun v3 g1 r2 => (BM_scope_17 L xs m d k a1 a2 a3 v3 g1 r2)) else (fn_v (ev L xs m d nM_must [.ref cM, .int a2] g r) fun v6 g4 r5 => (BM_scope_17 L xs m d k a1 a2 a3 v6 g4 r5))) := by
  refine (fs_r (n := n + 21) 1 (pc' := 1) (L' := [some (.ref cM), some (.int a1), some (.int a2), some (.int a3), none]) (S' := [.int a3]) rfl).trans ?_
  refine (fs_i (n := n + 20) rfl (t := 12) rfl (by decide)).trans (fs_ite ?_ ?_)
  · skip
    refine (fs_r (n := n + 18) 2 (pc' := 14) (L' := [some (.ref cM), some (.int a1), some (.int a2), some (.int a3), none]) (S' := [.int a2, .ref cM]) rfl).trans ?_
    refine (fs_cv (n := n + 17) (N := nm_m169) (as := [.ref cM, .int a2]) (rest := []) rfl rfl (Or.inl rfl) rfl rfl rfl rfl rfl).trans (fs_fv fun v3 g1 r2 => ?_)
    exact bM_scope_17 L xs m d k (n + 1) a1 a2 a3 v3 g1 r2
  · skip
    refine (fs_r (n := n + 18) 2 (pc' := 6) (L' := [some (.ref cM), some (.int a1), some (.int a2), some (.int a3), none]) (S' := [.int a2, .ref cM]) rfl).trans ?_
    refine (fs_cv (n := n + 17) (N := nm_m191) (as := [.ref cM, .int a2]) (rest := []) rfl rfl (Or.inl rfl) rfl rfl rfl rfl rfl).trans (fs_fv fun v6 g4 r5 => ?_)
    refine (fs_go (n := n + 16) rfl (t := 17) rfl (by decide)).trans ?_
    exact bM_scope_17 L xs m d k (n + 0) a1 a2 a3 v6 g4 r5
theorem qM_scope (L : Nat) (xs : Nat → Int32) (m d : Nat) (a1 a2 a3 : Int32) (g : a2_G) (r : a2_A) : ev L xs (m + 1) (d + 1) nM_scope [.ref cM, .int a1, .int a2, .int a3] g r = (if am_c2 .eq a3 0 = true then (fn_v (ev L xs (m + 1) d nM_meets [.ref cM, .int a2] g r) fun v3 g1 r2 => (BM_scope_17 L xs (m + 1) d m a1 a2 a3 v3 g1 r2)) else (fn_v (ev L xs (m + 1) d nM_must [.ref cM, .int a2] g r) fun v6 g4 r5 => (BM_scope_17 L xs (m + 1) d m a1 a2 a3 v6 g4 r5))) := (fs_ev (M := nm_m190) rfl rfl).trans (eM_scope L xs (m + 1) d m 878 a1 a2 a3 g r)
/-- CobolParserModel.must(I)Z -/
def BM_must_25 (L : Nat) (xs : Nat → Int32) (m d k : Nat) (x1 x2 : Int32) (g : a2_G) (r : a2_A) : Option fn_Z := (if x2 = 0 ∨ x2 = 1 then some (.inl (some (.int x2)), g, r) else none)
theorem bM_must_25 (L : Nat) (xs : Nat → Int32) (m d k : Nat) (n : Nat) (x1 x2 : Int32) (g : a2_G) (r : a2_A) : bk L xs nM_must nm_m191 m d k (n + 1) 25 [some (.ref cM), some (.int x1)] [.int x2] g r = BM_must_25 L xs m d k x1 x2 g r := by
  show _ = ((if x2 = 0 ∨ x2 = 1 then some (.inl (some (.int x2)), g, r) else none) : Option fn_Z)
  exact (fs_rb (n := n + 0) rfl rfl).trans rfl
def BM_must_20 (L : Nat) (xs : Nat → Int32) (m d k : Nat) (x1 : Int32) (g : a2_G) (r : a2_A) : Option fn_Z := (BM_must_25 L xs m d k x1 1 g r)
theorem bM_must_20 (L : Nat) (xs : Nat → Int32) (m d k : Nat) (n : Nat) (x1 : Int32) (g : a2_G) (r : a2_A) : bk L xs nM_must nm_m191 m d k (n + 3) 20 [some (.ref cM), some (.int x1)] [] g r = BM_must_20 L xs m d k x1 g r := by
  show _ = ((BM_must_25 L xs m d k x1 1 g r) : Option fn_Z)
  refine (fs_r (n := n + 2) 1 (pc' := 21) (L' := [some (.ref cM), some (.int x1)]) (S' := [.int 1]) rfl).trans ?_
  refine (fs_go (n := n + 1) rfl (t := 25) rfl (by decide)).trans ?_
  exact bM_must_25 L xs m d k (n + 0) x1 1 g r
theorem eM_must (L : Nat) (xs : Nat → Int32) (m d k : Nat) (n : Nat) (a1 : Int32) (g : a2_G) (r : a2_A) : bk L xs nM_must nm_m191 m d k (n + 13) 0 [some (.ref cM), some (.int a1)] [] g r = (fn_v (ev L xs m d nM_meets [.ref cM, .int a1] g r) fun v3 g1 r2 => (if am_c2 .ne v3 0 = true then (BM_must_20 L xs m d k a1 g1 r2) else (fn_v (ev L xs m d nM_fail [.ref cM, .int 1, .int (g1 fM_at)] g1 r2) fun v6 g4 r5 => (if am_c2 .eq v6 0 = true then (BM_must_25 L xs m d k a1 0 g4 r5) else (BM_must_20 L xs m d k a1 g4 r5))))) := by
  refine (fs_r (n := n + 11) 2 (pc' := 2) (L' := [some (.ref cM), some (.int a1)]) (S' := [.int a1, .ref cM]) rfl).trans ?_
  refine (fs_cv (n := n + 10) (N := nm_m169) (as := [.ref cM, .int a1]) (rest := []) rfl rfl (Or.inl rfl) rfl rfl rfl rfl rfl).trans (fs_fv fun v3 g1 r2 => ?_)
  refine (fs_i (n := n + 9) rfl (t := 20) rfl (by decide)).trans (fs_ite ?_ ?_)
  · skip
    exact bM_must_20 L xs m d k (n + 6) a1 g1 r2
  · skip
    refine (fs_r (n := n + 5) 4 (pc' := 14) (L' := [some (.ref cM), some (.int a1)]) (S' := [.int (g1 fM_at), .int 1, .ref cM]) rfl).trans ?_
    refine (fs_cv (n := n + 4) (N := nm_m164) (as := [.ref cM, .int 1, .int (g1 fM_at)]) (rest := []) rfl rfl (Or.inl rfl) rfl rfl rfl rfl rfl).trans (fs_fv fun v6 g4 r5 => ?_)
    refine (fs_i (n := n + 3) rfl (t := 24) rfl (by decide)).trans (fs_ite ?_ ?_)
    · skip
      refine (fs_r (n := n + 2) 1 (pc' := 25) (L' := [some (.ref cM), some (.int a1)]) (S' := [.int 0]) rfl).trans ?_
      exact bM_must_25 L xs m d k (n + 1) a1 0 g4 r5
    · skip
      exact bM_must_20 L xs m d k (n + 0) a1 g4 r5
theorem qM_must (L : Nat) (xs : Nat → Int32) (m d : Nat) (a1 : Int32) (g : a2_G) (r : a2_A) : ev L xs (m + 1) (d + 1) nM_must [.ref cM, .int a1] g r = (fn_v (ev L xs (m + 1) d nM_meets [.ref cM, .int a1] g r) fun v3 g1 r2 => (if am_c2 .ne v3 0 = true then (BM_must_20 L xs (m + 1) d m a1 g1 r2) else (fn_v (ev L xs (m + 1) d nM_fail [.ref cM, .int 1, .int (g1 fM_at)] g1 r2) fun v6 g4 r5 => (if am_c2 .eq v6 0 = true then (BM_must_25 L xs (m + 1) d m a1 0 g4 r5) else (BM_must_20 L xs (m + 1) d m a1 g4 r5))))) := (fs_ev (M := nm_m191) rfl rfl).trans (eM_must L xs (m + 1) d m 887 a1 g r)
/-- CobolParserModel.list(I)V -/
theorem eM_list (L : Nat) (xs : Nat → Int32) (m d k : Nat) (n : Nat) (a1 : Int32) (g : a2_G) (r : a2_A) : bk L xs nM_list nm_m192 m d k (n + 34) 0 [some (.ref cM), some (.int a1), none] [] g r = (if am_c2 .eq (g fM_bad) 0 = true then (fn_v (ev L xs m d nM_begins [.ref cM, .int (g fM_at)] g r) fun v3 g1 r2 => (if am_c2 .ne v3 0 = true then (if am_c2 .ne (g1 fM_level) 40 = true then (fn_v (ev L xs m d nM_make [.ref cM, .int 40, .int 0, .int (g1 fM_at)] (upd g1 fM_level ((g1 fM_level) + 1)) r2) fun v6 g4 r5 => (fn_n (ev L xs m d nM_attach [.ref cM, .int a1, .int v6] g4 r5) fun g7 r8 => (fn_n (ev L xs m d nM_pile [.ref cM, .int 0, .int v6] g7 r8) fun g9 r10 => (some (.inl none, g9, r10))))) else (fn_v (ev L xs m d nM_fail [.ref cM, .int 3, .int (g1 fM_at)] g1 r2) fun v13 g11 r12 => (some (.inl none, g11, r12)))) else (fn_v (ev L xs m d nM_fail [.ref cM, .int 1, .int (g1 fM_at)] g1 r2) fun v16 g14 r15 => (some (.inl none, g14, r15))))) else (some (.inl none, g, r))) := by
  refine (fs_r (n := n + 32) 2 (pc' := 4) (L' := [some (.ref cM), some (.int a1), none]) (S' := [.int (g fM_bad)]) rfl).trans ?_
  refine (fs_i (n := n + 31) rfl (t := 8) rfl (by decide)).trans (fs_ite ?_ ?_)
  · skip
    refine (fs_r (n := n + 28) 3 (pc' := 13) (L' := [some (.ref cM), some (.int a1), none]) (S' := [.int (g fM_at), .ref cM]) rfl).trans ?_
    refine (fs_cv (n := n + 27) (N := nm_m184) (as := [.ref cM, .int (g fM_at)]) (rest := []) rfl rfl (Or.inl rfl) rfl rfl rfl rfl rfl).trans (fs_fv fun v3 g1 r2 => ?_)
    refine (fs_i (n := n + 26) rfl (t := 30) rfl (by decide)).trans (fs_ite ?_ ?_)
    · skip
      refine (fs_r (n := n + 23) 3 (pc' := 36) (L' := [some (.ref cM), some (.int a1), none]) (S' := [.int 40, .int (g1 fM_level)]) rfl).trans ?_
      refine (fs_j (n := n + 22) rfl (t := 50) rfl (by decide)).trans (fs_ite ?_ ?_)
      · skip
        refine (fs_r (n := n + 17) 5 (pc' := 57) (L' := [some (.ref cM), some (.int a1), none]) (S' := [.int ((g1 fM_level) + 1), .ref cM]) rfl).trans ?_
        refine (fs_pf (n := n + 16) (ci := 9) (j := 44) rfl rfl rfl rfl).trans ?_
        refine (fs_r (n := n + 11) 5 (pc' := 68) (L' := [some (.ref cM), some (.int a1), none]) (S' := [.int (g1 fM_at), .int 0, .int 40, .ref cM]) rfl).trans ?_
        refine (fs_cv (n := n + 10) (N := nm_m160) (as := [.ref cM, .int 40, .int 0, .int (g1 fM_at)]) (rest := []) rfl rfl (Or.inl rfl) rfl rfl rfl rfl rfl).trans (fs_fv fun v6 g4 r5 => ?_)
        refine (fs_r (n := n + 6) 4 (pc' := 75) (L' := [some (.ref cM), some (.int a1), some (.int v6)]) (S' := [.int v6, .int a1, .ref cM]) rfl).trans ?_
        refine (fs_cn (n := n + 5) (N := nm_m173) (as := [.ref cM, .int a1, .int v6]) (rest := []) rfl rfl (Or.inl rfl) rfl rfl rfl rfl rfl).trans (fs_fn fun g7 r8 => ?_)
        refine (fs_r (n := n + 2) 3 (pc' := 81) (L' := [some (.ref cM), some (.int a1), some (.int v6)]) (S' := [.int v6, .int 0, .ref cM]) rfl).trans ?_
        refine (fs_cn (n := n + 1) (N := nm_m187) (as := [.ref cM, .int 0, .int v6]) (rest := []) rfl rfl (Or.inl rfl) rfl rfl rfl rfl rfl).trans (fs_fn fun g9 r10 => ?_)
        exact (fs_rv (n := n + 0) rfl rfl).trans rfl
      · skip
        refine (fs_r (n := n + 18) 4 (pc' := 45) (L' := [some (.ref cM), some (.int a1), none]) (S' := [.int (g1 fM_at), .int 3, .ref cM]) rfl).trans ?_
        refine (fs_cv (n := n + 17) (N := nm_m164) (as := [.ref cM, .int 3, .int (g1 fM_at)]) (rest := []) rfl rfl (Or.inl rfl) rfl rfl rfl rfl rfl).trans (fs_fv fun v13 g11 r12 => ?_)
        refine (fs_r (n := n + 16) 1 (pc' := 49) (L' := [some (.ref cM), some (.int a1), none]) (S' := []) rfl).trans ?_
        exact (fs_rv (n := n + 15) rfl rfl).trans rfl
    · skip
      refine (fs_r (n := n + 22) 4 (pc' := 25) (L' := [some (.ref cM), some (.int a1), none]) (S' := [.int (g1 fM_at), .int 1, .ref cM]) rfl).trans ?_
      refine (fs_cv (n := n + 21) (N := nm_m164) (as := [.ref cM, .int 1, .int (g1 fM_at)]) (rest := []) rfl rfl (Or.inl rfl) rfl rfl rfl rfl rfl).trans (fs_fv fun v16 g14 r15 => ?_)
      refine (fs_r (n := n + 20) 1 (pc' := 29) (L' := [some (.ref cM), some (.int a1), none]) (S' := []) rfl).trans ?_
      exact (fs_rv (n := n + 19) rfl rfl).trans rfl
  · skip
    exact (fs_rv (n := n + 30) rfl rfl).trans rfl
theorem qM_list (L : Nat) (xs : Nat → Int32) (m d : Nat) (a1 : Int32) (g : a2_G) (r : a2_A) : ev L xs (m + 1) (d + 1) nM_list [.ref cM, .int a1] g r = (if am_c2 .eq (g fM_bad) 0 = true then (fn_v (ev L xs (m + 1) d nM_begins [.ref cM, .int (g fM_at)] g r) fun v3 g1 r2 => (if am_c2 .ne v3 0 = true then (if am_c2 .ne (g1 fM_level) 40 = true then (fn_v (ev L xs (m + 1) d nM_make [.ref cM, .int 40, .int 0, .int (g1 fM_at)] (upd g1 fM_level ((g1 fM_level) + 1)) r2) fun v6 g4 r5 => (fn_n (ev L xs (m + 1) d nM_attach [.ref cM, .int a1, .int v6] g4 r5) fun g7 r8 => (fn_n (ev L xs (m + 1) d nM_pile [.ref cM, .int 0, .int v6] g7 r8) fun g9 r10 => (some (.inl none, g9, r10))))) else (fn_v (ev L xs (m + 1) d nM_fail [.ref cM, .int 3, .int (g1 fM_at)] g1 r2) fun v13 g11 r12 => (some (.inl none, g11, r12)))) else (fn_v (ev L xs (m + 1) d nM_fail [.ref cM, .int 1, .int (g1 fM_at)] g1 r2) fun v16 g14 r15 => (some (.inl none, g14, r15))))) else (some (.inl none, g, r))) := (fs_ev (M := nm_m192) rfl rfl).trans (eM_list L xs (m + 1) d m 866 a1 g r)
