/-! The equations of the methods, by wip/whole/gensh2.py -/
/-- CobolParser$Units.open(I)V -/
def B132_59 (L : Nat) (xs : Nat → Int32) (m d k : Nat) (x1 : Int32) (g : a2_G) (r : a2_A) : Option fn_Z := (some (.inl none, g, r))
theorem b132_59 (L : Nat) (xs : Nat → Int32) (m d k : Nat) (n : Nat) (x1 : Int32) (g : a2_G) (r : a2_A) : bk L xs 132 nm_m132 m d k (n + 1) 59 [some (.ref 8), some (.int x1)] [] g r = B132_59 L xs m d k x1 g r := by
  show _ = ((some (.inl none, g, r)) : Option fn_Z)
  exact (fs_rv (n := n + 0) rfl rfl).trans rfl
theorem e132 (L : Nat) (xs : Nat → Int32) (m d k : Nat) (n : Nat) (a1 : Int32) (g : a2_G) (r : a2_A) : bk L xs 132 nm_m132 m d k (n + 35) 0 [some (.ref 8), some (.int a1)] [] g r = (if am_c2 .ge (g 804) 10 = true then (B132_59 L xs m d k a1 g r) else (if am_inr (g 804) (r 800).1 = true then (if am_inr (g 804) (r 801).1 = true then (if am_inr (g 804) (r 802).1 = true then (if am_inr (g 804) (r 803).1 = true then (B132_59 L xs m d k a1 (upd g 804 ((g 804) + 1)) (a2_ua (a2_ua (a2_ua (a2_ua r 800 ((r 800).1, (upd (r 800).2 ((g 804) : Int32).toNatClampNeg 0))) 801 ((r 801).1, (upd (r 801).2 ((g 804) : Int32).toNatClampNeg 0))) 802 ((r 802).1, (upd (r 802).2 ((g 804) : Int32).toNatClampNeg (-1)))) 803 ((r 803).1, (upd (r 803).2 ((g 804) : Int32).toNatClampNeg a1)))) else none) else none) else none) else none)) := by
  refine (fs_r (n := n + 32) 3 (pc' := 6) (L' := [some (.ref 8), some (.int a1)]) (S' := [.int 10, .int (g 804)]) rfl).trans ?_
  refine (fs_j (n := n + 31) rfl (t := 59) rfl (by decide)).trans (fs_ite ?_ ?_)
  · skip
    exact b132_59 L xs m d k (n + 30) a1 g r
  · skip
    refine (fs_r (n := n + 26) 5 (pc' := 18) (L' := [some (.ref 8), some (.int a1)]) (S' := [.int 0, .int (g 804), .ref 10800]) rfl).trans ?_
    refine (fs_is (n := n + 25) (k := 800) rfl rfl).trans (fs_ite ?_ rfl)
    refine (fs_r (n := n + 20) 5 (pc' := 28) (L' := [some (.ref 8), some (.int a1)]) (S' := [.int 0, .int (g 804), .ref 10801]) rfl).trans ?_
    refine (fs_is (n := n + 19) (k := 801) rfl rfl).trans (fs_ite ?_ rfl)
    refine (fs_r (n := n + 14) 5 (pc' := 38) (L' := [some (.ref 8), some (.int a1)]) (S' := [.int (-1), .int (g 804), .ref 10802]) rfl).trans ?_
    refine (fs_is (n := n + 13) (k := 802) rfl rfl).trans (fs_ite ?_ rfl)
    refine (fs_r (n := n + 8) 5 (pc' := 48) (L' := [some (.ref 8), some (.int a1)]) (S' := [.int a1, .int (g 804), .ref 10803]) rfl).trans ?_
    refine (fs_is (n := n + 7) (k := 803) rfl rfl).trans (fs_ite ?_ rfl)
    refine (fs_r (n := n + 2) 5 (pc' := 56) (L' := [some (.ref 8), some (.int a1)]) (S' := [.int ((g 804) + 1), .ref 8]) rfl).trans ?_
    refine (fs_pf (n := n + 1) (ci := 8) (j := 4) rfl rfl rfl rfl).trans ?_
    exact b132_59 L xs m d k (n + 0) a1 (upd g 804 ((g 804) + 1)) (a2_ua (a2_ua (a2_ua (a2_ua r 800 ((r 800).1, (upd (r 800).2 ((g 804) : Int32).toNatClampNeg 0))) 801 ((r 801).1, (upd (r 801).2 ((g 804) : Int32).toNatClampNeg 0))) 802 ((r 802).1, (upd (r 802).2 ((g 804) : Int32).toNatClampNeg (-1)))) 803 ((r 803).1, (upd (r 803).2 ((g 804) : Int32).toNatClampNeg a1)))
theorem q132 (L : Nat) (xs : Nat → Int32) (m d : Nat) (a1 : Int32) (g : a2_G) (r : a2_A) : ev L xs (m + 1) (d + 1) 132 [.ref 8, .int a1] g r = (if am_c2 .ge (g 804) 10 = true then (B132_59 L xs (m + 1) d m a1 g r) else (if am_inr (g 804) (r 800).1 = true then (if am_inr (g 804) (r 801).1 = true then (if am_inr (g 804) (r 802).1 = true then (if am_inr (g 804) (r 803).1 = true then (B132_59 L xs (m + 1) d m a1 (upd g 804 ((g 804) + 1)) (a2_ua (a2_ua (a2_ua (a2_ua r 800 ((r 800).1, (upd (r 800).2 ((g 804) : Int32).toNatClampNeg 0))) 801 ((r 801).1, (upd (r 801).2 ((g 804) : Int32).toNatClampNeg 0))) 802 ((r 802).1, (upd (r 802).2 ((g 804) : Int32).toNatClampNeg (-1)))) 803 ((r 803).1, (upd (r 803).2 ((g 804) : Int32).toNatClampNeg a1)))) else none) else none) else none) else none)) := (fs_ev (M := nm_m132) rfl rfl).trans (e132 L xs (m + 1) d m 865 a1 g r)
/-- CobolParser$Clauses.unitName(I)V -/
theorem e133 (L : Nat) (xs : Nat → Int32) (m d k : Nat) (n : Nat) (a1 : Int32) (g : a2_G) (r : a2_A) : bk L xs 133 nm_m133 m d k (n + 39) 0 [some (.ref 6), some (.int a1), none] [] g r = (fn_n (ev L xs m d 61 [.ref 1] g r) fun g1 r2 => (fn_v (ev L xs m d 59 [.ref 1, .int 1] g1 r2) fun v5 g3 r4 => (fn_v (ev L xs m d 59 [.ref 1, .int 4] g3 r4) fun v8 g6 r7 => (fn_n (ev L xs m d 134 [.ref 8, .int a1, .int v5] g6 r7) fun g9 r10 => (fn_n (ev L xs m d 65 [.ref 8, .int 1] g9 r10) fun g11 r12 => (fn_v (ev L xs m d 130 [.ref 8] g11 r12) fun v15 g13 r14 => (fn_n (ev L xs m d 69 [.ref 2, .int v15, .int 0, .int a1] g13 r14) fun g16 r17 => (fn_v (ev L xs m d 130 [.ref 8] g16 r17) fun v20 g18 r19 => (fn_n (ev L xs m d 69 [.ref 2, .int v20, .int 1, .int v5] g18 r19) fun g21 r22 => (some (.inl none, g21, r22))))))))))) := by
  refine (fs_r (n := n + 37) 2 (pc' := 4) (L' := [some (.ref 6), some (.int a1), none]) (S' := [.ref 1]) rfl).trans ?_
  refine (fs_cn (n := n + 36) (N := nm_m61) (as := [.ref 1]) (rest := []) rfl rfl (Or.inl rfl) rfl rfl rfl rfl rfl).trans (fs_fn fun g1 r2 => ?_)
  refine (fs_r (n := n + 33) 3 (pc' := 12) (L' := [some (.ref 6), some (.int a1), none]) (S' := [.int 1, .ref 1]) rfl).trans ?_
  refine (fs_cv (n := n + 32) (N := nm_m59) (as := [.ref 1, .int 1]) (rest := []) rfl rfl (Or.inl rfl) rfl rfl rfl rfl rfl).trans (fs_fv fun v5 g3 r4 => ?_)
  refine (fs_r (n := n + 28) 4 (pc' := 21) (L' := [some (.ref 6), some (.int a1), some (.int v5)]) (S' := [.int 4, .ref 1]) rfl).trans ?_
  refine (fs_cv (n := n + 27) (N := nm_m59) (as := [.ref 1, .int 4]) (rest := []) rfl rfl (Or.inl rfl) rfl rfl rfl rfl rfl).trans (fs_fv fun v8 g6 r7 => ?_)
  refine (fs_r (n := n + 22) 5 (pc' := 31) (L' := [some (.ref 6), some (.int a1), some (.int v5)]) (S' := [.int v5, .int a1, .ref 8]) rfl).trans ?_
  refine (fs_cn (n := n + 21) (N := nm_m134) (as := [.ref 8, .int a1, .int v5]) (rest := []) rfl rfl (Or.inl rfl) rfl rfl rfl rfl rfl).trans (fs_fn fun g9 r10 => ?_)
  refine (fs_r (n := n + 18) 3 (pc' := 39) (L' := [some (.ref 6), some (.int a1), some (.int v5)]) (S' := [.int 1, .ref 8]) rfl).trans ?_
  refine (fs_cn (n := n + 17) (N := nm_m65) (as := [.ref 8, .int 1]) (rest := []) rfl rfl (Or.inl rfl) rfl rfl rfl rfl rfl).trans (fs_fn fun g11 r12 => ?_)
  refine (fs_r (n := n + 13) 4 (pc' := 50) (L' := [some (.ref 6), some (.int a1), some (.int v5)]) (S' := [.ref 8, .ref 2]) rfl).trans ?_
  refine (fs_cv (n := n + 12) (N := nm_m130) (as := [.ref 8]) (rest := [.ref 2]) rfl rfl (Or.inl rfl) rfl rfl rfl rfl rfl).trans (fs_fv fun v15 g13 r14 => ?_)
  refine (fs_r (n := n + 10) 2 (pc' := 55) (L' := [some (.ref 6), some (.int a1), some (.int v5)]) (S' := [.int a1, .int 0, .int v15, .ref 2]) rfl).trans ?_
  refine (fs_cn (n := n + 9) (N := nm_m69) (as := [.ref 2, .int v15, .int 0, .int a1]) (rest := []) rfl rfl (Or.inl rfl) rfl rfl rfl rfl rfl).trans (fs_fn fun g16 r17 => ?_)
  refine (fs_r (n := n + 5) 4 (pc' := 66) (L' := [some (.ref 6), some (.int a1), some (.int v5)]) (S' := [.ref 8, .ref 2]) rfl).trans ?_
  refine (fs_cv (n := n + 4) (N := nm_m130) (as := [.ref 8]) (rest := [.ref 2]) rfl rfl (Or.inl rfl) rfl rfl rfl rfl rfl).trans (fs_fv fun v20 g18 r19 => ?_)
  refine (fs_r (n := n + 2) 2 (pc' := 71) (L' := [some (.ref 6), some (.int a1), some (.int v5)]) (S' := [.int v5, .int 1, .int v20, .ref 2]) rfl).trans ?_
  refine (fs_cn (n := n + 1) (N := nm_m69) (as := [.ref 2, .int v20, .int 1, .int v5]) (rest := []) rfl rfl (Or.inl rfl) rfl rfl rfl rfl rfl).trans (fs_fn fun g21 r22 => ?_)
  exact (fs_rv (n := n + 0) rfl rfl).trans rfl
theorem q133 (L : Nat) (xs : Nat → Int32) (m d : Nat) (a1 : Int32) (g : a2_G) (r : a2_A) : ev L xs (m + 1) (d + 1) 133 [.ref 6, .int a1] g r = (fn_n (ev L xs (m + 1) d 61 [.ref 1] g r) fun g1 r2 => (fn_v (ev L xs (m + 1) d 59 [.ref 1, .int 1] g1 r2) fun v5 g3 r4 => (fn_v (ev L xs (m + 1) d 59 [.ref 1, .int 4] g3 r4) fun v8 g6 r7 => (fn_n (ev L xs (m + 1) d 134 [.ref 8, .int a1, .int v5] g6 r7) fun g9 r10 => (fn_n (ev L xs (m + 1) d 65 [.ref 8, .int 1] g9 r10) fun g11 r12 => (fn_v (ev L xs (m + 1) d 130 [.ref 8] g11 r12) fun v15 g13 r14 => (fn_n (ev L xs (m + 1) d 69 [.ref 2, .int v15, .int 0, .int a1] g13 r14) fun g16 r17 => (fn_v (ev L xs (m + 1) d 130 [.ref 8] g16 r17) fun v20 g18 r19 => (fn_n (ev L xs (m + 1) d 69 [.ref 2, .int v20, .int 1, .int v5] g18 r19) fun g21 r22 => (some (.inl none, g21, r22))))))))))) := (fs_ev (M := nm_m133) rfl rfl).trans (e133 L xs (m + 1) d m 861 a1 g r)
/-- CobolParser$Units.identify(II)V -/
def B134_31 (L : Nat) (xs : Nat → Int32) (m d k : Nat) (x1 x2 : Int32) (g : a2_G) (r : a2_A) : Option fn_Z := (some (.inl none, g, r))
theorem b134_31 (L : Nat) (xs : Nat → Int32) (m d k : Nat) (n : Nat) (x1 x2 : Int32) (g : a2_G) (r : a2_A) : bk L xs 134 nm_m134 m d k (n + 1) 31 [some (.ref 8), some (.int x1), some (.int x2)] [] g r = B134_31 L xs m d k x1 x2 g r := by
  show _ = ((some (.inl none, g, r)) : Option fn_Z)
  exact (fs_rv (n := n + 0) rfl rfl).trans rfl
theorem e134 (L : Nat) (xs : Nat → Int32) (m d k : Nat) (n : Nat) (a1 a2 : Int32) (g : a2_G) (r : a2_A) : bk L xs 134 nm_m134 m d k (n + 20) 0 [some (.ref 8), some (.int a1), some (.int a2)] [] g r = (if am_c2 .le (g 804) 0 = true then (B134_31 L xs m d k a1 a2 g r) else (if am_inr ((g 804) - 1) (r 801).1 = true then (if am_inr ((g 804) - 1) (r 802).1 = true then (B134_31 L xs m d k a1 a2 g (a2_ua (a2_ua r 801 ((r 801).1, (upd (r 801).2 (((g 804) - 1) : Int32).toNatClampNeg a1))) 802 ((r 802).1, (upd (r 802).2 (((g 804) - 1) : Int32).toNatClampNeg a2)))) else none) else none)) := by
  refine (fs_r (n := n + 18) 2 (pc' := 4) (L' := [some (.ref 8), some (.int a1), some (.int a2)]) (S' := [.int (g 804)]) rfl).trans ?_
  refine (fs_i (n := n + 17) rfl (t := 31) rfl (by decide)).trans (fs_ite ?_ ?_)
  · skip
    exact b134_31 L xs m d k (n + 16) a1 a2 g r
  · skip
    refine (fs_r (n := n + 10) 7 (pc' := 18) (L' := [some (.ref 8), some (.int a1), some (.int a2)]) (S' := [.int a1, .int ((g 804) - 1), .ref 10801]) rfl).trans ?_
    refine (fs_is (n := n + 9) (k := 801) rfl rfl).trans (fs_ite ?_ rfl)
    refine (fs_r (n := n + 2) 7 (pc' := 30) (L' := [some (.ref 8), some (.int a1), some (.int a2)]) (S' := [.int a2, .int ((g 804) - 1), .ref 10802]) rfl).trans ?_
    refine (fs_is (n := n + 1) (k := 802) rfl rfl).trans (fs_ite ?_ rfl)
    exact b134_31 L xs m d k (n + 0) a1 a2 g (a2_ua (a2_ua r 801 ((r 801).1, (upd (r 801).2 (((g 804) - 1) : Int32).toNatClampNeg a1))) 802 ((r 802).1, (upd (r 802).2 (((g 804) - 1) : Int32).toNatClampNeg a2)))
theorem q134 (L : Nat) (xs : Nat → Int32) (m d : Nat) (a1 a2 : Int32) (g : a2_G) (r : a2_A) : ev L xs (m + 1) (d + 1) 134 [.ref 8, .int a1, .int a2] g r = (if am_c2 .le (g 804) 0 = true then (B134_31 L xs (m + 1) d m a1 a2 g r) else (if am_inr ((g 804) - 1) (r 801).1 = true then (if am_inr ((g 804) - 1) (r 802).1 = true then (B134_31 L xs (m + 1) d m a1 a2 g (a2_ua (a2_ua r 801 ((r 801).1, (upd (r 801).2 (((g 804) - 1) : Int32).toNatClampNeg a1))) 802 ((r 802).1, (upd (r 802).2 (((g 804) - 1) : Int32).toNatClampNeg a2)))) else none) else none)) := (fs_ev (M := nm_m134) rfl rfl).trans (e134 L xs (m + 1) d m 880 a1 a2 g r)
/-- CobolParser$Clauses.select()V -/
def B135_124 (L : Nat) (xs : Nat → Int32) (m d k : Nat) (x1 : Int32) (g : a2_G) (r : a2_A) : Option fn_Z := (fn_v (ev L xs m d 59 [.ref 1, .int 4] g r) fun v34 g32 r33 => (fn_n (ev L xs m d 63 [.ref 2, .int (g32 606), .int x1] g32 r33) fun g35 r36 => (some (.inl none, g35, r36))))
theorem b135_124 (L : Nat) (xs : Nat → Int32) (m d k : Nat) (n : Nat) (x1 : Int32) (g : a2_G) (r : a2_A) : bk L xs 135 nm_m135 m d k (n + 12) 124 [some (.ref 6), some (.int x1)] [] g r = B135_124 L xs m d k x1 g r := by
  show _ = ((fn_v (ev L xs m d 59 [.ref 1, .int 4] g r) fun v34 g32 r33 => (fn_n (ev L xs m d 63 [.ref 2, .int (g32 606), .int x1] g32 r33) fun g35 r36 => (some (.inl none, g35, r36)))) : Option fn_Z)
  refine (fs_r (n := n + 9) 3 (pc' := 129) (L' := [some (.ref 6), some (.int x1)]) (S' := [.int 4, .ref 1]) rfl).trans ?_
  refine (fs_cv (n := n + 8) (N := nm_m59) (as := [.ref 1, .int 4]) (rest := []) rfl rfl (Or.inl rfl) rfl rfl rfl rfl rfl).trans (fs_fv fun v34 g32 r33 => ?_)
  refine (fs_r (n := n + 2) 6 (pc' := 142) (L' := [some (.ref 6), some (.int x1)]) (S' := [.int x1, .int (g32 606), .ref 2]) rfl).trans ?_
  refine (fs_cn (n := n + 1) (N := nm_m63) (as := [.ref 2, .int (g32 606), .int x1]) (rest := []) rfl rfl (Or.inl rfl) rfl rfl rfl rfl rfl).trans (fs_fn fun g35 r36 => ?_)
  exact (fs_rv (n := n + 0) rfl rfl).trans rfl
def B135_106 (L : Nat) (xs : Nat → Int32) (m d k : Nat) (x1 : Int32) (g : a2_G) (r : a2_A) : Option fn_Z := (fn_v (ev L xs m d 52 [.ref 1, .int 11, .int 0] g r) fun v31 g29 r30 => (if am_c2 .eq v31 0 = true then (B135_124 L xs m d k x1 g29 r30) else (fn_n (ev L xs m d 137 [.ref 6, .int x1] g29 r30) fun g37 r38 => (B135_124 L xs m d k x1 g37 r38))))
theorem b135_106 (L : Nat) (xs : Nat → Int32) (m d k : Nat) (n : Nat) (x1 : Int32) (g : a2_G) (r : a2_A) : bk L xs 135 nm_m135 m d k (n + 21) 106 [some (.ref 6), some (.int x1)] [] g r = B135_106 L xs m d k x1 g r := by
  show _ = ((fn_v (ev L xs m d 52 [.ref 1, .int 11, .int 0] g r) fun v31 g29 r30 => (if am_c2 .eq v31 0 = true then (B135_124 L xs m d k x1 g29 r30) else (fn_n (ev L xs m d 137 [.ref 6, .int x1] g29 r30) fun g37 r38 => (B135_124 L xs m d k x1 g37 r38)))) : Option fn_Z)
  refine (fs_r (n := n + 17) 4 (pc' := 113) (L' := [some (.ref 6), some (.int x1)]) (S' := [.int 0, .int 11, .ref 1]) rfl).trans ?_
  refine (fs_cv (n := n + 16) (N := nm_m52) (as := [.ref 1, .int 11, .int 0]) (rest := []) rfl rfl (Or.inl rfl) rfl rfl rfl rfl rfl).trans (fs_fv fun v31 g29 r30 => ?_)
  refine (fs_i (n := n + 15) rfl (t := 124) rfl (by decide)).trans (fs_ite ?_ ?_)
  · skip
    exact b135_124 L xs m d k (n + 3) x1 g29 r30
  · skip
    refine (fs_r (n := n + 13) 2 (pc' := 121) (L' := [some (.ref 6), some (.int x1)]) (S' := [.int x1, .ref 6]) rfl).trans ?_
    refine (fs_cn (n := n + 12) (N := nm_m137) (as := [.ref 6, .int x1]) (rest := []) rfl rfl (Or.inl rfl) rfl rfl rfl rfl rfl).trans (fs_fn fun g37 r38 => ?_)
    exact b135_124 L xs m d k (n + 0) x1 g37 r38
def B135_77 (L : Nat) (xs : Nat → Int32) (m d k : Nat) (x1 x2 : Int32) (g : a2_G) (r : a2_A) : Option fn_Z := (fn_n (ev L xs m d 55 [.ref 6, .int x2] g r) fun g22 r23 => (fn_n (ev L xs m d 91 [.ref 3, .int x1] g22 r23) fun g24 r25 => (fn_v (ev L xs m d 52 [.ref 1, .int 7, .int 0] g24 r25) fun v28 g26 r27 => (if am_c2 .eq v28 0 = true then (B135_106 L xs m d k x1 g26 r27) else (fn_n (ev L xs m d 136 [.ref 6, .int x1] g26 r27) fun g39 r40 => (B135_106 L xs m d k x1 g39 r40))))))
theorem b135_77 (L : Nat) (xs : Nat → Int32) (m d k : Nat) (n : Nat) (x1 x2 : Int32) (g : a2_G) (r : a2_A) : bk L xs 135 nm_m135 m d k (n + 35) 77 [some (.ref 6), some (.int x1)] [.int x2, .ref 6] g r = B135_77 L xs m d k x1 x2 g r := by
  show _ = ((fn_n (ev L xs m d 55 [.ref 6, .int x2] g r) fun g22 r23 => (fn_n (ev L xs m d 91 [.ref 3, .int x1] g22 r23) fun g24 r25 => (fn_v (ev L xs m d 52 [.ref 1, .int 7, .int 0] g24 r25) fun v28 g26 r27 => (if am_c2 .eq v28 0 = true then (B135_106 L xs m d k x1 g26 r27) else (fn_n (ev L xs m d 136 [.ref 6, .int x1] g26 r27) fun g39 r40 => (B135_106 L xs m d k x1 g39 r40)))))) : Option fn_Z)
  refine (fs_cn (n := n + 34) (N := nm_m55) (as := [.ref 6, .int x2]) (rest := []) rfl rfl (Or.inl rfl) rfl rfl rfl rfl rfl).trans (fs_fn fun g22 r23 => ?_)
  refine (fs_r (n := n + 31) 3 (pc' := 85) (L' := [some (.ref 6), some (.int x1)]) (S' := [.int x1, .ref 3]) rfl).trans ?_
  refine (fs_cn (n := n + 30) (N := nm_m91) (as := [.ref 3, .int x1]) (rest := []) rfl rfl (Or.inl rfl) rfl rfl rfl rfl rfl).trans (fs_fn fun g24 r25 => ?_)
  refine (fs_r (n := n + 26) 4 (pc' := 95) (L' := [some (.ref 6), some (.int x1)]) (S' := [.int 0, .int 7, .ref 1]) rfl).trans ?_
  refine (fs_cv (n := n + 25) (N := nm_m52) (as := [.ref 1, .int 7, .int 0]) (rest := []) rfl rfl (Or.inl rfl) rfl rfl rfl rfl rfl).trans (fs_fv fun v28 g26 r27 => ?_)
  refine (fs_i (n := n + 24) rfl (t := 106) rfl (by decide)).trans (fs_ite ?_ ?_)
  · skip
    exact b135_106 L xs m d k (n + 3) x1 g26 r27
  · skip
    refine (fs_r (n := n + 22) 2 (pc' := 103) (L' := [some (.ref 6), some (.int x1)]) (S' := [.int x1, .ref 6]) rfl).trans ?_
    refine (fs_cn (n := n + 21) (N := nm_m136) (as := [.ref 6, .int x1]) (rest := []) rfl rfl (Or.inl rfl) rfl rfl rfl rfl rfl).trans (fs_fn fun g39 r40 => ?_)
    exact b135_106 L xs m d k (n + 0) x1 g39 r40
theorem e135 (L : Nat) (xs : Nat → Int32) (m d k : Nat) (n : Nat) (g : a2_G) (r : a2_A) : bk L xs 135 nm_m135 m d k (n + 73) 0 [some (.ref 6), none] [] g r = (fn_v (ev L xs m d 58 [.ref 1] g r) fun v3 g1 r2 => (fn_v (ev L xs m d 45 [.ref 2, .int 4, .int 0, .int v3] g1 r2) fun v6 g4 r5 => (fn_n (ev L xs m d 61 [.ref 1] g4 r5) fun g7 r8 => (fn_v (ev L xs m d 59 [.ref 1, .int 1] g7 r8) fun v11 g9 r10 => (fn_n (ev L xs m d 69 [.ref 2, .int v6, .int 1, .int v11] g9 r10) fun g12 r13 => (fn_n (ev L xs m d 83 [.ref 1, .int 6] g12 r13) fun g14 r15 => (fn_v (ev L xs m d 62 [.ref 1, .int 48] g14 r15) fun v18 g16 r17 => (fn_v (ev L xs m d 50 [.ref 1, .int 2] g16 r17) fun v21 g19 r20 => (if am_c2 .ne v21 0 = true then (B135_77 L xs m d k v6 0 g19 r20) else (B135_77 L xs m d k v6 1 g19 r20)))))))))) := by
  refine (fs_r (n := n + 67) 6 (pc' := 10) (L' := [some (.ref 6), none]) (S' := [.ref 1, .int 0, .int 4, .ref 2]) rfl).trans ?_
  refine (fs_cv (n := n + 66) (N := nm_m58) (as := [.ref 1]) (rest := [.int 0, .int 4, .ref 2]) rfl rfl (Or.inl rfl) rfl rfl rfl rfl rfl).trans (fs_fv fun v3 g1 r2 => ?_)
  refine (fs_cv (n := n + 65) (N := nm_m45) (as := [.ref 2, .int 4, .int 0, .int v3]) (rest := []) rfl rfl (Or.inl rfl) rfl rfl rfl rfl rfl).trans (fs_fv fun v6 g4 r5 => ?_)
  refine (fs_r (n := n + 62) 3 (pc' := 21) (L' := [some (.ref 6), some (.int v6)]) (S' := [.ref 1]) rfl).trans ?_
  refine (fs_cn (n := n + 61) (N := nm_m61) (as := [.ref 1]) (rest := []) rfl rfl (Or.inl rfl) rfl rfl rfl rfl rfl).trans (fs_fn fun g7 r8 => ?_)
  refine (fs_r (n := n + 54) 7 (pc' := 35) (L' := [some (.ref 6), some (.int v6)]) (S' := [.int 1, .ref 1, .int 1, .int v6, .ref 2]) rfl).trans ?_
  refine (fs_cv (n := n + 53) (N := nm_m59) (as := [.ref 1, .int 1]) (rest := [.int 1, .int v6, .ref 2]) rfl rfl (Or.inl rfl) rfl rfl rfl rfl rfl).trans (fs_fv fun v11 g9 r10 => ?_)
  refine (fs_cn (n := n + 52) (N := nm_m69) (as := [.ref 2, .int v6, .int 1, .int v11]) (rest := []) rfl rfl (Or.inl rfl) rfl rfl rfl rfl rfl).trans (fs_fn fun g12 r13 => ?_)
  refine (fs_r (n := n + 49) 3 (pc' := 47) (L' := [some (.ref 6), some (.int v6)]) (S' := [.int 6, .ref 1]) rfl).trans ?_
  refine (fs_cn (n := n + 48) (N := nm_m83) (as := [.ref 1, .int 6]) (rest := []) rfl rfl (Or.inl rfl) rfl rfl rfl rfl rfl).trans (fs_fn fun g14 r15 => ?_)
  refine (fs_r (n := n + 45) 3 (pc' := 56) (L' := [some (.ref 6), some (.int v6)]) (S' := [.int 48, .ref 1]) rfl).trans ?_
  refine (fs_cv (n := n + 44) (N := nm_m62) (as := [.ref 1, .int 48]) (rest := []) rfl rfl (Or.inl rfl) rfl rfl rfl rfl rfl).trans (fs_fv fun v18 g16 r17 => ?_)
  refine (fs_r (n := n + 39) 5 (pc' := 66) (L' := [some (.ref 6), some (.int v6)]) (S' := [.int 2, .ref 1, .ref 6]) rfl).trans ?_
  refine (fs_cv (n := n + 38) (N := nm_m50) (as := [.ref 1, .int 2]) (rest := [.ref 6]) rfl rfl (Or.inl rfl) rfl rfl rfl rfl rfl).trans (fs_fv fun v21 g19 r20 => ?_)
  refine (fs_i (n := n + 37) rfl (t := 76) rfl (by decide)).trans (fs_ite ?_ ?_)
  · skip
    refine (fs_r (n := n + 36) 1 (pc' := 77) (L' := [some (.ref 6), some (.int v6)]) (S' := [.int 0, .ref 6]) rfl).trans ?_
    exact b135_77 L xs m d k (n + 1) v6 0 g19 r20
  · skip
    refine (fs_r (n := n + 36) 1 (pc' := 73) (L' := [some (.ref 6), some (.int v6)]) (S' := [.int 1, .ref 6]) rfl).trans ?_
    refine (fs_go (n := n + 35) rfl (t := 77) rfl (by decide)).trans ?_
    exact b135_77 L xs m d k (n + 0) v6 1 g19 r20
theorem q135 (L : Nat) (xs : Nat → Int32) (m d : Nat) (g : a2_G) (r : a2_A) : ev L xs (m + 1) (d + 1) 135 [.ref 6] g r = (fn_v (ev L xs (m + 1) d 58 [.ref 1] g r) fun v3 g1 r2 => (fn_v (ev L xs (m + 1) d 45 [.ref 2, .int 4, .int 0, .int v3] g1 r2) fun v6 g4 r5 => (fn_n (ev L xs (m + 1) d 61 [.ref 1] g4 r5) fun g7 r8 => (fn_v (ev L xs (m + 1) d 59 [.ref 1, .int 1] g7 r8) fun v11 g9 r10 => (fn_n (ev L xs (m + 1) d 69 [.ref 2, .int v6, .int 1, .int v11] g9 r10) fun g12 r13 => (fn_n (ev L xs (m + 1) d 83 [.ref 1, .int 6] g12 r13) fun g14 r15 => (fn_v (ev L xs (m + 1) d 62 [.ref 1, .int 48] g14 r15) fun v18 g16 r17 => (fn_v (ev L xs (m + 1) d 50 [.ref 1, .int 2] g16 r17) fun v21 g19 r20 => (if am_c2 .ne v21 0 = true then (B135_77 L xs (m + 1) d m v6 0 g19 r20) else (B135_77 L xs (m + 1) d m v6 1 g19 r20)))))))))) := (fs_ev (M := nm_m135) rfl rfl).trans (e135 L xs (m + 1) d m 827 g r)
/-- CobolParser$Clauses.organization(I)V -/
def B136_62 (L : Nat) (xs : Nat → Int32) (m d k : Nat) (x1 x2 x3 x4 : Int32) (g : a2_G) (r : a2_A) : Option fn_Z := (fn_n (ev L xs m d 55 [.ref 6, .int x4] g r) fun g15 r16 => (fn_n (ev L xs m d 61 [.ref 1] g15 r16) fun g17 r18 => (fn_v (ev L xs m d 45 [.ref 2, .int 5, .int x3, .int x2] g17 r18) fun v21 g19 r20 => (fn_n (ev L xs m d 63 [.ref 2, .int x1, .int v21] g19 r20) fun g22 r23 => (some (.inl none, g22, r23))))))
theorem b136_62 (L : Nat) (xs : Nat → Int32) (m d k : Nat) (n : Nat) (x1 x2 x3 x4 : Int32) (g : a2_G) (r : a2_A) : bk L xs 136 nm_m136 m d k (n + 15) 62 [some (.ref 6), some (.int x1), some (.int x2), some (.int x3)] [.int x4, .ref 6] g r = B136_62 L xs m d k x1 x2 x3 x4 g r := by
  show _ = ((fn_n (ev L xs m d 55 [.ref 6, .int x4] g r) fun g15 r16 => (fn_n (ev L xs m d 61 [.ref 1] g15 r16) fun g17 r18 => (fn_v (ev L xs m d 45 [.ref 2, .int 5, .int x3, .int x2] g17 r18) fun v21 g19 r20 => (fn_n (ev L xs m d 63 [.ref 2, .int x1, .int v21] g19 r20) fun g22 r23 => (some (.inl none, g22, r23)))))) : Option fn_Z)
  refine (fs_cn (n := n + 14) (N := nm_m55) (as := [.ref 6, .int x4]) (rest := []) rfl rfl (Or.inl rfl) rfl rfl rfl rfl rfl).trans (fs_fn fun g15 r16 => ?_)
  refine (fs_r (n := n + 12) 2 (pc' := 69) (L' := [some (.ref 6), some (.int x1), some (.int x2), some (.int x3)]) (S' := [.ref 1]) rfl).trans ?_
  refine (fs_cn (n := n + 11) (N := nm_m61) (as := [.ref 1]) (rest := []) rfl rfl (Or.inl rfl) rfl rfl rfl rfl rfl).trans (fs_fn fun g17 r18 => ?_)
  refine (fs_r (n := n + 3) 8 (pc' := 84) (L' := [some (.ref 6), some (.int x1), some (.int x2), some (.int x3)]) (S' := [.int x2, .int x3, .int 5, .ref 2, .int x1, .ref 2]) rfl).trans ?_
  refine (fs_cv (n := n + 2) (N := nm_m45) (as := [.ref 2, .int 5, .int x3, .int x2]) (rest := [.int x1, .ref 2]) rfl rfl (Or.inl rfl) rfl rfl rfl rfl rfl).trans (fs_fv fun v21 g19 r20 => ?_)
  refine (fs_cn (n := n + 1) (N := nm_m63) (as := [.ref 2, .int x1, .int v21]) (rest := []) rfl rfl (Or.inl rfl) rfl rfl rfl rfl rfl).trans (fs_fn fun g22 r23 => ?_)
  exact (fs_rv (n := n + 0) rfl rfl).trans rfl
def B136_61 (L : Nat) (xs : Nat → Int32) (m d k : Nat) (x1 x2 x3 : Int32) (g : a2_G) (r : a2_A) : Option fn_Z := (B136_62 L xs m d k x1 x2 x3 0 g r)
theorem b136_61 (L : Nat) (xs : Nat → Int32) (m d k : Nat) (n : Nat) (x1 x2 x3 : Int32) (g : a2_G) (r : a2_A) : bk L xs 136 nm_m136 m d k (n + 16) 61 [some (.ref 6), some (.int x1), some (.int x2), some (.int x3)] [.ref 6] g r = B136_61 L xs m d k x1 x2 x3 g r := by
  show _ = ((B136_62 L xs m d k x1 x2 x3 0 g r) : Option fn_Z)
  refine (fs_r (n := n + 15) 1 (pc' := 62) (L' := [some (.ref 6), some (.int x1), some (.int x2), some (.int x3)]) (S' := [.int 0, .ref 6]) rfl).trans ?_
  exact b136_62 L xs m d k (n + 0) x1 x2 x3 0 g r
theorem e136 (L : Nat) (xs : Nat → Int32) (m d k : Nat) (n : Nat) (a1 : Int32) (g : a2_G) (r : a2_A) : bk L xs 136 nm_m136 m d k (n + 46) 0 [some (.ref 6), some (.int a1), none, none] [] g r = (fn_v (ev L xs m d 58 [.ref 1] g r) fun v3 g1 r2 => (fn_n (ev L xs m d 61 [.ref 1] g1 r2) fun g4 r5 => (fn_v (ev L xs m d 62 [.ref 1, .int 67] g4 r5) fun v8 g6 r7 => (fn_v (ev L xs m d 60 [.ref 1] g6 r7) fun v11 g9 r10 => (fn_v (ev L xs m d 50 [.ref 1, .int 0] g9 r10) fun v14 g12 r13 => (if am_c2 .eq v14 0 = true then (B136_61 L xs m d k a1 v3 (v11 - 8) g12 r13) else (if am_c2 .lt (v11 - 8) 0 = true then (B136_61 L xs m d k a1 v3 (v11 - 8) g12 r13) else (if am_c2 .gt (v11 - 8) 2 = true then (B136_61 L xs m d k a1 v3 (v11 - 8) g12 r13) else (B136_62 L xs m d k a1 v3 (v11 - 8) 1 g12 r13))))))))) := by
  refine (fs_r (n := n + 44) 2 (pc' := 4) (L' := [some (.ref 6), some (.int a1), none, none]) (S' := [.ref 1]) rfl).trans ?_
  refine (fs_cv (n := n + 43) (N := nm_m58) (as := [.ref 1]) (rest := []) rfl rfl (Or.inl rfl) rfl rfl rfl rfl rfl).trans (fs_fv fun v3 g1 r2 => ?_)
  refine (fs_r (n := n + 40) 3 (pc' := 12) (L' := [some (.ref 6), some (.int a1), some (.int v3), none]) (S' := [.ref 1]) rfl).trans ?_
  refine (fs_cn (n := n + 39) (N := nm_m61) (as := [.ref 1]) (rest := []) rfl rfl (Or.inl rfl) rfl rfl rfl rfl rfl).trans (fs_fn fun g4 r5 => ?_)
  refine (fs_r (n := n + 36) 3 (pc' := 21) (L' := [some (.ref 6), some (.int a1), some (.int v3), none]) (S' := [.int 67, .ref 1]) rfl).trans ?_
  refine (fs_cv (n := n + 35) (N := nm_m62) (as := [.ref 1, .int 67]) (rest := []) rfl rfl (Or.inl rfl) rfl rfl rfl rfl rfl).trans (fs_fv fun v8 g6 r7 => ?_)
  refine (fs_r (n := n + 32) 3 (pc' := 29) (L' := [some (.ref 6), some (.int a1), some (.int v3), none]) (S' := [.ref 1]) rfl).trans ?_
  refine (fs_cv (n := n + 31) (N := nm_m60) (as := [.ref 1]) (rest := []) rfl rfl (Or.inl rfl) rfl rfl rfl rfl rfl).trans (fs_fv fun v11 g9 r10 => ?_)
  refine (fs_r (n := n + 24) 7 (pc' := 42) (L' := [some (.ref 6), some (.int a1), some (.int v3), some (.int (v11 - 8))]) (S' := [.int 0, .ref 1, .ref 6]) rfl).trans ?_
  refine (fs_cv (n := n + 23) (N := nm_m50) (as := [.ref 1, .int 0]) (rest := [.ref 6]) rfl rfl (Or.inl rfl) rfl rfl rfl rfl rfl).trans (fs_fv fun v14 g12 r13 => ?_)
  refine (fs_i (n := n + 22) rfl (t := 61) rfl (by decide)).trans (fs_ite ?_ ?_)
  · skip
    exact b136_61 L xs m d k (n + 6) a1 v3 (v11 - 8) g12 r13
  · skip
    refine (fs_r (n := n + 21) 1 (pc' := 49) (L' := [some (.ref 6), some (.int a1), some (.int v3), some (.int (v11 - 8))]) (S' := [.int (v11 - 8), .ref 6]) rfl).trans ?_
    refine (fs_i (n := n + 20) rfl (t := 61) rfl (by decide)).trans (fs_ite ?_ ?_)
    · skip
      exact b136_61 L xs m d k (n + 4) a1 v3 (v11 - 8) g12 r13
    · skip
      refine (fs_r (n := n + 18) 2 (pc' := 54) (L' := [some (.ref 6), some (.int a1), some (.int v3), some (.int (v11 - 8))]) (S' := [.int 2, .int (v11 - 8), .ref 6]) rfl).trans ?_
      refine (fs_j (n := n + 17) rfl (t := 61) rfl (by decide)).trans (fs_ite ?_ ?_)
      · skip
        exact b136_61 L xs m d k (n + 1) a1 v3 (v11 - 8) g12 r13
      · skip
        refine (fs_r (n := n + 16) 1 (pc' := 58) (L' := [some (.ref 6), some (.int a1), some (.int v3), some (.int (v11 - 8))]) (S' := [.int 1, .ref 6]) rfl).trans ?_
        refine (fs_go (n := n + 15) rfl (t := 62) rfl (by decide)).trans ?_
        exact b136_62 L xs m d k (n + 0) a1 v3 (v11 - 8) 1 g12 r13
theorem q136 (L : Nat) (xs : Nat → Int32) (m d : Nat) (a1 : Int32) (g : a2_G) (r : a2_A) : ev L xs (m + 1) (d + 1) 136 [.ref 6, .int a1] g r = (fn_v (ev L xs (m + 1) d 58 [.ref 1] g r) fun v3 g1 r2 => (fn_n (ev L xs (m + 1) d 61 [.ref 1] g1 r2) fun g4 r5 => (fn_v (ev L xs (m + 1) d 62 [.ref 1, .int 67] g4 r5) fun v8 g6 r7 => (fn_v (ev L xs (m + 1) d 60 [.ref 1] g6 r7) fun v11 g9 r10 => (fn_v (ev L xs (m + 1) d 50 [.ref 1, .int 0] g9 r10) fun v14 g12 r13 => (if am_c2 .eq v14 0 = true then (B136_61 L xs (m + 1) d m a1 v3 (v11 - 8) g12 r13) else (if am_c2 .lt (v11 - 8) 0 = true then (B136_61 L xs (m + 1) d m a1 v3 (v11 - 8) g12 r13) else (if am_c2 .gt (v11 - 8) 2 = true then (B136_61 L xs (m + 1) d m a1 v3 (v11 - 8) g12 r13) else (B136_62 L xs (m + 1) d m a1 v3 (v11 - 8) 1 g12 r13))))))))) := (fs_ev (M := nm_m136) rfl rfl).trans (e136 L xs (m + 1) d m 854 a1 g r)
/-- CobolParser$Clauses.key(I)V -/
theorem e137 (L : Nat) (xs : Nat → Int32) (m d k : Nat) (n : Nat) (a1 : Int32) (g : a2_G) (r : a2_A) : bk L xs 137 nm_m137 m d k (n + 26) 0 [some (.ref 6), some (.int a1), none] [] g r = (fn_v (ev L xs m d 58 [.ref 1] g r) fun v3 g1 r2 => (fn_n (ev L xs m d 61 [.ref 1] g1 r2) fun g4 r5 => (fn_v (ev L xs m d 62 [.ref 1, .int 67] g4 r5) fun v8 g6 r7 => (fn_v (ev L xs m d 59 [.ref 1, .int 1] g6 r7) fun v11 g9 r10 => (fn_v (ev L xs m d 45 [.ref 2, .int 6, .int v11, .int v3] g9 r10) fun v14 g12 r13 => (fn_n (ev L xs m d 63 [.ref 2, .int a1, .int v14] g12 r13) fun g15 r16 => (some (.inl none, g15, r16)))))))) := by
  refine (fs_r (n := n + 24) 2 (pc' := 4) (L' := [some (.ref 6), some (.int a1), none]) (S' := [.ref 1]) rfl).trans ?_
  refine (fs_cv (n := n + 23) (N := nm_m58) (as := [.ref 1]) (rest := []) rfl rfl (Or.inl rfl) rfl rfl rfl rfl rfl).trans (fs_fv fun v3 g1 r2 => ?_)
  refine (fs_r (n := n + 20) 3 (pc' := 12) (L' := [some (.ref 6), some (.int a1), some (.int v3)]) (S' := [.ref 1]) rfl).trans ?_
  refine (fs_cn (n := n + 19) (N := nm_m61) (as := [.ref 1]) (rest := []) rfl rfl (Or.inl rfl) rfl rfl rfl rfl rfl).trans (fs_fn fun g4 r5 => ?_)
  refine (fs_r (n := n + 16) 3 (pc' := 21) (L' := [some (.ref 6), some (.int a1), some (.int v3)]) (S' := [.int 67, .ref 1]) rfl).trans ?_
  refine (fs_cv (n := n + 15) (N := nm_m62) (as := [.ref 1, .int 67]) (rest := []) rfl rfl (Or.inl rfl) rfl rfl rfl rfl rfl).trans (fs_fv fun v8 g6 r7 => ?_)
  refine (fs_r (n := n + 5) 10 (pc' := 41) (L' := [some (.ref 6), some (.int a1), some (.int v3)]) (S' := [.int 1, .ref 1, .int 6, .ref 2, .int a1, .ref 2]) rfl).trans ?_
  refine (fs_cv (n := n + 4) (N := nm_m59) (as := [.ref 1, .int 1]) (rest := [.int 6, .ref 2, .int a1, .ref 2]) rfl rfl (Or.inl rfl) rfl rfl rfl rfl rfl).trans (fs_fv fun v11 g9 r10 => ?_)
  refine (fs_r (n := n + 3) 1 (pc' := 45) (L' := [some (.ref 6), some (.int a1), some (.int v3)]) (S' := [.int v3, .int v11, .int 6, .ref 2, .int a1, .ref 2]) rfl).trans ?_
  refine (fs_cv (n := n + 2) (N := nm_m45) (as := [.ref 2, .int 6, .int v11, .int v3]) (rest := [.int a1, .ref 2]) rfl rfl (Or.inl rfl) rfl rfl rfl rfl rfl).trans (fs_fv fun v14 g12 r13 => ?_)
  refine (fs_cn (n := n + 1) (N := nm_m63) (as := [.ref 2, .int a1, .int v14]) (rest := []) rfl rfl (Or.inl rfl) rfl rfl rfl rfl rfl).trans (fs_fn fun g15 r16 => ?_)
  exact (fs_rv (n := n + 0) rfl rfl).trans rfl
theorem q137 (L : Nat) (xs : Nat → Int32) (m d : Nat) (a1 : Int32) (g : a2_G) (r : a2_A) : ev L xs (m + 1) (d + 1) 137 [.ref 6, .int a1] g r = (fn_v (ev L xs (m + 1) d 58 [.ref 1] g r) fun v3 g1 r2 => (fn_n (ev L xs (m + 1) d 61 [.ref 1] g1 r2) fun g4 r5 => (fn_v (ev L xs (m + 1) d 62 [.ref 1, .int 67] g4 r5) fun v8 g6 r7 => (fn_v (ev L xs (m + 1) d 59 [.ref 1, .int 1] g6 r7) fun v11 g9 r10 => (fn_v (ev L xs (m + 1) d 45 [.ref 2, .int 6, .int v11, .int v3] g9 r10) fun v14 g12 r13 => (fn_n (ev L xs (m + 1) d 63 [.ref 2, .int a1, .int v14] g12 r13) fun g15 r16 => (some (.inl none, g15, r16)))))))) := (fs_ev (M := nm_m137) rfl rfl).trans (e137 L xs (m + 1) d m 874 a1 g r)
/-- CobolParser$Clauses.procedure()V -/
def B138_55 (L : Nat) (xs : Nat → Int32) (m d k : Nat) (x1 : Int32) (g : a2_G) (r : a2_A) : Option fn_Z := (fn_v (ev L xs m d 59 [.ref 1, .int 4] g r) fun v16 g14 r15 => (fn_v (ev L xs m d 130 [.ref 8] g14 r15) fun v19 g17 r18 => (fn_n (ev L xs m d 63 [.ref 2, .int v19, .int x1] g17 r18) fun g20 r21 => (fn_n (ev L xs m d 65 [.ref 8, .int 8] (upd (upd (upd g20 606 x1) 608 (-1)) 609 (-1)) r21) fun g22 r23 => (some (.inl none, g22, r23))))))
theorem b138_55 (L : Nat) (xs : Nat → Int32) (m d k : Nat) (n : Nat) (x1 : Int32) (g : a2_G) (r : a2_A) : bk L xs 138 nm_m138 m d k (n + 26) 55 [some (.ref 6), some (.int x1)] [] g r = B138_55 L xs m d k x1 g r := by
  show _ = ((fn_v (ev L xs m d 59 [.ref 1, .int 4] g r) fun v16 g14 r15 => (fn_v (ev L xs m d 130 [.ref 8] g14 r15) fun v19 g17 r18 => (fn_n (ev L xs m d 63 [.ref 2, .int v19, .int x1] g17 r18) fun g20 r21 => (fn_n (ev L xs m d 65 [.ref 8, .int 8] (upd (upd (upd g20 606 x1) 608 (-1)) 609 (-1)) r21) fun g22 r23 => (some (.inl none, g22, r23)))))) : Option fn_Z)
  refine (fs_r (n := n + 23) 3 (pc' := 60) (L' := [some (.ref 6), some (.int x1)]) (S' := [.int 4, .ref 1]) rfl).trans ?_
  refine (fs_cv (n := n + 22) (N := nm_m59) (as := [.ref 1, .int 4]) (rest := []) rfl rfl (Or.inl rfl) rfl rfl rfl rfl rfl).trans (fs_fv fun v16 g14 r15 => ?_)
  refine (fs_r (n := n + 17) 5 (pc' := 72) (L' := [some (.ref 6), some (.int x1)]) (S' := [.ref 8, .ref 2]) rfl).trans ?_
  refine (fs_cv (n := n + 16) (N := nm_m130) (as := [.ref 8]) (rest := [.ref 2]) rfl rfl (Or.inl rfl) rfl rfl rfl rfl rfl).trans (fs_fv fun v19 g17 r18 => ?_)
  refine (fs_r (n := n + 15) 1 (pc' := 76) (L' := [some (.ref 6), some (.int x1)]) (S' := [.int x1, .int v19, .ref 2]) rfl).trans ?_
  refine (fs_cn (n := n + 14) (N := nm_m63) (as := [.ref 2, .int v19, .int x1]) (rest := []) rfl rfl (Or.inl rfl) rfl rfl rfl rfl rfl).trans (fs_fn fun g20 r21 => ?_)
  refine (fs_r (n := n + 12) 2 (pc' := 81) (L' := [some (.ref 6), some (.int x1)]) (S' := [.int x1, .ref 6]) rfl).trans ?_
  refine (fs_pf (n := n + 11) (ci := 6) (j := 6) rfl rfl rfl rfl).trans ?_
  refine (fs_r (n := n + 9) 2 (pc' := 86) (L' := [some (.ref 6), some (.int x1)]) (S' := [.int (-1), .ref 6]) rfl).trans ?_
  refine (fs_pf (n := n + 8) (ci := 6) (j := 8) rfl rfl rfl rfl).trans ?_
  refine (fs_r (n := n + 6) 2 (pc' := 91) (L' := [some (.ref 6), some (.int x1)]) (S' := [.int (-1), .ref 6]) rfl).trans ?_
  refine (fs_pf (n := n + 5) (ci := 6) (j := 9) rfl rfl rfl rfl).trans ?_
  refine (fs_r (n := n + 2) 3 (pc' := 100) (L' := [some (.ref 6), some (.int x1)]) (S' := [.int 8, .ref 8]) rfl).trans ?_
  refine (fs_cn (n := n + 1) (N := nm_m65) (as := [.ref 8, .int 8]) (rest := []) rfl rfl (Or.inl rfl) rfl rfl rfl rfl rfl).trans (fs_fn fun g22 r23 => ?_)
  exact (fs_rv (n := n + 0) rfl rfl).trans rfl
theorem e138 (L : Nat) (xs : Nat → Int32) (m d k : Nat) (n : Nat) (g : a2_G) (r : a2_A) : bk L xs 138 nm_m138 m d k (n + 52) 0 [some (.ref 6), none] [] g r = (fn_v (ev L xs m d 58 [.ref 1] g r) fun v3 g1 r2 => (fn_v (ev L xs m d 45 [.ref 2, .int 20, .int 0, .int v3] g1 r2) fun v6 g4 r5 => (fn_n (ev L xs m d 61 [.ref 1] g4 r5) fun g7 r8 => (fn_n (ev L xs m d 83 [.ref 1, .int 1] g7 r8) fun g9 r10 => (fn_v (ev L xs m d 62 [.ref 1, .int 31] g9 r10) fun v13 g11 r12 => (if am_c2 .eq v13 0 = true then (B138_55 L xs m d k v6 g11 r12) else (fn_n (ev L xs m d 80 [.ref 3, .int v6, .int 21] g11 r12) fun g24 r25 => (B138_55 L xs m d k v6 g24 r25)))))))) := by
  refine (fs_r (n := n + 46) 6 (pc' := 11) (L' := [some (.ref 6), none]) (S' := [.ref 1, .int 0, .int 20, .ref 2]) rfl).trans ?_
  refine (fs_cv (n := n + 45) (N := nm_m58) (as := [.ref 1]) (rest := [.int 0, .int 20, .ref 2]) rfl rfl (Or.inl rfl) rfl rfl rfl rfl rfl).trans (fs_fv fun v3 g1 r2 => ?_)
  refine (fs_cv (n := n + 44) (N := nm_m45) (as := [.ref 2, .int 20, .int 0, .int v3]) (rest := []) rfl rfl (Or.inl rfl) rfl rfl rfl rfl rfl).trans (fs_fv fun v6 g4 r5 => ?_)
  refine (fs_r (n := n + 41) 3 (pc' := 22) (L' := [some (.ref 6), some (.int v6)]) (S' := [.ref 1]) rfl).trans ?_
  refine (fs_cn (n := n + 40) (N := nm_m61) (as := [.ref 1]) (rest := []) rfl rfl (Or.inl rfl) rfl rfl rfl rfl rfl).trans (fs_fn fun g7 r8 => ?_)
  refine (fs_r (n := n + 37) 3 (pc' := 30) (L' := [some (.ref 6), some (.int v6)]) (S' := [.int 1, .ref 1]) rfl).trans ?_
  refine (fs_cn (n := n + 36) (N := nm_m83) (as := [.ref 1, .int 1]) (rest := []) rfl rfl (Or.inl rfl) rfl rfl rfl rfl rfl).trans (fs_fn fun g9 r10 => ?_)
  refine (fs_r (n := n + 33) 3 (pc' := 39) (L' := [some (.ref 6), some (.int v6)]) (S' := [.int 31, .ref 1]) rfl).trans ?_
  refine (fs_cv (n := n + 32) (N := nm_m62) (as := [.ref 1, .int 31]) (rest := []) rfl rfl (Or.inl rfl) rfl rfl rfl rfl rfl).trans (fs_fv fun v13 g11 r12 => ?_)
  refine (fs_i (n := n + 31) rfl (t := 55) rfl (by decide)).trans (fs_ite ?_ ?_)
  · skip
    exact b138_55 L xs m d k (n + 5) v6 g11 r12
  · skip
    refine (fs_r (n := n + 27) 4 (pc' := 52) (L' := [some (.ref 6), some (.int v6)]) (S' := [.int 21, .int v6, .ref 3]) rfl).trans ?_
    refine (fs_cn (n := n + 26) (N := nm_m80) (as := [.ref 3, .int v6, .int 21]) (rest := []) rfl rfl (Or.inl rfl) rfl rfl rfl rfl rfl).trans (fs_fn fun g24 r25 => ?_)
    exact b138_55 L xs m d k (n + 0) v6 g24 r25
theorem q138 (L : Nat) (xs : Nat → Int32) (m d : Nat) (g : a2_G) (r : a2_A) : ev L xs (m + 1) (d + 1) 138 [.ref 6] g r = (fn_v (ev L xs (m + 1) d 58 [.ref 1] g r) fun v3 g1 r2 => (fn_v (ev L xs (m + 1) d 45 [.ref 2, .int 20, .int 0, .int v3] g1 r2) fun v6 g4 r5 => (fn_n (ev L xs (m + 1) d 61 [.ref 1] g4 r5) fun g7 r8 => (fn_n (ev L xs (m + 1) d 83 [.ref 1, .int 1] g7 r8) fun g9 r10 => (fn_v (ev L xs (m + 1) d 62 [.ref 1, .int 31] g9 r10) fun v13 g11 r12 => (if am_c2 .eq v13 0 = true then (B138_55 L xs (m + 1) d m v6 g11 r12) else (fn_n (ev L xs (m + 1) d 80 [.ref 3, .int v6, .int 21] g11 r12) fun g24 r25 => (B138_55 L xs (m + 1) d m v6 g24 r25)))))))) := (fs_ev (M := nm_m138) rfl rfl).trans (e138 L xs (m + 1) d m 848 g r)
/-- CobolParser$Clauses.beginDeclaratives()V -/
theorem e139 (L : Nat) (xs : Nat → Int32) (m d k : Nat) (n : Nat) (g : a2_G) (r : a2_A) : bk L xs 139 nm_m139 m d k (n + 31) 0 [some (.ref 6), none] [] g r = (fn_v (ev L xs m d 58 [.ref 1] g r) fun v3 g1 r2 => (fn_v (ev L xs m d 45 [.ref 2, .int 22, .int 0, .int v3] g1 r2) fun v6 g4 r5 => (fn_n (ev L xs m d 61 [.ref 1] g4 r5) fun g7 r8 => (fn_v (ev L xs m d 59 [.ref 1, .int 4] g7 r8) fun v11 g9 r10 => (fn_n (ev L xs m d 63 [.ref 2, .int (g9 606), .int v6] g9 r10) fun g12 r13 => (fn_n (ev L xs m d 65 [.ref 8, .int 9] (upd g12 607 v6) r13) fun g14 r15 => (some (.inl none, g14, r15)))))))) := by
  refine (fs_r (n := n + 25) 6 (pc' := 11) (L' := [some (.ref 6), none]) (S' := [.ref 1, .int 0, .int 22, .ref 2]) rfl).trans ?_
  refine (fs_cv (n := n + 24) (N := nm_m58) (as := [.ref 1]) (rest := [.int 0, .int 22, .ref 2]) rfl rfl (Or.inl rfl) rfl rfl rfl rfl rfl).trans (fs_fv fun v3 g1 r2 => ?_)
  refine (fs_cv (n := n + 23) (N := nm_m45) (as := [.ref 2, .int 22, .int 0, .int v3]) (rest := []) rfl rfl (Or.inl rfl) rfl rfl rfl rfl rfl).trans (fs_fv fun v6 g4 r5 => ?_)
  refine (fs_r (n := n + 20) 3 (pc' := 22) (L' := [some (.ref 6), some (.int v6)]) (S' := [.ref 1]) rfl).trans ?_
  refine (fs_cn (n := n + 19) (N := nm_m61) (as := [.ref 1]) (rest := []) rfl rfl (Or.inl rfl) rfl rfl rfl rfl rfl).trans (fs_fn fun g7 r8 => ?_)
  refine (fs_r (n := n + 16) 3 (pc' := 30) (L' := [some (.ref 6), some (.int v6)]) (S' := [.int 4, .ref 1]) rfl).trans ?_
  refine (fs_cv (n := n + 15) (N := nm_m59) (as := [.ref 1, .int 4]) (rest := []) rfl rfl (Or.inl rfl) rfl rfl rfl rfl rfl).trans (fs_fv fun v11 g9 r10 => ?_)
  refine (fs_r (n := n + 9) 6 (pc' := 43) (L' := [some (.ref 6), some (.int v6)]) (S' := [.int v6, .int (g9 606), .ref 2]) rfl).trans ?_
  refine (fs_cn (n := n + 8) (N := nm_m63) (as := [.ref 2, .int (g9 606), .int v6]) (rest := []) rfl rfl (Or.inl rfl) rfl rfl rfl rfl rfl).trans (fs_fn fun g12 r13 => ?_)
  refine (fs_r (n := n + 6) 2 (pc' := 48) (L' := [some (.ref 6), some (.int v6)]) (S' := [.int v6, .ref 6]) rfl).trans ?_
  refine (fs_pf (n := n + 5) (ci := 6) (j := 7) rfl rfl rfl rfl).trans ?_
  refine (fs_r (n := n + 2) 3 (pc' := 57) (L' := [some (.ref 6), some (.int v6)]) (S' := [.int 9, .ref 8]) rfl).trans ?_
  refine (fs_cn (n := n + 1) (N := nm_m65) (as := [.ref 8, .int 9]) (rest := []) rfl rfl (Or.inl rfl) rfl rfl rfl rfl rfl).trans (fs_fn fun g14 r15 => ?_)
  exact (fs_rv (n := n + 0) rfl rfl).trans rfl
theorem q139 (L : Nat) (xs : Nat → Int32) (m d : Nat) (g : a2_G) (r : a2_A) : ev L xs (m + 1) (d + 1) 139 [.ref 6] g r = (fn_v (ev L xs (m + 1) d 58 [.ref 1] g r) fun v3 g1 r2 => (fn_v (ev L xs (m + 1) d 45 [.ref 2, .int 22, .int 0, .int v3] g1 r2) fun v6 g4 r5 => (fn_n (ev L xs (m + 1) d 61 [.ref 1] g4 r5) fun g7 r8 => (fn_v (ev L xs (m + 1) d 59 [.ref 1, .int 4] g7 r8) fun v11 g9 r10 => (fn_n (ev L xs (m + 1) d 63 [.ref 2, .int (g9 606), .int v6] g9 r10) fun g12 r13 => (fn_n (ev L xs (m + 1) d 65 [.ref 8, .int 9] (upd g12 607 v6) r13) fun g14 r15 => (some (.inl none, g14, r15)))))))) := (fs_ev (M := nm_m139) rfl rfl).trans (e139 L xs (m + 1) d m 869 g r)
/-- CobolParser$Clauses.endSomething()V -/
def B140_104 (L : Nat) (xs : Nat → Int32) (m d k : Nat) (g : a2_G) (r : a2_A) : Option fn_Z := (some (.inl none, g, r))
theorem b140_104 (L : Nat) (xs : Nat → Int32) (m d k : Nat) (n : Nat) (g : a2_G) (r : a2_A) : bk L xs 140 nm_m140 m d k (n + 1) 104 [some (.ref 6)] [] g r = B140_104 L xs m d k g r := by
  show _ = ((some (.inl none, g, r)) : Option fn_Z)
  exact (fs_rv (n := n + 0) rfl rfl).trans rfl
def B140_54 (L : Nat) (xs : Nat → Int32) (m d k : Nat) (g : a2_G) (r : a2_A) : Option fn_Z := (fn_v (ev L xs m d 128 [.ref 6] g r) fun v9 g7 r8 => (fn_n (ev L xs m d 55 [.ref 6, .int v9] g7 r8) fun g10 r11 => (fn_n (ev L xs m d 142 [.ref 6] g10 r11) fun g12 r13 => (B140_104 L xs m d k g12 r13))))
theorem b140_54 (L : Nat) (xs : Nat → Int32) (m d k : Nat) (n : Nat) (g : a2_G) (r : a2_A) : bk L xs 140 nm_m140 m d k (n + 8) 54 [some (.ref 6)] [] g r = B140_54 L xs m d k g r := by
  show _ = ((fn_v (ev L xs m d 128 [.ref 6] g r) fun v9 g7 r8 => (fn_n (ev L xs m d 55 [.ref 6, .int v9] g7 r8) fun g10 r11 => (fn_n (ev L xs m d 142 [.ref 6] g10 r11) fun g12 r13 => (B140_104 L xs m d k g12 r13)))) : Option fn_Z)
  refine (fs_r (n := n + 6) 2 (pc' := 56) (L' := [some (.ref 6)]) (S' := [.ref 6, .ref 6]) rfl).trans ?_
  refine (fs_cv (n := n + 5) (N := nm_m128) (as := [.ref 6]) (rest := [.ref 6]) rfl rfl (Or.inl rfl) rfl rfl rfl rfl rfl).trans (fs_fv fun v9 g7 r8 => ?_)
  refine (fs_cn (n := n + 4) (N := nm_m55) (as := [.ref 6, .int v9]) (rest := []) rfl rfl (Or.inl rfl) rfl rfl rfl rfl rfl).trans (fs_fn fun g10 r11 => ?_)
  refine (fs_r (n := n + 3) 1 (pc' := 63) (L' := [some (.ref 6)]) (S' := [.ref 6]) rfl).trans ?_
  refine (fs_cn (n := n + 2) (N := nm_m142) (as := [.ref 6]) (rest := []) rfl rfl (Or.inl rfl) rfl rfl rfl rfl rfl).trans (fs_fn fun g12 r13 => ?_)
  refine (fs_go (n := n + 1) rfl (t := 104) rfl (by decide)).trans ?_
  exact b140_104 L xs m d k (n + 0) g12 r13
def B140_86 (L : Nat) (xs : Nat → Int32) (m d k : Nat) (x1 : Int32) (g : a2_G) (r : a2_A) : Option fn_Z := (fn_n (ev L xs m d 55 [.ref 6, .int x1] g r) fun g20 r21 => (fn_n (ev L xs m d 61 [.ref 1] g20 r21) fun g22 r23 => (fn_n (ev L xs m d 56 [.ref 1, .int 1] g22 r23) fun g24 r25 => (B140_104 L xs m d k g24 r25))))
theorem b140_86 (L : Nat) (xs : Nat → Int32) (m d k : Nat) (n : Nat) (x1 : Int32) (g : a2_G) (r : a2_A) : bk L xs 140 nm_m140 m d k (n + 9) 86 [some (.ref 6)] [.int x1, .ref 6] g r = B140_86 L xs m d k x1 g r := by
  show _ = ((fn_n (ev L xs m d 55 [.ref 6, .int x1] g r) fun g20 r21 => (fn_n (ev L xs m d 61 [.ref 1] g20 r21) fun g22 r23 => (fn_n (ev L xs m d 56 [.ref 1, .int 1] g22 r23) fun g24 r25 => (B140_104 L xs m d k g24 r25)))) : Option fn_Z)
  refine (fs_cn (n := n + 8) (N := nm_m55) (as := [.ref 6, .int x1]) (rest := []) rfl rfl (Or.inl rfl) rfl rfl rfl rfl rfl).trans (fs_fn fun g20 r21 => ?_)
  refine (fs_r (n := n + 6) 2 (pc' := 93) (L' := [some (.ref 6)]) (S' := [.ref 1]) rfl).trans ?_
  refine (fs_cn (n := n + 5) (N := nm_m61) (as := [.ref 1]) (rest := []) rfl rfl (Or.inl rfl) rfl rfl rfl rfl rfl).trans (fs_fn fun g22 r23 => ?_)
  refine (fs_r (n := n + 2) 3 (pc' := 101) (L' := [some (.ref 6)]) (S' := [.int 1, .ref 1]) rfl).trans ?_
  refine (fs_cn (n := n + 1) (N := nm_m56) (as := [.ref 1, .int 1]) (rest := []) rfl rfl (Or.inl rfl) rfl rfl rfl rfl rfl).trans (fs_fn fun g24 r25 => ?_)
  exact b140_104 L xs m d k (n + 0) g24 r25
theorem e140 (L : Nat) (xs : Nat → Int32) (m d k : Nat) (n : Nat) (g : a2_G) (r : a2_A) : bk L xs 140 nm_m140 m d k (n + 35) 0 [some (.ref 6)] [] g r = (fn_v (ev L xs m d 52 [.ref 1, .int 32, .int 1] g r) fun v3 g1 r2 => (if am_c2 .eq v3 0 = true then (fn_v (ev L xs m d 52 [.ref 1, .int 34, .int 1] g1 r2) fun v6 g4 r5 => (if am_c2 .ne v6 0 = true then (B140_54 L xs m d k g4 r5) else (fn_v (ev L xs m d 52 [.ref 1, .int 35, .int 1] g4 r5) fun v16 g14 r15 => (if am_c2 .eq v16 0 = true then (fn_v (ev L xs m d 54 [.ref 8] g14 r15) fun v19 g17 r18 => (if am_c2 .lt v19 1 = true then (B140_86 L xs m d k 0 g17 r18) else (B140_86 L xs m d k 1 g17 r18))) else (B140_54 L xs m d k g14 r15))))) else (fn_n (ev L xs m d 53 [.ref 6, .int 9, .int 9] g1 r2) fun g26 r27 => (fn_n (ev L xs m d 141 [.ref 6] g26 r27) fun g28 r29 => (B140_104 L xs m d k g28 r29))))) := by
  refine (fs_r (n := n + 31) 4 (pc' := 7) (L' := [some (.ref 6)]) (S' := [.int 1, .int 32, .ref 1]) rfl).trans ?_
  refine (fs_cv (n := n + 30) (N := nm_m52) (as := [.ref 1, .int 32, .int 1]) (rest := []) rfl rfl (Or.inl rfl) rfl rfl rfl rfl rfl).trans (fs_fv fun v3 g1 r2 => ?_)
  refine (fs_i (n := n + 29) rfl (t := 28) rfl (by decide)).trans (fs_ite ?_ ?_)
  · skip
    refine (fs_r (n := n + 25) 4 (pc' := 35) (L' := [some (.ref 6)]) (S' := [.int 1, .int 34, .ref 1]) rfl).trans ?_
    refine (fs_cv (n := n + 24) (N := nm_m52) (as := [.ref 1, .int 34, .int 1]) (rest := []) rfl rfl (Or.inl rfl) rfl rfl rfl rfl rfl).trans (fs_fv fun v6 g4 r5 => ?_)
    refine (fs_i (n := n + 23) rfl (t := 54) rfl (by decide)).trans (fs_ite ?_ ?_)
    · skip
      exact b140_54 L xs m d k (n + 15) g4 r5
    · skip
      refine (fs_r (n := n + 19) 4 (pc' := 48) (L' := [some (.ref 6)]) (S' := [.int 1, .int 35, .ref 1]) rfl).trans ?_
      refine (fs_cv (n := n + 18) (N := nm_m52) (as := [.ref 1, .int 35, .int 1]) (rest := []) rfl rfl (Or.inl rfl) rfl rfl rfl rfl rfl).trans (fs_fv fun v16 g14 r15 => ?_)
      refine (fs_i (n := n + 17) rfl (t := 69) rfl (by decide)).trans (fs_ite ?_ ?_)
      · skip
        refine (fs_r (n := n + 14) 3 (pc' := 74) (L' := [some (.ref 6)]) (S' := [.ref 8, .ref 6]) rfl).trans ?_
        refine (fs_cv (n := n + 13) (N := nm_m54) (as := [.ref 8]) (rest := [.ref 6]) rfl rfl (Or.inl rfl) rfl rfl rfl rfl rfl).trans (fs_fv fun v19 g17 r18 => ?_)
        refine (fs_r (n := n + 12) 1 (pc' := 78) (L' := [some (.ref 6)]) (S' := [.int 1, .int v19, .ref 6]) rfl).trans ?_
        refine (fs_j (n := n + 11) rfl (t := 85) rfl (by decide)).trans (fs_ite ?_ ?_)
        · skip
          refine (fs_r (n := n + 10) 1 (pc' := 86) (L' := [some (.ref 6)]) (S' := [.int 0, .ref 6]) rfl).trans ?_
          exact b140_86 L xs m d k (n + 1) 0 g17 r18
        · skip
          refine (fs_r (n := n + 10) 1 (pc' := 82) (L' := [some (.ref 6)]) (S' := [.int 1, .ref 6]) rfl).trans ?_
          refine (fs_go (n := n + 9) rfl (t := 86) rfl (by decide)).trans ?_
          exact b140_86 L xs m d k (n + 0) 1 g17 r18
      · skip
        exact b140_54 L xs m d k (n + 9) g14 r15
  · skip
    refine (fs_r (n := n + 26) 3 (pc' := 18) (L' := [some (.ref 6)]) (S' := [.int 9, .int 9, .ref 6]) rfl).trans ?_
    refine (fs_cn (n := n + 25) (N := nm_m53) (as := [.ref 6, .int 9, .int 9]) (rest := []) rfl rfl (Or.inl rfl) rfl rfl rfl rfl rfl).trans (fs_fn fun g26 r27 => ?_)
    refine (fs_r (n := n + 24) 1 (pc' := 22) (L' := [some (.ref 6)]) (S' := [.ref 6]) rfl).trans ?_
    refine (fs_cn (n := n + 23) (N := nm_m141) (as := [.ref 6]) (rest := []) rfl rfl (Or.inl rfl) rfl rfl rfl rfl rfl).trans (fs_fn fun g28 r29 => ?_)
    refine (fs_go (n := n + 22) rfl (t := 104) rfl (by decide)).trans ?_
    exact b140_104 L xs m d k (n + 21) g28 r29
theorem q140 (L : Nat) (xs : Nat → Int32) (m d : Nat) (g : a2_G) (r : a2_A) : ev L xs (m + 1) (d + 1) 140 [.ref 6] g r = (fn_v (ev L xs (m + 1) d 52 [.ref 1, .int 32, .int 1] g r) fun v3 g1 r2 => (if am_c2 .eq v3 0 = true then (fn_v (ev L xs (m + 1) d 52 [.ref 1, .int 34, .int 1] g1 r2) fun v6 g4 r5 => (if am_c2 .ne v6 0 = true then (B140_54 L xs (m + 1) d m g4 r5) else (fn_v (ev L xs (m + 1) d 52 [.ref 1, .int 35, .int 1] g4 r5) fun v16 g14 r15 => (if am_c2 .eq v16 0 = true then (fn_v (ev L xs (m + 1) d 54 [.ref 8] g14 r15) fun v19 g17 r18 => (if am_c2 .lt v19 1 = true then (B140_86 L xs (m + 1) d m 0 g17 r18) else (B140_86 L xs (m + 1) d m 1 g17 r18))) else (B140_54 L xs (m + 1) d m g14 r15))))) else (fn_n (ev L xs (m + 1) d 53 [.ref 6, .int 9, .int 9] g1 r2) fun g26 r27 => (fn_n (ev L xs (m + 1) d 141 [.ref 6] g26 r27) fun g28 r29 => (B140_104 L xs (m + 1) d m g28 r29))))) := (fs_ev (M := nm_m140) rfl rfl).trans (e140 L xs (m + 1) d m 865 g r)
/-- CobolParser$Clauses.endDeclaratives()V -/
theorem e141 (L : Nat) (xs : Nat → Int32) (m d k : Nat) (n : Nat) (g : a2_G) (r : a2_A) : bk L xs 141 nm_m141 m d k (n + 23) 0 [some (.ref 6)] [] g r = (fn_n (ev L xs m d 61 [.ref 1] g r) fun g1 r2 => (fn_n (ev L xs m d 83 [.ref 1, .int 32] g1 r2) fun g3 r4 => (fn_v (ev L xs m d 59 [.ref 1, .int 4] g3 r4) fun v7 g5 r6 => (fn_n (ev L xs m d 65 [.ref 8, .int 10] (upd (upd g5 608 (-1)) 609 (-1)) r6) fun g8 r9 => (some (.inl none, g8, r9)))))) := by
  refine (fs_r (n := n + 21) 2 (pc' := 4) (L' := [some (.ref 6)]) (S' := [.ref 1]) rfl).trans ?_
  refine (fs_cn (n := n + 20) (N := nm_m61) (as := [.ref 1]) (rest := []) rfl rfl (Or.inl rfl) rfl rfl rfl rfl rfl).trans (fs_fn fun g1 r2 => ?_)
  refine (fs_r (n := n + 17) 3 (pc' := 13) (L' := [some (.ref 6)]) (S' := [.int 32, .ref 1]) rfl).trans ?_
  refine (fs_cn (n := n + 16) (N := nm_m83) (as := [.ref 1, .int 32]) (rest := []) rfl rfl (Or.inl rfl) rfl rfl rfl rfl rfl).trans (fs_fn fun g3 r4 => ?_)
  refine (fs_r (n := n + 13) 3 (pc' := 21) (L' := [some (.ref 6)]) (S' := [.int 4, .ref 1]) rfl).trans ?_
  refine (fs_cv (n := n + 12) (N := nm_m59) (as := [.ref 1, .int 4]) (rest := []) rfl rfl (Or.inl rfl) rfl rfl rfl rfl rfl).trans (fs_fv fun v7 g5 r6 => ?_)
  refine (fs_r (n := n + 9) 3 (pc' := 27) (L' := [some (.ref 6)]) (S' := [.int (-1), .ref 6]) rfl).trans ?_
  refine (fs_pf (n := n + 8) (ci := 6) (j := 8) rfl rfl rfl rfl).trans ?_
  refine (fs_r (n := n + 6) 2 (pc' := 32) (L' := [some (.ref 6)]) (S' := [.int (-1), .ref 6]) rfl).trans ?_
  refine (fs_pf (n := n + 5) (ci := 6) (j := 9) rfl rfl rfl rfl).trans ?_
  refine (fs_r (n := n + 2) 3 (pc' := 41) (L' := [some (.ref 6)]) (S' := [.int 10, .ref 8]) rfl).trans ?_
  refine (fs_cn (n := n + 1) (N := nm_m65) (as := [.ref 8, .int 10]) (rest := []) rfl rfl (Or.inl rfl) rfl rfl rfl rfl rfl).trans (fs_fn fun g8 r9 => ?_)
  exact (fs_rv (n := n + 0) rfl rfl).trans rfl
theorem q141 (L : Nat) (xs : Nat → Int32) (m d : Nat) (g : a2_G) (r : a2_A) : ev L xs (m + 1) (d + 1) 141 [.ref 6] g r = (fn_n (ev L xs (m + 1) d 61 [.ref 1] g r) fun g1 r2 => (fn_n (ev L xs (m + 1) d 83 [.ref 1, .int 32] g1 r2) fun g3 r4 => (fn_v (ev L xs (m + 1) d 59 [.ref 1, .int 4] g3 r4) fun v7 g5 r6 => (fn_n (ev L xs (m + 1) d 65 [.ref 8, .int 10] (upd (upd g5 608 (-1)) 609 (-1)) r6) fun g8 r9 => (some (.inl none, g8, r9)))))) := (fs_ev (M := nm_m141) rfl rfl).trans (e141 L xs (m + 1) d m 877 g r)
/-- CobolParser$Clauses.endUnit()V -/
def B142_78 (L : Nat) (xs : Nat → Int32) (m d k : Nat) (x1 x2 : Int32) (g : a2_G) (r : a2_A) : Option fn_Z := (fn_n (ev L xs m d 145 [.ref 8] g r) fun g20 r21 => (some (.inl none, g20, r21)))
theorem b142_78 (L : Nat) (xs : Nat → Int32) (m d k : Nat) (n : Nat) (x1 x2 : Int32) (g : a2_G) (r : a2_A) : bk L xs 142 nm_m142 m d k (n + 4) 78 [some (.ref 6), some (.int x1), some (.int x2)] [] g r = B142_78 L xs m d k x1 x2 g r := by
  show _ = ((fn_n (ev L xs m d 145 [.ref 8] g r) fun g20 r21 => (some (.inl none, g20, r21))) : Option fn_Z)
  refine (fs_r (n := n + 2) 2 (pc' := 82) (L' := [some (.ref 6), some (.int x1), some (.int x2)]) (S' := [.ref 8]) rfl).trans ?_
  refine (fs_cn (n := n + 1) (N := nm_m145) (as := [.ref 8]) (rest := []) rfl rfl (Or.inl rfl) rfl rfl rfl rfl rfl).trans (fs_fn fun g20 r21 => ?_)
  exact (fs_rv (n := n + 0) rfl rfl).trans rfl
def B142_29 (L : Nat) (xs : Nat → Int32) (m d k : Nat) (x1 : Int32) (g : a2_G) (r : a2_A) : Option fn_Z := (fn_n (ev L xs m d 83 [.ref 1, .int x1] g r) fun g6 r7 => (fn_v (ev L xs m d 58 [.ref 1] g6 r7) fun v10 g8 r9 => (fn_v (ev L xs m d 59 [.ref 1, .int 1] g8 r9) fun v13 g11 r12 => (fn_v (ev L xs m d 59 [.ref 1, .int 4] g11 r12) fun v16 g14 r15 => (fn_v (ev L xs m d 143 [.ref 8] g14 r15) fun v19 g17 r18 => (if am_c2 .eq v13 v19 = true then (B142_78 L xs m d k v10 v13 g17 r18) else (fn_n (ev L xs m d 144 [.ref 1, .int 2, .int v10] g17 r18) fun g22 r23 => (B142_78 L xs m d k v10 v13 g22 r23))))))))
theorem b142_29 (L : Nat) (xs : Nat → Int32) (m d k : Nat) (n : Nat) (x1 : Int32) (g : a2_G) (r : a2_A) : bk L xs 142 nm_m142 m d k (n + 29) 29 [some (.ref 6), none, none] [.int x1, .ref 1] g r = B142_29 L xs m d k x1 g r := by
  show _ = ((fn_n (ev L xs m d 83 [.ref 1, .int x1] g r) fun g6 r7 => (fn_v (ev L xs m d 58 [.ref 1] g6 r7) fun v10 g8 r9 => (fn_v (ev L xs m d 59 [.ref 1, .int 1] g8 r9) fun v13 g11 r12 => (fn_v (ev L xs m d 59 [.ref 1, .int 4] g11 r12) fun v16 g14 r15 => (fn_v (ev L xs m d 143 [.ref 8] g14 r15) fun v19 g17 r18 => (if am_c2 .eq v13 v19 = true then (B142_78 L xs m d k v10 v13 g17 r18) else (fn_n (ev L xs m d 144 [.ref 1, .int 2, .int v10] g17 r18) fun g22 r23 => (B142_78 L xs m d k v10 v13 g22 r23)))))))) : Option fn_Z)
  refine (fs_cn (n := n + 28) (N := nm_m83) (as := [.ref 1, .int x1]) (rest := []) rfl rfl (Or.inl rfl) rfl rfl rfl rfl rfl).trans (fs_fn fun g6 r7 => ?_)
  refine (fs_r (n := n + 26) 2 (pc' := 36) (L' := [some (.ref 6), none, none]) (S' := [.ref 1]) rfl).trans ?_
  refine (fs_cv (n := n + 25) (N := nm_m58) (as := [.ref 1]) (rest := []) rfl rfl (Or.inl rfl) rfl rfl rfl rfl rfl).trans (fs_fv fun v10 g8 r9 => ?_)
  refine (fs_r (n := n + 21) 4 (pc' := 45) (L' := [some (.ref 6), some (.int v10), none]) (S' := [.int 1, .ref 1]) rfl).trans ?_
  refine (fs_cv (n := n + 20) (N := nm_m59) (as := [.ref 1, .int 1]) (rest := []) rfl rfl (Or.inl rfl) rfl rfl rfl rfl rfl).trans (fs_fv fun v13 g11 r12 => ?_)
  refine (fs_r (n := n + 16) 4 (pc' := 54) (L' := [some (.ref 6), some (.int v10), some (.int v13)]) (S' := [.int 4, .ref 1]) rfl).trans ?_
  refine (fs_cv (n := n + 15) (N := nm_m59) (as := [.ref 1, .int 4]) (rest := []) rfl rfl (Or.inl rfl) rfl rfl rfl rfl rfl).trans (fs_fv fun v16 g14 r15 => ?_)
  refine (fs_r (n := n + 11) 4 (pc' := 63) (L' := [some (.ref 6), some (.int v10), some (.int v13)]) (S' := [.ref 8, .int v13]) rfl).trans ?_
  refine (fs_cv (n := n + 10) (N := nm_m143) (as := [.ref 8]) (rest := [.int v13]) rfl rfl (Or.inl rfl) rfl rfl rfl rfl rfl).trans (fs_fv fun v19 g17 r18 => ?_)
  refine (fs_j (n := n + 9) rfl (t := 78) rfl (by decide)).trans (fs_ite ?_ ?_)
  · skip
    exact b142_78 L xs m d k (n + 5) v10 v13 g17 r18
  · skip
    refine (fs_r (n := n + 5) 4 (pc' := 75) (L' := [some (.ref 6), some (.int v10), some (.int v13)]) (S' := [.int v10, .int 2, .ref 1]) rfl).trans ?_
    refine (fs_cn (n := n + 4) (N := nm_m144) (as := [.ref 1, .int 2, .int v10]) (rest := []) rfl rfl (Or.inl rfl) rfl rfl rfl rfl rfl).trans (fs_fn fun g22 r23 => ?_)
    exact b142_78 L xs m d k (n + 0) v10 v13 g22 r23
theorem e142 (L : Nat) (xs : Nat → Int32) (m d k : Nat) (n : Nat) (g : a2_G) (r : a2_A) : bk L xs 142 nm_m142 m d k (n + 41) 0 [some (.ref 6), none, none] [] g r = (fn_n (ev L xs m d 61 [.ref 1] g r) fun g1 r2 => (fn_v (ev L xs m d 127 [.ref 8] g1 r2) fun v5 g3 r4 => (if am_c2 .ne v5 2 = true then (B142_29 L xs m d k 34 g3 r4) else (B142_29 L xs m d k 35 g3 r4)))) := by
  refine (fs_r (n := n + 39) 2 (pc' := 4) (L' := [some (.ref 6), none, none]) (S' := [.ref 1]) rfl).trans ?_
  refine (fs_cn (n := n + 38) (N := nm_m61) (as := [.ref 1]) (rest := []) rfl rfl (Or.inl rfl) rfl rfl rfl rfl rfl).trans (fs_fn fun g1 r2 => ?_)
  refine (fs_r (n := n + 34) 4 (pc' := 15) (L' := [some (.ref 6), none, none]) (S' := [.ref 8, .ref 1]) rfl).trans ?_
  refine (fs_cv (n := n + 33) (N := nm_m127) (as := [.ref 8]) (rest := [.ref 1]) rfl rfl (Or.inl rfl) rfl rfl rfl rfl rfl).trans (fs_fv fun v5 g3 r4 => ?_)
  refine (fs_r (n := n + 32) 1 (pc' := 19) (L' := [some (.ref 6), none, none]) (S' := [.int 2, .int v5, .ref 1]) rfl).trans ?_
  refine (fs_j (n := n + 31) rfl (t := 27) rfl (by decide)).trans (fs_ite ?_ ?_)
  · skip
    refine (fs_r (n := n + 30) 1 (pc' := 29) (L' := [some (.ref 6), none, none]) (S' := [.int 34, .ref 1]) rfl).trans ?_
    exact b142_29 L xs m d k (n + 1) 34 g3 r4
  · skip
    refine (fs_r (n := n + 30) 1 (pc' := 24) (L' := [some (.ref 6), none, none]) (S' := [.int 35, .ref 1]) rfl).trans ?_
    refine (fs_go (n := n + 29) rfl (t := 29) rfl (by decide)).trans ?_
    exact b142_29 L xs m d k (n + 0) 35 g3 r4
theorem q142 (L : Nat) (xs : Nat → Int32) (m d : Nat) (g : a2_G) (r : a2_A) : ev L xs (m + 1) (d + 1) 142 [.ref 6] g r = (fn_n (ev L xs (m + 1) d 61 [.ref 1] g r) fun g1 r2 => (fn_v (ev L xs (m + 1) d 127 [.ref 8] g1 r2) fun v5 g3 r4 => (if am_c2 .ne v5 2 = true then (B142_29 L xs (m + 1) d m 34 g3 r4) else (B142_29 L xs (m + 1) d m 35 g3 r4)))) := (fs_ev (M := nm_m142) rfl rfl).trans (e142 L xs (m + 1) d m 859 g r)
/-- CobolParser$Units.name()I -/
def B143_22 (L : Nat) (xs : Nat → Int32) (m d k : Nat) (x1 : Int32) (g : a2_G) (r : a2_A) : Option fn_Z := (some (.inl (some (.int x1)), g, r))
theorem b143_22 (L : Nat) (xs : Nat → Int32) (m d k : Nat) (n : Nat) (x1 : Int32) (g : a2_G) (r : a2_A) : bk L xs 143 nm_m143 m d k (n + 1) 22 [some (.ref 8)] [.int x1] g r = B143_22 L xs m d k x1 g r := by
  show _ = ((some (.inl (some (.int x1)), g, r)) : Option fn_Z)
  exact (fs_ri (n := n + 0) rfl rfl).trans rfl
theorem e143 (L : Nat) (xs : Nat → Int32) (m d k : Nat) (n : Nat) (g : a2_G) (r : a2_A) : bk L xs 143 nm_m143 m d k (n + 12) 0 [some (.ref 8)] [] g r = (if am_c2 .le (g 804) 0 = true then (B143_22 L xs m d k (-1) g r) else (if am_inr ((g 804) - 1) (r 802).1 = true then (B143_22 L xs m d k ((r 802).2 (((g 804) - 1) : Int32).toNatClampNeg) g r) else none)) := by
  refine (fs_r (n := n + 10) 2 (pc' := 4) (L' := [some (.ref 8)]) (S' := [.int (g 804)]) rfl).trans ?_
  refine (fs_i (n := n + 9) rfl (t := 21) rfl (by decide)).trans (fs_ite ?_ ?_)
  · skip
    refine (fs_r (n := n + 8) 1 (pc' := 22) (L' := [some (.ref 8)]) (S' := [.int (-1)]) rfl).trans ?_
    exact b143_22 L xs m d k (n + 7) (-1) g r
  · skip
    refine (fs_r (n := n + 3) 6 (pc' := 17) (L' := [some (.ref 8)]) (S' := [.int ((g 804) - 1), .ref 10802]) rfl).trans ?_
    refine (fs_il (n := n + 2) (k := 802) rfl rfl).trans (fs_ite ?_ rfl)
    refine (fs_go (n := n + 1) rfl (t := 22) rfl (by decide)).trans ?_
    exact b143_22 L xs m d k (n + 0) ((r 802).2 (((g 804) - 1) : Int32).toNatClampNeg) g r
theorem q143 (L : Nat) (xs : Nat → Int32) (m d : Nat) (g : a2_G) (r : a2_A) : ev L xs (m + 1) (d + 1) 143 [.ref 8] g r = (if am_c2 .le (g 804) 0 = true then (B143_22 L xs (m + 1) d m (-1) g r) else (if am_inr ((g 804) - 1) (r 802).1 = true then (B143_22 L xs (m + 1) d m ((r 802).2 (((g 804) - 1) : Int32).toNatClampNeg) g r) else none)) := (fs_ev (M := nm_m143) rfl rfl).trans (e143 L xs (m + 1) d m 888 g r)
/-- CobolParser$Row.note(II)V -/
def B144_39 (L : Nat) (xs : Nat → Int32) (m d k : Nat) (x1 x2 : Int32) (g : a2_G) (r : a2_A) : Option fn_Z := (some (.inl none, g, r))
theorem b144_39 (L : Nat) (xs : Nat → Int32) (m d k : Nat) (n : Nat) (x1 x2 : Int32) (g : a2_G) (r : a2_A) : bk L xs 144 nm_m144 m d k (n + 1) 39 [some (.ref 1), some (.int x1), some (.int x2)] [] g r = B144_39 L xs m d k x1 x2 g r := by
  show _ = ((some (.inl none, g, r)) : Option fn_Z)
  exact (fs_rv (n := n + 0) rfl rfl).trans rfl
theorem e144 (L : Nat) (xs : Nat → Int32) (m d k : Nat) (n : Nat) (a1 a2 : Int32) (g : a2_G) (r : a2_A) : bk L xs 144 nm_m144 m d k (n + 23) 0 [some (.ref 1), some (.int a1), some (.int a2)] [] g r = (if am_c2 .ge (g 107) 20 = true then (B144_39 L xs m d k a1 a2 g r) else (if am_inr (g 107) (r 105).1 = true then (if am_inr (g 107) (r 106).1 = true then (B144_39 L xs m d k a1 a2 (upd g 107 ((g 107) + 1)) (a2_ua (a2_ua r 105 ((r 105).1, (upd (r 105).2 ((g 107) : Int32).toNatClampNeg a1))) 106 ((r 106).1, (upd (r 106).2 ((g 107) : Int32).toNatClampNeg a2)))) else none) else none)) := by
  refine (fs_r (n := n + 20) 3 (pc' := 6) (L' := [some (.ref 1), some (.int a1), some (.int a2)]) (S' := [.int 20, .int (g 107)]) rfl).trans ?_
  refine (fs_j (n := n + 19) rfl (t := 39) rfl (by decide)).trans (fs_ite ?_ ?_)
  · skip
    exact b144_39 L xs m d k (n + 18) a1 a2 g r
  · skip
    refine (fs_r (n := n + 14) 5 (pc' := 18) (L' := [some (.ref 1), some (.int a1), some (.int a2)]) (S' := [.int a1, .int (g 107), .ref 10105]) rfl).trans ?_
    refine (fs_is (n := n + 13) (k := 105) rfl rfl).trans (fs_ite ?_ rfl)
    refine (fs_r (n := n + 8) 5 (pc' := 28) (L' := [some (.ref 1), some (.int a1), some (.int a2)]) (S' := [.int a2, .int (g 107), .ref 10106]) rfl).trans ?_
    refine (fs_is (n := n + 7) (k := 106) rfl rfl).trans (fs_ite ?_ rfl)
    refine (fs_r (n := n + 2) 5 (pc' := 36) (L' := [some (.ref 1), some (.int a1), some (.int a2)]) (S' := [.int ((g 107) + 1), .ref 1]) rfl).trans ?_
    refine (fs_pf (n := n + 1) (ci := 1) (j := 7) rfl rfl rfl rfl).trans ?_
    exact b144_39 L xs m d k (n + 0) a1 a2 (upd g 107 ((g 107) + 1)) (a2_ua (a2_ua r 105 ((r 105).1, (upd (r 105).2 ((g 107) : Int32).toNatClampNeg a1))) 106 ((r 106).1, (upd (r 106).2 ((g 107) : Int32).toNatClampNeg a2)))
theorem q144 (L : Nat) (xs : Nat → Int32) (m d : Nat) (a1 a2 : Int32) (g : a2_G) (r : a2_A) : ev L xs (m + 1) (d + 1) 144 [.ref 1, .int a1, .int a2] g r = (if am_c2 .ge (g 107) 20 = true then (B144_39 L xs (m + 1) d m a1 a2 g r) else (if am_inr (g 107) (r 105).1 = true then (if am_inr (g 107) (r 106).1 = true then (B144_39 L xs (m + 1) d m a1 a2 (upd g 107 ((g 107) + 1)) (a2_ua (a2_ua r 105 ((r 105).1, (upd (r 105).2 ((g 107) : Int32).toNatClampNeg a1))) 106 ((r 106).1, (upd (r 106).2 ((g 107) : Int32).toNatClampNeg a2)))) else none) else none)) := (fs_ev (M := nm_m144) rfl rfl).trans (e144 L xs (m + 1) d m 877 a1 a2 g r)
/-- CobolParser$Units.close()V -/
def B145_17 (L : Nat) (xs : Nat → Int32) (m d k : Nat) (g : a2_G) (r : a2_A) : Option fn_Z := (some (.inl none, g, r))
theorem b145_17 (L : Nat) (xs : Nat → Int32) (m d k : Nat) (n : Nat) (g : a2_G) (r : a2_A) : bk L xs 145 nm_m145 m d k (n + 1) 17 [some (.ref 8)] [] g r = B145_17 L xs m d k g r := by
  show _ = ((some (.inl none, g, r)) : Option fn_Z)
  exact (fs_rv (n := n + 0) rfl rfl).trans rfl
theorem e145 (L : Nat) (xs : Nat → Int32) (m d k : Nat) (n : Nat) (g : a2_G) (r : a2_A) : bk L xs 145 nm_m145 m d k (n + 10) 0 [some (.ref 8)] [] g r = (if am_c2 .le (g 804) 0 = true then (B145_17 L xs m d k g r) else (B145_17 L xs m d k (upd g 804 ((g 804) - 1)) r)) := by
  refine (fs_r (n := n + 8) 2 (pc' := 4) (L' := [some (.ref 8)]) (S' := [.int (g 804)]) rfl).trans ?_
  refine (fs_i (n := n + 7) rfl (t := 17) rfl (by decide)).trans (fs_ite ?_ ?_)
  · skip
    exact b145_17 L xs m d k (n + 6) g r
  · skip
    refine (fs_r (n := n + 2) 5 (pc' := 14) (L' := [some (.ref 8)]) (S' := [.int ((g 804) - 1), .ref 8]) rfl).trans ?_
    refine (fs_pf (n := n + 1) (ci := 8) (j := 4) rfl rfl rfl rfl).trans ?_
    exact b145_17 L xs m d k (n + 0) (upd g 804 ((g 804) - 1)) r
theorem q145 (L : Nat) (xs : Nat → Int32) (m d : Nat) (g : a2_G) (r : a2_A) : ev L xs (m + 1) (d + 1) 145 [.ref 8] g r = (if am_c2 .le (g 804) 0 = true then (B145_17 L xs (m + 1) d m g r) else (B145_17 L xs (m + 1) d m (upd g 804 ((g 804) - 1)) r)) := (fs_ev (M := nm_m145) rfl rfl).trans (e145 L xs (m + 1) d m 890 g r)
/-- CobolParser$Clauses.dataClause()V -/
def B146_151 (L : Nat) (xs : Nat → Int32) (m d k : Nat) (g : a2_G) (r : a2_A) : Option fn_Z := (some (.inl none, g, r))
theorem b146_151 (L : Nat) (xs : Nat → Int32) (m d k : Nat) (n : Nat) (g : a2_G) (r : a2_A) : bk L xs 146 nm_m146 m d k (n + 1) 151 [some (.ref 6)] [] g r = B146_151 L xs m d k g r := by
  show _ = ((some (.inl none, g, r)) : Option fn_Z)
  exact (fs_rv (n := n + 0) rfl rfl).trans rfl
def B146_143 (L : Nat) (xs : Nat → Int32) (m d k : Nat) (g : a2_G) (r : a2_A) : Option fn_Z := (fn_n (ev L xs m d 56 [.ref 1, .int 1] g r) fun g26 r27 => (B146_151 L xs m d k g26 r27))
theorem b146_143 (L : Nat) (xs : Nat → Int32) (m d k : Nat) (n : Nat) (g : a2_G) (r : a2_A) : bk L xs 146 nm_m146 m d k (n + 5) 143 [some (.ref 6)] [] g r = B146_143 L xs m d k g r := by
  show _ = ((fn_n (ev L xs m d 56 [.ref 1, .int 1] g r) fun g26 r27 => (B146_151 L xs m d k g26 r27)) : Option fn_Z)
  refine (fs_r (n := n + 2) 3 (pc' := 148) (L' := [some (.ref 6)]) (S' := [.int 1, .ref 1]) rfl).trans ?_
  refine (fs_cn (n := n + 1) (N := nm_m56) (as := [.ref 1, .int 1]) (rest := []) rfl rfl (Or.inl rfl) rfl rfl rfl rfl rfl).trans (fs_fn fun g26 r27 => ?_)
  exact b146_151 L xs m d k (n + 0) g26 r27
theorem e146 (L : Nat) (xs : Nat → Int32) (m d k : Nat) (n : Nat) (g : a2_G) (r : a2_A) : bk L xs 146 nm_m146 m d k (n + 23) 0 [some (.ref 6)] [] g r = (fn_v (ev L xs m d 60 [.ref 1] g r) fun v3 g1 r2 => (if (v3 : Int32).toInt = 12 then (fn_n (ev L xs m d 53 [.ref 6, .int 1, .int 2] g1 r2) fun g4 r5 => (fn_v (ev L xs m d 130 [.ref 8] g4 r5) fun v8 g6 r7 => (fn_v (ev L xs m d 131 [.ref 6, .int 7, .int 1, .int v8] g6 r7) fun v11 g9 r10 => (fn_n (ev L xs m d 65 [.ref 8, .int 3] (upd g9 606 v11) r10) fun g12 r13 => (B146_151 L xs m d k g12 r13))))) else (if (v3 : Int32).toInt = 13 then (fn_n (ev L xs m d 53 [.ref 6, .int 3, .int 3] g1 r2) fun g14 r15 => (fn_n (ev L xs m d 147 [.ref 6, .int 8, .int 4] g14 r15) fun g16 r17 => (B146_151 L xs m d k g16 r17))) else (if (v3 : Int32).toInt = 14 then (fn_n (ev L xs m d 53 [.ref 6, .int 3, .int 5] g1 r2) fun g18 r19 => (fn_n (ev L xs m d 147 [.ref 6, .int 9, .int 6] g18 r19) fun g20 r21 => (B146_151 L xs m d k g20 r21))) else (if (v3 : Int32).toInt = 15 then (fn_n (ev L xs m d 53 [.ref 6, .int 3, .int 6] g1 r2) fun g22 r23 => (fn_n (ev L xs m d 147 [.ref 6, .int 10, .int 7] g22 r23) fun g24 r25 => (B146_151 L xs m d k g24 r25))) else (if (v3 : Int32).toInt = 16 then (B146_143 L xs m d k g1 r2) else (if (v3 : Int32).toInt = 17 then (fn_n (ev L xs m d 53 [.ref 6, .int 4, .int 5] g1 r2) fun g28 r29 => (fn_n (ev L xs m d 149 [.ref 6] g28 r29) fun g30 r31 => (B146_151 L xs m d k g30 r31))) else (B146_143 L xs m d k g1 r2)))))))) := by
  refine (fs_r (n := n + 21) 2 (pc' := 4) (L' := [some (.ref 6)]) (S' := [.ref 1]) rfl).trans ?_
  refine (fs_cv (n := n + 20) (N := nm_m60) (as := [.ref 1]) (rest := []) rfl rfl (Or.inl rfl) rfl rfl rfl rfl rfl).trans (fs_fv fun v3 g1 r2 => ?_)
  refine (fs_ts (n := n + 19) (l := [37, 72, 88, 105, 136, 123]) rfl rfl rfl).trans ?_
  refine fs_tc (v' := 13) rfl ?_ (fs_tc (v' := 14) rfl ?_ (fs_tc (v' := 15) rfl ?_ (fs_tc (v' := 16) rfl ?_ (fs_tc (v' := 17) rfl ?_ (fs_tc (v' := 18) rfl ?_ (fs_tn ?_))))))
  · refine (fs_J1 (n := n + 19) (t := 44) rfl (by decide)).trans ?_
    refine (fs_r (n := n + 16) 3 (pc' := 47) (L' := [some (.ref 6)]) (S' := [.int 2, .int 1, .ref 6]) rfl).trans ?_
    refine (fs_cn (n := n + 15) (N := nm_m53) (as := [.ref 6, .int 1, .int 2]) (rest := []) rfl rfl (Or.inl rfl) rfl rfl rfl rfl rfl).trans (fs_fn fun g4 r5 => ?_)
    refine (fs_r (n := n + 9) 6 (pc' := 59) (L' := [some (.ref 6)]) (S' := [.ref 8, .int 1, .int 7, .ref 6, .ref 6]) rfl).trans ?_
    refine (fs_cv (n := n + 8) (N := nm_m130) (as := [.ref 8]) (rest := [.int 1, .int 7, .ref 6, .ref 6]) rfl rfl (Or.inl rfl) rfl rfl rfl rfl rfl).trans (fs_fv fun v8 g6 r7 => ?_)
    refine (fs_cv (n := n + 7) (N := nm_m131) (as := [.ref 6, .int 7, .int 1, .int v8]) (rest := [.ref 6]) rfl rfl (Or.inl rfl) rfl rfl rfl rfl rfl).trans (fs_fv fun v11 g9 r10 => ?_)
    refine (fs_pf (n := n + 6) (ci := 6) (j := 6) rfl rfl rfl rfl).trans ?_
    refine (fs_r (n := n + 3) 3 (pc' := 73) (L' := [some (.ref 6)]) (S' := [.int 3, .ref 8]) rfl).trans ?_
    refine (fs_cn (n := n + 2) (N := nm_m65) (as := [.ref 8, .int 3]) (rest := []) rfl rfl (Or.inl rfl) rfl rfl rfl rfl rfl).trans (fs_fn fun g12 r13 => ?_)
    refine (fs_go (n := n + 1) rfl (t := 151) rfl (by decide)).trans ?_
    exact b146_151 L xs m d k (n + 0) g12 r13
  · refine (fs_J1 (n := n + 19) (t := 79) rfl (by decide)).trans ?_
    refine (fs_r (n := n + 16) 3 (pc' := 82) (L' := [some (.ref 6)]) (S' := [.int 3, .int 3, .ref 6]) rfl).trans ?_
    refine (fs_cn (n := n + 15) (N := nm_m53) (as := [.ref 6, .int 3, .int 3]) (rest := []) rfl rfl (Or.inl rfl) rfl rfl rfl rfl rfl).trans (fs_fn fun g14 r15 => ?_)
    refine (fs_r (n := n + 12) 3 (pc' := 89) (L' := [some (.ref 6)]) (S' := [.int 4, .int 8, .ref 6]) rfl).trans ?_
    refine (fs_cn (n := n + 11) (N := nm_m147) (as := [.ref 6, .int 8, .int 4]) (rest := []) rfl rfl (Or.inl rfl) rfl rfl rfl rfl rfl).trans (fs_fn fun g16 r17 => ?_)
    refine (fs_go (n := n + 10) rfl (t := 151) rfl (by decide)).trans ?_
    exact b146_151 L xs m d k (n + 9) g16 r17
  · refine (fs_J1 (n := n + 19) (t := 95) rfl (by decide)).trans ?_
    refine (fs_r (n := n + 16) 3 (pc' := 98) (L' := [some (.ref 6)]) (S' := [.int 5, .int 3, .ref 6]) rfl).trans ?_
    refine (fs_cn (n := n + 15) (N := nm_m53) (as := [.ref 6, .int 3, .int 5]) (rest := []) rfl rfl (Or.inl rfl) rfl rfl rfl rfl rfl).trans (fs_fn fun g18 r19 => ?_)
    refine (fs_r (n := n + 12) 3 (pc' := 106) (L' := [some (.ref 6)]) (S' := [.int 6, .int 9, .ref 6]) rfl).trans ?_
    refine (fs_cn (n := n + 11) (N := nm_m147) (as := [.ref 6, .int 9, .int 6]) (rest := []) rfl rfl (Or.inl rfl) rfl rfl rfl rfl rfl).trans (fs_fn fun g20 r21 => ?_)
    refine (fs_go (n := n + 10) rfl (t := 151) rfl (by decide)).trans ?_
    exact b146_151 L xs m d k (n + 9) g20 r21
  · refine (fs_J1 (n := n + 19) (t := 112) rfl (by decide)).trans ?_
    refine (fs_r (n := n + 16) 3 (pc' := 116) (L' := [some (.ref 6)]) (S' := [.int 6, .int 3, .ref 6]) rfl).trans ?_
    refine (fs_cn (n := n + 15) (N := nm_m53) (as := [.ref 6, .int 3, .int 6]) (rest := []) rfl rfl (Or.inl rfl) rfl rfl rfl rfl rfl).trans (fs_fn fun g22 r23 => ?_)
    refine (fs_r (n := n + 12) 3 (pc' := 124) (L' := [some (.ref 6)]) (S' := [.int 7, .int 10, .ref 6]) rfl).trans ?_
    refine (fs_cn (n := n + 11) (N := nm_m147) (as := [.ref 6, .int 10, .int 7]) (rest := []) rfl rfl (Or.inl rfl) rfl rfl rfl rfl rfl).trans (fs_fn fun g24 r25 => ?_)
    refine (fs_go (n := n + 10) rfl (t := 151) rfl (by decide)).trans ?_
    exact b146_151 L xs m d k (n + 9) g24 r25
  · refine (fs_J1 (n := n + 19) (t := 143) rfl (by decide)).trans ?_
    exact b146_143 L xs m d k (n + 14) g1 r2
  · refine (fs_J1 (n := n + 19) (t := 130) rfl (by decide)).trans ?_
    refine (fs_r (n := n + 16) 3 (pc' := 133) (L' := [some (.ref 6)]) (S' := [.int 5, .int 4, .ref 6]) rfl).trans ?_
    refine (fs_cn (n := n + 15) (N := nm_m53) (as := [.ref 6, .int 4, .int 5]) (rest := []) rfl rfl (Or.inl rfl) rfl rfl rfl rfl rfl).trans (fs_fn fun g28 r29 => ?_)
    refine (fs_r (n := n + 14) 1 (pc' := 137) (L' := [some (.ref 6)]) (S' := [.ref 6]) rfl).trans ?_
    refine (fs_cn (n := n + 13) (N := nm_m149) (as := [.ref 6]) (rest := []) rfl rfl (Or.inl rfl) rfl rfl rfl rfl rfl).trans (fs_fn fun g30 r31 => ?_)
    refine (fs_go (n := n + 12) rfl (t := 151) rfl (by decide)).trans ?_
    exact b146_151 L xs m d k (n + 11) g30 r31
  · refine (fs_J1 (n := n + 19) (t := 143) rfl (by decide)).trans ?_
    exact b146_143 L xs m d k (n + 14) g1 r2
theorem q146 (L : Nat) (xs : Nat → Int32) (m d : Nat) (g : a2_G) (r : a2_A) : ev L xs (m + 1) (d + 1) 146 [.ref 6] g r = (fn_v (ev L xs (m + 1) d 60 [.ref 1] g r) fun v3 g1 r2 => (if (v3 : Int32).toInt = 12 then (fn_n (ev L xs (m + 1) d 53 [.ref 6, .int 1, .int 2] g1 r2) fun g4 r5 => (fn_v (ev L xs (m + 1) d 130 [.ref 8] g4 r5) fun v8 g6 r7 => (fn_v (ev L xs (m + 1) d 131 [.ref 6, .int 7, .int 1, .int v8] g6 r7) fun v11 g9 r10 => (fn_n (ev L xs (m + 1) d 65 [.ref 8, .int 3] (upd g9 606 v11) r10) fun g12 r13 => (B146_151 L xs (m + 1) d m g12 r13))))) else (if (v3 : Int32).toInt = 13 then (fn_n (ev L xs (m + 1) d 53 [.ref 6, .int 3, .int 3] g1 r2) fun g14 r15 => (fn_n (ev L xs (m + 1) d 147 [.ref 6, .int 8, .int 4] g14 r15) fun g16 r17 => (B146_151 L xs (m + 1) d m g16 r17))) else (if (v3 : Int32).toInt = 14 then (fn_n (ev L xs (m + 1) d 53 [.ref 6, .int 3, .int 5] g1 r2) fun g18 r19 => (fn_n (ev L xs (m + 1) d 147 [.ref 6, .int 9, .int 6] g18 r19) fun g20 r21 => (B146_151 L xs (m + 1) d m g20 r21))) else (if (v3 : Int32).toInt = 15 then (fn_n (ev L xs (m + 1) d 53 [.ref 6, .int 3, .int 6] g1 r2) fun g22 r23 => (fn_n (ev L xs (m + 1) d 147 [.ref 6, .int 10, .int 7] g22 r23) fun g24 r25 => (B146_151 L xs (m + 1) d m g24 r25))) else (if (v3 : Int32).toInt = 16 then (B146_143 L xs (m + 1) d m g1 r2) else (if (v3 : Int32).toInt = 17 then (fn_n (ev L xs (m + 1) d 53 [.ref 6, .int 4, .int 5] g1 r2) fun g28 r29 => (fn_n (ev L xs (m + 1) d 149 [.ref 6] g28 r29) fun g30 r31 => (B146_151 L xs (m + 1) d m g30 r31))) else (B146_143 L xs (m + 1) d m g1 r2)))))))) := (fs_ev (M := nm_m146) rfl rfl).trans (e146 L xs (m + 1) d m 877 g r)
/-- CobolParser$Clauses.dataSection(II)V -/
theorem e147 (L : Nat) (xs : Nat → Int32) (m d k : Nat) (n : Nat) (a1 a2 : Int32) (g : a2_G) (r : a2_A) : bk L xs 147 nm_m147 m d k (n + 18) 0 [some (.ref 6), some (.int a1), some (.int a2)] [] g r = (fn_v (ev L xs m d 131 [.ref 6, .int a1, .int 16, .int (g 606)] g r) fun v3 g1 r2 => (fn_n (ev L xs m d 65 [.ref 8, .int a2] (upd g1 608 v3) r2) fun g4 r5 => (fn_n (ev L xs m d 148 [.ref 7, .int (g4 608)] g4 r5) fun g6 r7 => (some (.inl none, g6, r7))))) := by
  refine (fs_r (n := n + 12) 6 (pc' := 9) (L' := [some (.ref 6), some (.int a1), some (.int a2)]) (S' := [.int (g 606), .int 16, .int a1, .ref 6, .ref 6]) rfl).trans ?_
  refine (fs_cv (n := n + 11) (N := nm_m131) (as := [.ref 6, .int a1, .int 16, .int (g 606)]) (rest := [.ref 6]) rfl rfl (Or.inl rfl) rfl rfl rfl rfl rfl).trans (fs_fv fun v3 g1 r2 => ?_)
  refine (fs_pf (n := n + 10) (ci := 6) (j := 8) rfl rfl rfl rfl).trans ?_
  refine (fs_r (n := n + 7) 3 (pc' := 20) (L' := [some (.ref 6), some (.int a1), some (.int a2)]) (S' := [.int a2, .ref 8]) rfl).trans ?_
  refine (fs_cn (n := n + 6) (N := nm_m65) (as := [.ref 8, .int a2]) (rest := []) rfl rfl (Or.inl rfl) rfl rfl rfl rfl rfl).trans (fs_fn fun g4 r5 => ?_)
  refine (fs_r (n := n + 2) 4 (pc' := 31) (L' := [some (.ref 6), some (.int a1), some (.int a2)]) (S' := [.int (g4 608), .ref 7]) rfl).trans ?_
  refine (fs_cn (n := n + 1) (N := nm_m148) (as := [.ref 7, .int (g4 608)]) (rest := []) rfl rfl (Or.inl rfl) rfl rfl rfl rfl rfl).trans (fs_fn fun g6 r7 => ?_)
  exact (fs_rv (n := n + 0) rfl rfl).trans rfl
theorem q147 (L : Nat) (xs : Nat → Int32) (m d : Nat) (a1 a2 : Int32) (g : a2_G) (r : a2_A) : ev L xs (m + 1) (d + 1) 147 [.ref 6, .int a1, .int a2] g r = (fn_v (ev L xs (m + 1) d 131 [.ref 6, .int a1, .int 16, .int (g 606)] g r) fun v3 g1 r2 => (fn_n (ev L xs (m + 1) d 65 [.ref 8, .int a2] (upd g1 608 v3) r2) fun g4 r5 => (fn_n (ev L xs (m + 1) d 148 [.ref 7, .int (g4 608)] g4 r5) fun g6 r7 => (some (.inl none, g6, r7))))) := (fs_ev (M := nm_m147) rfl rfl).trans (e147 L xs (m + 1) d m 882 a1 a2 g r)
/-- CobolParser$Items.startIn(I)V -/
theorem e148 (L : Nat) (xs : Nat → Int32) (m d k : Nat) (n : Nat) (a1 : Int32) (g : a2_G) (r : a2_A) : bk L xs 148 nm_m148 m d k (n + 7) 0 [some (.ref 7), some (.int a1)] [] g r = (some (.inl none, (upd (upd g 706 a1) 705 0), r)) := by
  refine (fs_r (n := n + 5) 2 (pc' := 2) (L' := [some (.ref 7), some (.int a1)]) (S' := [.int a1, .ref 7]) rfl).trans ?_
  refine (fs_pf (n := n + 4) (ci := 7) (j := 6) rfl rfl rfl rfl).trans ?_
  refine (fs_r (n := n + 2) 2 (pc' := 7) (L' := [some (.ref 7), some (.int a1)]) (S' := [.int 0, .ref 7]) rfl).trans ?_
  refine (fs_pf (n := n + 1) (ci := 7) (j := 5) rfl rfl rfl rfl).trans ?_
  exact (fs_rv (n := n + 0) rfl rfl).trans rfl
theorem q148 (L : Nat) (xs : Nat → Int32) (m d : Nat) (a1 : Int32) (g : a2_G) (r : a2_A) : ev L xs (m + 1) (d + 1) 148 [.ref 7, .int a1] g r = (some (.inl none, (upd (upd g 706 a1) 705 0), r)) := (fs_ev (M := nm_m148) rfl rfl).trans (e148 L xs (m + 1) d m 893 a1 g r)
/-- CobolParser$Clauses.fileDescription()V -/
theorem e149 (L : Nat) (xs : Nat → Int32) (m d k : Nat) (n : Nat) (g : a2_G) (r : a2_A) : bk L xs 149 nm_m149 m d k (n + 37) 0 [some (.ref 6), none, none] [] g r = (fn_v (ev L xs m d 58 [.ref 1] g r) fun v3 g1 r2 => (fn_n (ev L xs m d 61 [.ref 1] g1 r2) fun g4 r5 => (fn_v (ev L xs m d 59 [.ref 1, .int 1] g4 r5) fun v8 g6 r7 => (fn_v (ev L xs m d 45 [.ref 2, .int 11, .int v8, .int v3] g6 r7) fun v11 g9 r10 => (fn_v (ev L xs m d 59 [.ref 1, .int 4] g9 r10) fun v14 g12 r13 => (fn_n (ev L xs m d 63 [.ref 2, .int (g12 608), .int v11] g12 r13) fun g15 r16 => (fn_n (ev L xs m d 65 [.ref 8, .int 5] g15 r16) fun g17 r18 => (fn_n (ev L xs m d 148 [.ref 7, .int v11] g17 r18) fun g19 r20 => (some (.inl none, g19, r20)))))))))) := by
  refine (fs_r (n := n + 35) 2 (pc' := 4) (L' := [some (.ref 6), none, none]) (S' := [.ref 1]) rfl).trans ?_
  refine (fs_cv (n := n + 34) (N := nm_m58) (as := [.ref 1]) (rest := []) rfl rfl (Or.inl rfl) rfl rfl rfl rfl rfl).trans (fs_fv fun v3 g1 r2 => ?_)
  refine (fs_r (n := n + 31) 3 (pc' := 12) (L' := [some (.ref 6), some (.int v3), none]) (S' := [.ref 1]) rfl).trans ?_
  refine (fs_cn (n := n + 30) (N := nm_m61) (as := [.ref 1]) (rest := []) rfl rfl (Or.inl rfl) rfl rfl rfl rfl rfl).trans (fs_fn fun g4 r5 => ?_)
  refine (fs_r (n := n + 24) 6 (pc' := 26) (L' := [some (.ref 6), some (.int v3), none]) (S' := [.int 1, .ref 1, .int 11, .ref 2]) rfl).trans ?_
  refine (fs_cv (n := n + 23) (N := nm_m59) (as := [.ref 1, .int 1]) (rest := [.int 11, .ref 2]) rfl rfl (Or.inl rfl) rfl rfl rfl rfl rfl).trans (fs_fv fun v8 g6 r7 => ?_)
  refine (fs_r (n := n + 22) 1 (pc' := 30) (L' := [some (.ref 6), some (.int v3), none]) (S' := [.int v3, .int v8, .int 11, .ref 2]) rfl).trans ?_
  refine (fs_cv (n := n + 21) (N := nm_m45) (as := [.ref 2, .int 11, .int v8, .int v3]) (rest := []) rfl rfl (Or.inl rfl) rfl rfl rfl rfl rfl).trans (fs_fv fun v11 g9 r10 => ?_)
  refine (fs_r (n := n + 17) 4 (pc' := 39) (L' := [some (.ref 6), some (.int v3), some (.int v11)]) (S' := [.int 4, .ref 1]) rfl).trans ?_
  refine (fs_cv (n := n + 16) (N := nm_m59) (as := [.ref 1, .int 4]) (rest := []) rfl rfl (Or.inl rfl) rfl rfl rfl rfl rfl).trans (fs_fv fun v14 g12 r13 => ?_)
  refine (fs_r (n := n + 10) 6 (pc' := 52) (L' := [some (.ref 6), some (.int v3), some (.int v11)]) (S' := [.int v11, .int (g12 608), .ref 2]) rfl).trans ?_
  refine (fs_cn (n := n + 9) (N := nm_m63) (as := [.ref 2, .int (g12 608), .int v11]) (rest := []) rfl rfl (Or.inl rfl) rfl rfl rfl rfl rfl).trans (fs_fn fun g15 r16 => ?_)
  refine (fs_r (n := n + 6) 3 (pc' := 60) (L' := [some (.ref 6), some (.int v3), some (.int v11)]) (S' := [.int 5, .ref 8]) rfl).trans ?_
  refine (fs_cn (n := n + 5) (N := nm_m65) (as := [.ref 8, .int 5]) (rest := []) rfl rfl (Or.inl rfl) rfl rfl rfl rfl rfl).trans (fs_fn fun g17 r18 => ?_)
  refine (fs_r (n := n + 2) 3 (pc' := 68) (L' := [some (.ref 6), some (.int v3), some (.int v11)]) (S' := [.int v11, .ref 7]) rfl).trans ?_
  refine (fs_cn (n := n + 1) (N := nm_m148) (as := [.ref 7, .int v11]) (rest := []) rfl rfl (Or.inl rfl) rfl rfl rfl rfl rfl).trans (fs_fn fun g19 r20 => ?_)
  exact (fs_rv (n := n + 0) rfl rfl).trans rfl
theorem q149 (L : Nat) (xs : Nat → Int32) (m d : Nat) (g : a2_G) (r : a2_A) : ev L xs (m + 1) (d + 1) 149 [.ref 6] g r = (fn_v (ev L xs (m + 1) d 58 [.ref 1] g r) fun v3 g1 r2 => (fn_n (ev L xs (m + 1) d 61 [.ref 1] g1 r2) fun g4 r5 => (fn_v (ev L xs (m + 1) d 59 [.ref 1, .int 1] g4 r5) fun v8 g6 r7 => (fn_v (ev L xs (m + 1) d 45 [.ref 2, .int 11, .int v8, .int v3] g6 r7) fun v11 g9 r10 => (fn_v (ev L xs (m + 1) d 59 [.ref 1, .int 4] g9 r10) fun v14 g12 r13 => (fn_n (ev L xs (m + 1) d 63 [.ref 2, .int (g12 608), .int v11] g12 r13) fun g15 r16 => (fn_n (ev L xs (m + 1) d 65 [.ref 8, .int 5] g15 r16) fun g17 r18 => (fn_n (ev L xs (m + 1) d 148 [.ref 7, .int v11] g17 r18) fun g19 r20 => (some (.inl none, g19, r20)))))))))) := (fs_ev (M := nm_m149) rfl rfl).trans (e149 L xs (m + 1) d m 863 g r)
/-- CobolParser$Row.recover()V -/
def B150_51 (L : Nat) (xs : Nat → Int32) (m d k : Nat) (x1 : Int32) (g : a2_G) (r : a2_A) : Option fn_Z := (fn_n (ev L xs m d 61 [.ref 1] g r) fun g3 r4 => (some (.inl none, g3, r4)))
theorem b150_51 (L : Nat) (xs : Nat → Int32) (m d k : Nat) (n : Nat) (x1 : Int32) (g : a2_G) (r : a2_A) : bk L xs 150 nm_m150 m d k (n + 3) 51 [some (.ref 1), some (.int x1)] [] g r = B150_51 L xs m d k x1 g r := by
  show _ = ((fn_n (ev L xs m d 61 [.ref 1] g r) fun g3 r4 => (some (.inl none, g3, r4))) : Option fn_Z)
  refine (fs_r (n := n + 2) 1 (pc' := 52) (L' := [some (.ref 1), some (.int x1)]) (S' := [.ref 1]) rfl).trans ?_
  refine (fs_cn (n := n + 1) (N := nm_m61) (as := [.ref 1]) (rest := []) rfl rfl (Or.inl rfl) rfl rfl rfl rfl rfl).trans (fs_fn fun g3 r4 => ?_)
  exact (fs_rv (n := n + 0) rfl rfl).trans rfl
def B150_17 (L : Nat) (xs : Nat → Int32) (m d k : Nat) (x1 : Int32) (g : a2_G) (r : a2_A) : Option fn_Z := (if am_c2 .ge x1 (g 102) = true then (B150_51 L xs m d k x1 g r) else (if am_inr x1 (r 100).1 = true then (if am_c2 .eq ((r 100).2 (x1 : Int32).toNatClampNeg) 4 = true then (B150_51 L xs m d k x1 g r) else (lp L xs 150 nm_m150 m d k 17 [some (.ref 1), some (.int (x1 + 1))] (upd g 103 ((g 103) + 1)) r)) else none))
theorem b150_17 (L : Nat) (xs : Nat → Int32) (m d k : Nat) (n : Nat) (x1 : Int32) (g : a2_G) (r : a2_A) : bk L xs 150 nm_m150 m d k (n + 18) 17 [some (.ref 1), some (.int x1)] [] g r = B150_17 L xs m d k x1 g r := by
  show _ = ((if am_c2 .ge x1 (g 102) = true then (B150_51 L xs m d k x1 g r) else (if am_inr x1 (r 100).1 = true then (if am_c2 .eq ((r 100).2 (x1 : Int32).toNatClampNeg) 4 = true then (B150_51 L xs m d k x1 g r) else (lp L xs 150 nm_m150 m d k 17 [some (.ref 1), some (.int (x1 + 1))] (upd g 103 ((g 103) + 1)) r)) else none)) : Option fn_Z)
  refine (fs_r (n := n + 15) 3 (pc' := 22) (L' := [some (.ref 1), some (.int x1)]) (S' := [.int (g 102), .int x1]) rfl).trans ?_
  refine (fs_j (n := n + 14) rfl (t := 51) rfl (by decide)).trans (fs_ite ?_ ?_)
  · skip
    exact b150_51 L xs m d k (n + 11) x1 g r
  · skip
    refine (fs_r (n := n + 11) 3 (pc' := 30) (L' := [some (.ref 1), some (.int x1)]) (S' := [.int x1, .ref 10100]) rfl).trans ?_
    refine (fs_il (n := n + 10) (k := 100) rfl rfl).trans (fs_ite ?_ rfl)
    refine (fs_r (n := n + 9) 1 (pc' := 32) (L' := [some (.ref 1), some (.int x1)]) (S' := [.int 4, .int ((r 100).2 (x1 : Int32).toNatClampNeg)]) rfl).trans ?_
    refine (fs_j (n := n + 8) rfl (t := 51) rfl (by decide)).trans (fs_ite ?_ ?_)
    · skip
      exact b150_51 L xs m d k (n + 5) x1 g r
    · skip
      refine (fs_r (n := n + 3) 5 (pc' := 42) (L' := [some (.ref 1), some (.int x1)]) (S' := [.int ((g 103) + 1), .ref 1]) rfl).trans ?_
      refine (fs_pf (n := n + 2) (ci := 1) (j := 3) rfl rfl rfl rfl).trans ?_
      refine (fs_r (n := n + 1) 1 (pc' := 48) (L' := [some (.ref 1), some (.int (x1 + 1))]) (S' := []) rfl).trans ?_
      exact (fs_gb (n := n + 0) rfl (t := 17) rfl (by decide)).trans rfl
theorem l150_17 (L : Nat) (xs : Nat → Int32) (m d k : Nat) (x1 : Int32) (g : a2_G) (r : a2_A) : lp L xs 150 nm_m150 m d (k + 1) 17 [some (.ref 1), some (.int x1)] g r = B150_17 L xs m d k x1 g r := fs_lp.trans (b150_17 L xs m d k 882 x1 g r)
theorem e150 (L : Nat) (xs : Nat → Int32) (m d k : Nat) (n : Nat) (g : a2_G) (r : a2_A) : bk L xs 150 nm_m150 m d k (n + 27) 0 [some (.ref 1), none] [] g r = (fn_n (ev L xs m d 144 [.ref 1, .int (g 104), .int (g 103)] g r) fun g1 r2 => (B150_17 L xs m d k (g1 103) g1 r2)) := by
  refine (fs_r (n := n + 22) 5 (pc' := 9) (L' := [some (.ref 1), none]) (S' := [.int (g 103), .int (g 104), .ref 1]) rfl).trans ?_
  refine (fs_cn (n := n + 21) (N := nm_m144) (as := [.ref 1, .int (g 104), .int (g 103)]) (rest := []) rfl rfl (Or.inl rfl) rfl rfl rfl rfl rfl).trans (fs_fn fun g1 r2 => ?_)
  refine (fs_r (n := n + 18) 3 (pc' := 17) (L' := [some (.ref 1), some (.int (g1 103))]) (S' := []) rfl).trans ?_
  exact b150_17 L xs m d k (n + 0) (g1 103) g1 r2
theorem q150 (L : Nat) (xs : Nat → Int32) (m d : Nat) (g : a2_G) (r : a2_A) : ev L xs (m + 1) (d + 1) 150 [.ref 1] g r = (fn_n (ev L xs (m + 1) d 144 [.ref 1, .int (g 104), .int (g 103)] g r) fun g1 r2 => (B150_17 L xs (m + 1) d m (g1 103) g1 r2)) := (fs_ev (M := nm_m150) rfl rfl).trans (e150 L xs (m + 1) d m 873 g r)
/-- CobolParser$Clauses.checkEnd()V -/
def B151_71 (L : Nat) (xs : Nat → Int32) (m d k : Nat) (x1 x2 : Int32) (g : a2_G) (r : a2_A) : Option fn_Z := (some (.inl none, g, r))
theorem b151_71 (L : Nat) (xs : Nat → Int32) (m d k : Nat) (n : Nat) (x1 x2 : Int32) (g : a2_G) (r : a2_A) : bk L xs 151 nm_m151 m d k (n + 1) 71 [some (.ref 6), some (.int x1), some (.int x2)] [] g r = B151_71 L xs m d k x1 x2 g r := by
  show _ = ((some (.inl none, g, r)) : Option fn_Z)
  exact (fs_rv (n := n + 0) rfl rfl).trans rfl
def B151_56 (L : Nat) (xs : Nat → Int32) (m d k : Nat) (x1 x2 : Int32) (g : a2_G) (r : a2_A) : Option fn_Z := (fn_v (ev L xs m d 58 [.ref 1] g r) fun v9 g7 r8 => (fn_n (ev L xs m d 144 [.ref 1, .int 1, .int v9] g7 r8) fun g10 r11 => (B151_71 L xs m d k x1 x2 g10 r11)))
theorem b151_56 (L : Nat) (xs : Nat → Int32) (m d k : Nat) (n : Nat) (x1 x2 : Int32) (g : a2_G) (r : a2_A) : bk L xs 151 nm_m151 m d k (n + 8) 56 [some (.ref 6), some (.int x1), some (.int x2)] [] g r = B151_56 L xs m d k x1 x2 g r := by
  show _ = ((fn_v (ev L xs m d 58 [.ref 1] g r) fun v9 g7 r8 => (fn_n (ev L xs m d 144 [.ref 1, .int 1, .int v9] g7 r8) fun g10 r11 => (B151_71 L xs m d k x1 x2 g10 r11))) : Option fn_Z)
  refine (fs_r (n := n + 3) 5 (pc' := 65) (L' := [some (.ref 6), some (.int x1), some (.int x2)]) (S' := [.ref 1, .int 1, .ref 1]) rfl).trans ?_
  refine (fs_cv (n := n + 2) (N := nm_m58) (as := [.ref 1]) (rest := [.int 1, .ref 1]) rfl rfl (Or.inl rfl) rfl rfl rfl rfl rfl).trans (fs_fv fun v9 g7 r8 => ?_)
  refine (fs_cn (n := n + 1) (N := nm_m144) (as := [.ref 1, .int 1, .int v9]) (rest := []) rfl rfl (Or.inl rfl) rfl rfl rfl rfl rfl).trans (fs_fn fun g10 r11 => ?_)
  exact b151_71 L xs m d k (n + 0) x1 x2 g10 r11
def B151_29 (L : Nat) (xs : Nat → Int32) (m d k : Nat) (x1 x2 : Int32) (g : a2_G) (r : a2_A) : Option fn_Z := (fn_v (ev L xs m d 126 [.ref 8] g r) fun v6 g4 r5 => (if am_c2 .gt v6 1 = true then (B151_56 L xs m d k x1 x2 g4 r5) else (fn_v (ev L xs m d 126 [.ref 8] g4 r5) fun v14 g12 r13 => (if am_c2 .ne v14 1 = true then (B151_71 L xs m d k x1 x2 g12 r13) else (if am_c2 .ne x2 0 = true then (B151_71 L xs m d k x1 x2 g12 r13) else (B151_56 L xs m d k x1 x2 g12 r13))))))
theorem b151_29 (L : Nat) (xs : Nat → Int32) (m d k : Nat) (n : Nat) (x1 x2 : Int32) (g : a2_G) (r : a2_A) : bk L xs 151 nm_m151 m d k (n + 21) 29 [some (.ref 6), some (.int x1), none] [.int x2] g r = B151_29 L xs m d k x1 x2 g r := by
  show _ = ((fn_v (ev L xs m d 126 [.ref 8] g r) fun v6 g4 r5 => (if am_c2 .gt v6 1 = true then (B151_56 L xs m d k x1 x2 g4 r5) else (fn_v (ev L xs m d 126 [.ref 8] g4 r5) fun v14 g12 r13 => (if am_c2 .ne v14 1 = true then (B151_71 L xs m d k x1 x2 g12 r13) else (if am_c2 .ne x2 0 = true then (B151_71 L xs m d k x1 x2 g12 r13) else (B151_56 L xs m d k x1 x2 g12 r13)))))) : Option fn_Z)
  refine (fs_r (n := n + 18) 3 (pc' := 34) (L' := [some (.ref 6), some (.int x1), some (.int x2)]) (S' := [.ref 8]) rfl).trans ?_
  refine (fs_cv (n := n + 17) (N := nm_m126) (as := [.ref 8]) (rest := []) rfl rfl (Or.inl rfl) rfl rfl rfl rfl rfl).trans (fs_fv fun v6 g4 r5 => ?_)
  refine (fs_r (n := n + 16) 1 (pc' := 38) (L' := [some (.ref 6), some (.int x1), some (.int x2)]) (S' := [.int 1, .int v6]) rfl).trans ?_
  refine (fs_j (n := n + 15) rfl (t := 56) rfl (by decide)).trans (fs_ite ?_ ?_)
  · skip
    exact b151_56 L xs m d k (n + 7) x1 x2 g4 r5
  · skip
    refine (fs_r (n := n + 13) 2 (pc' := 45) (L' := [some (.ref 6), some (.int x1), some (.int x2)]) (S' := [.ref 8]) rfl).trans ?_
    refine (fs_cv (n := n + 12) (N := nm_m126) (as := [.ref 8]) (rest := []) rfl rfl (Or.inl rfl) rfl rfl rfl rfl rfl).trans (fs_fv fun v14 g12 r13 => ?_)
    refine (fs_r (n := n + 11) 1 (pc' := 49) (L' := [some (.ref 6), some (.int x1), some (.int x2)]) (S' := [.int 1, .int v14]) rfl).trans ?_
    refine (fs_j (n := n + 10) rfl (t := 71) rfl (by decide)).trans (fs_ite ?_ ?_)
    · skip
      exact b151_71 L xs m d k (n + 9) x1 x2 g12 r13
    · skip
      refine (fs_r (n := n + 9) 1 (pc' := 53) (L' := [some (.ref 6), some (.int x1), some (.int x2)]) (S' := [.int x2]) rfl).trans ?_
      refine (fs_i (n := n + 8) rfl (t := 71) rfl (by decide)).trans (fs_ite ?_ ?_)
      · skip
        exact b151_71 L xs m d k (n + 7) x1 x2 g12 r13
      · skip
        exact b151_56 L xs m d k (n + 0) x1 x2 g12 r13
def B151_28 (L : Nat) (xs : Nat → Int32) (m d k : Nat) (x1 : Int32) (g : a2_G) (r : a2_A) : Option fn_Z := (B151_29 L xs m d k x1 0 g r)
theorem b151_28 (L : Nat) (xs : Nat → Int32) (m d k : Nat) (n : Nat) (x1 : Int32) (g : a2_G) (r : a2_A) : bk L xs 151 nm_m151 m d k (n + 22) 28 [some (.ref 6), some (.int x1), none] [] g r = B151_28 L xs m d k x1 g r := by
  show _ = ((B151_29 L xs m d k x1 0 g r) : Option fn_Z)
  refine (fs_r (n := n + 21) 1 (pc' := 29) (L' := [some (.ref 6), some (.int x1), none]) (S' := [.int 0]) rfl).trans ?_
  exact b151_29 L xs m d k (n + 0) x1 0 g r
theorem e151 (L : Nat) (xs : Nat → Int32) (m d k : Nat) (n : Nat) (g : a2_G) (r : a2_A) : bk L xs 151 nm_m151 m d k (n + 35) 0 [some (.ref 6), none, none] [] g r = (fn_v (ev L xs m d 54 [.ref 8] g r) fun v3 g1 r2 => (if am_c2 .eq v3 0 = true then (B151_28 L xs m d k v3 g1 r2) else (if am_c2 .eq v3 9 = true then (B151_28 L xs m d k v3 g1 r2) else (if am_c2 .eq v3 12 = true then (B151_28 L xs m d k v3 g1 r2) else (B151_29 L xs m d k v3 1 g1 r2))))) := by
  refine (fs_r (n := n + 33) 2 (pc' := 4) (L' := [some (.ref 6), none, none]) (S' := [.ref 8]) rfl).trans ?_
  refine (fs_cv (n := n + 32) (N := nm_m54) (as := [.ref 8]) (rest := []) rfl rfl (Or.inl rfl) rfl rfl rfl rfl rfl).trans (fs_fv fun v3 g1 r2 => ?_)
  refine (fs_r (n := n + 30) 2 (pc' := 9) (L' := [some (.ref 6), some (.int v3), none]) (S' := [.int v3]) rfl).trans ?_
  refine (fs_i (n := n + 29) rfl (t := 28) rfl (by decide)).trans (fs_ite ?_ ?_)
  · skip
    exact b151_28 L xs m d k (n + 7) v3 g1 r2
  · skip
    refine (fs_r (n := n + 27) 2 (pc' := 15) (L' := [some (.ref 6), some (.int v3), none]) (S' := [.int 9, .int v3]) rfl).trans ?_
    refine (fs_j (n := n + 26) rfl (t := 28) rfl (by decide)).trans (fs_ite ?_ ?_)
    · skip
      exact b151_28 L xs m d k (n + 4) v3 g1 r2
    · skip
      refine (fs_r (n := n + 24) 2 (pc' := 21) (L' := [some (.ref 6), some (.int v3), none]) (S' := [.int 12, .int v3]) rfl).trans ?_
      refine (fs_j (n := n + 23) rfl (t := 28) rfl (by decide)).trans (fs_ite ?_ ?_)
      · skip
        exact b151_28 L xs m d k (n + 1) v3 g1 r2
      · skip
        refine (fs_r (n := n + 22) 1 (pc' := 25) (L' := [some (.ref 6), some (.int v3), none]) (S' := [.int 1]) rfl).trans ?_
        refine (fs_go (n := n + 21) rfl (t := 29) rfl (by decide)).trans ?_
        exact b151_29 L xs m d k (n + 0) v3 1 g1 r2
theorem q151 (L : Nat) (xs : Nat → Int32) (m d : Nat) (g : a2_G) (r : a2_A) : ev L xs (m + 1) (d + 1) 151 [.ref 6] g r = (fn_v (ev L xs (m + 1) d 54 [.ref 8] g r) fun v3 g1 r2 => (if am_c2 .eq v3 0 = true then (B151_28 L xs (m + 1) d m v3 g1 r2) else (if am_c2 .eq v3 9 = true then (B151_28 L xs (m + 1) d m v3 g1 r2) else (if am_c2 .eq v3 12 = true then (B151_28 L xs (m + 1) d m v3 g1 r2) else (B151_29 L xs (m + 1) d m v3 1 g1 r2))))) := (fs_ev (M := nm_m151) rfl rfl).trans (e151 L xs (m + 1) d m 865 g r)
/-- CobolParser.finish()I -/
theorem e152 (L : Nat) (xs : Nat → Int32) (m d k : Nat) (n : Nat) (g : a2_G) (r : a2_A) : bk L xs 152 nm_m152 m d k (n + 14) 0 [some (.ref 0)] [] g r = (fn_n (ev L xs m d 153 [.ref 1] g r) fun g1 r2 => (fn_v (ev L xs m d 27 [.ref 1] g1 r2) fun v5 g3 r4 => (if am_c2 .le v5 0 = true then (fn_n (ev L xs m d 154 [.ref 2] g3 r4) fun g6 r7 => (fn_v (ev L xs m d 40 [.ref 2] g6 r7) fun v10 g8 r9 => (some (.inl (some (.int v10)), g8, r9)))) else (some (.inr 11, g3, r4))))) := by
  refine (fs_r (n := n + 12) 2 (pc' := 4) (L' := [some (.ref 0)]) (S' := [.ref 1]) rfl).trans ?_
  refine (fs_cn (n := n + 11) (N := nm_m153) (as := [.ref 1]) (rest := []) rfl rfl (Or.inl rfl) rfl rfl rfl rfl rfl).trans (fs_fn fun g1 r2 => ?_)
  refine (fs_r (n := n + 9) 2 (pc' := 11) (L' := [some (.ref 0)]) (S' := [.ref 1]) rfl).trans ?_
  refine (fs_cv (n := n + 8) (N := nm_m27) (as := [.ref 1]) (rest := []) rfl rfl (Or.inl rfl) rfl rfl rfl rfl rfl).trans (fs_fv fun v5 g3 r4 => ?_)
  refine (fs_i (n := n + 7) rfl (t := 27) rfl (by decide)).trans (fs_ite ?_ ?_)
  · skip
    refine (fs_r (n := n + 5) 2 (pc' := 31) (L' := [some (.ref 0)]) (S' := [.ref 2]) rfl).trans ?_
    refine (fs_cn (n := n + 4) (N := nm_m154) (as := [.ref 2]) (rest := []) rfl rfl (Or.inl rfl) rfl rfl rfl rfl rfl).trans (fs_fn fun g6 r7 => ?_)
    refine (fs_r (n := n + 2) 2 (pc' := 38) (L' := [some (.ref 0)]) (S' := [.ref 2]) rfl).trans ?_
    refine (fs_cv (n := n + 1) (N := nm_m40) (as := [.ref 2]) (rest := []) rfl rfl (Or.inl rfl) rfl rfl rfl rfl rfl).trans (fs_fv fun v10 g8 r9 => ?_)
    exact (fs_ri (n := n + 0) rfl rfl).trans rfl
  · skip
    exact (fs_th (n := n + 6) rfl rfl (Nat.le_of_ble_eq_true rfl)).trans rfl
theorem q152 (L : Nat) (xs : Nat → Int32) (m d : Nat) (g : a2_G) (r : a2_A) : ev L xs (m + 1) (d + 1) 152 [.ref 0] g r = (fn_n (ev L xs (m + 1) d 153 [.ref 1] g r) fun g1 r2 => (fn_v (ev L xs (m + 1) d 27 [.ref 1] g1 r2) fun v5 g3 r4 => (if am_c2 .le v5 0 = true then (fn_n (ev L xs (m + 1) d 154 [.ref 2] g3 r4) fun g6 r7 => (fn_v (ev L xs (m + 1) d 40 [.ref 2] g6 r7) fun v10 g8 r9 => (some (.inl (some (.int v10)), g8, r9)))) else (some (.inr 11, g3, r4))))) := (fs_ev (M := nm_m152) rfl rfl).trans (e152 L xs (m + 1) d m 886 g r)
/-- CobolParser$Row.clear()V -/
theorem e153 (L : Nat) (xs : Nat → Int32) (m d k : Nat) (n : Nat) (g : a2_G) (r : a2_A) : bk L xs 153 nm_m153 m d k (n + 7) 0 [some (.ref 1)] [] g r = (some (.inl none, (upd (upd g 102 0) 103 0), r)) := by
  refine (fs_r (n := n + 5) 2 (pc' := 2) (L' := [some (.ref 1)]) (S' := [.int 0, .ref 1]) rfl).trans ?_
  refine (fs_pf (n := n + 4) (ci := 1) (j := 2) rfl rfl rfl rfl).trans ?_
  refine (fs_r (n := n + 2) 2 (pc' := 7) (L' := [some (.ref 1)]) (S' := [.int 0, .ref 1]) rfl).trans ?_
  refine (fs_pf (n := n + 1) (ci := 1) (j := 3) rfl rfl rfl rfl).trans ?_
  exact (fs_rv (n := n + 0) rfl rfl).trans rfl
theorem q153 (L : Nat) (xs : Nat → Int32) (m d : Nat) (g : a2_G) (r : a2_A) : ev L xs (m + 1) (d + 1) 153 [.ref 1] g r = (some (.inl none, (upd (upd g 102 0) 103 0), r)) := (fs_ev (M := nm_m153) rfl rfl).trans (e153 L xs (m + 1) d m 893 g r)
/-- CobolParser$Tree.number()V -/
def B154_114 (L : Nat) (xs : Nat → Int32) (m d k : Nat) (x1 x2 : Int32) (g : a2_G) (r : a2_A) : Option fn_Z := (some (.inl none, g, r))
theorem b154_114 (L : Nat) (xs : Nat → Int32) (m d k : Nat) (n : Nat) (x1 x2 : Int32) (g : a2_G) (r : a2_A) : bk L xs 154 nm_m154 m d k (n + 1) 114 [some (.ref 2), some (.int x1), some (.int x2), none] [] g r = B154_114 L xs m d k x1 x2 g r := by
  show _ = ((some (.inl none, g, r)) : Option fn_Z)
  exact (fs_rv (n := n + 0) rfl rfl).trans rfl
def B154_91 (L : Nat) (xs : Nat → Int32) (m d k : Nat) (x1 x2 x3 x4 x5 : Int32) (g : a2_G) (r : a2_A) : Option fn_Z := (fn_v (ev L xs m d 155 [.ref 2, .int x1] (upd (upd g 203 (x5 + x4)) 202 (x2 + 1)) r) fun v21 g19 r20 => (lp L xs 154 nm_m154 m d k 9 [some (.ref 2), some (.int v21), some (.int (x2 + 1)), some (.int x3)] g19 r20))
theorem b154_91 (L : Nat) (xs : Nat → Int32) (m d k : Nat) (n : Nat) (x1 x2 x3 x4 x5 : Int32) (g : a2_G) (r : a2_A) : bk L xs 154 nm_m154 m d k (n + 13) 91 [some (.ref 2), some (.int x1), some (.int x2), some (.int x3)] [.int x4, .int x5, .ref 2] g r = B154_91 L xs m d k x1 x2 x3 x4 x5 g r := by
  show _ = ((fn_v (ev L xs m d 155 [.ref 2, .int x1] (upd (upd g 203 (x5 + x4)) 202 (x2 + 1)) r) fun v21 g19 r20 => (lp L xs 154 nm_m154 m d k 9 [some (.ref 2), some (.int v21), some (.int (x2 + 1)), some (.int x3)] g19 r20)) : Option fn_Z)
  refine (fs_r (n := n + 12) 1 (pc' := 92) (L' := [some (.ref 2), some (.int x1), some (.int x2), some (.int x3)]) (S' := [.int (x5 + x4), .ref 2]) rfl).trans ?_
  refine (fs_pf (n := n + 11) (ci := 2) (j := 3) rfl rfl rfl rfl).trans ?_
  refine (fs_r (n := n + 7) 4 (pc' := 99) (L' := [some (.ref 2), some (.int x1), some (.int x2), some (.int x3)]) (S' := [.int (x2 + 1), .ref 2]) rfl).trans ?_
  refine (fs_pf (n := n + 6) (ci := 2) (j := 2) rfl rfl rfl rfl).trans ?_
  refine (fs_r (n := n + 4) 2 (pc' := 104) (L' := [some (.ref 2), some (.int x1), some (.int x2), some (.int x3)]) (S' := [.int x1, .ref 2]) rfl).trans ?_
  refine (fs_cv (n := n + 3) (N := nm_m155) (as := [.ref 2, .int x1]) (rest := []) rfl rfl (Or.inl rfl) rfl rfl rfl rfl rfl).trans (fs_fv fun v21 g19 r20 => ?_)
  refine (fs_r (n := n + 1) 2 (pc' := 111) (L' := [some (.ref 2), some (.int v21), some (.int (x2 + 1)), some (.int x3)]) (S' := []) rfl).trans ?_
  exact (fs_gb (n := n + 0) rfl (t := 9) rfl (by decide)).trans rfl
def B154_9 (L : Nat) (xs : Nat → Int32) (m d k : Nat) (x1 x2 : Int32) (g : a2_G) (r : a2_A) : Option fn_Z := (if am_c2 .ge x2 (g 201) = true then (B154_114 L xs m d k x1 x2 g r) else (if am_c2 .eq x1 (-1) = true then (B154_114 L xs m d k x1 x2 g r) else (fn_n (ev L xs m d 69 [.ref 2, .int x2, .int 11, .int x1] g r) fun g4 r5 => (fn_n (ev L xs m d 69 [.ref 2, .int x1, .int 10, .int x2] g4 r5) fun g6 r7 => (fn_v (ev L xs m d 17 [.ref 2, .int x1, .int 4] g6 r7) fun v10 g8 r9 => (fn_v (ev L xs m d 17 [.ref 2, .int v10, .int 9] g8 r9) fun v13 g11 r12 => (fn_n (ev L xs m d 69 [.ref 2, .int x1, .int 9, .int (v13 + 1)] g11 r12) fun g14 r15 => (fn_v (ev L xs m d 33 [.ref 2, .int x1] (upd g14 204 (if ((g14 204) : Int32) < (v13 + 1) then (v13 + 1) else (g14 204))) r15) fun v18 g16 r17 => (if am_c2 .eq v18 0 = true then (B154_91 L xs m d k x1 x2 (v13 + 1) 0 (g14 203) g16 r17) else (B154_91 L xs m d k x1 x2 (v13 + 1) 1 (g14 203) g16 r17))))))))))
theorem b154_9 (L : Nat) (xs : Nat → Int32) (m d k : Nat) (n : Nat) (x1 x2 : Int32) (g : a2_G) (r : a2_A) : bk L xs 154 nm_m154 m d k (n + 60) 9 [some (.ref 2), some (.int x1), some (.int x2), none] [] g r = B154_9 L xs m d k x1 x2 g r := by
  show _ = ((if am_c2 .ge x2 (g 201) = true then (B154_114 L xs m d k x1 x2 g r) else (if am_c2 .eq x1 (-1) = true then (B154_114 L xs m d k x1 x2 g r) else (fn_n (ev L xs m d 69 [.ref 2, .int x2, .int 11, .int x1] g r) fun g4 r5 => (fn_n (ev L xs m d 69 [.ref 2, .int x1, .int 10, .int x2] g4 r5) fun g6 r7 => (fn_v (ev L xs m d 17 [.ref 2, .int x1, .int 4] g6 r7) fun v10 g8 r9 => (fn_v (ev L xs m d 17 [.ref 2, .int v10, .int 9] g8 r9) fun v13 g11 r12 => (fn_n (ev L xs m d 69 [.ref 2, .int x1, .int 9, .int (v13 + 1)] g11 r12) fun g14 r15 => (fn_v (ev L xs m d 33 [.ref 2, .int x1] (upd g14 204 (if ((g14 204) : Int32) < (v13 + 1) then (v13 + 1) else (g14 204))) r15) fun v18 g16 r17 => (if am_c2 .eq v18 0 = true then (B154_91 L xs m d k x1 x2 (v13 + 1) 0 (g14 203) g16 r17) else (B154_91 L xs m d k x1 x2 (v13 + 1) 1 (g14 203) g16 r17)))))))))) : Option fn_Z)
  refine (fs_r (n := n + 57) 3 (pc' := 14) (L' := [some (.ref 2), some (.int x1), some (.int x2), none]) (S' := [.int (g 201), .int x2]) rfl).trans ?_
  refine (fs_j (n := n + 56) rfl (t := 114) rfl (by decide)).trans (fs_ite ?_ ?_)
  · skip
    exact b154_114 L xs m d k (n + 55) x1 x2 g r
  · skip
    refine (fs_r (n := n + 54) 2 (pc' := 19) (L' := [some (.ref 2), some (.int x1), some (.int x2), none]) (S' := [.int (-1), .int x1]) rfl).trans ?_
    refine (fs_j (n := n + 53) rfl (t := 114) rfl (by decide)).trans (fs_ite ?_ ?_)
    · skip
      exact b154_114 L xs m d k (n + 52) x1 x2 g r
    · skip
      refine (fs_r (n := n + 49) 4 (pc' := 27) (L' := [some (.ref 2), some (.int x1), some (.int x2), none]) (S' := [.int x1, .int 11, .int x2, .ref 2]) rfl).trans ?_
      refine (fs_cn (n := n + 48) (N := nm_m69) (as := [.ref 2, .int x2, .int 11, .int x1]) (rest := []) rfl rfl (Or.inl rfl) rfl rfl rfl rfl rfl).trans (fs_fn fun g4 r5 => ?_)
      refine (fs_r (n := n + 44) 4 (pc' := 35) (L' := [some (.ref 2), some (.int x1), some (.int x2), none]) (S' := [.int x2, .int 10, .int x1, .ref 2]) rfl).trans ?_
      refine (fs_cn (n := n + 43) (N := nm_m69) (as := [.ref 2, .int x1, .int 10, .int x2]) (rest := []) rfl rfl (Or.inl rfl) rfl rfl rfl rfl rfl).trans (fs_fn fun g6 r7 => ?_)
      refine (fs_r (n := n + 39) 4 (pc' := 42) (L' := [some (.ref 2), some (.int x1), some (.int x2), none]) (S' := [.int 4, .int x1, .ref 2, .ref 2]) rfl).trans ?_
      refine (fs_cv (n := n + 38) (N := nm_m17) (as := [.ref 2, .int x1, .int 4]) (rest := [.ref 2]) rfl rfl (Or.inl rfl) rfl rfl rfl rfl rfl).trans (fs_fv fun v10 g8 r9 => ?_)
      refine (fs_r (n := n + 37) 1 (pc' := 47) (L' := [some (.ref 2), some (.int x1), some (.int x2), none]) (S' := [.int 9, .int v10, .ref 2]) rfl).trans ?_
      refine (fs_cv (n := n + 36) (N := nm_m17) (as := [.ref 2, .int v10, .int 9]) (rest := []) rfl rfl (Or.inl rfl) rfl rfl rfl rfl rfl).trans (fs_fv fun v13 g11 r12 => ?_)
      refine (fs_r (n := n + 29) 7 (pc' := 58) (L' := [some (.ref 2), some (.int x1), some (.int x2), some (.int (v13 + 1))]) (S' := [.int (v13 + 1), .int 9, .int x1, .ref 2]) rfl).trans ?_
      refine (fs_cn (n := n + 28) (N := nm_m69) (as := [.ref 2, .int x1, .int 9, .int (v13 + 1)]) (rest := []) rfl rfl (Or.inl rfl) rfl rfl rfl rfl rfl).trans (fs_fn fun g14 r15 => ?_)
      refine (fs_r (n := n + 24) 4 (pc' := 67) (L' := [some (.ref 2), some (.int x1), some (.int x2), some (.int (v13 + 1))]) (S' := [.int (v13 + 1), .int (g14 204), .ref 2]) rfl).trans ?_
      refine (fs_mx (n := n + 23) (j := 0) rfl rfl (Nat.le_of_ble_eq_true rfl)).trans ?_
      refine (fs_pf (n := n + 22) (ci := 2) (j := 4) rfl rfl rfl rfl).trans ?_
      refine (fs_r (n := n + 17) 5 (pc' := 80) (L' := [some (.ref 2), some (.int x1), some (.int x2), some (.int (v13 + 1))]) (S' := [.int x1, .ref 2, .int (g14 203), .ref 2]) rfl).trans ?_
      refine (fs_cv (n := n + 16) (N := nm_m33) (as := [.ref 2, .int x1]) (rest := [.int (g14 203), .ref 2]) rfl rfl (Or.inl rfl) rfl rfl rfl rfl rfl).trans (fs_fv fun v18 g16 r17 => ?_)
      refine (fs_i (n := n + 15) rfl (t := 90) rfl (by decide)).trans (fs_ite ?_ ?_)
      · skip
        refine (fs_r (n := n + 14) 1 (pc' := 91) (L' := [some (.ref 2), some (.int x1), some (.int x2), some (.int (v13 + 1))]) (S' := [.int 0, .int (g14 203), .ref 2]) rfl).trans ?_
        exact b154_91 L xs m d k (n + 1) x1 x2 (v13 + 1) 0 (g14 203) g16 r17
      · skip
        refine (fs_r (n := n + 14) 1 (pc' := 87) (L' := [some (.ref 2), some (.int x1), some (.int x2), some (.int (v13 + 1))]) (S' := [.int 1, .int (g14 203), .ref 2]) rfl).trans ?_
        refine (fs_go (n := n + 13) rfl (t := 91) rfl (by decide)).trans ?_
        exact b154_91 L xs m d k (n + 0) x1 x2 (v13 + 1) 1 (g14 203) g16 r17
theorem l154_9 (L : Nat) (xs : Nat → Int32) (m d k : Nat) (x1 x2 : Int32) (g : a2_G) (r : a2_A) : lp L xs 154 nm_m154 m d (k + 1) 9 [some (.ref 2), some (.int x1), some (.int x2), none] g r = B154_9 L xs m d k x1 x2 g r := fs_lp.trans (b154_9 L xs m d k 840 x1 x2 g r)
def B154_114_1 (L : Nat) (xs : Nat → Int32) (m d k : Nat) (x1 x2 x3 : Int32) (g : a2_G) (r : a2_A) : Option fn_Z := (some (.inl none, g, r))
theorem b154_114_1 (L : Nat) (xs : Nat → Int32) (m d k : Nat) (n : Nat) (x1 x2 x3 : Int32) (g : a2_G) (r : a2_A) : bk L xs 154 nm_m154 m d k (n + 1) 114 [some (.ref 2), some (.int x1), some (.int x2), some (.int x3)] [] g r = B154_114_1 L xs m d k x1 x2 x3 g r := by
  show _ = ((some (.inl none, g, r)) : Option fn_Z)
  exact (fs_rv (n := n + 0) rfl rfl).trans rfl
def B154_9_1 (L : Nat) (xs : Nat → Int32) (m d k : Nat) (x1 x2 x3 : Int32) (g : a2_G) (r : a2_A) : Option fn_Z := (if am_c2 .ge x2 (g 201) = true then (B154_114_1 L xs m d k x1 x2 x3 g r) else (if am_c2 .eq x1 (-1) = true then (B154_114_1 L xs m d k x1 x2 x3 g r) else (fn_n (ev L xs m d 69 [.ref 2, .int x2, .int 11, .int x1] g r) fun g22 r23 => (fn_n (ev L xs m d 69 [.ref 2, .int x1, .int 10, .int x2] g22 r23) fun g24 r25 => (fn_v (ev L xs m d 17 [.ref 2, .int x1, .int 4] g24 r25) fun v28 g26 r27 => (fn_v (ev L xs m d 17 [.ref 2, .int v28, .int 9] g26 r27) fun v31 g29 r30 => (fn_n (ev L xs m d 69 [.ref 2, .int x1, .int 9, .int (v31 + 1)] g29 r30) fun g32 r33 => (fn_v (ev L xs m d 33 [.ref 2, .int x1] (upd g32 204 (if ((g32 204) : Int32) < (v31 + 1) then (v31 + 1) else (g32 204))) r33) fun v36 g34 r35 => (if am_c2 .eq v36 0 = true then (B154_91 L xs m d k x1 x2 (v31 + 1) 0 (g32 203) g34 r35) else (B154_91 L xs m d k x1 x2 (v31 + 1) 1 (g32 203) g34 r35))))))))))
theorem b154_9_1 (L : Nat) (xs : Nat → Int32) (m d k : Nat) (n : Nat) (x1 x2 x3 : Int32) (g : a2_G) (r : a2_A) : bk L xs 154 nm_m154 m d k (n + 60) 9 [some (.ref 2), some (.int x1), some (.int x2), some (.int x3)] [] g r = B154_9_1 L xs m d k x1 x2 x3 g r := by
  show _ = ((if am_c2 .ge x2 (g 201) = true then (B154_114_1 L xs m d k x1 x2 x3 g r) else (if am_c2 .eq x1 (-1) = true then (B154_114_1 L xs m d k x1 x2 x3 g r) else (fn_n (ev L xs m d 69 [.ref 2, .int x2, .int 11, .int x1] g r) fun g22 r23 => (fn_n (ev L xs m d 69 [.ref 2, .int x1, .int 10, .int x2] g22 r23) fun g24 r25 => (fn_v (ev L xs m d 17 [.ref 2, .int x1, .int 4] g24 r25) fun v28 g26 r27 => (fn_v (ev L xs m d 17 [.ref 2, .int v28, .int 9] g26 r27) fun v31 g29 r30 => (fn_n (ev L xs m d 69 [.ref 2, .int x1, .int 9, .int (v31 + 1)] g29 r30) fun g32 r33 => (fn_v (ev L xs m d 33 [.ref 2, .int x1] (upd g32 204 (if ((g32 204) : Int32) < (v31 + 1) then (v31 + 1) else (g32 204))) r33) fun v36 g34 r35 => (if am_c2 .eq v36 0 = true then (B154_91 L xs m d k x1 x2 (v31 + 1) 0 (g32 203) g34 r35) else (B154_91 L xs m d k x1 x2 (v31 + 1) 1 (g32 203) g34 r35)))))))))) : Option fn_Z)
  refine (fs_r (n := n + 57) 3 (pc' := 14) (L' := [some (.ref 2), some (.int x1), some (.int x2), some (.int x3)]) (S' := [.int (g 201), .int x2]) rfl).trans ?_
  refine (fs_j (n := n + 56) rfl (t := 114) rfl (by decide)).trans (fs_ite ?_ ?_)
  · skip
    exact b154_114_1 L xs m d k (n + 55) x1 x2 x3 g r
  · skip
    refine (fs_r (n := n + 54) 2 (pc' := 19) (L' := [some (.ref 2), some (.int x1), some (.int x2), some (.int x3)]) (S' := [.int (-1), .int x1]) rfl).trans ?_
    refine (fs_j (n := n + 53) rfl (t := 114) rfl (by decide)).trans (fs_ite ?_ ?_)
    · skip
      exact b154_114_1 L xs m d k (n + 52) x1 x2 x3 g r
    · skip
      refine (fs_r (n := n + 49) 4 (pc' := 27) (L' := [some (.ref 2), some (.int x1), some (.int x2), some (.int x3)]) (S' := [.int x1, .int 11, .int x2, .ref 2]) rfl).trans ?_
      refine (fs_cn (n := n + 48) (N := nm_m69) (as := [.ref 2, .int x2, .int 11, .int x1]) (rest := []) rfl rfl (Or.inl rfl) rfl rfl rfl rfl rfl).trans (fs_fn fun g22 r23 => ?_)
      refine (fs_r (n := n + 44) 4 (pc' := 35) (L' := [some (.ref 2), some (.int x1), some (.int x2), some (.int x3)]) (S' := [.int x2, .int 10, .int x1, .ref 2]) rfl).trans ?_
      refine (fs_cn (n := n + 43) (N := nm_m69) (as := [.ref 2, .int x1, .int 10, .int x2]) (rest := []) rfl rfl (Or.inl rfl) rfl rfl rfl rfl rfl).trans (fs_fn fun g24 r25 => ?_)
      refine (fs_r (n := n + 39) 4 (pc' := 42) (L' := [some (.ref 2), some (.int x1), some (.int x2), some (.int x3)]) (S' := [.int 4, .int x1, .ref 2, .ref 2]) rfl).trans ?_
      refine (fs_cv (n := n + 38) (N := nm_m17) (as := [.ref 2, .int x1, .int 4]) (rest := [.ref 2]) rfl rfl (Or.inl rfl) rfl rfl rfl rfl rfl).trans (fs_fv fun v28 g26 r27 => ?_)
      refine (fs_r (n := n + 37) 1 (pc' := 47) (L' := [some (.ref 2), some (.int x1), some (.int x2), some (.int x3)]) (S' := [.int 9, .int v28, .ref 2]) rfl).trans ?_
      refine (fs_cv (n := n + 36) (N := nm_m17) (as := [.ref 2, .int v28, .int 9]) (rest := []) rfl rfl (Or.inl rfl) rfl rfl rfl rfl rfl).trans (fs_fv fun v31 g29 r30 => ?_)
      refine (fs_r (n := n + 29) 7 (pc' := 58) (L' := [some (.ref 2), some (.int x1), some (.int x2), some (.int (v31 + 1))]) (S' := [.int (v31 + 1), .int 9, .int x1, .ref 2]) rfl).trans ?_
      refine (fs_cn (n := n + 28) (N := nm_m69) (as := [.ref 2, .int x1, .int 9, .int (v31 + 1)]) (rest := []) rfl rfl (Or.inl rfl) rfl rfl rfl rfl rfl).trans (fs_fn fun g32 r33 => ?_)
      refine (fs_r (n := n + 24) 4 (pc' := 67) (L' := [some (.ref 2), some (.int x1), some (.int x2), some (.int (v31 + 1))]) (S' := [.int (v31 + 1), .int (g32 204), .ref 2]) rfl).trans ?_
      refine (fs_mx (n := n + 23) (j := 0) rfl rfl (Nat.le_of_ble_eq_true rfl)).trans ?_
      refine (fs_pf (n := n + 22) (ci := 2) (j := 4) rfl rfl rfl rfl).trans ?_
      refine (fs_r (n := n + 17) 5 (pc' := 80) (L' := [some (.ref 2), some (.int x1), some (.int x2), some (.int (v31 + 1))]) (S' := [.int x1, .ref 2, .int (g32 203), .ref 2]) rfl).trans ?_
      refine (fs_cv (n := n + 16) (N := nm_m33) (as := [.ref 2, .int x1]) (rest := [.int (g32 203), .ref 2]) rfl rfl (Or.inl rfl) rfl rfl rfl rfl rfl).trans (fs_fv fun v36 g34 r35 => ?_)
      refine (fs_i (n := n + 15) rfl (t := 90) rfl (by decide)).trans (fs_ite ?_ ?_)
      · skip
        refine (fs_r (n := n + 14) 1 (pc' := 91) (L' := [some (.ref 2), some (.int x1), some (.int x2), some (.int (v31 + 1))]) (S' := [.int 0, .int (g32 203), .ref 2]) rfl).trans ?_
        exact b154_91 L xs m d k (n + 1) x1 x2 (v31 + 1) 0 (g32 203) g34 r35
      · skip
        refine (fs_r (n := n + 14) 1 (pc' := 87) (L' := [some (.ref 2), some (.int x1), some (.int x2), some (.int (v31 + 1))]) (S' := [.int 1, .int (g32 203), .ref 2]) rfl).trans ?_
        refine (fs_go (n := n + 13) rfl (t := 91) rfl (by decide)).trans ?_
        exact b154_91 L xs m d k (n + 0) x1 x2 (v31 + 1) 1 (g32 203) g34 r35
theorem l154_9_1 (L : Nat) (xs : Nat → Int32) (m d k : Nat) (x1 x2 x3 : Int32) (g : a2_G) (r : a2_A) : lp L xs 154 nm_m154 m d (k + 1) 9 [some (.ref 2), some (.int x1), some (.int x2), some (.int x3)] g r = B154_9_1 L xs m d k x1 x2 x3 g r := fs_lp.trans (b154_9_1 L xs m d k 840 x1 x2 x3 g r)
theorem e154 (L : Nat) (xs : Nat → Int32) (m d k : Nat) (n : Nat) (g : a2_G) (r : a2_A) : bk L xs 154 nm_m154 m d k (n + 67) 0 [some (.ref 2), none, none, none] [] g r = (fn_v (ev L xs m d 17 [.ref 2, .int 0, .int 5] g r) fun v3 g1 r2 => (B154_9 L xs m d k v3 0 g1 r2)) := by
  refine (fs_r (n := n + 64) 3 (pc' := 3) (L' := [some (.ref 2), none, none, none]) (S' := [.int 5, .int 0, .ref 2]) rfl).trans ?_
  refine (fs_cv (n := n + 63) (N := nm_m17) (as := [.ref 2, .int 0, .int 5]) (rest := []) rfl rfl (Or.inl rfl) rfl rfl rfl rfl rfl).trans (fs_fv fun v3 g1 r2 => ?_)
  refine (fs_r (n := n + 60) 3 (pc' := 9) (L' := [some (.ref 2), some (.int v3), some (.int 0), none]) (S' := []) rfl).trans ?_
  exact b154_9 L xs m d k (n + 0) v3 0 g1 r2
theorem q154 (L : Nat) (xs : Nat → Int32) (m d : Nat) (g : a2_G) (r : a2_A) : ev L xs (m + 1) (d + 1) 154 [.ref 2] g r = (fn_v (ev L xs (m + 1) d 17 [.ref 2, .int 0, .int 5] g r) fun v3 g1 r2 => (B154_9 L xs (m + 1) d m v3 0 g1 r2)) := (fs_ev (M := nm_m154) rfl rfl).trans (e154 L xs (m + 1) d m 833 g r)
/-- CobolParser$Tree.follower(I)I -/
def B155_53 (L : Nat) (xs : Nat → Int32) (m d k : Nat) (x1 x2 x3 : Int32) (g : a2_G) (r : a2_A) : Option fn_Z := (fn_v (ev L xs m d 17 [.ref 2, .int x2, .int 7] g r) fun v6 g4 r5 => (some (.inl (some (.int v6)), g4, r5)))
theorem b155_53 (L : Nat) (xs : Nat → Int32) (m d k : Nat) (n : Nat) (x1 x2 x3 : Int32) (g : a2_G) (r : a2_A) : bk L xs 155 nm_m155 m d k (n + 5) 53 [some (.ref 2), some (.int x1), some (.int x2), some (.int x3)] [] g r = B155_53 L xs m d k x1 x2 x3 g r := by
  show _ = ((fn_v (ev L xs m d 17 [.ref 2, .int x2, .int 7] g r) fun v6 g4 r5 => (some (.inl (some (.int v6)), g4, r5))) : Option fn_Z)
  refine (fs_r (n := n + 2) 3 (pc' := 57) (L' := [some (.ref 2), some (.int x1), some (.int x2), some (.int x3)]) (S' := [.int 7, .int x2, .ref 2]) rfl).trans ?_
  refine (fs_cv (n := n + 1) (N := nm_m17) (as := [.ref 2, .int x2, .int 7]) (rest := []) rfl rfl (Or.inl rfl) rfl rfl rfl rfl rfl).trans (fs_fv fun v6 g4 r5 => ?_)
  exact (fs_ri (n := n + 0) rfl rfl).trans rfl
def B155_21 (L : Nat) (xs : Nat → Int32) (m d k : Nat) (x1 x2 x3 : Int32) (g : a2_G) (r : a2_A) : Option fn_Z := (if am_c2 .ge x3 (g 201) = true then (B155_53 L xs m d k x1 x2 x3 g r) else (fn_v (ev L xs m d 17 [.ref 2, .int x2, .int 7] g r) fun v9 g7 r8 => (if am_c2 .ne v9 (-1) = true then (B155_53 L xs m d k x1 x2 x3 g7 r8) else (fn_v (ev L xs m d 17 [.ref 2, .int x2, .int 4] g7 r8) fun v12 g10 r11 => (lp L xs 155 nm_m155 m d k 21 [some (.ref 2), some (.int x1), some (.int v12), some (.int (x3 + 1))] g10 r11)))))
theorem b155_21 (L : Nat) (xs : Nat → Int32) (m d k : Nat) (n : Nat) (x1 x2 x3 : Int32) (g : a2_G) (r : a2_A) : bk L xs 155 nm_m155 m d k (n + 17) 21 [some (.ref 2), some (.int x1), some (.int x2), some (.int x3)] [] g r = B155_21 L xs m d k x1 x2 x3 g r := by
  show _ = ((if am_c2 .ge x3 (g 201) = true then (B155_53 L xs m d k x1 x2 x3 g r) else (fn_v (ev L xs m d 17 [.ref 2, .int x2, .int 7] g r) fun v9 g7 r8 => (if am_c2 .ne v9 (-1) = true then (B155_53 L xs m d k x1 x2 x3 g7 r8) else (fn_v (ev L xs m d 17 [.ref 2, .int x2, .int 4] g7 r8) fun v12 g10 r11 => (lp L xs 155 nm_m155 m d k 21 [some (.ref 2), some (.int x1), some (.int v12), some (.int (x3 + 1))] g10 r11))))) : Option fn_Z)
  refine (fs_r (n := n + 14) 3 (pc' := 26) (L' := [some (.ref 2), some (.int x1), some (.int x2), some (.int x3)]) (S' := [.int (g 201), .int x3]) rfl).trans ?_
  refine (fs_j (n := n + 13) rfl (t := 53) rfl (by decide)).trans (fs_ite ?_ ?_)
  · skip
    exact b155_53 L xs m d k (n + 8) x1 x2 x3 g r
  · skip
    refine (fs_r (n := n + 10) 3 (pc' := 33) (L' := [some (.ref 2), some (.int x1), some (.int x2), some (.int x3)]) (S' := [.int 7, .int x2, .ref 2]) rfl).trans ?_
    refine (fs_cv (n := n + 9) (N := nm_m17) (as := [.ref 2, .int x2, .int 7]) (rest := []) rfl rfl (Or.inl rfl) rfl rfl rfl rfl rfl).trans (fs_fv fun v9 g7 r8 => ?_)
    refine (fs_r (n := n + 8) 1 (pc' := 37) (L' := [some (.ref 2), some (.int x1), some (.int x2), some (.int x3)]) (S' := [.int (-1), .int v9]) rfl).trans ?_
    refine (fs_j (n := n + 7) rfl (t := 53) rfl (by decide)).trans (fs_ite ?_ ?_)
    · skip
      exact b155_53 L xs m d k (n + 2) x1 x2 x3 g7 r8
    · skip
      refine (fs_r (n := n + 4) 3 (pc' := 43) (L' := [some (.ref 2), some (.int x1), some (.int x2), some (.int x3)]) (S' := [.int 4, .int x2, .ref 2]) rfl).trans ?_
      refine (fs_cv (n := n + 3) (N := nm_m17) (as := [.ref 2, .int x2, .int 4]) (rest := []) rfl rfl (Or.inl rfl) rfl rfl rfl rfl rfl).trans (fs_fv fun v12 g10 r11 => ?_)
      refine (fs_r (n := n + 1) 2 (pc' := 50) (L' := [some (.ref 2), some (.int x1), some (.int v12), some (.int (x3 + 1))]) (S' := []) rfl).trans ?_
      exact (fs_gb (n := n + 0) rfl (t := 21) rfl (by decide)).trans rfl
theorem l155_21 (L : Nat) (xs : Nat → Int32) (m d k : Nat) (x1 x2 x3 : Int32) (g : a2_G) (r : a2_A) : lp L xs 155 nm_m155 m d (k + 1) 21 [some (.ref 2), some (.int x1), some (.int x2), some (.int x3)] g r = B155_21 L xs m d k x1 x2 x3 g r := fs_lp.trans (b155_21 L xs m d k 883 x1 x2 x3 g r)
theorem e155 (L : Nat) (xs : Nat → Int32) (m d k : Nat) (n : Nat) (a1 : Int32) (g : a2_G) (r : a2_A) : bk L xs 155 nm_m155 m d k (n + 27) 0 [some (.ref 2), some (.int a1), none, none] [] g r = (fn_v (ev L xs m d 17 [.ref 2, .int a1, .int 5] g r) fun v3 g1 r2 => (if am_c2 .eq v3 (-1) = true then (B155_21 L xs m d k a1 a1 0 g1 r2) else (fn_v (ev L xs m d 17 [.ref 2, .int a1, .int 5] g1 r2) fun v15 g13 r14 => (some (.inl (some (.int v15)), g13, r14))))) := by
  refine (fs_r (n := n + 24) 3 (pc' := 3) (L' := [some (.ref 2), some (.int a1), none, none]) (S' := [.int 5, .int a1, .ref 2]) rfl).trans ?_
  refine (fs_cv (n := n + 23) (N := nm_m17) (as := [.ref 2, .int a1, .int 5]) (rest := []) rfl rfl (Or.inl rfl) rfl rfl rfl rfl rfl).trans (fs_fv fun v3 g1 r2 => ?_)
  refine (fs_r (n := n + 22) 1 (pc' := 7) (L' := [some (.ref 2), some (.int a1), none, none]) (S' := [.int (-1), .int v3]) rfl).trans ?_
  refine (fs_j (n := n + 21) rfl (t := 17) rfl (by decide)).trans (fs_ite ?_ ?_)
  · skip
    refine (fs_r (n := n + 17) 4 (pc' := 21) (L' := [some (.ref 2), some (.int a1), some (.int a1), some (.int 0)]) (S' := []) rfl).trans ?_
    exact b155_21 L xs m d k (n + 0) a1 a1 0 g1 r2
  · skip
    refine (fs_r (n := n + 18) 3 (pc' := 13) (L' := [some (.ref 2), some (.int a1), none, none]) (S' := [.int 5, .int a1, .ref 2]) rfl).trans ?_
    refine (fs_cv (n := n + 17) (N := nm_m17) (as := [.ref 2, .int a1, .int 5]) (rest := []) rfl rfl (Or.inl rfl) rfl rfl rfl rfl rfl).trans (fs_fv fun v15 g13 r14 => ?_)
    exact (fs_ri (n := n + 16) rfl rfl).trans rfl
theorem q155 (L : Nat) (xs : Nat → Int32) (m d : Nat) (a1 : Int32) (g : a2_G) (r : a2_A) : ev L xs (m + 1) (d + 1) 155 [.ref 2, .int a1] g r = (fn_v (ev L xs (m + 1) d 17 [.ref 2, .int a1, .int 5] g r) fun v3 g1 r2 => (if am_c2 .eq v3 (-1) = true then (B155_21 L xs (m + 1) d m a1 a1 0 g1 r2) else (fn_v (ev L xs (m + 1) d 17 [.ref 2, .int a1, .int 5] g1 r2) fun v15 g13 r14 => (some (.inl (some (.int v15)), g13, r14))))) := (fs_ev (M := nm_m155) rfl rfl).trans (e155 L xs (m + 1) d m 873 a1 g r)
/-- CobolParserModel.thrown()I -/
theorem e157 (L : Nat) (xs : Nat → Int32) (m d k : Nat) (n : Nat) (g : a2_G) (r : a2_A) : bk L xs 157 nm_m157 m d k (n + 3) 0 [some (.ref 9)] [] g r = (some (.inl (some (.int (g 900))), g, r)) := by
  refine (fs_r (n := n + 1) 2 (pc' := 4) (L' := [some (.ref 9)]) (S' := [.int (g 900)]) rfl).trans ?_
  exact (fs_ri (n := n + 0) rfl rfl).trans rfl
theorem q157 (L : Nat) (xs : Nat → Int32) (m d : Nat) (g : a2_G) (r : a2_A) : ev L xs (m + 1) (d + 1) 157 [.ref 9] g r = (some (.inl (some (.int (g 900))), g, r)) := (fs_ev (M := nm_m157) rfl rfl).trans (e157 L xs (m + 1) d m 897 g r)
/-- CobolParserModel.word(II)I -/
def B158_66 (L : Nat) (xs : Nat → Int32) (m d k : Nat) (x1 x2 x3 : Int32) (g : a2_G) (r : a2_A) : Option fn_Z := (if am_c2 .ne (g 901) 1500 = true then (if am_inr (g 901) (r 902).1 = true then (if am_inr (g 901) (r 903).1 = true then (some (.inl (some (.int ((g 901) + 1))), (upd g 901 ((g 901) + 1)), (a2_ua (a2_ua r 902 ((r 902).1, (upd (r 902).2 ((g 901) : Int32).toNatClampNeg x1))) 903 ((r 903).1, (upd (r 903).2 ((g 901) : Int32).toNatClampNeg x2))))) else none) else none) else (some (.inl (some (.int (-1))), g, r)))
theorem b158_66 (L : Nat) (xs : Nat → Int32) (m d k : Nat) (n : Nat) (x1 x2 x3 : Int32) (g : a2_G) (r : a2_A) : bk L xs 158 nm_m158 m d k (n + 25) 66 [some (.ref 9), some (.int x1), some (.int x2), some (.int x3)] [] g r = B158_66 L xs m d k x1 x2 x3 g r := by
  show _ = ((if am_c2 .ne (g 901) 1500 = true then (if am_inr (g 901) (r 902).1 = true then (if am_inr (g 901) (r 903).1 = true then (some (.inl (some (.int ((g 901) + 1))), (upd g 901 ((g 901) + 1)), (a2_ua (a2_ua r 902 ((r 902).1, (upd (r 902).2 ((g 901) : Int32).toNatClampNeg x1))) 903 ((r 903).1, (upd (r 903).2 ((g 901) : Int32).toNatClampNeg x2))))) else none) else none) else (some (.inl (some (.int (-1))), g, r))) : Option fn_Z)
  refine (fs_r (n := n + 22) 3 (pc' := 73) (L' := [some (.ref 9), some (.int x1), some (.int x2), some (.int x3)]) (S' := [.int 1500, .int (g 901)]) rfl).trans ?_
  refine (fs_j (n := n + 21) rfl (t := 78) rfl (by decide)).trans (fs_ite ?_ ?_)
  · skip
    refine (fs_r (n := n + 16) 5 (pc' := 87) (L' := [some (.ref 9), some (.int x1), some (.int x2), some (.int x3)]) (S' := [.int x1, .int (g 901), .ref 10902]) rfl).trans ?_
    refine (fs_is (n := n + 15) (k := 902) rfl rfl).trans (fs_ite ?_ rfl)
    refine (fs_r (n := n + 10) 5 (pc' := 97) (L' := [some (.ref 9), some (.int x1), some (.int x2), some (.int x3)]) (S' := [.int x2, .int (g 901), .ref 10903]) rfl).trans ?_
    refine (fs_is (n := n + 9) (k := 903) rfl rfl).trans (fs_ite ?_ rfl)
    refine (fs_r (n := n + 4) 5 (pc' := 105) (L' := [some (.ref 9), some (.int x1), some (.int x2), some (.int x3)]) (S' := [.int ((g 901) + 1), .ref 9]) rfl).trans ?_
    refine (fs_pf (n := n + 3) (ci := 9) (j := 1) rfl rfl rfl rfl).trans ?_
    refine (fs_r (n := n + 1) 2 (pc' := 112) (L' := [some (.ref 9), some (.int x1), some (.int x2), some (.int x3)]) (S' := [.int ((g 901) + 1)]) rfl).trans ?_
    exact (fs_ri (n := n + 0) rfl rfl).trans rfl
  · skip
    refine (fs_r (n := n + 20) 1 (pc' := 77) (L' := [some (.ref 9), some (.int x1), some (.int x2), some (.int x3)]) (S' := [.int (-1)]) rfl).trans ?_
    exact (fs_ri (n := n + 19) rfl rfl).trans rfl
def B158_48 (L : Nat) (xs : Nat → Int32) (m d k : Nat) (x1 x2 x3 : Int32) (g : a2_G) (r : a2_A) : Option fn_Z := (if am_c2 .eq x1 4 = true then (B158_66 L xs m d k x1 x2 x3 g r) else (fn_v (ev L xs m d 159 [.int x2, .int 0, .int x3] g r) fun v6 g4 r5 => (if am_c2 .ne v6 0 = true then (B158_66 L xs m d k x1 x2 x3 g4 r5) else (some (.inl (some (.int (-4))), g4, r5)))))
theorem b158_48 (L : Nat) (xs : Nat → Int32) (m d k : Nat) (n : Nat) (x1 x2 x3 : Int32) (g : a2_G) (r : a2_A) : bk L xs 158 nm_m158 m d k (n + 34) 48 [some (.ref 9), some (.int x1), some (.int x2), none] [.int x3] g r = B158_48 L xs m d k x1 x2 x3 g r := by
  show _ = ((if am_c2 .eq x1 4 = true then (B158_66 L xs m d k x1 x2 x3 g r) else (fn_v (ev L xs m d 159 [.int x2, .int 0, .int x3] g r) fun v6 g4 r5 => (if am_c2 .ne v6 0 = true then (B158_66 L xs m d k x1 x2 x3 g4 r5) else (some (.inl (some (.int (-4))), g4, r5))))) : Option fn_Z)
  refine (fs_r (n := n + 31) 3 (pc' := 51) (L' := [some (.ref 9), some (.int x1), some (.int x2), some (.int x3)]) (S' := [.int 4, .int x1]) rfl).trans ?_
  refine (fs_j (n := n + 30) rfl (t := 66) rfl (by decide)).trans (fs_ite ?_ ?_)
  · skip
    exact b158_66 L xs m d k (n + 5) x1 x2 x3 g r
  · skip
    refine (fs_r (n := n + 27) 3 (pc' := 57) (L' := [some (.ref 9), some (.int x1), some (.int x2), some (.int x3)]) (S' := [.int x3, .int 0, .int x2]) rfl).trans ?_
    refine (fs_sv (n := n + 26) (N := nm_m159) (as := [.int x2, .int 0, .int x3]) (rest := []) rfl rfl (by decide) rfl rfl rfl rfl rfl).trans (fs_fv fun v6 g4 r5 => ?_)
    refine (fs_i (n := n + 25) rfl (t := 66) rfl (by decide)).trans (fs_ite ?_ ?_)
    · skip
      exact b158_66 L xs m d k (n + 0) x1 x2 x3 g4 r5
    · skip
      refine (fs_r (n := n + 24) 1 (pc' := 65) (L' := [some (.ref 9), some (.int x1), some (.int x2), some (.int x3)]) (S' := [.int (-4)]) rfl).trans ?_
      exact (fs_ri (n := n + 23) rfl rfl).trans rfl
theorem e158 (L : Nat) (xs : Nat → Int32) (m d k : Nat) (n : Nat) (a1 a2 : Int32) (g : a2_G) (r : a2_A) : bk L xs 158 nm_m158 m d k (n + 52) 0 [some (.ref 9), some (.int a1), some (.int a2), none] [] g r = (fn_v (ev L xs m d 159 [.int a1, .int 0, .int 5] (upd g 900 0) r) fun v3 g1 r2 => (if am_c2 .ne v3 0 = true then (if am_c2 .ne a1 0 = true then (if am_c2 .ne a1 2 = true then (if am_c2 .ne a1 5 = true then (B158_48 L xs m d k a1 a2 99 g1 r2) else (B158_48 L xs m d k a1 a2 8 g1 r2)) else (B158_48 L xs m d k a1 a2 99999 g1 r2)) else (B158_48 L xs m d k a1 a2 78 g1 r2)) else (some (.inl (some (.int (-4))), g1, r2)))) := by
  refine (fs_r (n := n + 50) 2 (pc' := 2) (L' := [some (.ref 9), some (.int a1), some (.int a2), none]) (S' := [.int 0, .ref 9]) rfl).trans ?_
  refine (fs_pf (n := n + 49) (ci := 9) (j := 0) rfl rfl rfl rfl).trans ?_
  refine (fs_r (n := n + 46) 3 (pc' := 8) (L' := [some (.ref 9), some (.int a1), some (.int a2), none]) (S' := [.int 5, .int 0, .int a1]) rfl).trans ?_
  refine (fs_sv (n := n + 45) (N := nm_m159) (as := [.int a1, .int 0, .int 5]) (rest := []) rfl rfl (by decide) rfl rfl rfl rfl rfl).trans (fs_fv fun v3 g1 r2 => ?_)
  refine (fs_i (n := n + 44) rfl (t := 17) rfl (by decide)).trans (fs_ite ?_ ?_)
  · skip
    refine (fs_r (n := n + 43) 1 (pc' := 18) (L' := [some (.ref 9), some (.int a1), some (.int a2), none]) (S' := [.int a1]) rfl).trans ?_
    refine (fs_i (n := n + 42) rfl (t := 26) rfl (by decide)).trans (fs_ite ?_ ?_)
    · skip
      refine (fs_r (n := n + 40) 2 (pc' := 28) (L' := [some (.ref 9), some (.int a1), some (.int a2), none]) (S' := [.int 2, .int a1]) rfl).trans ?_
      refine (fs_j (n := n + 39) rfl (t := 36) rfl (by decide)).trans (fs_ite ?_ ?_)
      · skip
        refine (fs_r (n := n + 37) 2 (pc' := 38) (L' := [some (.ref 9), some (.int a1), some (.int a2), none]) (S' := [.int 5, .int a1]) rfl).trans ?_
        refine (fs_j (n := n + 36) rfl (t := 46) rfl (by decide)).trans (fs_ite ?_ ?_)
        · skip
          refine (fs_r (n := n + 35) 1 (pc' := 48) (L' := [some (.ref 9), some (.int a1), some (.int a2), none]) (S' := [.int 99]) rfl).trans ?_
          exact b158_48 L xs m d k (n + 1) a1 a2 99 g1 r2
        · skip
          refine (fs_r (n := n + 35) 1 (pc' := 43) (L' := [some (.ref 9), some (.int a1), some (.int a2), none]) (S' := [.int 8]) rfl).trans ?_
          refine (fs_go (n := n + 34) rfl (t := 48) rfl (by decide)).trans ?_
          exact b158_48 L xs m d k (n + 0) a1 a2 8 g1 r2
      · skip
        refine (fs_r (n := n + 38) 1 (pc' := 33) (L' := [some (.ref 9), some (.int a1), some (.int a2), none]) (S' := [.int 99999]) rfl).trans ?_
        refine (fs_go (n := n + 37) rfl (t := 48) rfl (by decide)).trans ?_
        exact b158_48 L xs m d k (n + 3) a1 a2 99999 g1 r2
    · skip
      refine (fs_r (n := n + 41) 1 (pc' := 23) (L' := [some (.ref 9), some (.int a1), some (.int a2), none]) (S' := [.int 78]) rfl).trans ?_
      refine (fs_go (n := n + 40) rfl (t := 48) rfl (by decide)).trans ?_
      exact b158_48 L xs m d k (n + 6) a1 a2 78 g1 r2
  · skip
    refine (fs_r (n := n + 43) 1 (pc' := 16) (L' := [some (.ref 9), some (.int a1), some (.int a2), none]) (S' := [.int (-4)]) rfl).trans ?_
    exact (fs_ri (n := n + 42) rfl rfl).trans rfl
theorem q158 (L : Nat) (xs : Nat → Int32) (m d : Nat) (a1 a2 : Int32) (g : a2_G) (r : a2_A) : ev L xs (m + 1) (d + 1) 158 [.ref 9, .int a1, .int a2] g r = (fn_v (ev L xs (m + 1) d 159 [.int a1, .int 0, .int 5] (upd g 900 0) r) fun v3 g1 r2 => (if am_c2 .ne v3 0 = true then (if am_c2 .ne a1 0 = true then (if am_c2 .ne a1 2 = true then (if am_c2 .ne a1 5 = true then (B158_48 L xs (m + 1) d m a1 a2 99 g1 r2) else (B158_48 L xs (m + 1) d m a1 a2 8 g1 r2)) else (B158_48 L xs (m + 1) d m a1 a2 99999 g1 r2)) else (B158_48 L xs (m + 1) d m a1 a2 78 g1 r2)) else (some (.inl (some (.int (-4))), g1, r2)))) := (fs_ev (M := nm_m158) rfl rfl).trans (e158 L xs (m + 1) d m 848 a1 a2 g r)
/-- CobolParserModel.in(III)Z -/
def B159_15 (L : Nat) (xs : Nat → Int32) (m d k : Nat) (x1 x2 x3 x4 : Int32) (g : a2_G) (r : a2_A) : Option fn_Z := (if x4 = 0 ∨ x4 = 1 then some (.inl (some (.int x4)), g, r) else none)
theorem b159_15 (L : Nat) (xs : Nat → Int32) (m d k : Nat) (n : Nat) (x1 x2 x3 x4 : Int32) (g : a2_G) (r : a2_A) : bk L xs 159 nm_m159 m d k (n + 1) 15 [some (.int x1), some (.int x2), some (.int x3)] [.int x4] g r = B159_15 L xs m d k x1 x2 x3 x4 g r := by
  show _ = ((if x4 = 0 ∨ x4 = 1 then some (.inl (some (.int x4)), g, r) else none) : Option fn_Z)
  exact (fs_rb (n := n + 0) rfl rfl).trans rfl
def B159_14 (L : Nat) (xs : Nat → Int32) (m d k : Nat) (x1 x2 x3 : Int32) (g : a2_G) (r : a2_A) : Option fn_Z := (B159_15 L xs m d k x1 x2 x3 0 g r)
theorem b159_14 (L : Nat) (xs : Nat → Int32) (m d k : Nat) (n : Nat) (x1 x2 x3 : Int32) (g : a2_G) (r : a2_A) : bk L xs 159 nm_m159 m d k (n + 2) 14 [some (.int x1), some (.int x2), some (.int x3)] [] g r = B159_14 L xs m d k x1 x2 x3 g r := by
  show _ = ((B159_15 L xs m d k x1 x2 x3 0 g r) : Option fn_Z)
  refine (fs_r (n := n + 1) 1 (pc' := 15) (L' := [some (.int x1), some (.int x2), some (.int x3)]) (S' := [.int 0]) rfl).trans ?_
  exact b159_15 L xs m d k (n + 0) x1 x2 x3 0 g r
theorem e159 (L : Nat) (xs : Nat → Int32) (m d k : Nat) (n : Nat) (a1 a2 a3 : Int32) (g : a2_G) (r : a2_A) : bk L xs 159 nm_m159 m d k (n + 9) 0 [some (.int a1), some (.int a2), some (.int a3)] [] g r = (if am_c2 .lt a1 a2 = true then (B159_14 L xs m d k a1 a2 a3 g r) else (if am_c2 .gt a1 a3 = true then (B159_14 L xs m d k a1 a2 a3 g r) else (B159_15 L xs m d k a1 a2 a3 1 g r))) := by
  refine (fs_r (n := n + 7) 2 (pc' := 2) (L' := [some (.int a1), some (.int a2), some (.int a3)]) (S' := [.int a2, .int a1]) rfl).trans ?_
  refine (fs_j (n := n + 6) rfl (t := 14) rfl (by decide)).trans (fs_ite ?_ ?_)
  · skip
    exact b159_14 L xs m d k (n + 4) a1 a2 a3 g r
  · skip
    refine (fs_r (n := n + 4) 2 (pc' := 7) (L' := [some (.int a1), some (.int a2), some (.int a3)]) (S' := [.int a3, .int a1]) rfl).trans ?_
    refine (fs_j (n := n + 3) rfl (t := 14) rfl (by decide)).trans (fs_ite ?_ ?_)
    · skip
      exact b159_14 L xs m d k (n + 1) a1 a2 a3 g r
    · skip
      refine (fs_r (n := n + 2) 1 (pc' := 11) (L' := [some (.int a1), some (.int a2), some (.int a3)]) (S' := [.int 1]) rfl).trans ?_
      refine (fs_go (n := n + 1) rfl (t := 15) rfl (by decide)).trans ?_
      exact b159_15 L xs m d k (n + 0) a1 a2 a3 1 g r
theorem q159 (L : Nat) (xs : Nat → Int32) (m d : Nat) (a1 a2 a3 : Int32) (g : a2_G) (r : a2_A) : ev L xs (m + 1) (d + 1) 159 [.int a1, .int a2, .int a3] g r = (if am_c2 .lt a1 a2 = true then (B159_14 L xs (m + 1) d m a1 a2 a3 g r) else (if am_c2 .gt a1 a3 = true then (B159_14 L xs (m + 1) d m a1 a2 a3 g r) else (B159_15 L xs (m + 1) d m a1 a2 a3 1 g r))) := (fs_ev (M := nm_m159) rfl rfl).trans (e159 L xs (m + 1) d m 891 a1 a2 a3 g r)
/-- CobolParserModel.parse()I -/
def B160_238 (L : Nat) (xs : Nat → Int32) (m d k : Nat) (x1 x2 x3 : Int32) (g : a2_G) (r : a2_A) : Option fn_Z := (if am_c2 .le (g 905) 0 = true then (fn_n (ev L xs m d 226 [.ref 9, .int x1] (upd g 900 x3) r) fun g4 r5 => (some (.inl (some (.int (g4 920))), g4, r5))) else (some (.inl (some (.int 0)), (upd (upd g 900 x3) 920 0), r)))
theorem b160_238 (L : Nat) (xs : Nat → Int32) (m d k : Nat) (n : Nat) (x1 x2 x3 : Int32) (g : a2_G) (r : a2_A) : bk L xs 160 nm_m160 m d k (n + 10) 238 [some (.ref 9), some (.int x1), some (.int x2)] [.int x3, .ref 9] g r = B160_238 L xs m d k x1 x2 x3 g r := by
  show _ = ((if am_c2 .le (g 905) 0 = true then (fn_n (ev L xs m d 226 [.ref 9, .int x1] (upd g 900 x3) r) fun g4 r5 => (some (.inl (some (.int (g4 920))), g4, r5))) else (some (.inl (some (.int 0)), (upd (upd g 900 x3) 920 0), r))) : Option fn_Z)
  refine (fs_pf (n := n + 9) (ci := 9) (j := 0) rfl rfl rfl rfl).trans ?_
  refine (fs_r (n := n + 7) 2 (pc' := 245) (L' := [some (.ref 9), some (.int x1), some (.int x2)]) (S' := [.int (g 905)]) rfl).trans ?_
  refine (fs_i (n := n + 6) rfl (t := 255) rfl (by decide)).trans (fs_ite ?_ ?_)
  · skip
    refine (fs_r (n := n + 4) 2 (pc' := 257) (L' := [some (.ref 9), some (.int x1), some (.int x2)]) (S' := [.int x1, .ref 9]) rfl).trans ?_
    refine (fs_cn (n := n + 3) (N := nm_m226) (as := [.ref 9, .int x1]) (rest := []) rfl rfl (Or.inl rfl) rfl rfl rfl rfl rfl).trans (fs_fn fun g4 r5 => ?_)
    refine (fs_r (n := n + 1) 2 (pc' := 264) (L' := [some (.ref 9), some (.int x1), some (.int x2)]) (S' := [.int (g4 920)]) rfl).trans ?_
    exact (fs_ri (n := n + 0) rfl rfl).trans rfl
  · skip
    refine (fs_r (n := n + 4) 2 (pc' := 250) (L' := [some (.ref 9), some (.int x1), some (.int x2)]) (S' := [.int 0, .ref 9]) rfl).trans ?_
    refine (fs_pf (n := n + 3) (ci := 9) (j := 20) rfl rfl rfl rfl).trans ?_
    refine (fs_r (n := n + 2) 1 (pc' := 254) (L' := [some (.ref 9), some (.int x1), some (.int x2)]) (S' := [.int 0]) rfl).trans ?_
    exact (fs_ri (n := n + 1) rfl rfl).trans rfl
def B160_225 (L : Nat) (xs : Nat → Int32) (m d k : Nat) (x1 x2 : Int32) (g : a2_G) (r : a2_A) : Option fn_Z := (if am_c2 .le (g 905) 0 = true then (B160_238 L xs m d k x1 x2 0 g r) else (B160_238 L xs m d k x1 x2 1 g r))
theorem b160_225 (L : Nat) (xs : Nat → Int32) (m d k : Nat) (n : Nat) (x1 x2 : Int32) (g : a2_G) (r : a2_A) : bk L xs 160 nm_m160 m d k (n + 16) 225 [some (.ref 9), some (.int x1), some (.int x2)] [] g r = B160_225 L xs m d k x1 x2 g r := by
  show _ = ((if am_c2 .le (g 905) 0 = true then (B160_238 L xs m d k x1 x2 0 g r) else (B160_238 L xs m d k x1 x2 1 g r)) : Option fn_Z)
  refine (fs_r (n := n + 13) 3 (pc' := 230) (L' := [some (.ref 9), some (.int x1), some (.int x2)]) (S' := [.int (g 905), .ref 9]) rfl).trans ?_
  refine (fs_i (n := n + 12) rfl (t := 237) rfl (by decide)).trans (fs_ite ?_ ?_)
  · skip
    refine (fs_r (n := n + 11) 1 (pc' := 238) (L' := [some (.ref 9), some (.int x1), some (.int x2)]) (S' := [.int 0, .ref 9]) rfl).trans ?_
    exact b160_238 L xs m d k (n + 1) x1 x2 0 g r
  · skip
    refine (fs_r (n := n + 11) 1 (pc' := 234) (L' := [some (.ref 9), some (.int x1), some (.int x2)]) (S' := [.int 1, .ref 9]) rfl).trans ?_
    refine (fs_go (n := n + 10) rfl (t := 238) rfl (by decide)).trans ?_
    exact b160_238 L xs m d k (n + 0) x1 x2 1 g r
def B160_195 (L : Nat) (xs : Nat → Int32) (m d k : Nat) (x1 x2 : Int32) (g : a2_G) (r : a2_A) : Option fn_Z := (if am_c2 .ge (g 905) 20 = true then (B160_225 L xs m d k x1 x2 g r) else (if am_c2 .le (g 926) 0 = true then (B160_225 L xs m d k x1 x2 g r) else (if am_c2 .ne x2 0 = true then (B160_225 L xs m d k x1 x2 g r) else (fn_n (ev L xs m d 166 [.ref 9, .int 1, .int (g 904)] g r) fun g6 r7 => (B160_225 L xs m d k x1 x2 g6 r7)))))
theorem b160_195 (L : Nat) (xs : Nat → Int32) (m d k : Nat) (n : Nat) (x1 x2 : Int32) (g : a2_G) (r : a2_A) : bk L xs 160 nm_m160 m d k (n + 31) 195 [some (.ref 9), some (.int x1), none] [.int x2] g r = B160_195 L xs m d k x1 x2 g r := by
  show _ = ((if am_c2 .ge (g 905) 20 = true then (B160_225 L xs m d k x1 x2 g r) else (if am_c2 .le (g 926) 0 = true then (B160_225 L xs m d k x1 x2 g r) else (if am_c2 .ne x2 0 = true then (B160_225 L xs m d k x1 x2 g r) else (fn_n (ev L xs m d 166 [.ref 9, .int 1, .int (g 904)] g r) fun g6 r7 => (B160_225 L xs m d k x1 x2 g6 r7))))) : Option fn_Z)
  refine (fs_r (n := n + 27) 4 (pc' := 202) (L' := [some (.ref 9), some (.int x1), some (.int x2)]) (S' := [.int 20, .int (g 905)]) rfl).trans ?_
  refine (fs_j (n := n + 26) rfl (t := 225) rfl (by decide)).trans (fs_ite ?_ ?_)
  · skip
    exact b160_225 L xs m d k (n + 10) x1 x2 g r
  · skip
    refine (fs_r (n := n + 24) 2 (pc' := 209) (L' := [some (.ref 9), some (.int x1), some (.int x2)]) (S' := [.int (g 926)]) rfl).trans ?_
    refine (fs_i (n := n + 23) rfl (t := 225) rfl (by decide)).trans (fs_ite ?_ ?_)
    · skip
      exact b160_225 L xs m d k (n + 7) x1 x2 g r
    · skip
      refine (fs_r (n := n + 22) 1 (pc' := 213) (L' := [some (.ref 9), some (.int x1), some (.int x2)]) (S' := [.int x2]) rfl).trans ?_
      refine (fs_i (n := n + 21) rfl (t := 225) rfl (by decide)).trans (fs_ite ?_ ?_)
      · skip
        exact b160_225 L xs m d k (n + 5) x1 x2 g r
      · skip
        refine (fs_r (n := n + 17) 4 (pc' := 222) (L' := [some (.ref 9), some (.int x1), some (.int x2)]) (S' := [.int (g 904), .int 1, .ref 9]) rfl).trans ?_
        refine (fs_cn (n := n + 16) (N := nm_m166) (as := [.ref 9, .int 1, .int (g 904)]) (rest := []) rfl rfl (Or.inl rfl) rfl rfl rfl rfl rfl).trans (fs_fn fun g6 r7 => ?_)
        exact b160_225 L xs m d k (n + 0) x1 x2 g6 r7
def B160_194 (L : Nat) (xs : Nat → Int32) (m d k : Nat) (x1 : Int32) (g : a2_G) (r : a2_A) : Option fn_Z := (B160_195 L xs m d k x1 0 g r)
theorem b160_194 (L : Nat) (xs : Nat → Int32) (m d k : Nat) (n : Nat) (x1 : Int32) (g : a2_G) (r : a2_A) : bk L xs 160 nm_m160 m d k (n + 32) 194 [some (.ref 9), some (.int x1), none] [] g r = B160_194 L xs m d k x1 g r := by
  show _ = ((B160_195 L xs m d k x1 0 g r) : Option fn_Z)
  refine (fs_r (n := n + 31) 1 (pc' := 195) (L' := [some (.ref 9), some (.int x1), none]) (S' := [.int 0]) rfl).trans ?_
  exact b160_195 L xs m d k (n + 0) x1 0 g r
def B160_153 (L : Nat) (xs : Nat → Int32) (m d k : Nat) (x1 : Int32) (g : a2_G) (r : a2_A) : Option fn_Z := (if am_c2 .ne (g 926) 1 = true then (B160_194 L xs m d k x1 g r) else (if am_inr 0 (r 927).1 = true then (if am_c2 .eq ((r 927).2 (0 : Int32).toNatClampNeg) 0 = true then (B160_194 L xs m d k x1 g r) else (if am_inr 0 (r 927).1 = true then (if am_c2 .eq ((r 927).2 (0 : Int32).toNatClampNeg) 9 = true then (B160_194 L xs m d k x1 g r) else (if am_inr 0 (r 931).1 = true then (if am_c2 .ne ((r 931).2 (0 : Int32).toNatClampNeg) 0 = true then (B160_194 L xs m d k x1 g r) else (B160_195 L xs m d k x1 1 g r)) else none)) else none)) else none))
theorem b160_153 (L : Nat) (xs : Nat → Int32) (m d k : Nat) (n : Nat) (x1 : Int32) (g : a2_G) (r : a2_A) : bk L xs 160 nm_m160 m d k (n + 53) 153 [some (.ref 9), some (.int x1), none] [] g r = B160_153 L xs m d k x1 g r := by
  show _ = ((if am_c2 .ne (g 926) 1 = true then (B160_194 L xs m d k x1 g r) else (if am_inr 0 (r 927).1 = true then (if am_c2 .eq ((r 927).2 (0 : Int32).toNatClampNeg) 0 = true then (B160_194 L xs m d k x1 g r) else (if am_inr 0 (r 927).1 = true then (if am_c2 .eq ((r 927).2 (0 : Int32).toNatClampNeg) 9 = true then (B160_194 L xs m d k x1 g r) else (if am_inr 0 (r 931).1 = true then (if am_c2 .ne ((r 931).2 (0 : Int32).toNatClampNeg) 0 = true then (B160_194 L xs m d k x1 g r) else (B160_195 L xs m d k x1 1 g r)) else none)) else none)) else none)) : Option fn_Z)
  refine (fs_r (n := n + 50) 3 (pc' := 158) (L' := [some (.ref 9), some (.int x1), none]) (S' := [.int 1, .int (g 926)]) rfl).trans ?_
  refine (fs_j (n := n + 49) rfl (t := 194) rfl (by decide)).trans (fs_ite ?_ ?_)
  · skip
    exact b160_194 L xs m d k (n + 17) x1 g r
  · skip
    refine (fs_r (n := n + 46) 3 (pc' := 166) (L' := [some (.ref 9), some (.int x1), none]) (S' := [.int 0, .ref 10927]) rfl).trans ?_
    refine (fs_il (n := n + 45) (k := 927) rfl rfl).trans (fs_ite ?_ rfl)
    refine (fs_i (n := n + 44) rfl (t := 194) rfl (by decide)).trans (fs_ite ?_ ?_)
    · skip
      exact b160_194 L xs m d k (n + 12) x1 g r
    · skip
      refine (fs_r (n := n + 41) 3 (pc' := 175) (L' := [some (.ref 9), some (.int x1), none]) (S' := [.int 0, .ref 10927]) rfl).trans ?_
      refine (fs_il (n := n + 40) (k := 927) rfl rfl).trans (fs_ite ?_ rfl)
      refine (fs_r (n := n + 39) 1 (pc' := 178) (L' := [some (.ref 9), some (.int x1), none]) (S' := [.int 9, .int ((r 927).2 (0 : Int32).toNatClampNeg)]) rfl).trans ?_
      refine (fs_j (n := n + 38) rfl (t := 194) rfl (by decide)).trans (fs_ite ?_ ?_)
      · skip
        exact b160_194 L xs m d k (n + 6) x1 g r
      · skip
        refine (fs_r (n := n + 35) 3 (pc' := 186) (L' := [some (.ref 9), some (.int x1), none]) (S' := [.int 0, .ref 10931]) rfl).trans ?_
        refine (fs_bl (n := n + 34) (k := 931) rfl rfl).trans (fs_ite ?_ rfl)
        refine (fs_i (n := n + 33) rfl (t := 194) rfl (by decide)).trans (fs_ite ?_ ?_)
        · skip
          exact b160_194 L xs m d k (n + 1) x1 g r
        · skip
          refine (fs_r (n := n + 32) 1 (pc' := 191) (L' := [some (.ref 9), some (.int x1), none]) (S' := [.int 1]) rfl).trans ?_
          refine (fs_go (n := n + 31) rfl (t := 195) rfl (by decide)).trans ?_
          exact b160_195 L xs m d k (n + 0) x1 1 g r
def B160_140 (L : Nat) (xs : Nat → Int32) (m d k : Nat) (x1 : Int32) (g : a2_G) (r : a2_A) : Option fn_Z := (lp L xs 160 nm_m160 m d k 56 [some (.ref 9), some (.int x1), none] (upd g 941 ((g 941) + 1)) r)
theorem b160_140 (L : Nat) (xs : Nat → Int32) (m d k : Nat) (n : Nat) (x1 : Int32) (g : a2_G) (r : a2_A) : bk L xs 160 nm_m160 m d k (n + 7) 140 [some (.ref 9), some (.int x1), none] [] g r = B160_140 L xs m d k x1 g r := by
  show _ = ((lp L xs 160 nm_m160 m d k 56 [some (.ref 9), some (.int x1), none] (upd g 941 ((g 941) + 1)) r) : Option fn_Z)
  refine (fs_r (n := n + 2) 5 (pc' := 147) (L' := [some (.ref 9), some (.int x1), none]) (S' := [.int ((g 941) + 1), .ref 9]) rfl).trans ?_
  refine (fs_pf (n := n + 1) (ci := 9) (j := 41) rfl rfl rfl rfl).trans ?_
  exact (fs_gb (n := n + 0) rfl (t := 56) rfl (by decide)).trans rfl
def B160_103 (L : Nat) (xs : Nat → Int32) (m d k : Nat) (x1 : Int32) (g : a2_G) (r : a2_A) : Option fn_Z := (if am_c2 .ge (g 941) (g 904) = true then (B160_140 L xs m d k x1 g r) else (if am_inr (g 941) (r 902).1 = true then (if am_c2 .eq ((r 902).2 ((g 941) : Int32).toNatClampNeg) 4 = true then (B160_140 L xs m d k x1 g r) else (lp L xs 160 nm_m160 m d k 103 [some (.ref 9), some (.int x1), none] (upd g 941 ((g 941) + 1)) r)) else none))
theorem b160_103 (L : Nat) (xs : Nat → Int32) (m d k : Nat) (n : Nat) (x1 : Int32) (g : a2_G) (r : a2_A) : bk L xs 160 nm_m160 m d k (n + 19) 103 [some (.ref 9), some (.int x1), none] [] g r = B160_103 L xs m d k x1 g r := by
  show _ = ((if am_c2 .ge (g 941) (g 904) = true then (B160_140 L xs m d k x1 g r) else (if am_inr (g 941) (r 902).1 = true then (if am_c2 .eq ((r 902).2 ((g 941) : Int32).toNatClampNeg) 4 = true then (B160_140 L xs m d k x1 g r) else (lp L xs 160 nm_m160 m d k 103 [some (.ref 9), some (.int x1), none] (upd g 941 ((g 941) + 1)) r)) else none)) : Option fn_Z)
  refine (fs_r (n := n + 15) 4 (pc' := 111) (L' := [some (.ref 9), some (.int x1), none]) (S' := [.int (g 904), .int (g 941)]) rfl).trans ?_
  refine (fs_j (n := n + 14) rfl (t := 140) rfl (by decide)).trans (fs_ite ?_ ?_)
  · skip
    exact b160_140 L xs m d k (n + 7) x1 g r
  · skip
    refine (fs_r (n := n + 10) 4 (pc' := 122) (L' := [some (.ref 9), some (.int x1), none]) (S' := [.int (g 941), .ref 10902]) rfl).trans ?_
    refine (fs_il (n := n + 9) (k := 902) rfl rfl).trans (fs_ite ?_ rfl)
    refine (fs_r (n := n + 8) 1 (pc' := 124) (L' := [some (.ref 9), some (.int x1), none]) (S' := [.int 4, .int ((r 902).2 ((g 941) : Int32).toNatClampNeg)]) rfl).trans ?_
    refine (fs_j (n := n + 7) rfl (t := 140) rfl (by decide)).trans (fs_ite ?_ ?_)
    · skip
      exact b160_140 L xs m d k (n + 0) x1 g r
    · skip
      refine (fs_r (n := n + 2) 5 (pc' := 134) (L' := [some (.ref 9), some (.int x1), none]) (S' := [.int ((g 941) + 1), .ref 9]) rfl).trans ?_
      refine (fs_pf (n := n + 1) (ci := 9) (j := 41) rfl rfl rfl rfl).trans ?_
      exact (fs_gb (n := n + 0) rfl (t := 103) rfl (by decide)).trans rfl
theorem l160_103 (L : Nat) (xs : Nat → Int32) (m d k : Nat) (x1 : Int32) (g : a2_G) (r : a2_A) : lp L xs 160 nm_m160 m d (k + 1) 103 [some (.ref 9), some (.int x1), none] g r = B160_103 L xs m d k x1 g r := fs_lp.trans (b160_103 L xs m d k 881 x1 g r)
def B160_56 (L : Nat) (xs : Nat → Int32) (m d k : Nat) (x1 : Int32) (g : a2_G) (r : a2_A) : Option fn_Z := (if am_c2 .ge (g 941) (g 904) = true then (B160_153 L xs m d k x1 g r) else (if am_c2 .ge (g 905) 20 = true then (B160_153 L xs m d k x1 g r) else (fn_n (ev L xs m d 162 [.ref 9] (upd g 943 0) r) fun g8 r9 => (if am_c2 .ne (g8 943) 0 = true then (B160_103 L xs m d k x1 (upd g8 941 (g8 942)) r9) else (lp L xs 160 nm_m160 m d k 56 [some (.ref 9), some (.int x1), none] g8 r9)))))
theorem b160_56 (L : Nat) (xs : Nat → Int32) (m d k : Nat) (n : Nat) (x1 : Int32) (g : a2_G) (r : a2_A) : bk L xs 160 nm_m160 m d k (n + 62) 56 [some (.ref 9), some (.int x1), none] [] g r = B160_56 L xs m d k x1 g r := by
  show _ = ((if am_c2 .ge (g 941) (g 904) = true then (B160_153 L xs m d k x1 g r) else (if am_c2 .ge (g 905) 20 = true then (B160_153 L xs m d k x1 g r) else (fn_n (ev L xs m d 162 [.ref 9] (upd g 943 0) r) fun g8 r9 => (if am_c2 .ne (g8 943) 0 = true then (B160_103 L xs m d k x1 (upd g8 941 (g8 942)) r9) else (lp L xs 160 nm_m160 m d k 56 [some (.ref 9), some (.int x1), none] g8 r9))))) : Option fn_Z)
  refine (fs_r (n := n + 58) 4 (pc' := 64) (L' := [some (.ref 9), some (.int x1), none]) (S' := [.int (g 904), .int (g 941)]) rfl).trans ?_
  refine (fs_j (n := n + 57) rfl (t := 153) rfl (by decide)).trans (fs_ite ?_ ?_)
  · skip
    exact b160_153 L xs m d k (n + 4) x1 g r
  · skip
    refine (fs_r (n := n + 54) 3 (pc' := 73) (L' := [some (.ref 9), some (.int x1), none]) (S' := [.int 20, .int (g 905)]) rfl).trans ?_
    refine (fs_j (n := n + 53) rfl (t := 153) rfl (by decide)).trans (fs_ite ?_ ?_)
    · skip
      exact b160_153 L xs m d k (n + 0) x1 g r
    · skip
      refine (fs_r (n := n + 51) 2 (pc' := 78) (L' := [some (.ref 9), some (.int x1), none]) (S' := [.int 0, .ref 9]) rfl).trans ?_
      refine (fs_pb (n := n + 50) (ci := 9) (j := 43) rfl rfl rfl rfl).trans ((if_pos (by decide)).trans ?_)
      refine (fs_r (n := n + 49) 1 (pc' := 82) (L' := [some (.ref 9), some (.int x1), none]) (S' := [.ref 9]) rfl).trans ?_
      refine (fs_cn (n := n + 48) (N := nm_m162) (as := [.ref 9]) (rest := []) rfl rfl (Or.inl rfl) rfl rfl rfl rfl rfl).trans (fs_fn fun g8 r9 => ?_)
      refine (fs_r (n := n + 46) 2 (pc' := 89) (L' := [some (.ref 9), some (.int x1), none]) (S' := [.int (g8 943)]) rfl).trans ?_
      refine (fs_i (n := n + 45) rfl (t := 95) rfl (by decide)).trans (fs_ite ?_ ?_)
      · skip
        refine (fs_r (n := n + 42) 3 (pc' := 100) (L' := [some (.ref 9), some (.int x1), none]) (S' := [.int (g8 942), .ref 9]) rfl).trans ?_
        refine (fs_pf (n := n + 41) (ci := 9) (j := 41) rfl rfl rfl rfl).trans ?_
        exact b160_103 L xs m d k (n + 22) x1 (upd g8 941 (g8 942)) r9
      · skip
        exact (fs_gb (n := n + 44) rfl (t := 56) rfl (by decide)).trans rfl
theorem l160_56 (L : Nat) (xs : Nat → Int32) (m d k : Nat) (x1 : Int32) (g : a2_G) (r : a2_A) : lp L xs 160 nm_m160 m d (k + 1) 56 [some (.ref 9), some (.int x1), none] g r = B160_56 L xs m d k x1 g r := fs_lp.trans (b160_56 L xs m d k 838 x1 g r)
theorem e160 (L : Nat) (xs : Nat → Int32) (m d k : Nat) (n : Nat) (g : a2_G) (r : a2_A) : bk L xs 160 nm_m160 m d k (n + 96) 0 [some (.ref 9), none, none] [] g r = (fn_v (ev L xs m d 161 [.ref 9, .int 0, .int 0, .int 0] (upd (upd (upd (upd (upd (upd (upd (upd (upd g 904 (g 901)) 901 0) 941 0) 905 0) 908 0) 920 0) 926 0) 919 0) 921 0) r) fun v3 g1 r2 => (B160_56 L xs m d k v3 g1 r2)) := by
  refine (fs_r (n := n + 93) 3 (pc' := 5) (L' := [some (.ref 9), none, none]) (S' := [.int (g 901), .ref 9]) rfl).trans ?_
  refine (fs_pf (n := n + 92) (ci := 9) (j := 4) rfl rfl rfl rfl).trans ?_
  refine (fs_r (n := n + 90) 2 (pc' := 10) (L' := [some (.ref 9), none, none]) (S' := [.int 0, .ref 9]) rfl).trans ?_
  refine (fs_pf (n := n + 89) (ci := 9) (j := 1) rfl rfl rfl rfl).trans ?_
  refine (fs_r (n := n + 87) 2 (pc' := 15) (L' := [some (.ref 9), none, none]) (S' := [.int 0, .ref 9]) rfl).trans ?_
  refine (fs_pf (n := n + 86) (ci := 9) (j := 41) rfl rfl rfl rfl).trans ?_
  refine (fs_r (n := n + 84) 2 (pc' := 20) (L' := [some (.ref 9), none, none]) (S' := [.int 0, .ref 9]) rfl).trans ?_
  refine (fs_pf (n := n + 83) (ci := 9) (j := 5) rfl rfl rfl rfl).trans ?_
  refine (fs_r (n := n + 81) 2 (pc' := 25) (L' := [some (.ref 9), none, none]) (S' := [.int 0, .ref 9]) rfl).trans ?_
  refine (fs_pf (n := n + 80) (ci := 9) (j := 8) rfl rfl rfl rfl).trans ?_
  refine (fs_r (n := n + 78) 2 (pc' := 30) (L' := [some (.ref 9), none, none]) (S' := [.int 0, .ref 9]) rfl).trans ?_
  refine (fs_pf (n := n + 77) (ci := 9) (j := 20) rfl rfl rfl rfl).trans ?_
  refine (fs_r (n := n + 75) 2 (pc' := 35) (L' := [some (.ref 9), none, none]) (S' := [.int 0, .ref 9]) rfl).trans ?_
  refine (fs_pf (n := n + 74) (ci := 9) (j := 26) rfl rfl rfl rfl).trans ?_
  refine (fs_r (n := n + 72) 2 (pc' := 40) (L' := [some (.ref 9), none, none]) (S' := [.int 0, .ref 9]) rfl).trans ?_
  refine (fs_pf (n := n + 71) (ci := 9) (j := 19) rfl rfl rfl rfl).trans ?_
  refine (fs_r (n := n + 69) 2 (pc' := 45) (L' := [some (.ref 9), none, none]) (S' := [.int 0, .ref 9]) rfl).trans ?_
  refine (fs_pf (n := n + 68) (ci := 9) (j := 21) rfl rfl rfl rfl).trans ?_
  refine (fs_r (n := n + 64) 4 (pc' := 52) (L' := [some (.ref 9), none, none]) (S' := [.int 0, .int 0, .int 0, .ref 9]) rfl).trans ?_
  refine (fs_cv (n := n + 63) (N := nm_m161) (as := [.ref 9, .int 0, .int 0, .int 0]) (rest := []) rfl rfl (Or.inl rfl) rfl rfl rfl rfl rfl).trans (fs_fv fun v3 g1 r2 => ?_)
  refine (fs_r (n := n + 62) 1 (pc' := 56) (L' := [some (.ref 9), some (.int v3), none]) (S' := []) rfl).trans ?_
  exact b160_56 L xs m d k (n + 0) v3 g1 r2
theorem q160 (L : Nat) (xs : Nat → Int32) (m d : Nat) (g : a2_G) (r : a2_A) : ev L xs (m + 1) (d + 1) 160 [.ref 9] g r = (fn_v (ev L xs (m + 1) d 161 [.ref 9, .int 0, .int 0, .int 0] (upd (upd (upd (upd (upd (upd (upd (upd (upd g 904 (g 901)) 901 0) 941 0) 905 0) 908 0) 920 0) 926 0) 919 0) 921 0) r) fun v3 g1 r2 => (B160_56 L xs (m + 1) d m v3 g1 r2)) := (fs_ev (M := nm_m160) rfl rfl).trans (e160 L xs (m + 1) d m 804 g r)
/-- CobolParserModel.make(III)I -/
theorem e161 (L : Nat) (xs : Nat → Int32) (m d k : Nat) (n : Nat) (a1 a2 a3 : Int32) (g : a2_G) (r : a2_A) : bk L xs 161 nm_m161 m d k (n + 51) 0 [some (.ref 9), some (.int a1), some (.int a2), some (.int a3), none] [] g r = (if am_inr (g 908) (r 909).1 = true then (if am_inr (g 908) (r 910).1 = true then (if am_inr (g 908) (r 911).1 = true then (if am_inr (g 908) (r 912).1 = true then (if am_inr (g 908) (r 913).1 = true then (if am_inr (g 908) (r 914).1 = true then (if am_inr (g 908) (r 915).1 = true then (if am_inr (g 908) (r 916).1 = true then (some (.inl (some (.int (g 908))), (upd g 908 ((g 908) + 1)), (a2_ua (a2_ua (a2_ua (a2_ua (a2_ua (a2_ua (a2_ua (a2_ua r 909 ((r 909).1, (upd (r 909).2 ((g 908) : Int32).toNatClampNeg a1))) 910 ((r 910).1, (upd (r 910).2 ((g 908) : Int32).toNatClampNeg a2))) 911 ((r 911).1, (upd (r 911).2 ((g 908) : Int32).toNatClampNeg a3))) 912 ((r 912).1, (upd (r 912).2 ((g 908) : Int32).toNatClampNeg 0))) 913 ((r 913).1, (upd (r 913).2 ((g 908) : Int32).toNatClampNeg 0))) 914 ((r 914).1, (upd (r 914).2 ((g 908) : Int32).toNatClampNeg 0))) 915 ((r 915).1, (upd (r 915).2 ((g 908) : Int32).toNatClampNeg 0))) 916 ((r 916).1, (upd (r 916).2 ((g 908) : Int32).toNatClampNeg 0))))) else none) else none) else none) else none) else none) else none) else none) else none) := by
  refine (fs_r (n := n + 43) 8 (pc' := 13) (L' := [some (.ref 9), some (.int a1), some (.int a2), some (.int a3), some (.int (g 908))]) (S' := [.int ((g 908) + 1), .ref 9]) rfl).trans ?_
  refine (fs_pf (n := n + 42) (ci := 9) (j := 8) rfl rfl rfl rfl).trans ?_
  refine (fs_r (n := n + 38) 4 (pc' := 23) (L' := [some (.ref 9), some (.int a1), some (.int a2), some (.int a3), some (.int (g 908))]) (S' := [.int a1, .int (g 908), .ref 10909]) rfl).trans ?_
  refine (fs_is (n := n + 37) (k := 909) rfl rfl).trans (fs_ite ?_ rfl)
  refine (fs_r (n := n + 33) 4 (pc' := 31) (L' := [some (.ref 9), some (.int a1), some (.int a2), some (.int a3), some (.int (g 908))]) (S' := [.int a2, .int (g 908), .ref 10910]) rfl).trans ?_
  refine (fs_is (n := n + 32) (k := 910) rfl rfl).trans (fs_ite ?_ rfl)
  refine (fs_r (n := n + 28) 4 (pc' := 39) (L' := [some (.ref 9), some (.int a1), some (.int a2), some (.int a3), some (.int (g 908))]) (S' := [.int a3, .int (g 908), .ref 10911]) rfl).trans ?_
  refine (fs_is (n := n + 27) (k := 911) rfl rfl).trans (fs_ite ?_ rfl)
  refine (fs_r (n := n + 23) 4 (pc' := 47) (L' := [some (.ref 9), some (.int a1), some (.int a2), some (.int a3), some (.int (g 908))]) (S' := [.int 0, .int (g 908), .ref 10912]) rfl).trans ?_
  refine (fs_is (n := n + 22) (k := 912) rfl rfl).trans (fs_ite ?_ rfl)
  refine (fs_r (n := n + 18) 4 (pc' := 55) (L' := [some (.ref 9), some (.int a1), some (.int a2), some (.int a3), some (.int (g 908))]) (S' := [.int 0, .int (g 908), .ref 10913]) rfl).trans ?_
  refine (fs_is (n := n + 17) (k := 913) rfl rfl).trans (fs_ite ?_ rfl)
  refine (fs_r (n := n + 13) 4 (pc' := 63) (L' := [some (.ref 9), some (.int a1), some (.int a2), some (.int a3), some (.int (g 908))]) (S' := [.int 0, .int (g 908), .ref 10914]) rfl).trans ?_
  refine (fs_is (n := n + 12) (k := 914) rfl rfl).trans (fs_ite ?_ rfl)
  refine (fs_r (n := n + 8) 4 (pc' := 71) (L' := [some (.ref 9), some (.int a1), some (.int a2), some (.int a3), some (.int (g 908))]) (S' := [.int 0, .int (g 908), .ref 10915]) rfl).trans ?_
  refine (fs_is (n := n + 7) (k := 915) rfl rfl).trans (fs_ite ?_ rfl)
  refine (fs_r (n := n + 3) 4 (pc' := 79) (L' := [some (.ref 9), some (.int a1), some (.int a2), some (.int a3), some (.int (g 908))]) (S' := [.int 0, .int (g 908), .ref 10916]) rfl).trans ?_
  refine (fs_is (n := n + 2) (k := 916) rfl rfl).trans (fs_ite ?_ rfl)
  refine (fs_r (n := n + 1) 1 (pc' := 82) (L' := [some (.ref 9), some (.int a1), some (.int a2), some (.int a3), some (.int (g 908))]) (S' := [.int (g 908)]) rfl).trans ?_
  exact (fs_ri (n := n + 0) rfl rfl).trans rfl
theorem q161 (L : Nat) (xs : Nat → Int32) (m d : Nat) (a1 a2 a3 : Int32) (g : a2_G) (r : a2_A) : ev L xs (m + 1) (d + 1) 161 [.ref 9, .int a1, .int a2, .int a3] g r = (if am_inr (g 908) (r 909).1 = true then (if am_inr (g 908) (r 910).1 = true then (if am_inr (g 908) (r 911).1 = true then (if am_inr (g 908) (r 912).1 = true then (if am_inr (g 908) (r 913).1 = true then (if am_inr (g 908) (r 914).1 = true then (if am_inr (g 908) (r 915).1 = true then (if am_inr (g 908) (r 916).1 = true then (some (.inl (some (.int (g 908))), (upd g 908 ((g 908) + 1)), (a2_ua (a2_ua (a2_ua (a2_ua (a2_ua (a2_ua (a2_ua (a2_ua r 909 ((r 909).1, (upd (r 909).2 ((g 908) : Int32).toNatClampNeg a1))) 910 ((r 910).1, (upd (r 910).2 ((g 908) : Int32).toNatClampNeg a2))) 911 ((r 911).1, (upd (r 911).2 ((g 908) : Int32).toNatClampNeg a3))) 912 ((r 912).1, (upd (r 912).2 ((g 908) : Int32).toNatClampNeg 0))) 913 ((r 913).1, (upd (r 913).2 ((g 908) : Int32).toNatClampNeg 0))) 914 ((r 914).1, (upd (r 914).2 ((g 908) : Int32).toNatClampNeg 0))) 915 ((r 915).1, (upd (r 915).2 ((g 908) : Int32).toNatClampNeg 0))) 916 ((r 916).1, (upd (r 916).2 ((g 908) : Int32).toNatClampNeg 0))))) else none) else none) else none) else none) else none) else none) else none) else none) := (fs_ev (M := nm_m161) rfl rfl).trans (e161 L xs (m + 1) d m 849 a1 a2 a3 g r)
/-- CobolParserModel.clause()V -/
def B162_124 (L : Nat) (xs : Nat → Int32) (m d k : Nat) (x1 : Int32) (g : a2_G) (r : a2_A) : Option fn_Z := (some (.inl none, g, r))
theorem b162_124 (L : Nat) (xs : Nat → Int32) (m d k : Nat) (n : Nat) (x1 : Int32) (g : a2_G) (r : a2_A) : bk L xs 162 nm_m162 m d k (n + 1) 124 [some (.ref 9), some (.int x1)] [] g r = B162_124 L xs m d k x1 g r := by
  show _ = ((some (.inl none, g, r)) : Option fn_Z)
  exact (fs_rv (n := n + 0) rfl rfl).trans rfl
def B162_85 (L : Nat) (xs : Nat → Int32) (m d k : Nat) (x1 : Int32) (g : a2_G) (r : a2_A) : Option fn_Z := (if am_inr (g 941) (r 902).1 = true then (if am_c2 .eq ((r 902).2 ((g 941) : Int32).toNatClampNeg) 0 = true then (if am_inr (g 941) (r 903).1 = true then (fn_n (ev L xs m d 184 [.ref 9, .int x1, .int ((r 903).2 ((g 941) : Int32).toNatClampNeg)] g r) fun g1 r2 => (B162_124 L xs m d k x1 g1 r2)) else none) else (fn_v (ev L xs m d 165 [.ref 9, .int 1, .int (g 941)] g r) fun v5 g3 r4 => (B162_124 L xs m d k x1 g3 r4))) else none)
theorem b162_85 (L : Nat) (xs : Nat → Int32) (m d k : Nat) (n : Nat) (x1 : Int32) (g : a2_G) (r : a2_A) : bk L xs 162 nm_m162 m d k (n + 15) 85 [some (.ref 9), some (.int x1)] [] g r = B162_85 L xs m d k x1 g r := by
  show _ = ((if am_inr (g 941) (r 902).1 = true then (if am_c2 .eq ((r 902).2 ((g 941) : Int32).toNatClampNeg) 0 = true then (if am_inr (g 941) (r 903).1 = true then (fn_n (ev L xs m d 184 [.ref 9, .int x1, .int ((r 903).2 ((g 941) : Int32).toNatClampNeg)] g r) fun g1 r2 => (B162_124 L xs m d k x1 g1 r2)) else none) else (fn_v (ev L xs m d 165 [.ref 9, .int 1, .int (g 941)] g r) fun v5 g3 r4 => (B162_124 L xs m d k x1 g3 r4))) else none) : Option fn_Z)
  refine (fs_r (n := n + 11) 4 (pc' := 93) (L' := [some (.ref 9), some (.int x1)]) (S' := [.int (g 941), .ref 10902]) rfl).trans ?_
  refine (fs_il (n := n + 10) (k := 902) rfl rfl).trans (fs_ite ?_ rfl)
  refine (fs_i (n := n + 9) rfl (t := 110) rfl (by decide)).trans (fs_ite ?_ ?_)
  · skip
    refine (fs_r (n := n + 3) 6 (pc' := 120) (L' := [some (.ref 9), some (.int x1)]) (S' := [.int (g 941), .ref 10903, .int x1, .ref 9]) rfl).trans ?_
    refine (fs_il (n := n + 2) (k := 903) rfl rfl).trans (fs_ite ?_ rfl)
    refine (fs_cn (n := n + 1) (N := nm_m184) (as := [.ref 9, .int x1, .int ((r 903).2 ((g 941) : Int32).toNatClampNeg)]) (rest := []) rfl rfl (Or.inl rfl) rfl rfl rfl rfl rfl).trans (fs_fn fun g1 r2 => ?_)
    exact b162_124 L xs m d k (n + 0) x1 g1 r2
  · skip
    refine (fs_r (n := n + 5) 4 (pc' := 103) (L' := [some (.ref 9), some (.int x1)]) (S' := [.int (g 941), .int 1, .ref 9]) rfl).trans ?_
    refine (fs_cv (n := n + 4) (N := nm_m165) (as := [.ref 9, .int 1, .int (g 941)]) (rest := []) rfl rfl (Or.inl rfl) rfl rfl rfl rfl rfl).trans (fs_fv fun v5 g3 r4 => ?_)
    refine (fs_r (n := n + 3) 1 (pc' := 107) (L' := [some (.ref 9), some (.int x1)]) (S' := []) rfl).trans ?_
    refine (fs_go (n := n + 2) rfl (t := 124) rfl (by decide)).trans ?_
    exact b162_124 L xs m d k (n + 1) x1 g3 r4
def B162_53 (L : Nat) (xs : Nat → Int32) (m d k : Nat) (x1 : Int32) (g : a2_G) (r : a2_A) : Option fn_Z := (if am_inr (g 941) (r 902).1 = true then (if am_c2 .ne ((r 902).2 ((g 941) : Int32).toNatClampNeg) 1 = true then (B162_85 L xs m d k x1 g r) else (fn_v (ev L xs m d 159 [.int x1, .int 8, .int 11] g r) fun v8 g6 r7 => (if am_c2 .eq v8 0 = true then (B162_85 L xs m d k x1 g6 r7) else (fn_n (ev L xs m d 181 [.ref 9, .int x1] g6 r7) fun g9 r10 => (B162_124 L xs m d k x1 g9 r10))))) else none)
theorem b162_53 (L : Nat) (xs : Nat → Int32) (m d k : Nat) (n : Nat) (x1 : Int32) (g : a2_G) (r : a2_A) : bk L xs 162 nm_m162 m d k (n + 27) 53 [some (.ref 9), some (.int x1)] [] g r = B162_53 L xs m d k x1 g r := by
  show _ = ((if am_inr (g 941) (r 902).1 = true then (if am_c2 .ne ((r 902).2 ((g 941) : Int32).toNatClampNeg) 1 = true then (B162_85 L xs m d k x1 g r) else (fn_v (ev L xs m d 159 [.int x1, .int 8, .int 11] g r) fun v8 g6 r7 => (if am_c2 .eq v8 0 = true then (B162_85 L xs m d k x1 g6 r7) else (fn_n (ev L xs m d 181 [.ref 9, .int x1] g6 r7) fun g9 r10 => (B162_124 L xs m d k x1 g9 r10))))) else none) : Option fn_Z)
  refine (fs_r (n := n + 23) 4 (pc' := 61) (L' := [some (.ref 9), some (.int x1)]) (S' := [.int (g 941), .ref 10902]) rfl).trans ?_
  refine (fs_il (n := n + 22) (k := 902) rfl rfl).trans (fs_ite ?_ rfl)
  refine (fs_r (n := n + 21) 1 (pc' := 63) (L' := [some (.ref 9), some (.int x1)]) (S' := [.int 1, .int ((r 902).2 ((g 941) : Int32).toNatClampNeg)]) rfl).trans ?_
  refine (fs_j (n := n + 20) rfl (t := 85) rfl (by decide)).trans (fs_ite ?_ ?_)
  · skip
    exact b162_85 L xs m d k (n + 5) x1 g r
  · skip
    refine (fs_r (n := n + 17) 3 (pc' := 71) (L' := [some (.ref 9), some (.int x1)]) (S' := [.int 11, .int 8, .int x1]) rfl).trans ?_
    refine (fs_sv (n := n + 16) (N := nm_m159) (as := [.int x1, .int 8, .int 11]) (rest := []) rfl rfl (by decide) rfl rfl rfl rfl rfl).trans (fs_fv fun v8 g6 r7 => ?_)
    refine (fs_i (n := n + 15) rfl (t := 85) rfl (by decide)).trans (fs_ite ?_ ?_)
    · skip
      exact b162_85 L xs m d k (n + 0) x1 g6 r7
    · skip
      refine (fs_r (n := n + 13) 2 (pc' := 79) (L' := [some (.ref 9), some (.int x1)]) (S' := [.int x1, .ref 9]) rfl).trans ?_
      refine (fs_cn (n := n + 12) (N := nm_m181) (as := [.ref 9, .int x1]) (rest := []) rfl rfl (Or.inl rfl) rfl rfl rfl rfl rfl).trans (fs_fn fun g9 r10 => ?_)
      refine (fs_go (n := n + 11) rfl (t := 124) rfl (by decide)).trans ?_
      exact b162_124 L xs m d k (n + 10) x1 g9 r10
def B162_22 (L : Nat) (xs : Nat → Int32) (m d k : Nat) (x1 : Int32) (g : a2_G) (r : a2_A) : Option fn_Z := (if am_inr (g 941) (r 902).1 = true then (if am_c2 .ne ((r 902).2 ((g 941) : Int32).toNatClampNeg) 2 = true then (B162_53 L xs m d k x1 g r) else (fn_v (ev L xs m d 159 [.int x1, .int 5, .int 7] g r) fun v13 g11 r12 => (if am_c2 .eq v13 0 = true then (B162_53 L xs m d k x1 g11 r12) else (fn_n (ev L xs m d 163 [.ref 9] g11 r12) fun g14 r15 => (B162_124 L xs m d k x1 g14 r15))))) else none)
theorem b162_22 (L : Nat) (xs : Nat → Int32) (m d k : Nat) (n : Nat) (x1 : Int32) (g : a2_G) (r : a2_A) : bk L xs 162 nm_m162 m d k (n + 40) 22 [some (.ref 9), none] [.int x1] g r = B162_22 L xs m d k x1 g r := by
  show _ = ((if am_inr (g 941) (r 902).1 = true then (if am_c2 .ne ((r 902).2 ((g 941) : Int32).toNatClampNeg) 2 = true then (B162_53 L xs m d k x1 g r) else (fn_v (ev L xs m d 159 [.int x1, .int 5, .int 7] g r) fun v13 g11 r12 => (if am_c2 .eq v13 0 = true then (B162_53 L xs m d k x1 g11 r12) else (fn_n (ev L xs m d 163 [.ref 9] g11 r12) fun g14 r15 => (B162_124 L xs m d k x1 g14 r15))))) else none) : Option fn_Z)
  refine (fs_r (n := n + 35) 5 (pc' := 31) (L' := [some (.ref 9), some (.int x1)]) (S' := [.int (g 941), .ref 10902]) rfl).trans ?_
  refine (fs_il (n := n + 34) (k := 902) rfl rfl).trans (fs_ite ?_ rfl)
  refine (fs_r (n := n + 33) 1 (pc' := 33) (L' := [some (.ref 9), some (.int x1)]) (S' := [.int 2, .int ((r 902).2 ((g 941) : Int32).toNatClampNeg)]) rfl).trans ?_
  refine (fs_j (n := n + 32) rfl (t := 53) rfl (by decide)).trans (fs_ite ?_ ?_)
  · skip
    exact b162_53 L xs m d k (n + 5) x1 g r
  · skip
    refine (fs_r (n := n + 29) 3 (pc' := 40) (L' := [some (.ref 9), some (.int x1)]) (S' := [.int 7, .int 5, .int x1]) rfl).trans ?_
    refine (fs_sv (n := n + 28) (N := nm_m159) (as := [.int x1, .int 5, .int 7]) (rest := []) rfl rfl (by decide) rfl rfl rfl rfl rfl).trans (fs_fv fun v13 g11 r12 => ?_)
    refine (fs_i (n := n + 27) rfl (t := 53) rfl (by decide)).trans (fs_ite ?_ ?_)
    · skip
      exact b162_53 L xs m d k (n + 0) x1 g11 r12
    · skip
      refine (fs_r (n := n + 26) 1 (pc' := 47) (L' := [some (.ref 9), some (.int x1)]) (S' := [.ref 9]) rfl).trans ?_
      refine (fs_cn (n := n + 25) (N := nm_m163) (as := [.ref 9]) (rest := []) rfl rfl (Or.inl rfl) rfl rfl rfl rfl rfl).trans (fs_fn fun g14 r15 => ?_)
      refine (fs_go (n := n + 24) rfl (t := 124) rfl (by decide)).trans ?_
      exact b162_124 L xs m d k (n + 23) x1 g14 r15
theorem e162 (L : Nat) (xs : Nat → Int32) (m d k : Nat) (n : Nat) (g : a2_G) (r : a2_A) : bk L xs 162 nm_m162 m d k (n + 50) 0 [some (.ref 9), none] [] g r = (if am_c2 .ne (g 926) 0 = true then (if am_inr ((g 926) - 1) (r 927).1 = true then (B162_22 L xs m d k ((r 927).2 (((g 926) - 1) : Int32).toNatClampNeg) g r) else none) else (B162_22 L xs m d k (-1) g r)) := by
  refine (fs_r (n := n + 48) 2 (pc' := 4) (L' := [some (.ref 9), none]) (S' := [.int (g 926)]) rfl).trans ?_
  refine (fs_i (n := n + 47) rfl (t := 11) rfl (by decide)).trans (fs_ite ?_ ?_)
  · skip
    refine (fs_r (n := n + 41) 6 (pc' := 21) (L' := [some (.ref 9), none]) (S' := [.int ((g 926) - 1), .ref 10927]) rfl).trans ?_
    refine (fs_il (n := n + 40) (k := 927) rfl rfl).trans (fs_ite ?_ rfl)
    exact b162_22 L xs m d k (n + 0) ((r 927).2 (((g 926) - 1) : Int32).toNatClampNeg) g r
  · skip
    refine (fs_r (n := n + 46) 1 (pc' := 8) (L' := [some (.ref 9), none]) (S' := [.int (-1)]) rfl).trans ?_
    refine (fs_go (n := n + 45) rfl (t := 22) rfl (by decide)).trans ?_
    exact b162_22 L xs m d k (n + 5) (-1) g r
theorem q162 (L : Nat) (xs : Nat → Int32) (m d : Nat) (g : a2_G) (r : a2_A) : ev L xs (m + 1) (d + 1) 162 [.ref 9] g r = (if am_c2 .ne (g 926) 0 = true then (if am_inr ((g 926) - 1) (r 927).1 = true then (B162_22 L xs (m + 1) d m ((r 927).2 (((g 926) - 1) : Int32).toNatClampNeg) g r) else none) else (B162_22 L xs (m + 1) d m (-1) g r)) := (fs_ev (M := nm_m162) rfl rfl).trans (e162 L xs (m + 1) d m 850 g r)
/-- CobolParserModel.item()V -/
def B163_300 (L : Nat) (xs : Nat → Int32) (m d k : Nat) (x1 x2 x3 x4 x5 x6 x7 : Int32) (g : a2_G) (r : a2_A) : Option fn_Z := (fn_n (ev L xs m d 174 [.ref 9, .int x7, .int x5] g r) fun g13 r14 => (if am_inr (g13 937) (r14 939).1 = true then (if am_inr (g13 937) (r14 940).1 = true then (some (.inl none, (upd (upd g13 937 ((g13 937) + 1)) 938 x5), (a2_ua (a2_ua r14 939 ((r14 939).1, (upd (r14 939).2 ((g13 937) : Int32).toNatClampNeg x2))) 940 ((r14 940).1, (upd (r14 940).2 ((g13 937) : Int32).toNatClampNeg x5))))) else none) else none))
theorem b163_300 (L : Nat) (xs : Nat → Int32) (m d k : Nat) (n : Nat) (x1 x2 x3 x4 x5 x6 x7 : Int32) (g : a2_G) (r : a2_A) : bk L xs 163 nm_m163 m d k (n + 24) 300 [some (.ref 9), some (.int x1), some (.int x2), some (.int x3), some (.int x4), some (.int x5), some (.int x6)] [.int x7, .ref 9] g r = B163_300 L xs m d k x1 x2 x3 x4 x5 x6 x7 g r := by
  show _ = ((fn_n (ev L xs m d 174 [.ref 9, .int x7, .int x5] g r) fun g13 r14 => (if am_inr (g13 937) (r14 939).1 = true then (if am_inr (g13 937) (r14 940).1 = true then (some (.inl none, (upd (upd g13 937 ((g13 937) + 1)) 938 x5), (a2_ua (a2_ua r14 939 ((r14 939).1, (upd (r14 939).2 ((g13 937) : Int32).toNatClampNeg x2))) 940 ((r14 940).1, (upd (r14 940).2 ((g13 937) : Int32).toNatClampNeg x5))))) else none) else none)) : Option fn_Z)
  refine (fs_r (n := n + 23) 1 (pc' := 302) (L' := [some (.ref 9), some (.int x1), some (.int x2), some (.int x3), some (.int x4), some (.int x5), some (.int x6)]) (S' := [.int x5, .int x7, .ref 9]) rfl).trans ?_
  refine (fs_cn (n := n + 22) (N := nm_m174) (as := [.ref 9, .int x7, .int x5]) (rest := []) rfl rfl (Or.inl rfl) rfl rfl rfl rfl rfl).trans (fs_fn fun g13 r14 => ?_)
  refine (fs_r (n := n + 17) 5 (pc' := 314) (L' := [some (.ref 9), some (.int x1), some (.int x2), some (.int x3), some (.int x4), some (.int x5), some (.int x6)]) (S' := [.int x2, .int (g13 937), .ref 10939]) rfl).trans ?_
  refine (fs_is (n := n + 16) (k := 939) rfl rfl).trans (fs_ite ?_ rfl)
  refine (fs_r (n := n + 11) 5 (pc' := 325) (L' := [some (.ref 9), some (.int x1), some (.int x2), some (.int x3), some (.int x4), some (.int x5), some (.int x6)]) (S' := [.int x5, .int (g13 937), .ref 10940]) rfl).trans ?_
  refine (fs_is (n := n + 10) (k := 940) rfl rfl).trans (fs_ite ?_ rfl)
  refine (fs_r (n := n + 5) 5 (pc' := 333) (L' := [some (.ref 9), some (.int x1), some (.int x2), some (.int x3), some (.int x4), some (.int x5), some (.int x6)]) (S' := [.int ((g13 937) + 1), .ref 9]) rfl).trans ?_
  refine (fs_pf (n := n + 4) (ci := 9) (j := 37) rfl rfl rfl rfl).trans ?_
  refine (fs_r (n := n + 2) 2 (pc' := 339) (L' := [some (.ref 9), some (.int x1), some (.int x2), some (.int x3), some (.int x4), some (.int x5), some (.int x6)]) (S' := [.int x5, .ref 9]) rfl).trans ?_
  refine (fs_pf (n := n + 1) (ci := 9) (j := 38) rfl rfl rfl rfl).trans ?_
  exact (fs_rv (n := n + 0) rfl rfl).trans rfl
def B163_274 (L : Nat) (xs : Nat → Int32) (m d k : Nat) (x1 x2 x3 x4 x5 x6 x7 : Int32) (g : a2_G) (r : a2_A) : Option fn_Z := (if am_c2 .eq x3 0 = true then (if am_inr (x7 - 1) (r 940).1 = true then (B163_300 L xs m d k x1 x2 x3 x4 x5 x6 ((r 940).2 ((x7 - 1) : Int32).toNatClampNeg) (upd g 937 x7) r) else none) else (B163_300 L xs m d k x1 x2 x3 x4 x5 x6 (g 933) (upd g 937 x7) r))
theorem b163_274 (L : Nat) (xs : Nat → Int32) (m d k : Nat) (n : Nat) (x1 x2 x3 x4 x5 x6 x7 : Int32) (g : a2_G) (r : a2_A) : bk L xs 163 nm_m163 m d k (n + 35) 274 [some (.ref 9), some (.int x1), some (.int x2), some (.int x3), some (.int x4), some (.int x5), some (.int x6)] [.int x7, .ref 9] g r = B163_274 L xs m d k x1 x2 x3 x4 x5 x6 x7 g r := by
  show _ = ((if am_c2 .eq x3 0 = true then (if am_inr (x7 - 1) (r 940).1 = true then (B163_300 L xs m d k x1 x2 x3 x4 x5 x6 ((r 940).2 ((x7 - 1) : Int32).toNatClampNeg) (upd g 937 x7) r) else none) else (B163_300 L xs m d k x1 x2 x3 x4 x5 x6 (g 933) (upd g 937 x7) r)) : Option fn_Z)
  refine (fs_pf (n := n + 34) (ci := 9) (j := 37) rfl rfl rfl rfl).trans ?_
  refine (fs_r (n := n + 32) 2 (pc' := 279) (L' := [some (.ref 9), some (.int x1), some (.int x2), some (.int x3), some (.int x4), some (.int x5), some (.int x6)]) (S' := [.int x3, .ref 9]) rfl).trans ?_
  refine (fs_i (n := n + 31) rfl (t := 289) rfl (by decide)).trans (fs_ite ?_ ?_)
  · skip
    refine (fs_r (n := n + 25) 6 (pc' := 299) (L' := [some (.ref 9), some (.int x1), some (.int x2), some (.int x3), some (.int x4), some (.int x5), some (.int x6)]) (S' := [.int (x7 - 1), .ref 10940, .ref 9]) rfl).trans ?_
    refine (fs_il (n := n + 24) (k := 940) rfl rfl).trans (fs_ite ?_ rfl)
    exact b163_300 L xs m d k (n + 0) x1 x2 x3 x4 x5 x6 ((r 940).2 ((x7 - 1) : Int32).toNatClampNeg) (upd g 937 x7) r
  · skip
    refine (fs_r (n := n + 29) 2 (pc' := 286) (L' := [some (.ref 9), some (.int x1), some (.int x2), some (.int x3), some (.int x4), some (.int x5), some (.int x6)]) (S' := [.int (g 933), .ref 9]) rfl).trans ?_
    refine (fs_go (n := n + 28) rfl (t := 300) rfl (by decide)).trans ?_
    exact b163_300 L xs m d k (n + 4) x1 x2 x3 x4 x5 x6 (g 933) (upd g 937 x7) r
def B163_223 (L : Nat) (xs : Nat → Int32) (m d k : Nat) (x1 x2 x3 x4 x5 x6 : Int32) (g : a2_G) (r : a2_A) : Option fn_Z := (if am_c2 .eq (g 943) 0 = true then (if am_c2 .ne x2 88 = true then (if am_c2 .eq x3 0 = true then (fn_v (ev L xs m d 164 [.ref 9, .int x2] (upd g 941 ((g 941) + 1)) r) fun v12 g10 r11 => (B163_274 L xs m d k x1 x2 x3 x4 x5 x6 (v12 + 1) g10 r11)) else (B163_274 L xs m d k x1 x2 x3 x4 x5 x6 0 (upd g 941 ((g 941) + 1)) r)) else (fn_n (ev L xs m d 174 [.ref 9, .int (g 938), .int x5] (upd g 941 ((g 941) + 1)) r) fun g15 r16 => (some (.inl none, g15, r16)))) else (some (.inl none, g, r)))
theorem b163_223 (L : Nat) (xs : Nat → Int32) (m d k : Nat) (n : Nat) (x1 x2 x3 x4 x5 x6 : Int32) (g : a2_G) (r : a2_A) : bk L xs 163 nm_m163 m d k (n + 55) 223 [some (.ref 9), some (.int x1), some (.int x2), some (.int x3), some (.int x4), some (.int x5), some (.int x6)] [] g r = B163_223 L xs m d k x1 x2 x3 x4 x5 x6 g r := by
  show _ = ((if am_c2 .eq (g 943) 0 = true then (if am_c2 .ne x2 88 = true then (if am_c2 .eq x3 0 = true then (fn_v (ev L xs m d 164 [.ref 9, .int x2] (upd g 941 ((g 941) + 1)) r) fun v12 g10 r11 => (B163_274 L xs m d k x1 x2 x3 x4 x5 x6 (v12 + 1) g10 r11)) else (B163_274 L xs m d k x1 x2 x3 x4 x5 x6 0 (upd g 941 ((g 941) + 1)) r)) else (fn_n (ev L xs m d 174 [.ref 9, .int (g 938), .int x5] (upd g 941 ((g 941) + 1)) r) fun g15 r16 => (some (.inl none, g15, r16)))) else (some (.inl none, g, r))) : Option fn_Z)
  refine (fs_r (n := n + 53) 2 (pc' := 227) (L' := [some (.ref 9), some (.int x1), some (.int x2), some (.int x3), some (.int x4), some (.int x5), some (.int x6)]) (S' := [.int (g 943)]) rfl).trans ?_
  refine (fs_i (n := n + 52) rfl (t := 231) rfl (by decide)).trans (fs_ite ?_ ?_)
  · skip
    refine (fs_r (n := n + 47) 5 (pc' := 238) (L' := [some (.ref 9), some (.int x1), some (.int x2), some (.int x3), some (.int x4), some (.int x5), some (.int x6)]) (S' := [.int ((g 941) + 1), .ref 9]) rfl).trans ?_
    refine (fs_pf (n := n + 46) (ci := 9) (j := 41) rfl rfl rfl rfl).trans ?_
    refine (fs_r (n := n + 44) 2 (pc' := 244) (L' := [some (.ref 9), some (.int x1), some (.int x2), some (.int x3), some (.int x4), some (.int x5), some (.int x6)]) (S' := [.int 88, .int x2]) rfl).trans ?_
    refine (fs_j (n := n + 43) rfl (t := 258) rfl (by decide)).trans (fs_ite ?_ ?_)
    · skip
      refine (fs_r (n := n + 41) 2 (pc' := 260) (L' := [some (.ref 9), some (.int x1), some (.int x2), some (.int x3), some (.int x4), some (.int x5), some (.int x6)]) (S' := [.int x3, .ref 9]) rfl).trans ?_
      refine (fs_i (n := n + 40) rfl (t := 267) rfl (by decide)).trans (fs_ite ?_ ?_)
      · skip
        refine (fs_r (n := n + 38) 2 (pc' := 269) (L' := [some (.ref 9), some (.int x1), some (.int x2), some (.int x3), some (.int x4), some (.int x5), some (.int x6)]) (S' := [.int x2, .ref 9, .ref 9]) rfl).trans ?_
        refine (fs_cv (n := n + 37) (N := nm_m164) (as := [.ref 9, .int x2]) (rest := [.ref 9]) rfl rfl (Or.inl rfl) rfl rfl rfl rfl rfl).trans (fs_fv fun v12 g10 r11 => ?_)
        refine (fs_r (n := n + 35) 2 (pc' := 274) (L' := [some (.ref 9), some (.int x1), some (.int x2), some (.int x3), some (.int x4), some (.int x5), some (.int x6)]) (S' := [.int (v12 + 1), .ref 9]) rfl).trans ?_
        exact b163_274 L xs m d k (n + 0) x1 x2 x3 x4 x5 x6 (v12 + 1) g10 r11
      · skip
        refine (fs_r (n := n + 39) 1 (pc' := 264) (L' := [some (.ref 9), some (.int x1), some (.int x2), some (.int x3), some (.int x4), some (.int x5), some (.int x6)]) (S' := [.int 0, .ref 9]) rfl).trans ?_
        refine (fs_go (n := n + 38) rfl (t := 274) rfl (by decide)).trans ?_
        exact b163_274 L xs m d k (n + 3) x1 x2 x3 x4 x5 x6 0 (upd g 941 ((g 941) + 1)) r
    · skip
      refine (fs_r (n := n + 39) 4 (pc' := 254) (L' := [some (.ref 9), some (.int x1), some (.int x2), some (.int x3), some (.int x4), some (.int x5), some (.int x6)]) (S' := [.int x5, .int (g 938), .ref 9]) rfl).trans ?_
      refine (fs_cn (n := n + 38) (N := nm_m174) (as := [.ref 9, .int (g 938), .int x5]) (rest := []) rfl rfl (Or.inl rfl) rfl rfl rfl rfl rfl).trans (fs_fn fun g15 r16 => ?_)
      exact (fs_rv (n := n + 37) rfl rfl).trans rfl
  · skip
    exact (fs_rv (n := n + 51) rfl rfl).trans rfl
def B163_207 (L : Nat) (xs : Nat → Int32) (m d k : Nat) (x1 x2 x3 x4 x5 x6 x7 : Int32) (g : a2_G) (r : a2_A) : Option fn_Z := (if am_c2 .eq x7 0 = true then (lp L xs 163 nm_m163 m d k 178 [some (.ref 9), some (.int x1), some (.int x2), some (.int x3), some (.int x4), some (.int x5), some (.int x7)] g r) else (fn_n (ev L xs m d 169 [.ref 9, .int x5] g r) fun g20 r21 => (lp L xs 163 nm_m163 m d k 178 [some (.ref 9), some (.int x1), some (.int x2), some (.int x3), some (.int x4), some (.int x5), some (.int x7)] g20 r21)))
theorem b163_207 (L : Nat) (xs : Nat → Int32) (m d k : Nat) (n : Nat) (x1 x2 x3 x4 x5 x6 x7 : Int32) (g : a2_G) (r : a2_A) : bk L xs 163 nm_m163 m d k (n + 7) 207 [some (.ref 9), some (.int x1), some (.int x2), some (.int x3), some (.int x4), some (.int x5), some (.int x6)] [.int x7] g r = B163_207 L xs m d k x1 x2 x3 x4 x5 x6 x7 g r := by
  show _ = ((if am_c2 .eq x7 0 = true then (lp L xs 163 nm_m163 m d k 178 [some (.ref 9), some (.int x1), some (.int x2), some (.int x3), some (.int x4), some (.int x5), some (.int x7)] g r) else (fn_n (ev L xs m d 169 [.ref 9, .int x5] g r) fun g20 r21 => (lp L xs 163 nm_m163 m d k 178 [some (.ref 9), some (.int x1), some (.int x2), some (.int x3), some (.int x4), some (.int x5), some (.int x7)] g20 r21))) : Option fn_Z)
  refine (fs_r (n := n + 5) 2 (pc' := 211) (L' := [some (.ref 9), some (.int x1), some (.int x2), some (.int x3), some (.int x4), some (.int x5), some (.int x7)]) (S' := [.int x7]) rfl).trans ?_
  refine (fs_ib (n := n + 4) rfl (t := 178) rfl (by decide)).trans (fs_ite ?_ ?_)
  · skip
    exact rfl
  · skip
    refine (fs_r (n := n + 2) 2 (pc' := 217) (L' := [some (.ref 9), some (.int x1), some (.int x2), some (.int x3), some (.int x4), some (.int x5), some (.int x7)]) (S' := [.int x5, .ref 9]) rfl).trans ?_
    refine (fs_cn (n := n + 1) (N := nm_m169) (as := [.ref 9, .int x5]) (rest := []) rfl rfl (Or.inl rfl) rfl rfl rfl rfl rfl).trans (fs_fn fun g20 r21 => ?_)
    exact (fs_gb (n := n + 0) rfl (t := 178) rfl (by decide)).trans rfl
def B163_178 (L : Nat) (xs : Nat → Int32) (m d k : Nat) (x1 x2 x3 x4 x5 x6 : Int32) (g : a2_G) (r : a2_A) : Option fn_Z := (if am_c2 .eq x6 0 = true then (B163_223 L xs m d k x1 x2 x3 x4 x5 x6 g r) else (if am_c2 .ne (g 943) 0 = true then (B163_223 L xs m d k x1 x2 x3 x4 x5 x6 g r) else (fn_v (ev L xs m d 167 [.ref 9, .int (g 941), .int 4] g r) fun v19 g17 r18 => (if am_c2 .ne v19 0 = true then (B163_207 L xs m d k x1 x2 x3 x4 x5 x6 0 g17 r18) else (B163_207 L xs m d k x1 x2 x3 x4 x5 x6 1 g17 r18)))))
theorem b163_178 (L : Nat) (xs : Nat → Int32) (m d k : Nat) (n : Nat) (x1 x2 x3 x4 x5 x6 : Int32) (g : a2_G) (r : a2_A) : bk L xs 163 nm_m163 m d k (n + 60) 178 [some (.ref 9), some (.int x1), some (.int x2), some (.int x3), some (.int x4), some (.int x5), some (.int x6)] [] g r = B163_178 L xs m d k x1 x2 x3 x4 x5 x6 g r := by
  show _ = ((if am_c2 .eq x6 0 = true then (B163_223 L xs m d k x1 x2 x3 x4 x5 x6 g r) else (if am_c2 .ne (g 943) 0 = true then (B163_223 L xs m d k x1 x2 x3 x4 x5 x6 g r) else (fn_v (ev L xs m d 167 [.ref 9, .int (g 941), .int 4] g r) fun v19 g17 r18 => (if am_c2 .ne v19 0 = true then (B163_207 L xs m d k x1 x2 x3 x4 x5 x6 0 g17 r18) else (B163_207 L xs m d k x1 x2 x3 x4 x5 x6 1 g17 r18))))) : Option fn_Z)
  refine (fs_r (n := n + 59) 1 (pc' := 180) (L' := [some (.ref 9), some (.int x1), some (.int x2), some (.int x3), some (.int x4), some (.int x5), some (.int x6)]) (S' := [.int x6]) rfl).trans ?_
  refine (fs_i (n := n + 58) rfl (t := 223) rfl (by decide)).trans (fs_ite ?_ ?_)
  · skip
    exact b163_223 L xs m d k (n + 3) x1 x2 x3 x4 x5 x6 g r
  · skip
    refine (fs_r (n := n + 56) 2 (pc' := 187) (L' := [some (.ref 9), some (.int x1), some (.int x2), some (.int x3), some (.int x4), some (.int x5), some (.int x6)]) (S' := [.int (g 943)]) rfl).trans ?_
    refine (fs_i (n := n + 55) rfl (t := 223) rfl (by decide)).trans (fs_ite ?_ ?_)
    · skip
      exact b163_223 L xs m d k (n + 0) x1 x2 x3 x4 x5 x6 g r
    · skip
      refine (fs_r (n := n + 51) 4 (pc' := 196) (L' := [some (.ref 9), some (.int x1), some (.int x2), some (.int x3), some (.int x4), some (.int x5), some (.int x6)]) (S' := [.int 4, .int (g 941), .ref 9]) rfl).trans ?_
      refine (fs_cv (n := n + 50) (N := nm_m167) (as := [.ref 9, .int (g 941), .int 4]) (rest := []) rfl rfl (Or.inl rfl) rfl rfl rfl rfl rfl).trans (fs_fv fun v19 g17 r18 => ?_)
      refine (fs_i (n := n + 49) rfl (t := 206) rfl (by decide)).trans (fs_ite ?_ ?_)
      · skip
        refine (fs_r (n := n + 48) 1 (pc' := 207) (L' := [some (.ref 9), some (.int x1), some (.int x2), some (.int x3), some (.int x4), some (.int x5), some (.int x6)]) (S' := [.int 0]) rfl).trans ?_
        exact b163_207 L xs m d k (n + 41) x1 x2 x3 x4 x5 x6 0 g17 r18
      · skip
        refine (fs_r (n := n + 48) 1 (pc' := 203) (L' := [some (.ref 9), some (.int x1), some (.int x2), some (.int x3), some (.int x4), some (.int x5), some (.int x6)]) (S' := [.int 1]) rfl).trans ?_
        refine (fs_go (n := n + 47) rfl (t := 207) rfl (by decide)).trans ?_
        exact b163_207 L xs m d k (n + 40) x1 x2 x3 x4 x5 x6 1 g17 r18
theorem l163_178 (L : Nat) (xs : Nat → Int32) (m d k : Nat) (x1 x2 x3 x4 x5 x6 : Int32) (g : a2_G) (r : a2_A) : lp L xs 163 nm_m163 m d (k + 1) 178 [some (.ref 9), some (.int x1), some (.int x2), some (.int x3), some (.int x4), some (.int x5), some (.int x6)] g r = B163_178 L xs m d k x1 x2 x3 x4 x5 x6 g r := fs_lp.trans (b163_178 L xs m d k 840 x1 x2 x3 x4 x5 x6 g r)
def B163_158 (L : Nat) (xs : Nat → Int32) (m d k : Nat) (x1 x2 x3 x4 : Int32) (g : a2_G) (r : a2_A) : Option fn_Z := (fn_v (ev L xs m d 161 [.ref 9, .int 12, .int ((1000 * x2) + x4), .int x1] g r) fun v9 g7 r8 => (B163_178 L xs m d k x1 x2 x3 x4 v9 1 g7 r8))
theorem b163_158 (L : Nat) (xs : Nat → Int32) (m d k : Nat) (n : Nat) (x1 x2 x3 x4 : Int32) (g : a2_G) (r : a2_A) : bk L xs 163 nm_m163 m d k (n + 72) 158 [some (.ref 9), some (.int x1), some (.int x2), some (.int x3), some (.int x4), none, none] [] g r = B163_158 L xs m d k x1 x2 x3 x4 g r := by
  show _ = ((fn_v (ev L xs m d 161 [.ref 9, .int 12, .int ((1000 * x2) + x4), .int x1] g r) fun v9 g7 r8 => (B163_178 L xs m d k x1 x2 x3 x4 v9 1 g7 r8)) : Option fn_Z)
  refine (fs_r (n := n + 64) 8 (pc' := 170) (L' := [some (.ref 9), some (.int x1), some (.int x2), some (.int x3), some (.int x4), none, none]) (S' := [.int x1, .int ((1000 * x2) + x4), .int 12, .ref 9]) rfl).trans ?_
  refine (fs_cv (n := n + 63) (N := nm_m161) (as := [.ref 9, .int 12, .int ((1000 * x2) + x4), .int x1]) (rest := []) rfl rfl (Or.inl rfl) rfl rfl rfl rfl rfl).trans (fs_fv fun v9 g7 r8 => ?_)
  refine (fs_r (n := n + 60) 3 (pc' := 178) (L' := [some (.ref 9), some (.int x1), some (.int x2), some (.int x3), some (.int x4), some (.int v9), some (.int 1)]) (S' := []) rfl).trans ?_
  exact b163_178 L xs m d k (n + 0) x1 x2 x3 x4 v9 1 g7 r8
def B163_115 (L : Nat) (xs : Nat → Int32) (m d k : Nat) (x1 x2 x3 x4 : Int32) (g : a2_G) (r : a2_A) : Option fn_Z := (if am_c2 .le x4 0 = true then (fn_v (ev L xs m d 168 [.ref 9, .int (g 941), .int 18] g r) fun v6 g4 r5 => (if am_c2 .eq v6 0 = true then (B163_158 L xs m d k x1 x2 x3 x4 g4 r5) else (B163_158 L xs m d k x1 x2 x3 x4 (upd g4 941 ((g4 941) + 1)) r5))) else (B163_158 L xs m d k x1 x2 x3 x4 (upd g 941 ((g 941) + 1)) r))
theorem b163_115 (L : Nat) (xs : Nat → Int32) (m d k : Nat) (n : Nat) (x1 x2 x3 x4 : Int32) (g : a2_G) (r : a2_A) : bk L xs 163 nm_m163 m d k (n + 87) 115 [some (.ref 9), some (.int x1), some (.int x2), some (.int x3), none, none, none] [.int x4] g r = B163_115 L xs m d k x1 x2 x3 x4 g r := by
  show _ = ((if am_c2 .le x4 0 = true then (fn_v (ev L xs m d 168 [.ref 9, .int (g 941), .int 18] g r) fun v6 g4 r5 => (if am_c2 .eq v6 0 = true then (B163_158 L xs m d k x1 x2 x3 x4 g4 r5) else (B163_158 L xs m d k x1 x2 x3 x4 (upd g4 941 ((g4 941) + 1)) r5))) else (B163_158 L xs m d k x1 x2 x3 x4 (upd g 941 ((g 941) + 1)) r)) : Option fn_Z)
  refine (fs_r (n := n + 85) 2 (pc' := 119) (L' := [some (.ref 9), some (.int x1), some (.int x2), some (.int x3), some (.int x4), none, none]) (S' := [.int x4]) rfl).trans ?_
  refine (fs_i (n := n + 84) rfl (t := 135) rfl (by decide)).trans (fs_ite ?_ ?_)
  · skip
    refine (fs_r (n := n + 80) 4 (pc' := 142) (L' := [some (.ref 9), some (.int x1), some (.int x2), some (.int x3), some (.int x4), none, none]) (S' := [.int 18, .int (g 941), .ref 9]) rfl).trans ?_
    refine (fs_cv (n := n + 79) (N := nm_m168) (as := [.ref 9, .int (g 941), .int 18]) (rest := []) rfl rfl (Or.inl rfl) rfl rfl rfl rfl rfl).trans (fs_fv fun v6 g4 r5 => ?_)
    refine (fs_i (n := n + 78) rfl (t := 158) rfl (by decide)).trans (fs_ite ?_ ?_)
    · skip
      exact b163_158 L xs m d k (n + 6) x1 x2 x3 x4 g4 r5
    · skip
      refine (fs_r (n := n + 73) 5 (pc' := 155) (L' := [some (.ref 9), some (.int x1), some (.int x2), some (.int x3), some (.int x4), none, none]) (S' := [.int ((g4 941) + 1), .ref 9]) rfl).trans ?_
      refine (fs_pf (n := n + 72) (ci := 9) (j := 41) rfl rfl rfl rfl).trans ?_
      exact b163_158 L xs m d k (n + 0) x1 x2 x3 x4 (upd g4 941 ((g4 941) + 1)) r5
  · skip
    refine (fs_r (n := n + 79) 5 (pc' := 129) (L' := [some (.ref 9), some (.int x1), some (.int x2), some (.int x3), some (.int x4), none, none]) (S' := [.int ((g 941) + 1), .ref 9]) rfl).trans ?_
    refine (fs_pf (n := n + 78) (ci := 9) (j := 41) rfl rfl rfl rfl).trans ?_
    refine (fs_go (n := n + 77) rfl (t := 158) rfl (by decide)).trans ?_
    exact b163_158 L xs m d k (n + 5) x1 x2 x3 x4 (upd g 941 ((g 941) + 1)) r
def B163_78 (L : Nat) (xs : Nat → Int32) (m d k : Nat) (x1 x2 x3 : Int32) (g : a2_G) (r : a2_A) : Option fn_Z := (fn_v (ev L xs m d 167 [.ref 9, .int ((g 941) + 1), .int 1] (upd g 941 ((g 941) + 1)) r) fun v3 g1 r2 => (if am_c2 .eq v3 0 = true then (B163_115 L xs m d k x1 x2 x3 0 g1 r2) else (if am_inr (g1 941) (r2 903).1 = true then (B163_115 L xs m d k x1 x2 x3 (((r2 903).2 ((g1 941) : Int32).toNatClampNeg) + 1) g1 r2) else none)))
theorem b163_78 (L : Nat) (xs : Nat → Int32) (m d k : Nat) (n : Nat) (x1 x2 x3 : Int32) (g : a2_G) (r : a2_A) : bk L xs 163 nm_m163 m d k (n + 107) 78 [some (.ref 9), some (.int x1), some (.int x2), some (.int x3), none, none, none] [] g r = B163_78 L xs m d k x1 x2 x3 g r := by
  show _ = ((fn_v (ev L xs m d 167 [.ref 9, .int ((g 941) + 1), .int 1] (upd g 941 ((g 941) + 1)) r) fun v3 g1 r2 => (if am_c2 .eq v3 0 = true then (B163_115 L xs m d k x1 x2 x3 0 g1 r2) else (if am_inr (g1 941) (r2 903).1 = true then (B163_115 L xs m d k x1 x2 x3 (((r2 903).2 ((g1 941) : Int32).toNatClampNeg) + 1) g1 r2) else none))) : Option fn_Z)
  refine (fs_r (n := n + 102) 5 (pc' := 85) (L' := [some (.ref 9), some (.int x1), some (.int x2), some (.int x3), none, none, none]) (S' := [.int ((g 941) + 1), .ref 9]) rfl).trans ?_
  refine (fs_pf (n := n + 101) (ci := 9) (j := 41) rfl rfl rfl rfl).trans ?_
  refine (fs_r (n := n + 97) 4 (pc' := 94) (L' := [some (.ref 9), some (.int x1), some (.int x2), some (.int x3), none, none, none]) (S' := [.int 1, .int ((g 941) + 1), .ref 9]) rfl).trans ?_
  refine (fs_cv (n := n + 96) (N := nm_m167) (as := [.ref 9, .int ((g 941) + 1), .int 1]) (rest := []) rfl rfl (Or.inl rfl) rfl rfl rfl rfl rfl).trans (fs_fv fun v3 g1 r2 => ?_)
  refine (fs_i (n := n + 95) rfl (t := 114) rfl (by decide)).trans (fs_ite ?_ ?_)
  · skip
    refine (fs_r (n := n + 94) 1 (pc' := 115) (L' := [some (.ref 9), some (.int x1), some (.int x2), some (.int x3), none, none, none]) (S' := [.int 0]) rfl).trans ?_
    exact b163_115 L xs m d k (n + 7) x1 x2 x3 0 g1 r2
  · skip
    refine (fs_r (n := n + 91) 4 (pc' := 108) (L' := [some (.ref 9), some (.int x1), some (.int x2), some (.int x3), none, none, none]) (S' := [.int (g1 941), .ref 10903]) rfl).trans ?_
    refine (fs_il (n := n + 90) (k := 903) rfl rfl).trans (fs_ite ?_ rfl)
    refine (fs_r (n := n + 88) 2 (pc' := 111) (L' := [some (.ref 9), some (.int x1), some (.int x2), some (.int x3), none, none, none]) (S' := [.int (((r2 903).2 ((g1 941) : Int32).toNatClampNeg) + 1)]) rfl).trans ?_
    refine (fs_go (n := n + 87) rfl (t := 115) rfl (by decide)).trans ?_
    exact b163_115 L xs m d k (n + 0) x1 x2 x3 (((r2 903).2 ((g1 941) : Int32).toNatClampNeg) + 1) g1 r2
def B163_67 (L : Nat) (xs : Nat → Int32) (m d k : Nat) (x1 x2 x3 : Int32) (g : a2_G) (r : a2_A) : Option fn_Z := (fn_v (ev L xs m d 165 [.ref 9, .int 1, .int (g 941)] g r) fun v27 g25 r26 => (some (.inl none, g25, r26)))
theorem b163_67 (L : Nat) (xs : Nat → Int32) (m d k : Nat) (n : Nat) (x1 x2 x3 : Int32) (g : a2_G) (r : a2_A) : bk L xs 163 nm_m163 m d k (n + 7) 67 [some (.ref 9), some (.int x1), some (.int x2), some (.int x3), none, none, none] [] g r = B163_67 L xs m d k x1 x2 x3 g r := by
  show _ = ((fn_v (ev L xs m d 165 [.ref 9, .int 1, .int (g 941)] g r) fun v27 g25 r26 => (some (.inl none, g25, r26))) : Option fn_Z)
  refine (fs_r (n := n + 3) 4 (pc' := 73) (L' := [some (.ref 9), some (.int x1), some (.int x2), some (.int x3), none, none, none]) (S' := [.int (g 941), .int 1, .ref 9]) rfl).trans ?_
  refine (fs_cv (n := n + 2) (N := nm_m165) (as := [.ref 9, .int 1, .int (g 941)]) (rest := []) rfl rfl (Or.inl rfl) rfl rfl rfl rfl rfl).trans (fs_fv fun v27 g25 r26 => ?_)
  refine (fs_r (n := n + 1) 1 (pc' := 77) (L' := [some (.ref 9), some (.int x1), some (.int x2), some (.int x3), none, none, none]) (S' := []) rfl).trans ?_
  exact (fs_rv (n := n + 0) rfl rfl).trans rfl
def B163_49 (L : Nat) (xs : Nat → Int32) (m d k : Nat) (x1 x2 x3 : Int32) (g : a2_G) (r : a2_A) : Option fn_Z := (fn_v (ev L xs m d 159 [.int x2, .int 2, .int 49] g r) fun v24 g22 r23 => (if am_c2 .eq v24 0 = true then (B163_67 L xs m d k x1 x2 x3 g22 r23) else (fn_v (ev L xs m d 164 [.ref 9, .int x2] g22 r23) fun v30 g28 r29 => (if am_c2 .ge v30 0 = true then (B163_78 L xs m d k x1 x2 x3 g28 r29) else (B163_67 L xs m d k x1 x2 x3 g28 r29)))))
theorem b163_49 (L : Nat) (xs : Nat → Int32) (m d k : Nat) (n : Nat) (x1 x2 x3 : Int32) (g : a2_G) (r : a2_A) : bk L xs 163 nm_m163 m d k (n + 116) 49 [some (.ref 9), some (.int x1), some (.int x2), some (.int x3), none, none, none] [] g r = B163_49 L xs m d k x1 x2 x3 g r := by
  show _ = ((fn_v (ev L xs m d 159 [.int x2, .int 2, .int 49] g r) fun v24 g22 r23 => (if am_c2 .eq v24 0 = true then (B163_67 L xs m d k x1 x2 x3 g22 r23) else (fn_v (ev L xs m d 164 [.ref 9, .int x2] g22 r23) fun v30 g28 r29 => (if am_c2 .ge v30 0 = true then (B163_78 L xs m d k x1 x2 x3 g28 r29) else (B163_67 L xs m d k x1 x2 x3 g28 r29))))) : Option fn_Z)
  refine (fs_r (n := n + 113) 3 (pc' := 53) (L' := [some (.ref 9), some (.int x1), some (.int x2), some (.int x3), none, none, none]) (S' := [.int 49, .int 2, .int x2]) rfl).trans ?_
  refine (fs_sv (n := n + 112) (N := nm_m159) (as := [.int x2, .int 2, .int 49]) (rest := []) rfl rfl (by decide) rfl rfl rfl rfl rfl).trans (fs_fv fun v24 g22 r23 => ?_)
  refine (fs_i (n := n + 111) rfl (t := 67) rfl (by decide)).trans (fs_ite ?_ ?_)
  · skip
    exact b163_67 L xs m d k (n + 104) x1 x2 x3 g22 r23
  · skip
    refine (fs_r (n := n + 109) 2 (pc' := 61) (L' := [some (.ref 9), some (.int x1), some (.int x2), some (.int x3), none, none, none]) (S' := [.int x2, .ref 9]) rfl).trans ?_
    refine (fs_cv (n := n + 108) (N := nm_m164) (as := [.ref 9, .int x2]) (rest := []) rfl rfl (Or.inl rfl) rfl rfl rfl rfl rfl).trans (fs_fv fun v30 g28 r29 => ?_)
    refine (fs_i (n := n + 107) rfl (t := 78) rfl (by decide)).trans (fs_ite ?_ ?_)
    · skip
      exact b163_78 L xs m d k (n + 0) x1 x2 x3 g28 r29
    · skip
      exact b163_67 L xs m d k (n + 100) x1 x2 x3 g28 r29
def B163_31 (L : Nat) (xs : Nat → Int32) (m d k : Nat) (x1 x2 x3 : Int32) (g : a2_G) (r : a2_A) : Option fn_Z := (if am_c2 .ne x3 0 = true then (B163_78 L xs m d k x1 x2 x3 g r) else (if am_c2 .ne x2 88 = true then (B163_49 L xs m d k x1 x2 x3 g r) else (if am_c2 .gt (g 938) 0 = true then (B163_78 L xs m d k x1 x2 x3 g r) else (B163_49 L xs m d k x1 x2 x3 g r))))
theorem b163_31 (L : Nat) (xs : Nat → Int32) (m d k : Nat) (n : Nat) (x1 x2 x3 : Int32) (g : a2_G) (r : a2_A) : bk L xs 163 nm_m163 m d k (n + 125) 31 [some (.ref 9), some (.int x1), some (.int x2), none, none, none, none] [.int x3] g r = B163_31 L xs m d k x1 x2 x3 g r := by
  show _ = ((if am_c2 .ne x3 0 = true then (B163_78 L xs m d k x1 x2 x3 g r) else (if am_c2 .ne x2 88 = true then (B163_49 L xs m d k x1 x2 x3 g r) else (if am_c2 .gt (g 938) 0 = true then (B163_78 L xs m d k x1 x2 x3 g r) else (B163_49 L xs m d k x1 x2 x3 g r)))) : Option fn_Z)
  refine (fs_r (n := n + 123) 2 (pc' := 33) (L' := [some (.ref 9), some (.int x1), some (.int x2), some (.int x3), none, none, none]) (S' := [.int x3]) rfl).trans ?_
  refine (fs_i (n := n + 122) rfl (t := 78) rfl (by decide)).trans (fs_ite ?_ ?_)
  · skip
    exact b163_78 L xs m d k (n + 15) x1 x2 x3 g r
  · skip
    refine (fs_r (n := n + 120) 2 (pc' := 39) (L' := [some (.ref 9), some (.int x1), some (.int x2), some (.int x3), none, none, none]) (S' := [.int 88, .int x2]) rfl).trans ?_
    refine (fs_j (n := n + 119) rfl (t := 49) rfl (by decide)).trans (fs_ite ?_ ?_)
    · skip
      exact b163_49 L xs m d k (n + 3) x1 x2 x3 g r
    · skip
      refine (fs_r (n := n + 117) 2 (pc' := 46) (L' := [some (.ref 9), some (.int x1), some (.int x2), some (.int x3), none, none, none]) (S' := [.int (g 938)]) rfl).trans ?_
      refine (fs_i (n := n + 116) rfl (t := 78) rfl (by decide)).trans (fs_ite ?_ ?_)
      · skip
        exact b163_78 L xs m d k (n + 9) x1 x2 x3 g r
      · skip
        exact b163_49 L xs m d k (n + 0) x1 x2 x3 g r
def B163_26 (L : Nat) (xs : Nat → Int32) (m d k : Nat) (x1 x2 : Int32) (g : a2_G) (r : a2_A) : Option fn_Z := (B163_31 L xs m d k x1 x2 1 g r)
theorem b163_26 (L : Nat) (xs : Nat → Int32) (m d k : Nat) (n : Nat) (x1 x2 : Int32) (g : a2_G) (r : a2_A) : bk L xs 163 nm_m163 m d k (n + 127) 26 [some (.ref 9), some (.int x1), some (.int x2), none, none, none, none] [] g r = B163_26 L xs m d k x1 x2 g r := by
  show _ = ((B163_31 L xs m d k x1 x2 1 g r) : Option fn_Z)
  refine (fs_r (n := n + 126) 1 (pc' := 27) (L' := [some (.ref 9), some (.int x1), some (.int x2), none, none, none, none]) (S' := [.int 1]) rfl).trans ?_
  refine (fs_go (n := n + 125) rfl (t := 31) rfl (by decide)).trans ?_
  exact b163_31 L xs m d k (n + 0) x1 x2 1 g r
theorem e163 (L : Nat) (xs : Nat → Int32) (m d k : Nat) (n : Nat) (g : a2_G) (r : a2_A) : bk L xs 163 nm_m163 m d k (n + 142) 0 [some (.ref 9), none, none, none, none, none, none] [] g r = (if am_inr (g 941) (r 903).1 = true then (if am_c2 .eq ((r 903).2 ((g 941) : Int32).toNatClampNeg) 1 = true then (B163_26 L xs m d k (g 941) ((r 903).2 ((g 941) : Int32).toNatClampNeg) g r) else (if am_c2 .ne ((r 903).2 ((g 941) : Int32).toNatClampNeg) 77 = true then (B163_31 L xs m d k (g 941) ((r 903).2 ((g 941) : Int32).toNatClampNeg) 0 g r) else (B163_26 L xs m d k (g 941) ((r 903).2 ((g 941) : Int32).toNatClampNeg) g r))) else none) := by
  refine (fs_r (n := n + 135) 7 (pc' := 13) (L' := [some (.ref 9), some (.int (g 941)), none, none, none, none, none]) (S' := [.int (g 941), .ref 10903]) rfl).trans ?_
  refine (fs_il (n := n + 134) (k := 903) rfl rfl).trans (fs_ite ?_ rfl)
  refine (fs_r (n := n + 131) 3 (pc' := 17) (L' := [some (.ref 9), some (.int (g 941)), some (.int ((r 903).2 ((g 941) : Int32).toNatClampNeg)), none, none, none, none]) (S' := [.int 1, .int ((r 903).2 ((g 941) : Int32).toNatClampNeg)]) rfl).trans ?_
  refine (fs_j (n := n + 130) rfl (t := 26) rfl (by decide)).trans (fs_ite ?_ ?_)
  · skip
    exact b163_26 L xs m d k (n + 3) (g 941) ((r 903).2 ((g 941) : Int32).toNatClampNeg) g r
  · skip
    refine (fs_r (n := n + 128) 2 (pc' := 23) (L' := [some (.ref 9), some (.int (g 941)), some (.int ((r 903).2 ((g 941) : Int32).toNatClampNeg)), none, none, none, none]) (S' := [.int 77, .int ((r 903).2 ((g 941) : Int32).toNatClampNeg)]) rfl).trans ?_
    refine (fs_j (n := n + 127) rfl (t := 30) rfl (by decide)).trans (fs_ite ?_ ?_)
    · skip
      refine (fs_r (n := n + 126) 1 (pc' := 31) (L' := [some (.ref 9), some (.int (g 941)), some (.int ((r 903).2 ((g 941) : Int32).toNatClampNeg)), none, none, none, none]) (S' := [.int 0]) rfl).trans ?_
      exact b163_31 L xs m d k (n + 1) (g 941) ((r 903).2 ((g 941) : Int32).toNatClampNeg) 0 g r
    · skip
      exact b163_26 L xs m d k (n + 0) (g 941) ((r 903).2 ((g 941) : Int32).toNatClampNeg) g r
theorem q163 (L : Nat) (xs : Nat → Int32) (m d : Nat) (g : a2_G) (r : a2_A) : ev L xs (m + 1) (d + 1) 163 [.ref 9] g r = (if am_inr (g 941) (r 903).1 = true then (if am_c2 .eq ((r 903).2 ((g 941) : Int32).toNatClampNeg) 1 = true then (B163_26 L xs (m + 1) d m (g 941) ((r 903).2 ((g 941) : Int32).toNatClampNeg) g r) else (if am_c2 .ne ((r 903).2 ((g 941) : Int32).toNatClampNeg) 77 = true then (B163_31 L xs (m + 1) d m (g 941) ((r 903).2 ((g 941) : Int32).toNatClampNeg) 0 g r) else (B163_26 L xs (m + 1) d m (g 941) ((r 903).2 ((g 941) : Int32).toNatClampNeg) g r))) else none) := (fs_ev (M := nm_m163) rfl rfl).trans (e163 L xs (m + 1) d m 758 g r)
/-- CobolParserModel.within(I)I -/
def B164_27 (L : Nat) (xs : Nat → Int32) (m d k : Nat) (x1 x2 : Int32) (g : a2_G) (r : a2_A) : Option fn_Z := (some (.inl (some (.int x2)), g, r))
theorem b164_27 (L : Nat) (xs : Nat → Int32) (m d k : Nat) (n : Nat) (x1 x2 : Int32) (g : a2_G) (r : a2_A) : bk L xs 164 nm_m164 m d k (n + 2) 27 [some (.ref 9), some (.int x1), some (.int x2)] [] g r = B164_27 L xs m d k x1 x2 g r := by
  show _ = ((some (.inl (some (.int x2)), g, r)) : Option fn_Z)
  refine (fs_r (n := n + 1) 1 (pc' := 28) (L' := [some (.ref 9), some (.int x1), some (.int x2)]) (S' := [.int x2]) rfl).trans ?_
  exact (fs_ri (n := n + 0) rfl rfl).trans rfl
def B164_7 (L : Nat) (xs : Nat → Int32) (m d k : Nat) (x1 x2 : Int32) (g : a2_G) (r : a2_A) : Option fn_Z := (if am_c2 .lt x2 0 = true then (B164_27 L xs m d k x1 x2 g r) else (if am_inr x2 (r 939).1 = true then (if am_c2 .lt ((r 939).2 (x2 : Int32).toNatClampNeg) x1 = true then (B164_27 L xs m d k x1 x2 g r) else (lp L xs 164 nm_m164 m d k 7 [some (.ref 9), some (.int x1), some (.int (x2 + (-1)))] g r)) else none))
theorem b164_7 (L : Nat) (xs : Nat → Int32) (m d k : Nat) (n : Nat) (x1 x2 : Int32) (g : a2_G) (r : a2_A) : bk L xs 164 nm_m164 m d k (n + 10) 7 [some (.ref 9), some (.int x1), some (.int x2)] [] g r = B164_7 L xs m d k x1 x2 g r := by
  show _ = ((if am_c2 .lt x2 0 = true then (B164_27 L xs m d k x1 x2 g r) else (if am_inr x2 (r 939).1 = true then (if am_c2 .lt ((r 939).2 (x2 : Int32).toNatClampNeg) x1 = true then (B164_27 L xs m d k x1 x2 g r) else (lp L xs 164 nm_m164 m d k 7 [some (.ref 9), some (.int x1), some (.int (x2 + (-1)))] g r)) else none)) : Option fn_Z)
  refine (fs_r (n := n + 9) 1 (pc' := 8) (L' := [some (.ref 9), some (.int x1), some (.int x2)]) (S' := [.int x2]) rfl).trans ?_
  refine (fs_i (n := n + 8) rfl (t := 27) rfl (by decide)).trans (fs_ite ?_ ?_)
  · skip
    exact b164_27 L xs m d k (n + 6) x1 x2 g r
  · skip
    refine (fs_r (n := n + 5) 3 (pc' := 16) (L' := [some (.ref 9), some (.int x1), some (.int x2)]) (S' := [.int x2, .ref 10939]) rfl).trans ?_
    refine (fs_il (n := n + 4) (k := 939) rfl rfl).trans (fs_ite ?_ rfl)
    refine (fs_r (n := n + 3) 1 (pc' := 18) (L' := [some (.ref 9), some (.int x1), some (.int x2)]) (S' := [.int x1, .int ((r 939).2 (x2 : Int32).toNatClampNeg)]) rfl).trans ?_
    refine (fs_j (n := n + 2) rfl (t := 27) rfl (by decide)).trans (fs_ite ?_ ?_)
    · skip
      exact b164_27 L xs m d k (n + 0) x1 x2 g r
    · skip
      refine (fs_r (n := n + 1) 1 (pc' := 24) (L' := [some (.ref 9), some (.int x1), some (.int (x2 + (-1)))]) (S' := []) rfl).trans ?_
      exact (fs_gb (n := n + 0) rfl (t := 7) rfl (by decide)).trans rfl
theorem l164_7 (L : Nat) (xs : Nat → Int32) (m d k : Nat) (x1 x2 : Int32) (g : a2_G) (r : a2_A) : lp L xs 164 nm_m164 m d (k + 1) 7 [some (.ref 9), some (.int x1), some (.int x2)] g r = B164_7 L xs m d k x1 x2 g r := fs_lp.trans (b164_7 L xs m d k 890 x1 x2 g r)
theorem e164 (L : Nat) (xs : Nat → Int32) (m d k : Nat) (n : Nat) (a1 : Int32) (g : a2_G) (r : a2_A) : bk L xs 164 nm_m164 m d k (n + 15) 0 [some (.ref 9), some (.int a1), none] [] g r = (B164_7 L xs m d k a1 ((g 937) - 1) g r) := by
  refine (fs_r (n := n + 10) 5 (pc' := 7) (L' := [some (.ref 9), some (.int a1), some (.int ((g 937) - 1))]) (S' := []) rfl).trans ?_
  exact b164_7 L xs m d k (n + 0) a1 ((g 937) - 1) g r
theorem q164 (L : Nat) (xs : Nat → Int32) (m d : Nat) (a1 : Int32) (g : a2_G) (r : a2_A) : ev L xs (m + 1) (d + 1) 164 [.ref 9, .int a1] g r = (B164_7 L xs (m + 1) d m a1 ((g 937) - 1) g r) := (fs_ev (M := nm_m164) rfl rfl).trans (e164 L xs (m + 1) d m 885 a1 g r)
/-- CobolParserModel.fail(II)Z -/
def B165_29 (L : Nat) (xs : Nat → Int32) (m d k : Nat) (x1 x2 x3 : Int32) (g : a2_G) (r : a2_A) : Option fn_Z := (some (.inl (some (.int 0)), (upd (upd g 942 x3) 943 1), r))
theorem b165_29 (L : Nat) (xs : Nat → Int32) (m d k : Nat) (n : Nat) (x1 x2 x3 : Int32) (g : a2_G) (r : a2_A) : bk L xs 165 nm_m165 m d k (n + 6) 29 [some (.ref 9), some (.int x1), some (.int x2)] [.int x3, .ref 9] g r = B165_29 L xs m d k x1 x2 x3 g r := by
  show _ = ((some (.inl (some (.int 0)), (upd (upd g 942 x3) 943 1), r)) : Option fn_Z)
  refine (fs_pf (n := n + 5) (ci := 9) (j := 42) rfl rfl rfl rfl).trans ?_
  refine (fs_r (n := n + 3) 2 (pc' := 34) (L' := [some (.ref 9), some (.int x1), some (.int x2)]) (S' := [.int 1, .ref 9]) rfl).trans ?_
  refine (fs_pb (n := n + 2) (ci := 9) (j := 43) rfl rfl rfl rfl).trans ((if_pos (by decide)).trans ?_)
  refine (fs_r (n := n + 1) 1 (pc' := 38) (L' := [some (.ref 9), some (.int x1), some (.int x2)]) (S' := [.int 0]) rfl).trans ?_
  exact (fs_rb (n := n + 0) rfl rfl).trans ((if_pos (by decide)).trans rfl)
def B165_13 (L : Nat) (xs : Nat → Int32) (m d k : Nat) (x1 x2 : Int32) (g : a2_G) (r : a2_A) : Option fn_Z := (if am_c2 .eq (g 943) 0 = true then (B165_29 L xs m d k x1 x2 x2 g r) else (B165_29 L xs m d k x1 x2 (g 942) g r))
theorem b165_13 (L : Nat) (xs : Nat → Int32) (m d k : Nat) (n : Nat) (x1 x2 : Int32) (g : a2_G) (r : a2_A) : bk L xs 165 nm_m165 m d k (n + 13) 13 [some (.ref 9), some (.int x1), some (.int x2)] [] g r = B165_13 L xs m d k x1 x2 g r := by
  show _ = ((if am_c2 .eq (g 943) 0 = true then (B165_29 L xs m d k x1 x2 x2 g r) else (B165_29 L xs m d k x1 x2 (g 942) g r)) : Option fn_Z)
  refine (fs_r (n := n + 10) 3 (pc' := 18) (L' := [some (.ref 9), some (.int x1), some (.int x2)]) (S' := [.int (g 943), .ref 9]) rfl).trans ?_
  refine (fs_i (n := n + 9) rfl (t := 28) rfl (by decide)).trans (fs_ite ?_ ?_)
  · skip
    refine (fs_r (n := n + 8) 1 (pc' := 29) (L' := [some (.ref 9), some (.int x1), some (.int x2)]) (S' := [.int x2, .ref 9]) rfl).trans ?_
    exact b165_29 L xs m d k (n + 2) x1 x2 x2 g r
  · skip
    refine (fs_r (n := n + 7) 2 (pc' := 25) (L' := [some (.ref 9), some (.int x1), some (.int x2)]) (S' := [.int (g 942), .ref 9]) rfl).trans ?_
    refine (fs_go (n := n + 6) rfl (t := 29) rfl (by decide)).trans ?_
    exact b165_29 L xs m d k (n + 0) x1 x2 (g 942) g r
theorem e165 (L : Nat) (xs : Nat → Int32) (m d k : Nat) (n : Nat) (a1 a2 : Int32) (g : a2_G) (r : a2_A) : bk L xs 165 nm_m165 m d k (n + 20) 0 [some (.ref 9), some (.int a1), some (.int a2)] [] g r = (if am_c2 .ne (g 943) 0 = true then (B165_13 L xs m d k a1 a2 g r) else (fn_n (ev L xs m d 166 [.ref 9, .int a1, .int a2] g r) fun g1 r2 => (B165_13 L xs m d k a1 a2 g1 r2))) := by
  refine (fs_r (n := n + 18) 2 (pc' := 4) (L' := [some (.ref 9), some (.int a1), some (.int a2)]) (S' := [.int (g 943)]) rfl).trans ?_
  refine (fs_i (n := n + 17) rfl (t := 13) rfl (by decide)).trans (fs_ite ?_ ?_)
  · skip
    exact b165_13 L xs m d k (n + 4) a1 a2 g r
  · skip
    refine (fs_r (n := n + 14) 3 (pc' := 10) (L' := [some (.ref 9), some (.int a1), some (.int a2)]) (S' := [.int a2, .int a1, .ref 9]) rfl).trans ?_
    refine (fs_cn (n := n + 13) (N := nm_m166) (as := [.ref 9, .int a1, .int a2]) (rest := []) rfl rfl (Or.inl rfl) rfl rfl rfl rfl rfl).trans (fs_fn fun g1 r2 => ?_)
    exact b165_13 L xs m d k (n + 0) a1 a2 g1 r2
theorem q165 (L : Nat) (xs : Nat → Int32) (m d : Nat) (a1 a2 : Int32) (g : a2_G) (r : a2_A) : ev L xs (m + 1) (d + 1) 165 [.ref 9, .int a1, .int a2] g r = (if am_c2 .ne (g 943) 0 = true then (B165_13 L xs (m + 1) d m a1 a2 g r) else (fn_n (ev L xs (m + 1) d 166 [.ref 9, .int a1, .int a2] g r) fun g1 r2 => (B165_13 L xs (m + 1) d m a1 a2 g1 r2))) := (fs_ev (M := nm_m165) rfl rfl).trans (e165 L xs (m + 1) d m 880 a1 a2 g r)
/-- CobolParserModel.note(II)V -/
theorem e166 (L : Nat) (xs : Nat → Int32) (m d k : Nat) (n : Nat) (a1 a2 : Int32) (g : a2_G) (r : a2_A) : bk L xs 166 nm_m166 m d k (n + 23) 0 [some (.ref 9), some (.int a1), some (.int a2)] [] g r = (if am_c2 .ne (g 905) 20 = true then (if am_inr (g 905) (r 906).1 = true then (if am_inr (g 905) (r 907).1 = true then (some (.inl none, (upd g 905 ((g 905) + 1)), (a2_ua (a2_ua r 906 ((r 906).1, (upd (r 906).2 ((g 905) : Int32).toNatClampNeg a1))) 907 ((r 907).1, (upd (r 907).2 ((g 905) : Int32).toNatClampNeg a2))))) else none) else none) else (some (.inl none, g, r))) := by
  refine (fs_r (n := n + 20) 3 (pc' := 6) (L' := [some (.ref 9), some (.int a1), some (.int a2)]) (S' := [.int 20, .int (g 905)]) rfl).trans ?_
  refine (fs_j (n := n + 19) rfl (t := 10) rfl (by decide)).trans (fs_ite ?_ ?_)
  · skip
    refine (fs_r (n := n + 14) 5 (pc' := 19) (L' := [some (.ref 9), some (.int a1), some (.int a2)]) (S' := [.int a1, .int (g 905), .ref 10906]) rfl).trans ?_
    refine (fs_is (n := n + 13) (k := 906) rfl rfl).trans (fs_ite ?_ rfl)
    refine (fs_r (n := n + 8) 5 (pc' := 29) (L' := [some (.ref 9), some (.int a1), some (.int a2)]) (S' := [.int a2, .int (g 905), .ref 10907]) rfl).trans ?_
    refine (fs_is (n := n + 7) (k := 907) rfl rfl).trans (fs_ite ?_ rfl)
    refine (fs_r (n := n + 2) 5 (pc' := 37) (L' := [some (.ref 9), some (.int a1), some (.int a2)]) (S' := [.int ((g 905) + 1), .ref 9]) rfl).trans ?_
    refine (fs_pf (n := n + 1) (ci := 9) (j := 5) rfl rfl rfl rfl).trans ?_
    exact (fs_rv (n := n + 0) rfl rfl).trans rfl
  · skip
    exact (fs_rv (n := n + 18) rfl rfl).trans rfl
theorem q166 (L : Nat) (xs : Nat → Int32) (m d : Nat) (a1 a2 : Int32) (g : a2_G) (r : a2_A) : ev L xs (m + 1) (d + 1) 166 [.ref 9, .int a1, .int a2] g r = (if am_c2 .ne (g 905) 20 = true then (if am_inr (g 905) (r 906).1 = true then (if am_inr (g 905) (r 907).1 = true then (some (.inl none, (upd g 905 ((g 905) + 1)), (a2_ua (a2_ua r 906 ((r 906).1, (upd (r 906).2 ((g 905) : Int32).toNatClampNeg a1))) 907 ((r 907).1, (upd (r 907).2 ((g 905) : Int32).toNatClampNeg a2))))) else none) else none) else (some (.inl none, g, r))) := (fs_ev (M := nm_m166) rfl rfl).trans (e166 L xs (m + 1) d m 877 a1 a2 g r)
/-- CobolParserModel.isKind(II)Z -/
def B167_23 (L : Nat) (xs : Nat → Int32) (m d k : Nat) (x1 x2 x3 : Int32) (g : a2_G) (r : a2_A) : Option fn_Z := (if x3 = 0 ∨ x3 = 1 then some (.inl (some (.int x3)), g, r) else none)
theorem b167_23 (L : Nat) (xs : Nat → Int32) (m d k : Nat) (n : Nat) (x1 x2 x3 : Int32) (g : a2_G) (r : a2_A) : bk L xs 167 nm_m167 m d k (n + 1) 23 [some (.ref 9), some (.int x1), some (.int x2)] [.int x3] g r = B167_23 L xs m d k x1 x2 x3 g r := by
  show _ = ((if x3 = 0 ∨ x3 = 1 then some (.inl (some (.int x3)), g, r) else none) : Option fn_Z)
  exact (fs_rb (n := n + 0) rfl rfl).trans rfl
def B167_22 (L : Nat) (xs : Nat → Int32) (m d k : Nat) (x1 x2 : Int32) (g : a2_G) (r : a2_A) : Option fn_Z := (B167_23 L xs m d k x1 x2 0 g r)
theorem b167_22 (L : Nat) (xs : Nat → Int32) (m d k : Nat) (n : Nat) (x1 x2 : Int32) (g : a2_G) (r : a2_A) : bk L xs 167 nm_m167 m d k (n + 2) 22 [some (.ref 9), some (.int x1), some (.int x2)] [] g r = B167_22 L xs m d k x1 x2 g r := by
  show _ = ((B167_23 L xs m d k x1 x2 0 g r) : Option fn_Z)
  refine (fs_r (n := n + 1) 1 (pc' := 23) (L' := [some (.ref 9), some (.int x1), some (.int x2)]) (S' := [.int 0]) rfl).trans ?_
  exact b167_23 L xs m d k (n + 0) x1 x2 0 g r
theorem e167 (L : Nat) (xs : Nat → Int32) (m d k : Nat) (n : Nat) (a1 a2 : Int32) (g : a2_G) (r : a2_A) : bk L xs 167 nm_m167 m d k (n + 13) 0 [some (.ref 9), some (.int a1), some (.int a2)] [] g r = (if am_c2 .ge a1 (g 904) = true then (B167_22 L xs m d k a1 a2 g r) else (if am_inr a1 (r 902).1 = true then (if am_c2 .ne ((r 902).2 (a1 : Int32).toNatClampNeg) a2 = true then (B167_22 L xs m d k a1 a2 g r) else (B167_23 L xs m d k a1 a2 1 g r)) else none)) := by
  refine (fs_r (n := n + 10) 3 (pc' := 5) (L' := [some (.ref 9), some (.int a1), some (.int a2)]) (S' := [.int (g 904), .int a1]) rfl).trans ?_
  refine (fs_j (n := n + 9) rfl (t := 22) rfl (by decide)).trans (fs_ite ?_ ?_)
  · skip
    exact b167_22 L xs m d k (n + 7) a1 a2 g r
  · skip
    refine (fs_r (n := n + 6) 3 (pc' := 13) (L' := [some (.ref 9), some (.int a1), some (.int a2)]) (S' := [.int a1, .ref 10902]) rfl).trans ?_
    refine (fs_il (n := n + 5) (k := 902) rfl rfl).trans (fs_ite ?_ rfl)
    refine (fs_r (n := n + 4) 1 (pc' := 15) (L' := [some (.ref 9), some (.int a1), some (.int a2)]) (S' := [.int a2, .int ((r 902).2 (a1 : Int32).toNatClampNeg)]) rfl).trans ?_
    refine (fs_j (n := n + 3) rfl (t := 22) rfl (by decide)).trans (fs_ite ?_ ?_)
    · skip
      exact b167_22 L xs m d k (n + 1) a1 a2 g r
    · skip
      refine (fs_r (n := n + 2) 1 (pc' := 19) (L' := [some (.ref 9), some (.int a1), some (.int a2)]) (S' := [.int 1]) rfl).trans ?_
      refine (fs_go (n := n + 1) rfl (t := 23) rfl (by decide)).trans ?_
      exact b167_23 L xs m d k (n + 0) a1 a2 1 g r
theorem q167 (L : Nat) (xs : Nat → Int32) (m d : Nat) (a1 a2 : Int32) (g : a2_G) (r : a2_A) : ev L xs (m + 1) (d + 1) 167 [.ref 9, .int a1, .int a2] g r = (if am_c2 .ge a1 (g 904) = true then (B167_22 L xs (m + 1) d m a1 a2 g r) else (if am_inr a1 (r 902).1 = true then (if am_c2 .ne ((r 902).2 (a1 : Int32).toNatClampNeg) a2 = true then (B167_22 L xs (m + 1) d m a1 a2 g r) else (B167_23 L xs (m + 1) d m a1 a2 1 g r)) else none)) := (fs_ev (M := nm_m167) rfl rfl).trans (e167 L xs (m + 1) d m 887 a1 a2 g r)
/-- CobolParserModel.isWord(II)Z -/
def B168_24 (L : Nat) (xs : Nat → Int32) (m d k : Nat) (x1 x2 x3 : Int32) (g : a2_G) (r : a2_A) : Option fn_Z := (if x3 = 0 ∨ x3 = 1 then some (.inl (some (.int x3)), g, r) else none)
theorem b168_24 (L : Nat) (xs : Nat → Int32) (m d k : Nat) (n : Nat) (x1 x2 x3 : Int32) (g : a2_G) (r : a2_A) : bk L xs 168 nm_m168 m d k (n + 1) 24 [some (.ref 9), some (.int x1), some (.int x2)] [.int x3] g r = B168_24 L xs m d k x1 x2 x3 g r := by
  show _ = ((if x3 = 0 ∨ x3 = 1 then some (.inl (some (.int x3)), g, r) else none) : Option fn_Z)
  exact (fs_rb (n := n + 0) rfl rfl).trans rfl
def B168_23 (L : Nat) (xs : Nat → Int32) (m d k : Nat) (x1 x2 : Int32) (g : a2_G) (r : a2_A) : Option fn_Z := (B168_24 L xs m d k x1 x2 0 g r)
theorem b168_23 (L : Nat) (xs : Nat → Int32) (m d k : Nat) (n : Nat) (x1 x2 : Int32) (g : a2_G) (r : a2_A) : bk L xs 168 nm_m168 m d k (n + 2) 23 [some (.ref 9), some (.int x1), some (.int x2)] [] g r = B168_23 L xs m d k x1 x2 g r := by
  show _ = ((B168_24 L xs m d k x1 x2 0 g r) : Option fn_Z)
  refine (fs_r (n := n + 1) 1 (pc' := 24) (L' := [some (.ref 9), some (.int x1), some (.int x2)]) (S' := [.int 0]) rfl).trans ?_
  exact b168_24 L xs m d k (n + 0) x1 x2 0 g r
theorem e168 (L : Nat) (xs : Nat → Int32) (m d k : Nat) (n : Nat) (a1 a2 : Int32) (g : a2_G) (r : a2_A) : bk L xs 168 nm_m168 m d k (n + 14) 0 [some (.ref 9), some (.int a1), some (.int a2)] [] g r = (fn_v (ev L xs m d 167 [.ref 9, .int a1, .int 0] g r) fun v3 g1 r2 => (if am_c2 .eq v3 0 = true then (B168_23 L xs m d k a1 a2 g1 r2) else (if am_inr a1 (r2 903).1 = true then (if am_c2 .ne ((r2 903).2 (a1 : Int32).toNatClampNeg) a2 = true then (B168_23 L xs m d k a1 a2 g1 r2) else (B168_24 L xs m d k a1 a2 1 g1 r2)) else none))) := by
  refine (fs_r (n := n + 11) 3 (pc' := 3) (L' := [some (.ref 9), some (.int a1), some (.int a2)]) (S' := [.int 0, .int a1, .ref 9]) rfl).trans ?_
  refine (fs_cv (n := n + 10) (N := nm_m167) (as := [.ref 9, .int a1, .int 0]) (rest := []) rfl rfl (Or.inl rfl) rfl rfl rfl rfl rfl).trans (fs_fv fun v3 g1 r2 => ?_)
  refine (fs_i (n := n + 9) rfl (t := 23) rfl (by decide)).trans (fs_ite ?_ ?_)
  · skip
    exact b168_23 L xs m d k (n + 7) a1 a2 g1 r2
  · skip
    refine (fs_r (n := n + 6) 3 (pc' := 14) (L' := [some (.ref 9), some (.int a1), some (.int a2)]) (S' := [.int a1, .ref 10903]) rfl).trans ?_
    refine (fs_il (n := n + 5) (k := 903) rfl rfl).trans (fs_ite ?_ rfl)
    refine (fs_r (n := n + 4) 1 (pc' := 16) (L' := [some (.ref 9), some (.int a1), some (.int a2)]) (S' := [.int a2, .int ((r2 903).2 (a1 : Int32).toNatClampNeg)]) rfl).trans ?_
    refine (fs_j (n := n + 3) rfl (t := 23) rfl (by decide)).trans (fs_ite ?_ ?_)
    · skip
      exact b168_23 L xs m d k (n + 1) a1 a2 g1 r2
    · skip
      refine (fs_r (n := n + 2) 1 (pc' := 20) (L' := [some (.ref 9), some (.int a1), some (.int a2)]) (S' := [.int 1]) rfl).trans ?_
      refine (fs_go (n := n + 1) rfl (t := 24) rfl (by decide)).trans ?_
      exact b168_24 L xs m d k (n + 0) a1 a2 1 g1 r2
theorem q168 (L : Nat) (xs : Nat → Int32) (m d : Nat) (a1 a2 : Int32) (g : a2_G) (r : a2_A) : ev L xs (m + 1) (d + 1) 168 [.ref 9, .int a1, .int a2] g r = (fn_v (ev L xs (m + 1) d 167 [.ref 9, .int a1, .int 0] g r) fun v3 g1 r2 => (if am_c2 .eq v3 0 = true then (B168_23 L xs (m + 1) d m a1 a2 g1 r2) else (if am_inr a1 (r2 903).1 = true then (if am_c2 .ne ((r2 903).2 (a1 : Int32).toNatClampNeg) a2 = true then (B168_23 L xs (m + 1) d m a1 a2 g1 r2) else (B168_24 L xs (m + 1) d m a1 a2 1 g1 r2)) else none))) := (fs_ev (M := nm_m168) rfl rfl).trans (e168 L xs (m + 1) d m 886 a1 a2 g r)
/-- CobolParserModel.described2(I)V -/
def B169_320 (L : Nat) (xs : Nat → Int32) (m d k : Nat) (x1 x2 x3 x4 : Int32) (g : a2_G) (r : a2_A) : Option fn_Z := (some (.inl none, g, r))
theorem b169_320 (L : Nat) (xs : Nat → Int32) (m d k : Nat) (n : Nat) (x1 x2 x3 x4 : Int32) (g : a2_G) (r : a2_A) : bk L xs 169 nm_m169 m d k (n + 1) 320 [some (.ref 9), some (.int x1), some (.int x2), some (.int x3), some (.int x4), none, none] [] g r = B169_320 L xs m d k x1 x2 x3 x4 g r := by
  show _ = ((some (.inl none, g, r)) : Option fn_Z)
  exact (fs_rv (n := n + 0) rfl rfl).trans rfl
def B169_320_1 (L : Nat) (xs : Nat → Int32) (m d k : Nat) (x1 x2 x3 x4 x5 : Int32) (g : a2_G) (r : a2_A) : Option fn_Z := (some (.inl none, g, r))
theorem b169_320_1 (L : Nat) (xs : Nat → Int32) (m d k : Nat) (n : Nat) (x1 x2 x3 x4 x5 : Int32) (g : a2_G) (r : a2_A) : bk L xs 169 nm_m169 m d k (n + 1) 320 [some (.ref 9), some (.int x1), some (.int x2), some (.int x3), some (.int x4), some (.int x5), none] [] g r = B169_320_1 L xs m d k x1 x2 x3 x4 x5 g r := by
  show _ = ((some (.inl none, g, r)) : Option fn_Z)
  exact (fs_rv (n := n + 0) rfl rfl).trans rfl
def B169_313 (L : Nat) (xs : Nat → Int32) (m d k : Nat) (x1 x2 x3 x4 : Int32) (g : a2_G) (r : a2_A) : Option fn_Z := (fn_v (ev L xs m d 165 [.ref 9, .int 1, .int x2] g r) fun v29 g27 r28 => (B169_320 L xs m d k x1 x2 x3 x4 g27 r28))
theorem b169_313 (L : Nat) (xs : Nat → Int32) (m d k : Nat) (n : Nat) (x1 x2 x3 x4 : Int32) (g : a2_G) (r : a2_A) : bk L xs 169 nm_m169 m d k (n + 6) 313 [some (.ref 9), some (.int x1), some (.int x2), some (.int x3), some (.int x4), none, none] [] g r = B169_313 L xs m d k x1 x2 x3 x4 g r := by
  show _ = ((fn_v (ev L xs m d 165 [.ref 9, .int 1, .int x2] g r) fun v29 g27 r28 => (B169_320 L xs m d k x1 x2 x3 x4 g27 r28)) : Option fn_Z)
  refine (fs_r (n := n + 3) 3 (pc' := 316) (L' := [some (.ref 9), some (.int x1), some (.int x2), some (.int x3), some (.int x4), none, none]) (S' := [.int x2, .int 1, .ref 9]) rfl).trans ?_
  refine (fs_cv (n := n + 2) (N := nm_m165) (as := [.ref 9, .int 1, .int x2]) (rest := []) rfl rfl (Or.inl rfl) rfl rfl rfl rfl rfl).trans (fs_fv fun v29 g27 r28 => ?_)
  refine (fs_r (n := n + 1) 1 (pc' := 320) (L' := [some (.ref 9), some (.int x1), some (.int x2), some (.int x3), some (.int x4), none, none]) (S' := []) rfl).trans ?_
  exact b169_320 L xs m d k (n + 0) x1 x2 x3 x4 g27 r28
def B169_320_2 (L : Nat) (xs : Nat → Int32) (m d k : Nat) (x1 x2 x3 x4 x5 : Int32) (g : a2_G) (r : a2_A) : Option fn_Z := (some (.inl none, g, r))
theorem b169_320_2 (L : Nat) (xs : Nat → Int32) (m d k : Nat) (n : Nat) (x1 x2 x3 x4 x5 : Int32) (g : a2_G) (r : a2_A) : bk L xs 169 nm_m169 m d k (n + 1) 320 [some (.ref 9), some (.int x1), some (.int x2), some (.int x3), some (.int x4), none, some (.int x5)] [] g r = B169_320_2 L xs m d k x1 x2 x3 x4 x5 g r := by
  show _ = ((some (.inl none, g, r)) : Option fn_Z)
  exact (fs_rv (n := n + 0) rfl rfl).trans rfl
def B169_282 (L : Nat) (xs : Nat → Int32) (m d k : Nat) (x1 x2 x3 x4 x5 : Int32) (g : a2_G) (r : a2_A) : Option fn_Z := (if am_c2 .eq x5 0 = true then (fn_v (ev L xs m d 165 [.ref 9, .int 1, .int (g 941)] g r) fun v45 g43 r44 => (B169_320_2 L xs m d k x1 x2 x3 x4 x5 g43 r44)) else (B169_320_2 L xs m d k x1 x2 x3 x4 x5 (upd g 941 ((g 941) + 1)) r))
theorem b169_282 (L : Nat) (xs : Nat → Int32) (m d k : Nat) (n : Nat) (x1 x2 x3 x4 x5 : Int32) (g : a2_G) (r : a2_A) : bk L xs 169 nm_m169 m d k (n + 10) 282 [some (.ref 9), some (.int x1), some (.int x2), some (.int x3), some (.int x4), none, some (.int x5)] [] g r = B169_282 L xs m d k x1 x2 x3 x4 x5 g r := by
  show _ = ((if am_c2 .eq x5 0 = true then (fn_v (ev L xs m d 165 [.ref 9, .int 1, .int (g 941)] g r) fun v45 g43 r44 => (B169_320_2 L xs m d k x1 x2 x3 x4 x5 g43 r44)) else (B169_320_2 L xs m d k x1 x2 x3 x4 x5 (upd g 941 ((g 941) + 1)) r)) : Option fn_Z)
  refine (fs_r (n := n + 9) 1 (pc' := 284) (L' := [some (.ref 9), some (.int x1), some (.int x2), some (.int x3), some (.int x4), none, some (.int x5)]) (S' := [.int x5]) rfl).trans ?_
  refine (fs_i (n := n + 8) rfl (t := 300) rfl (by decide)).trans (fs_ite ?_ ?_)
  · skip
    refine (fs_r (n := n + 4) 4 (pc' := 306) (L' := [some (.ref 9), some (.int x1), some (.int x2), some (.int x3), some (.int x4), none, some (.int x5)]) (S' := [.int (g 941), .int 1, .ref 9]) rfl).trans ?_
    refine (fs_cv (n := n + 3) (N := nm_m165) (as := [.ref 9, .int 1, .int (g 941)]) (rest := []) rfl rfl (Or.inl rfl) rfl rfl rfl rfl rfl).trans (fs_fv fun v45 g43 r44 => ?_)
    refine (fs_r (n := n + 2) 1 (pc' := 310) (L' := [some (.ref 9), some (.int x1), some (.int x2), some (.int x3), some (.int x4), none, some (.int x5)]) (S' := []) rfl).trans ?_
    refine (fs_go (n := n + 1) rfl (t := 320) rfl (by decide)).trans ?_
    exact b169_320_2 L xs m d k (n + 0) x1 x2 x3 x4 x5 g43 r44
  · skip
    refine (fs_r (n := n + 3) 5 (pc' := 294) (L' := [some (.ref 9), some (.int x1), some (.int x2), some (.int x3), some (.int x4), none, some (.int x5)]) (S' := [.int ((g 941) + 1), .ref 9]) rfl).trans ?_
    refine (fs_pf (n := n + 2) (ci := 9) (j := 41) rfl rfl rfl rfl).trans ?_
    refine (fs_go (n := n + 1) rfl (t := 320) rfl (by decide)).trans ?_
    exact b169_320_2 L xs m d k (n + 0) x1 x2 x3 x4 x5 (upd g 941 ((g 941) + 1)) r
def B169_255 (L : Nat) (xs : Nat → Int32) (m d k : Nat) (x1 x2 x3 x4 x5 : Int32) (g : a2_G) (r : a2_A) : Option fn_Z := (if am_c2 .eq x5 0 = true then (B169_282 L xs m d k x1 x2 x3 x4 x5 g r) else (if am_inr (g 941) (r 903).1 = true then (fn_n (ev L xs m d 173 [.ref 9, .int x1, .int 19, .int (((r 903).2 ((g 941) : Int32).toNatClampNeg) - 28), .int x2] g r) fun g46 r47 => (B169_282 L xs m d k x1 x2 x3 x4 x5 g46 r47)) else none))
theorem b169_255 (L : Nat) (xs : Nat → Int32) (m d k : Nat) (n : Nat) (x1 x2 x3 x4 x5 : Int32) (g : a2_G) (r : a2_A) : bk L xs 169 nm_m169 m d k (n + 25) 255 [some (.ref 9), some (.int x1), some (.int x2), some (.int x3), some (.int x4), none, none] [.int x5] g r = B169_255 L xs m d k x1 x2 x3 x4 x5 g r := by
  show _ = ((if am_c2 .eq x5 0 = true then (B169_282 L xs m d k x1 x2 x3 x4 x5 g r) else (if am_inr (g 941) (r 903).1 = true then (fn_n (ev L xs m d 173 [.ref 9, .int x1, .int 19, .int (((r 903).2 ((g 941) : Int32).toNatClampNeg) - 28), .int x2] g r) fun g46 r47 => (B169_282 L xs m d k x1 x2 x3 x4 x5 g46 r47)) else none)) : Option fn_Z)
  refine (fs_r (n := n + 23) 2 (pc' := 259) (L' := [some (.ref 9), some (.int x1), some (.int x2), some (.int x3), some (.int x4), none, some (.int x5)]) (S' := [.int x5]) rfl).trans ?_
  refine (fs_i (n := n + 22) rfl (t := 282) rfl (by decide)).trans (fs_ite ?_ ?_)
  · skip
    exact b169_282 L xs m d k (n + 12) x1 x2 x3 x4 x5 g r
  · skip
    refine (fs_r (n := n + 15) 7 (pc' := 274) (L' := [some (.ref 9), some (.int x1), some (.int x2), some (.int x3), some (.int x4), none, some (.int x5)]) (S' := [.int (g 941), .ref 10903, .int 19, .int x1, .ref 9]) rfl).trans ?_
    refine (fs_il (n := n + 14) (k := 903) rfl rfl).trans (fs_ite ?_ rfl)
    refine (fs_r (n := n + 11) 3 (pc' := 279) (L' := [some (.ref 9), some (.int x1), some (.int x2), some (.int x3), some (.int x4), none, some (.int x5)]) (S' := [.int x2, .int (((r 903).2 ((g 941) : Int32).toNatClampNeg) - 28), .int 19, .int x1, .ref 9]) rfl).trans ?_
    refine (fs_cn (n := n + 10) (N := nm_m173) (as := [.ref 9, .int x1, .int 19, .int (((r 903).2 ((g 941) : Int32).toNatClampNeg) - 28), .int x2]) (rest := []) rfl rfl (Or.inl rfl) rfl rfl rfl rfl rfl).trans (fs_fn fun g46 r47 => ?_)
    exact b169_282 L xs m d k (n + 0) x1 x2 x3 x4 x5 g46 r47
def B169_250 (L : Nat) (xs : Nat → Int32) (m d k : Nat) (x1 x2 x3 x4 : Int32) (g : a2_G) (r : a2_A) : Option fn_Z := (B169_255 L xs m d k x1 x2 x3 x4 1 g r)
theorem b169_250 (L : Nat) (xs : Nat → Int32) (m d k : Nat) (n : Nat) (x1 x2 x3 x4 : Int32) (g : a2_G) (r : a2_A) : bk L xs 169 nm_m169 m d k (n + 27) 250 [some (.ref 9), some (.int x1), some (.int x2), some (.int x3), some (.int x4), none, none] [] g r = B169_250 L xs m d k x1 x2 x3 x4 g r := by
  show _ = ((B169_255 L xs m d k x1 x2 x3 x4 1 g r) : Option fn_Z)
  refine (fs_r (n := n + 26) 1 (pc' := 251) (L' := [some (.ref 9), some (.int x1), some (.int x2), some (.int x3), some (.int x4), none, none]) (S' := [.int 1]) rfl).trans ?_
  refine (fs_go (n := n + 25) rfl (t := 255) rfl (by decide)).trans ?_
  exact b169_255 L xs m d k (n + 0) x1 x2 x3 x4 1 g r
def B169_73 (L : Nat) (xs : Nat → Int32) (m d k : Nat) (x1 x2 x3 x4 : Int32) (g : a2_G) (r : a2_A) : Option fn_Z := (if (x3 : Int32).toInt = 19 then (fn_v (ev L xs m d 171 [.ref 9, .int 3] g r) fun v9 g7 r8 => (if am_c2 .eq v9 0 = true then (B169_320 L xs m d k x1 x2 x3 x4 g7 r8) else (fn_v (ev L xs m d 172 [.ref 9] g7 r8) fun v12 g10 r11 => (fn_n (ev L xs m d 173 [.ref 9, .int x1, .int 13, .int v12, .int x2] g10 r11) fun g13 r14 => (B169_320 L xs m d k x1 x2 x3 x4 g13 r14))))) else (if (x3 : Int32).toInt = 20 then (fn_v (ev L xs m d 161 [.ref 9, .int 14, .int 0, .int x2] g r) fun v17 g15 r16 => (fn_n (ev L xs m d 174 [.ref 9, .int x1, .int v17] g15 r16) fun g18 r19 => (fn_n (ev L xs m d 175 [.ref 9, .int v17] g18 r19) fun g20 r21 => (fn_v (ev L xs m d 170 [.ref 9, .int 21] g20 r21) fun v24 g22 r23 => (if am_c2 .eq v24 0 = true then (B169_320_1 L xs m d k x1 x2 x3 x4 v17 g22 r23) else (fn_n (ev L xs m d 175 [.ref 9, .int v17] g22 r23) fun g25 r26 => (B169_320_1 L xs m d k x1 x2 x3 x4 v17 g25 r26))))))) else (if (x3 : Int32).toInt = 21 then (B169_313 L xs m d k x1 x2 x3 x4 g r) else (if (x3 : Int32).toInt = 22 then (fn_n (ev L xs m d 179 [.ref 9, .int x1, .int x2] g r) fun g30 r31 => (B169_320 L xs m d k x1 x2 x3 x4 g30 r31)) else (if (x3 : Int32).toInt = 23 then (B169_313 L xs m d k x1 x2 x3 x4 g r) else (if (x3 : Int32).toInt = 24 then (B169_313 L xs m d k x1 x2 x3 x4 g r) else (if (x3 : Int32).toInt = 25 then (B169_313 L xs m d k x1 x2 x3 x4 g r) else (if (x3 : Int32).toInt = 26 then (fn_v (ev L xs m d 171 [.ref 9, .int 1] g r) fun v34 g32 r33 => (if am_c2 .eq v34 0 = true then (B169_320 L xs m d k x1 x2 x3 x4 g32 r33) else (fn_v (ev L xs m d 172 [.ref 9] g32 r33) fun v37 g35 r36 => (fn_n (ev L xs m d 173 [.ref 9, .int x1, .int 18, .int v37, .int x2] g35 r36) fun g38 r39 => (B169_320 L xs m d k x1 x2 x3 x4 g38 r39))))) else (if (x3 : Int32).toInt = 27 then (fn_v (ev L xs m d 168 [.ref 9, .int (g 941), .int 28] g r) fun v42 g40 r41 => (if am_c2 .ne v42 0 = true then (B169_250 L xs m d k x1 x2 x3 x4 g40 r41) else (fn_v (ev L xs m d 168 [.ref 9, .int (g40 941), .int 29] g40 r41) fun v50 g48 r49 => (if am_c2 .eq v50 0 = true then (B169_255 L xs m d k x1 x2 x3 x4 0 g48 r49) else (B169_250 L xs m d k x1 x2 x3 x4 g48 r49))))) else (B169_313 L xs m d k x1 x2 x3 x4 g r))))))))))
theorem b169_73 (L : Nat) (xs : Nat → Int32) (m d k : Nat) (n : Nat) (x1 x2 x3 x4 : Int32) (g : a2_G) (r : a2_A) : bk L xs 169 nm_m169 m d k (n + 42) 73 [some (.ref 9), some (.int x1), some (.int x2), some (.int x3), none, none, none] [.int x4] g r = B169_73 L xs m d k x1 x2 x3 x4 g r := by
  show _ = ((if (x3 : Int32).toInt = 19 then (fn_v (ev L xs m d 171 [.ref 9, .int 3] g r) fun v9 g7 r8 => (if am_c2 .eq v9 0 = true then (B169_320 L xs m d k x1 x2 x3 x4 g7 r8) else (fn_v (ev L xs m d 172 [.ref 9] g7 r8) fun v12 g10 r11 => (fn_n (ev L xs m d 173 [.ref 9, .int x1, .int 13, .int v12, .int x2] g10 r11) fun g13 r14 => (B169_320 L xs m d k x1 x2 x3 x4 g13 r14))))) else (if (x3 : Int32).toInt = 20 then (fn_v (ev L xs m d 161 [.ref 9, .int 14, .int 0, .int x2] g r) fun v17 g15 r16 => (fn_n (ev L xs m d 174 [.ref 9, .int x1, .int v17] g15 r16) fun g18 r19 => (fn_n (ev L xs m d 175 [.ref 9, .int v17] g18 r19) fun g20 r21 => (fn_v (ev L xs m d 170 [.ref 9, .int 21] g20 r21) fun v24 g22 r23 => (if am_c2 .eq v24 0 = true then (B169_320_1 L xs m d k x1 x2 x3 x4 v17 g22 r23) else (fn_n (ev L xs m d 175 [.ref 9, .int v17] g22 r23) fun g25 r26 => (B169_320_1 L xs m d k x1 x2 x3 x4 v17 g25 r26))))))) else (if (x3 : Int32).toInt = 21 then (B169_313 L xs m d k x1 x2 x3 x4 g r) else (if (x3 : Int32).toInt = 22 then (fn_n (ev L xs m d 179 [.ref 9, .int x1, .int x2] g r) fun g30 r31 => (B169_320 L xs m d k x1 x2 x3 x4 g30 r31)) else (if (x3 : Int32).toInt = 23 then (B169_313 L xs m d k x1 x2 x3 x4 g r) else (if (x3 : Int32).toInt = 24 then (B169_313 L xs m d k x1 x2 x3 x4 g r) else (if (x3 : Int32).toInt = 25 then (B169_313 L xs m d k x1 x2 x3 x4 g r) else (if (x3 : Int32).toInt = 26 then (fn_v (ev L xs m d 171 [.ref 9, .int 1] g r) fun v34 g32 r33 => (if am_c2 .eq v34 0 = true then (B169_320 L xs m d k x1 x2 x3 x4 g32 r33) else (fn_v (ev L xs m d 172 [.ref 9] g32 r33) fun v37 g35 r36 => (fn_n (ev L xs m d 173 [.ref 9, .int x1, .int 18, .int v37, .int x2] g35 r36) fun g38 r39 => (B169_320 L xs m d k x1 x2 x3 x4 g38 r39))))) else (if (x3 : Int32).toInt = 27 then (fn_v (ev L xs m d 168 [.ref 9, .int (g 941), .int 28] g r) fun v42 g40 r41 => (if am_c2 .ne v42 0 = true then (B169_250 L xs m d k x1 x2 x3 x4 g40 r41) else (fn_v (ev L xs m d 168 [.ref 9, .int (g40 941), .int 29] g40 r41) fun v50 g48 r49 => (if am_c2 .eq v50 0 = true then (B169_255 L xs m d k x1 x2 x3 x4 0 g48 r49) else (B169_250 L xs m d k x1 x2 x3 x4 g48 r49))))) else (B169_313 L xs m d k x1 x2 x3 x4 g r)))))))))) : Option fn_Z)
  refine (fs_r (n := n + 40) 2 (pc' := 76) (L' := [some (.ref 9), some (.int x1), some (.int x2), some (.int x3), some (.int x4), none, none]) (S' := [.int x3]) rfl).trans ?_
  refine (fs_ts (n := n + 39) (l := [52, 75, 237, 116, 237, 237, 237, 125, 148]) rfl rfl rfl).trans ?_
  refine fs_tc (v' := 20) rfl ?_ (fs_tc (v' := 21) rfl ?_ (fs_tc (v' := 22) rfl ?_ (fs_tc (v' := 23) rfl ?_ (fs_tc (v' := 24) rfl ?_ (fs_tc (v' := 25) rfl ?_ (fs_tc (v' := 26) rfl ?_ (fs_tc (v' := 27) rfl ?_ (fs_tc (v' := 28) rfl ?_ (fs_tn ?_)))))))))
  · refine (fs_J1 (n := n + 39) (t := 128) rfl (by decide)).trans ?_
    refine (fs_r (n := n + 37) 2 (pc' := 130) (L' := [some (.ref 9), some (.int x1), some (.int x2), some (.int x3), some (.int x4), none, none]) (S' := [.int 3, .ref 9]) rfl).trans ?_
    refine (fs_cv (n := n + 36) (N := nm_m171) (as := [.ref 9, .int 3]) (rest := []) rfl rfl (Or.inl rfl) rfl rfl rfl rfl rfl).trans (fs_fv fun v9 g7 r8 => ?_)
    refine (fs_i (n := n + 35) rfl (t := 320) rfl (by decide)).trans (fs_ite ?_ ?_)
    · skip
      exact b169_320 L xs m d k (n + 34) x1 x2 x3 x4 g7 r8
    · skip
      refine (fs_r (n := n + 31) 4 (pc' := 141) (L' := [some (.ref 9), some (.int x1), some (.int x2), some (.int x3), some (.int x4), none, none]) (S' := [.ref 9, .int 13, .int x1, .ref 9]) rfl).trans ?_
      refine (fs_cv (n := n + 30) (N := nm_m172) (as := [.ref 9]) (rest := [.int 13, .int x1, .ref 9]) rfl rfl (Or.inl rfl) rfl rfl rfl rfl rfl).trans (fs_fv fun v12 g10 r11 => ?_)
      refine (fs_r (n := n + 29) 1 (pc' := 145) (L' := [some (.ref 9), some (.int x1), some (.int x2), some (.int x3), some (.int x4), none, none]) (S' := [.int x2, .int v12, .int 13, .int x1, .ref 9]) rfl).trans ?_
      refine (fs_cn (n := n + 28) (N := nm_m173) (as := [.ref 9, .int x1, .int 13, .int v12, .int x2]) (rest := []) rfl rfl (Or.inl rfl) rfl rfl rfl rfl rfl).trans (fs_fn fun g13 r14 => ?_)
      refine (fs_go (n := n + 27) rfl (t := 320) rfl (by decide)).trans ?_
      exact b169_320 L xs m d k (n + 26) x1 x2 x3 x4 g13 r14
  · refine (fs_J1 (n := n + 39) (t := 151) rfl (by decide)).trans ?_
    refine (fs_r (n := n + 35) 4 (pc' := 156) (L' := [some (.ref 9), some (.int x1), some (.int x2), some (.int x3), some (.int x4), none, none]) (S' := [.int x2, .int 0, .int 14, .ref 9]) rfl).trans ?_
    refine (fs_cv (n := n + 34) (N := nm_m161) (as := [.ref 9, .int 14, .int 0, .int x2]) (rest := []) rfl rfl (Or.inl rfl) rfl rfl rfl rfl rfl).trans (fs_fv fun v17 g15 r16 => ?_)
    refine (fs_r (n := n + 30) 4 (pc' := 165) (L' := [some (.ref 9), some (.int x1), some (.int x2), some (.int x3), some (.int x4), some (.int v17), none]) (S' := [.int v17, .int x1, .ref 9]) rfl).trans ?_
    refine (fs_cn (n := n + 29) (N := nm_m174) (as := [.ref 9, .int x1, .int v17]) (rest := []) rfl rfl (Or.inl rfl) rfl rfl rfl rfl rfl).trans (fs_fn fun g18 r19 => ?_)
    refine (fs_r (n := n + 27) 2 (pc' := 171) (L' := [some (.ref 9), some (.int x1), some (.int x2), some (.int x3), some (.int x4), some (.int v17), none]) (S' := [.int v17, .ref 9]) rfl).trans ?_
    refine (fs_cn (n := n + 26) (N := nm_m175) (as := [.ref 9, .int v17]) (rest := []) rfl rfl (Or.inl rfl) rfl rfl rfl rfl rfl).trans (fs_fn fun g20 r21 => ?_)
    refine (fs_r (n := n + 24) 2 (pc' := 177) (L' := [some (.ref 9), some (.int x1), some (.int x2), some (.int x3), some (.int x4), some (.int v17), none]) (S' := [.int 21, .ref 9]) rfl).trans ?_
    refine (fs_cv (n := n + 23) (N := nm_m170) (as := [.ref 9, .int 21]) (rest := []) rfl rfl (Or.inl rfl) rfl rfl rfl rfl rfl).trans (fs_fv fun v24 g22 r23 => ?_)
    refine (fs_i (n := n + 22) rfl (t := 320) rfl (by decide)).trans (fs_ite ?_ ?_)
    · skip
      exact b169_320_1 L xs m d k (n + 21) x1 x2 x3 x4 v17 g22 r23
    · skip
      refine (fs_r (n := n + 20) 2 (pc' := 186) (L' := [some (.ref 9), some (.int x1), some (.int x2), some (.int x3), some (.int x4), some (.int v17), none]) (S' := [.int v17, .ref 9]) rfl).trans ?_
      refine (fs_cn (n := n + 19) (N := nm_m175) (as := [.ref 9, .int v17]) (rest := []) rfl rfl (Or.inl rfl) rfl rfl rfl rfl rfl).trans (fs_fn fun g25 r26 => ?_)
      refine (fs_go (n := n + 18) rfl (t := 320) rfl (by decide)).trans ?_
      exact b169_320_1 L xs m d k (n + 17) x1 x2 x3 x4 v17 g25 r26
  · refine (fs_J1 (n := n + 39) (t := 313) rfl (by decide)).trans ?_
    exact b169_313 L xs m d k (n + 33) x1 x2 x3 x4 g r
  · refine (fs_J1 (n := n + 39) (t := 192) rfl (by decide)).trans ?_
    refine (fs_r (n := n + 36) 3 (pc' := 195) (L' := [some (.ref 9), some (.int x1), some (.int x2), some (.int x3), some (.int x4), none, none]) (S' := [.int x2, .int x1, .ref 9]) rfl).trans ?_
    refine (fs_cn (n := n + 35) (N := nm_m179) (as := [.ref 9, .int x1, .int x2]) (rest := []) rfl rfl (Or.inl rfl) rfl rfl rfl rfl rfl).trans (fs_fn fun g30 r31 => ?_)
    refine (fs_go (n := n + 34) rfl (t := 320) rfl (by decide)).trans ?_
    exact b169_320 L xs m d k (n + 33) x1 x2 x3 x4 g30 r31
  · refine (fs_J1 (n := n + 39) (t := 313) rfl (by decide)).trans ?_
    exact b169_313 L xs m d k (n + 33) x1 x2 x3 x4 g r
  · refine (fs_J1 (n := n + 39) (t := 313) rfl (by decide)).trans ?_
    exact b169_313 L xs m d k (n + 33) x1 x2 x3 x4 g r
  · refine (fs_J1 (n := n + 39) (t := 313) rfl (by decide)).trans ?_
    exact b169_313 L xs m d k (n + 33) x1 x2 x3 x4 g r
  · refine (fs_J1 (n := n + 39) (t := 201) rfl (by decide)).trans ?_
    refine (fs_r (n := n + 37) 2 (pc' := 203) (L' := [some (.ref 9), some (.int x1), some (.int x2), some (.int x3), some (.int x4), none, none]) (S' := [.int 1, .ref 9]) rfl).trans ?_
    refine (fs_cv (n := n + 36) (N := nm_m171) (as := [.ref 9, .int 1]) (rest := []) rfl rfl (Or.inl rfl) rfl rfl rfl rfl rfl).trans (fs_fv fun v34 g32 r33 => ?_)
    refine (fs_i (n := n + 35) rfl (t := 320) rfl (by decide)).trans (fs_ite ?_ ?_)
    · skip
      exact b169_320 L xs m d k (n + 34) x1 x2 x3 x4 g32 r33
    · skip
      refine (fs_r (n := n + 31) 4 (pc' := 214) (L' := [some (.ref 9), some (.int x1), some (.int x2), some (.int x3), some (.int x4), none, none]) (S' := [.ref 9, .int 18, .int x1, .ref 9]) rfl).trans ?_
      refine (fs_cv (n := n + 30) (N := nm_m172) (as := [.ref 9]) (rest := [.int 18, .int x1, .ref 9]) rfl rfl (Or.inl rfl) rfl rfl rfl rfl rfl).trans (fs_fv fun v37 g35 r36 => ?_)
      refine (fs_r (n := n + 29) 1 (pc' := 218) (L' := [some (.ref 9), some (.int x1), some (.int x2), some (.int x3), some (.int x4), none, none]) (S' := [.int x2, .int v37, .int 18, .int x1, .ref 9]) rfl).trans ?_
      refine (fs_cn (n := n + 28) (N := nm_m173) (as := [.ref 9, .int x1, .int 18, .int v37, .int x2]) (rest := []) rfl rfl (Or.inl rfl) rfl rfl rfl rfl rfl).trans (fs_fn fun g38 r39 => ?_)
      refine (fs_go (n := n + 27) rfl (t := 320) rfl (by decide)).trans ?_
      exact b169_320 L xs m d k (n + 26) x1 x2 x3 x4 g38 r39
  · refine (fs_J1 (n := n + 39) (t := 224) rfl (by decide)).trans ?_
    refine (fs_r (n := n + 35) 4 (pc' := 231) (L' := [some (.ref 9), some (.int x1), some (.int x2), some (.int x3), some (.int x4), none, none]) (S' := [.int 28, .int (g 941), .ref 9]) rfl).trans ?_
    refine (fs_cv (n := n + 34) (N := nm_m168) (as := [.ref 9, .int (g 941), .int 28]) (rest := []) rfl rfl (Or.inl rfl) rfl rfl rfl rfl rfl).trans (fs_fv fun v42 g40 r41 => ?_)
    refine (fs_i (n := n + 33) rfl (t := 250) rfl (by decide)).trans (fs_ite ?_ ?_)
    · skip
      exact b169_250 L xs m d k (n + 6) x1 x2 x3 x4 g40 r41
    · skip
      refine (fs_r (n := n + 29) 4 (pc' := 244) (L' := [some (.ref 9), some (.int x1), some (.int x2), some (.int x3), some (.int x4), none, none]) (S' := [.int 29, .int (g40 941), .ref 9]) rfl).trans ?_
      refine (fs_cv (n := n + 28) (N := nm_m168) (as := [.ref 9, .int (g40 941), .int 29]) (rest := []) rfl rfl (Or.inl rfl) rfl rfl rfl rfl rfl).trans (fs_fv fun v50 g48 r49 => ?_)
      refine (fs_i (n := n + 27) rfl (t := 254) rfl (by decide)).trans (fs_ite ?_ ?_)
      · skip
        refine (fs_r (n := n + 26) 1 (pc' := 255) (L' := [some (.ref 9), some (.int x1), some (.int x2), some (.int x3), some (.int x4), none, none]) (S' := [.int 0]) rfl).trans ?_
        exact b169_255 L xs m d k (n + 1) x1 x2 x3 x4 0 g48 r49
      · skip
        exact b169_250 L xs m d k (n + 0) x1 x2 x3 x4 g48 r49
  · refine (fs_J1 (n := n + 39) (t := 313) rfl (by decide)).trans ?_
    exact b169_313 L xs m d k (n + 33) x1 x2 x3 x4 g r
def B169_72 (L : Nat) (xs : Nat → Int32) (m d k : Nat) (x1 x2 x3 : Int32) (g : a2_G) (r : a2_A) : Option fn_Z := (B169_73 L xs m d k x1 x2 x3 0 g r)
theorem b169_72 (L : Nat) (xs : Nat → Int32) (m d k : Nat) (n : Nat) (x1 x2 x3 : Int32) (g : a2_G) (r : a2_A) : bk L xs 169 nm_m169 m d k (n + 43) 72 [some (.ref 9), some (.int x1), some (.int x2), some (.int x3), none, none, none] [] g r = B169_72 L xs m d k x1 x2 x3 g r := by
  show _ = ((B169_73 L xs m d k x1 x2 x3 0 g r) : Option fn_Z)
  refine (fs_r (n := n + 42) 1 (pc' := 73) (L' := [some (.ref 9), some (.int x1), some (.int x2), some (.int x3), none, none, none]) (S' := [.int 0]) rfl).trans ?_
  exact b169_73 L xs m d k (n + 0) x1 x2 x3 0 g r
def B169_59 (L : Nat) (xs : Nat → Int32) (m d k : Nat) (x1 x2 x3 : Int32) (g : a2_G) (r : a2_A) : Option fn_Z := (fn_v (ev L xs m d 170 [.ref 9, .int 67] g r) fun v6 g4 r5 => (if am_c2 .eq v6 0 = true then (B169_72 L xs m d k x1 x2 x3 g4 r5) else (B169_73 L xs m d k x1 x2 x3 1 g4 r5)))
theorem b169_59 (L : Nat) (xs : Nat → Int32) (m d k : Nat) (n : Nat) (x1 x2 x3 : Int32) (g : a2_G) (r : a2_A) : bk L xs 169 nm_m169 m d k (n + 48) 59 [some (.ref 9), some (.int x1), some (.int x2), some (.int x3), none, none, none] [] g r = B169_59 L xs m d k x1 x2 x3 g r := by
  show _ = ((fn_v (ev L xs m d 170 [.ref 9, .int 67] g r) fun v6 g4 r5 => (if am_c2 .eq v6 0 = true then (B169_72 L xs m d k x1 x2 x3 g4 r5) else (B169_73 L xs m d k x1 x2 x3 1 g4 r5))) : Option fn_Z)
  refine (fs_r (n := n + 46) 2 (pc' := 62) (L' := [some (.ref 9), some (.int x1), some (.int x2), some (.int x3), none, none, none]) (S' := [.int 67, .ref 9]) rfl).trans ?_
  refine (fs_cv (n := n + 45) (N := nm_m170) (as := [.ref 9, .int 67]) (rest := []) rfl rfl (Or.inl rfl) rfl rfl rfl rfl rfl).trans (fs_fv fun v6 g4 r5 => ?_)
  refine (fs_i (n := n + 44) rfl (t := 72) rfl (by decide)).trans (fs_ite ?_ ?_)
  · skip
    exact b169_72 L xs m d k (n + 1) x1 x2 x3 g4 r5
  · skip
    refine (fs_r (n := n + 43) 1 (pc' := 69) (L' := [some (.ref 9), some (.int x1), some (.int x2), some (.int x3), none, none, none]) (S' := [.int 1]) rfl).trans ?_
    refine (fs_go (n := n + 42) rfl (t := 73) rfl (by decide)).trans ?_
    exact b169_73 L xs m d k (n + 0) x1 x2 x3 1 g4 r5
def B169_30 (L : Nat) (xs : Nat → Int32) (m d k : Nat) (x1 x2 x3 : Int32) (g : a2_G) (r : a2_A) : Option fn_Z := (if am_c2 .eq x3 19 = true then (B169_59 L xs m d k x1 x2 x3 (upd g 941 ((g 941) + 1)) r) else (if am_c2 .eq x3 20 = true then (B169_59 L xs m d k x1 x2 x3 (upd g 941 ((g 941) + 1)) r) else (if am_c2 .ne x3 27 = true then (B169_72 L xs m d k x1 x2 x3 (upd g 941 ((g 941) + 1)) r) else (B169_59 L xs m d k x1 x2 x3 (upd g 941 ((g 941) + 1)) r))))
theorem b169_30 (L : Nat) (xs : Nat → Int32) (m d k : Nat) (n : Nat) (x1 x2 x3 : Int32) (g : a2_G) (r : a2_A) : bk L xs 169 nm_m169 m d k (n + 64) 30 [some (.ref 9), some (.int x1), some (.int x2), none, none, none, none] [.int x3] g r = B169_30 L xs m d k x1 x2 x3 g r := by
  show _ = ((if am_c2 .eq x3 19 = true then (B169_59 L xs m d k x1 x2 x3 (upd g 941 ((g 941) + 1)) r) else (if am_c2 .eq x3 20 = true then (B169_59 L xs m d k x1 x2 x3 (upd g 941 ((g 941) + 1)) r) else (if am_c2 .ne x3 27 = true then (B169_72 L xs m d k x1 x2 x3 (upd g 941 ((g 941) + 1)) r) else (B169_59 L xs m d k x1 x2 x3 (upd g 941 ((g 941) + 1)) r)))) : Option fn_Z)
  refine (fs_r (n := n + 58) 6 (pc' := 38) (L' := [some (.ref 9), some (.int x1), some (.int x2), some (.int x3), none, none, none]) (S' := [.int ((g 941) + 1), .ref 9]) rfl).trans ?_
  refine (fs_pf (n := n + 57) (ci := 9) (j := 41) rfl rfl rfl rfl).trans ?_
  refine (fs_r (n := n + 55) 2 (pc' := 44) (L' := [some (.ref 9), some (.int x1), some (.int x2), some (.int x3), none, none, none]) (S' := [.int 19, .int x3]) rfl).trans ?_
  refine (fs_j (n := n + 54) rfl (t := 59) rfl (by decide)).trans (fs_ite ?_ ?_)
  · skip
    exact b169_59 L xs m d k (n + 6) x1 x2 x3 (upd g 941 ((g 941) + 1)) r
  · skip
    refine (fs_r (n := n + 52) 2 (pc' := 50) (L' := [some (.ref 9), some (.int x1), some (.int x2), some (.int x3), none, none, none]) (S' := [.int 20, .int x3]) rfl).trans ?_
    refine (fs_j (n := n + 51) rfl (t := 59) rfl (by decide)).trans (fs_ite ?_ ?_)
    · skip
      exact b169_59 L xs m d k (n + 3) x1 x2 x3 (upd g 941 ((g 941) + 1)) r
    · skip
      refine (fs_r (n := n + 49) 2 (pc' := 56) (L' := [some (.ref 9), some (.int x1), some (.int x2), some (.int x3), none, none, none]) (S' := [.int 27, .int x3]) rfl).trans ?_
      refine (fs_j (n := n + 48) rfl (t := 72) rfl (by decide)).trans (fs_ite ?_ ?_)
      · skip
        exact b169_72 L xs m d k (n + 5) x1 x2 x3 (upd g 941 ((g 941) + 1)) r
      · skip
        exact b169_59 L xs m d k (n + 0) x1 x2 x3 (upd g 941 ((g 941) + 1)) r
theorem e169 (L : Nat) (xs : Nat → Int32) (m d k : Nat) (n : Nat) (a1 : Int32) (g : a2_G) (r : a2_A) : bk L xs 169 nm_m169 m d k (n + 79) 0 [some (.ref 9), some (.int a1), none, none, none, none, none] [] g r = (fn_v (ev L xs m d 167 [.ref 9, .int (g 941), .int 0] g r) fun v3 g1 r2 => (if am_c2 .eq v3 0 = true then (B169_30 L xs m d k a1 (g 941) (-1) g1 r2) else (if am_inr (g1 941) (r2 903).1 = true then (B169_30 L xs m d k a1 (g 941) ((r2 903).2 ((g1 941) : Int32).toNatClampNeg) g1 r2) else none))) := by
  refine (fs_r (n := n + 72) 7 (pc' := 11) (L' := [some (.ref 9), some (.int a1), some (.int (g 941)), none, none, none, none]) (S' := [.int 0, .int (g 941), .ref 9]) rfl).trans ?_
  refine (fs_cv (n := n + 71) (N := nm_m167) (as := [.ref 9, .int (g 941), .int 0]) (rest := []) rfl rfl (Or.inl rfl) rfl rfl rfl rfl rfl).trans (fs_fv fun v3 g1 r2 => ?_)
  refine (fs_i (n := n + 70) rfl (t := 29) rfl (by decide)).trans (fs_ite ?_ ?_)
  · skip
    refine (fs_r (n := n + 69) 1 (pc' := 30) (L' := [some (.ref 9), some (.int a1), some (.int (g 941)), none, none, none, none]) (S' := [.int (-1)]) rfl).trans ?_
    exact b169_30 L xs m d k (n + 5) a1 (g 941) (-1) g1 r2
  · skip
    refine (fs_r (n := n + 66) 4 (pc' := 25) (L' := [some (.ref 9), some (.int a1), some (.int (g 941)), none, none, none, none]) (S' := [.int (g1 941), .ref 10903]) rfl).trans ?_
    refine (fs_il (n := n + 65) (k := 903) rfl rfl).trans (fs_ite ?_ rfl)
    refine (fs_go (n := n + 64) rfl (t := 30) rfl (by decide)).trans ?_
    exact b169_30 L xs m d k (n + 0) a1 (g 941) ((r2 903).2 ((g1 941) : Int32).toNatClampNeg) g1 r2
theorem q169 (L : Nat) (xs : Nat → Int32) (m d : Nat) (a1 : Int32) (g : a2_G) (r : a2_A) : ev L xs (m + 1) (d + 1) 169 [.ref 9, .int a1] g r = (fn_v (ev L xs (m + 1) d 167 [.ref 9, .int (g 941), .int 0] g r) fun v3 g1 r2 => (if am_c2 .eq v3 0 = true then (B169_30 L xs (m + 1) d m a1 (g 941) (-1) g1 r2) else (if am_inr (g1 941) (r2 903).1 = true then (B169_30 L xs (m + 1) d m a1 (g 941) ((r2 903).2 ((g1 941) : Int32).toNatClampNeg) g1 r2) else none))) := (fs_ev (M := nm_m169) rfl rfl).trans (e169 L xs (m + 1) d m 821 a1 g r)
/-- CobolParserModel.meets(I)Z -/
def B170_19 (L : Nat) (xs : Nat → Int32) (m d k : Nat) (x1 : Int32) (g : a2_G) (r : a2_A) : Option fn_Z := (some (.inl (some (.int 0)), g, r))
theorem b170_19 (L : Nat) (xs : Nat → Int32) (m d k : Nat) (n : Nat) (x1 : Int32) (g : a2_G) (r : a2_A) : bk L xs 170 nm_m170 m d k (n + 2) 19 [some (.ref 9), some (.int x1)] [] g r = B170_19 L xs m d k x1 g r := by
  show _ = ((some (.inl (some (.int 0)), g, r)) : Option fn_Z)
  refine (fs_r (n := n + 1) 1 (pc' := 20) (L' := [some (.ref 9), some (.int x1)]) (S' := [.int 0]) rfl).trans ?_
  exact (fs_rb (n := n + 0) rfl rfl).trans ((if_pos (by decide)).trans rfl)
theorem e170 (L : Nat) (xs : Nat → Int32) (m d k : Nat) (n : Nat) (a1 : Int32) (g : a2_G) (r : a2_A) : bk L xs 170 nm_m170 m d k (n + 17) 0 [some (.ref 9), some (.int a1)] [] g r = (if am_c2 .ne (g 943) 0 = true then (B170_19 L xs m d k a1 g r) else (fn_v (ev L xs m d 168 [.ref 9, .int (g 941), .int a1] g r) fun v3 g1 r2 => (if am_c2 .ne v3 0 = true then (some (.inl (some (.int 1)), (upd g1 941 ((g1 941) + 1)), r2)) else (B170_19 L xs m d k a1 g1 r2)))) := by
  refine (fs_r (n := n + 15) 2 (pc' := 4) (L' := [some (.ref 9), some (.int a1)]) (S' := [.int (g 943)]) rfl).trans ?_
  refine (fs_i (n := n + 14) rfl (t := 19) rfl (by decide)).trans (fs_ite ?_ ?_)
  · skip
    exact b170_19 L xs m d k (n + 12) a1 g r
  · skip
    refine (fs_r (n := n + 10) 4 (pc' := 13) (L' := [some (.ref 9), some (.int a1)]) (S' := [.int a1, .int (g 941), .ref 9]) rfl).trans ?_
    refine (fs_cv (n := n + 9) (N := nm_m168) (as := [.ref 9, .int (g 941), .int a1]) (rest := []) rfl rfl (Or.inl rfl) rfl rfl rfl rfl rfl).trans (fs_fv fun v3 g1 r2 => ?_)
    refine (fs_i (n := n + 8) rfl (t := 21) rfl (by decide)).trans (fs_ite ?_ ?_)
    · skip
      refine (fs_r (n := n + 3) 5 (pc' := 28) (L' := [some (.ref 9), some (.int a1)]) (S' := [.int ((g1 941) + 1), .ref 9]) rfl).trans ?_
      refine (fs_pf (n := n + 2) (ci := 9) (j := 41) rfl rfl rfl rfl).trans ?_
      refine (fs_r (n := n + 1) 1 (pc' := 32) (L' := [some (.ref 9), some (.int a1)]) (S' := [.int 1]) rfl).trans ?_
      exact (fs_rb (n := n + 0) rfl rfl).trans ((if_pos (by decide)).trans rfl)
    · skip
      exact b170_19 L xs m d k (n + 6) a1 g1 r2
theorem q170 (L : Nat) (xs : Nat → Int32) (m d : Nat) (a1 : Int32) (g : a2_G) (r : a2_A) : ev L xs (m + 1) (d + 1) 170 [.ref 9, .int a1] g r = (if am_c2 .ne (g 943) 0 = true then (B170_19 L xs (m + 1) d m a1 g r) else (fn_v (ev L xs (m + 1) d 168 [.ref 9, .int (g 941), .int a1] g r) fun v3 g1 r2 => (if am_c2 .ne v3 0 = true then (some (.inl (some (.int 1)), (upd g1 941 ((g1 941) + 1)), r2)) else (B170_19 L xs (m + 1) d m a1 g1 r2)))) := (fs_ev (M := nm_m170) rfl rfl).trans (e170 L xs (m + 1) d m 883 a1 g r)
/-- CobolParserModel.mustBe(I)Z -/
def B171_19 (L : Nat) (xs : Nat → Int32) (m d k : Nat) (x1 : Int32) (g : a2_G) (r : a2_A) : Option fn_Z := (fn_v (ev L xs m d 165 [.ref 9, .int 1, .int (g 941)] g r) fun v3 g1 r2 => (if v3 = 0 ∨ v3 = 1 then some (.inl (some (.int v3)), g1, r2) else none))
theorem b171_19 (L : Nat) (xs : Nat → Int32) (m d k : Nat) (n : Nat) (x1 : Int32) (g : a2_G) (r : a2_A) : bk L xs 171 nm_m171 m d k (n + 6) 19 [some (.ref 9), some (.int x1)] [] g r = B171_19 L xs m d k x1 g r := by
  show _ = ((fn_v (ev L xs m d 165 [.ref 9, .int 1, .int (g 941)] g r) fun v3 g1 r2 => (if v3 = 0 ∨ v3 = 1 then some (.inl (some (.int v3)), g1, r2) else none)) : Option fn_Z)
  refine (fs_r (n := n + 2) 4 (pc' := 25) (L' := [some (.ref 9), some (.int x1)]) (S' := [.int (g 941), .int 1, .ref 9]) rfl).trans ?_
  refine (fs_cv (n := n + 1) (N := nm_m165) (as := [.ref 9, .int 1, .int (g 941)]) (rest := []) rfl rfl (Or.inl rfl) rfl rfl rfl rfl rfl).trans (fs_fv fun v3 g1 r2 => ?_)
  exact (fs_rb (n := n + 0) rfl rfl).trans rfl
theorem e171 (L : Nat) (xs : Nat → Int32) (m d k : Nat) (n : Nat) (a1 : Int32) (g : a2_G) (r : a2_A) : bk L xs 171 nm_m171 m d k (n + 17) 0 [some (.ref 9), some (.int a1)] [] g r = (if am_c2 .ne (g 943) 0 = true then (B171_19 L xs m d k a1 g r) else (fn_v (ev L xs m d 167 [.ref 9, .int (g 941), .int a1] g r) fun v6 g4 r5 => (if am_c2 .ne v6 0 = true then (some (.inl (some (.int 1)), (upd g4 941 ((g4 941) + 1)), r5)) else (B171_19 L xs m d k a1 g4 r5)))) := by
  refine (fs_r (n := n + 15) 2 (pc' := 4) (L' := [some (.ref 9), some (.int a1)]) (S' := [.int (g 943)]) rfl).trans ?_
  refine (fs_i (n := n + 14) rfl (t := 19) rfl (by decide)).trans (fs_ite ?_ ?_)
  · skip
    exact b171_19 L xs m d k (n + 8) a1 g r
  · skip
    refine (fs_r (n := n + 10) 4 (pc' := 13) (L' := [some (.ref 9), some (.int a1)]) (S' := [.int a1, .int (g 941), .ref 9]) rfl).trans ?_
    refine (fs_cv (n := n + 9) (N := nm_m167) (as := [.ref 9, .int (g 941), .int a1]) (rest := []) rfl rfl (Or.inl rfl) rfl rfl rfl rfl rfl).trans (fs_fv fun v6 g4 r5 => ?_)
    refine (fs_i (n := n + 8) rfl (t := 29) rfl (by decide)).trans (fs_ite ?_ ?_)
    · skip
      refine (fs_r (n := n + 3) 5 (pc' := 36) (L' := [some (.ref 9), some (.int a1)]) (S' := [.int ((g4 941) + 1), .ref 9]) rfl).trans ?_
      refine (fs_pf (n := n + 2) (ci := 9) (j := 41) rfl rfl rfl rfl).trans ?_
      refine (fs_r (n := n + 1) 1 (pc' := 40) (L' := [some (.ref 9), some (.int a1)]) (S' := [.int 1]) rfl).trans ?_
      exact (fs_rb (n := n + 0) rfl rfl).trans ((if_pos (by decide)).trans rfl)
    · skip
      exact b171_19 L xs m d k (n + 2) a1 g4 r5
theorem q171 (L : Nat) (xs : Nat → Int32) (m d : Nat) (a1 : Int32) (g : a2_G) (r : a2_A) : ev L xs (m + 1) (d + 1) 171 [.ref 9, .int a1] g r = (if am_c2 .ne (g 943) 0 = true then (B171_19 L xs (m + 1) d m a1 g r) else (fn_v (ev L xs (m + 1) d 167 [.ref 9, .int (g 941), .int a1] g r) fun v6 g4 r5 => (if am_c2 .ne v6 0 = true then (some (.inl (some (.int 1)), (upd g4 941 ((g4 941) + 1)), r5)) else (B171_19 L xs (m + 1) d m a1 g4 r5)))) := (fs_ev (M := nm_m171) rfl rfl).trans (e171 L xs (m + 1) d m 883 a1 g r)
/-- CobolParserModel.passed()I -/
def B172_22 (L : Nat) (xs : Nat → Int32) (m d k : Nat) (x1 : Int32) (g : a2_G) (r : a2_A) : Option fn_Z := (some (.inl (some (.int x1)), g, r))
theorem b172_22 (L : Nat) (xs : Nat → Int32) (m d k : Nat) (n : Nat) (x1 : Int32) (g : a2_G) (r : a2_A) : bk L xs 172 nm_m172 m d k (n + 1) 22 [some (.ref 9)] [.int x1] g r = B172_22 L xs m d k x1 g r := by
  show _ = ((some (.inl (some (.int x1)), g, r)) : Option fn_Z)
  exact (fs_ri (n := n + 0) rfl rfl).trans rfl
theorem e172 (L : Nat) (xs : Nat → Int32) (m d k : Nat) (n : Nat) (g : a2_G) (r : a2_A) : bk L xs 172 nm_m172 m d k (n + 12) 0 [some (.ref 9)] [] g r = (if am_c2 .le (g 941) 0 = true then (B172_22 L xs m d k 0 g r) else (if am_inr ((g 941) - 1) (r 903).1 = true then (B172_22 L xs m d k ((r 903).2 (((g 941) - 1) : Int32).toNatClampNeg) g r) else none)) := by
  refine (fs_r (n := n + 10) 2 (pc' := 4) (L' := [some (.ref 9)]) (S' := [.int (g 941)]) rfl).trans ?_
  refine (fs_i (n := n + 9) rfl (t := 21) rfl (by decide)).trans (fs_ite ?_ ?_)
  · skip
    refine (fs_r (n := n + 8) 1 (pc' := 22) (L' := [some (.ref 9)]) (S' := [.int 0]) rfl).trans ?_
    exact b172_22 L xs m d k (n + 7) 0 g r
  · skip
    refine (fs_r (n := n + 3) 6 (pc' := 17) (L' := [some (.ref 9)]) (S' := [.int ((g 941) - 1), .ref 10903]) rfl).trans ?_
    refine (fs_il (n := n + 2) (k := 903) rfl rfl).trans (fs_ite ?_ rfl)
    refine (fs_go (n := n + 1) rfl (t := 22) rfl (by decide)).trans ?_
    exact b172_22 L xs m d k (n + 0) ((r 903).2 (((g 941) - 1) : Int32).toNatClampNeg) g r
theorem q172 (L : Nat) (xs : Nat → Int32) (m d : Nat) (g : a2_G) (r : a2_A) : ev L xs (m + 1) (d + 1) 172 [.ref 9] g r = (if am_c2 .le (g 941) 0 = true then (B172_22 L xs (m + 1) d m 0 g r) else (if am_inr ((g 941) - 1) (r 903).1 = true then (B172_22 L xs (m + 1) d m ((r 903).2 (((g 941) - 1) : Int32).toNatClampNeg) g r) else none)) := (fs_ev (M := nm_m172) rfl rfl).trans (e172 L xs (m + 1) d m 888 g r)
/-- CobolParserModel.child(IIII)V -/
theorem e173 (L : Nat) (xs : Nat → Int32) (m d k : Nat) (n : Nat) (a1 a2 a3 a4 : Int32) (g : a2_G) (r : a2_A) : bk L xs 173 nm_m173 m d k (n + 9) 0 [some (.ref 9), some (.int a1), some (.int a2), some (.int a3), some (.int a4)] [] g r = (fn_v (ev L xs m d 161 [.ref 9, .int a2, .int a3, .int a4] g r) fun v3 g1 r2 => (fn_n (ev L xs m d 174 [.ref 9, .int a1, .int v3] g1 r2) fun g4 r5 => (some (.inl none, g4, r5)))) := by
  refine (fs_r (n := n + 3) 6 (pc' := 7) (L' := [some (.ref 9), some (.int a1), some (.int a2), some (.int a3), some (.int a4)]) (S' := [.int a4, .int a3, .int a2, .ref 9, .int a1, .ref 9]) rfl).trans ?_
  refine (fs_cv (n := n + 2) (N := nm_m161) (as := [.ref 9, .int a2, .int a3, .int a4]) (rest := [.int a1, .ref 9]) rfl rfl (Or.inl rfl) rfl rfl rfl rfl rfl).trans (fs_fv fun v3 g1 r2 => ?_)
  refine (fs_cn (n := n + 1) (N := nm_m174) (as := [.ref 9, .int a1, .int v3]) (rest := []) rfl rfl (Or.inl rfl) rfl rfl rfl rfl rfl).trans (fs_fn fun g4 r5 => ?_)
  exact (fs_rv (n := n + 0) rfl rfl).trans rfl
theorem q173 (L : Nat) (xs : Nat → Int32) (m d : Nat) (a1 a2 a3 a4 : Int32) (g : a2_G) (r : a2_A) : ev L xs (m + 1) (d + 1) 173 [.ref 9, .int a1, .int a2, .int a3, .int a4] g r = (fn_v (ev L xs (m + 1) d 161 [.ref 9, .int a2, .int a3, .int a4] g r) fun v3 g1 r2 => (fn_n (ev L xs (m + 1) d 174 [.ref 9, .int a1, .int v3] g1 r2) fun g4 r5 => (some (.inl none, g4, r5)))) := (fs_ev (M := nm_m173) rfl rfl).trans (e173 L xs (m + 1) d m 891 a1 a2 a3 a4 g r)
/-- CobolParserModel.attach(II)V -/
def B174_45 (L : Nat) (xs : Nat → Int32) (m d k : Nat) (x1 x2 : Int32) (g : a2_G) (r : a2_A) : Option fn_Z := (if am_inr x1 (r 914).1 = true then (some (.inl none, g, (a2_ua r 914 ((r 914).1, (upd (r 914).2 (x1 : Int32).toNatClampNeg x2))))) else none)
theorem b174_45 (L : Nat) (xs : Nat → Int32) (m d k : Nat) (n : Nat) (x1 x2 : Int32) (g : a2_G) (r : a2_A) : bk L xs 174 nm_m174 m d k (n + 6) 45 [some (.ref 9), some (.int x1), some (.int x2)] [] g r = B174_45 L xs m d k x1 x2 g r := by
  show _ = ((if am_inr x1 (r 914).1 = true then (some (.inl none, g, (a2_ua r 914 ((r 914).1, (upd (r 914).2 (x1 : Int32).toNatClampNeg x2))))) else none) : Option fn_Z)
  refine (fs_r (n := n + 2) 4 (pc' := 51) (L' := [some (.ref 9), some (.int x1), some (.int x2)]) (S' := [.int x2, .int x1, .ref 10914]) rfl).trans ?_
  refine (fs_is (n := n + 1) (k := 914) rfl rfl).trans (fs_ite ?_ rfl)
  exact (fs_rv (n := n + 0) rfl rfl).trans rfl
theorem e174 (L : Nat) (xs : Nat → Int32) (m d k : Nat) (n : Nat) (a1 a2 : Int32) (g : a2_G) (r : a2_A) : bk L xs 174 nm_m174 m d k (n + 29) 0 [some (.ref 9), some (.int a1), some (.int a2)] [] g r = (if am_inr a2 (r 916).1 = true then (if am_inr a2 (r 915).1 = true then (if am_inr a1 (r 913).1 = true then (if am_c2 .ne ((r 913).2 (a1 : Int32).toNatClampNeg) 0 = true then (if am_inr a1 (r 914).1 = true then (if am_inr ((r 914).2 (a1 : Int32).toNatClampNeg) (r 915).1 = true then (B174_45 L xs m d k a1 a2 g (a2_ua (a2_ua (a2_ua r 916 ((r 916).1, (upd (r 916).2 (a2 : Int32).toNatClampNeg a1))) 915 ((r 915).1, (upd (r 915).2 (a2 : Int32).toNatClampNeg 0))) 915 ((r 915).1, (upd (upd (r 915).2 (a2 : Int32).toNatClampNeg 0) (((r 914).2 (a1 : Int32).toNatClampNeg) : Int32).toNatClampNeg a2)))) else none) else none) else (if am_inr a1 (r 913).1 = true then (B174_45 L xs m d k a1 a2 g (a2_ua (a2_ua (a2_ua r 916 ((r 916).1, (upd (r 916).2 (a2 : Int32).toNatClampNeg a1))) 915 ((r 915).1, (upd (r 915).2 (a2 : Int32).toNatClampNeg 0))) 913 ((r 913).1, (upd (r 913).2 (a1 : Int32).toNatClampNeg a2)))) else none)) else none) else none) else none) := by
  refine (fs_r (n := n + 25) 4 (pc' := 6) (L' := [some (.ref 9), some (.int a1), some (.int a2)]) (S' := [.int a1, .int a2, .ref 10916]) rfl).trans ?_
  refine (fs_is (n := n + 24) (k := 916) rfl rfl).trans (fs_ite ?_ rfl)
  refine (fs_r (n := n + 20) 4 (pc' := 13) (L' := [some (.ref 9), some (.int a1), some (.int a2)]) (S' := [.int 0, .int a2, .ref 10915]) rfl).trans ?_
  refine (fs_is (n := n + 19) (k := 915) rfl rfl).trans (fs_ite ?_ rfl)
  refine (fs_r (n := n + 16) 3 (pc' := 19) (L' := [some (.ref 9), some (.int a1), some (.int a2)]) (S' := [.int a1, .ref 10913]) rfl).trans ?_
  refine (fs_il (n := n + 15) (k := 913) rfl rfl).trans (fs_ite ?_ rfl)
  refine (fs_i (n := n + 14) rfl (t := 33) rfl (by decide)).trans (fs_ite ?_ ?_)
  · skip
    refine (fs_r (n := n + 9) 5 (pc' := 42) (L' := [some (.ref 9), some (.int a1), some (.int a2)]) (S' := [.int a1, .ref 10914, .ref 10915]) rfl).trans ?_
    refine (fs_il (n := n + 8) (k := 914) rfl rfl).trans (fs_ite ?_ rfl)
    refine (fs_r (n := n + 7) 1 (pc' := 44) (L' := [some (.ref 9), some (.int a1), some (.int a2)]) (S' := [.int a2, .int ((r 914).2 (a1 : Int32).toNatClampNeg), .ref 10915]) rfl).trans ?_
    refine (fs_is (n := n + 6) (k := 915) rfl rfl).trans (fs_ite ?_ rfl)
    exact b174_45 L xs m d k (n + 0) a1 a2 g (a2_ua (a2_ua (a2_ua r 916 ((r 916).1, (upd (r 916).2 (a2 : Int32).toNatClampNeg a1))) 915 ((r 915).1, (upd (r 915).2 (a2 : Int32).toNatClampNeg 0))) 915 ((r 915).1, (upd (upd (r 915).2 (a2 : Int32).toNatClampNeg 0) (((r 914).2 (a1 : Int32).toNatClampNeg) : Int32).toNatClampNeg a2)))
  · skip
    refine (fs_r (n := n + 10) 4 (pc' := 29) (L' := [some (.ref 9), some (.int a1), some (.int a2)]) (S' := [.int a2, .int a1, .ref 10913]) rfl).trans ?_
    refine (fs_is (n := n + 9) (k := 913) rfl rfl).trans (fs_ite ?_ rfl)
    refine (fs_go (n := n + 8) rfl (t := 45) rfl (by decide)).trans ?_
    exact b174_45 L xs m d k (n + 2) a1 a2 g (a2_ua (a2_ua (a2_ua r 916 ((r 916).1, (upd (r 916).2 (a2 : Int32).toNatClampNeg a1))) 915 ((r 915).1, (upd (r 915).2 (a2 : Int32).toNatClampNeg 0))) 913 ((r 913).1, (upd (r 913).2 (a1 : Int32).toNatClampNeg a2)))
theorem q174 (L : Nat) (xs : Nat → Int32) (m d : Nat) (a1 a2 : Int32) (g : a2_G) (r : a2_A) : ev L xs (m + 1) (d + 1) 174 [.ref 9, .int a1, .int a2] g r = (if am_inr a2 (r 916).1 = true then (if am_inr a2 (r 915).1 = true then (if am_inr a1 (r 913).1 = true then (if am_c2 .ne ((r 913).2 (a1 : Int32).toNatClampNeg) 0 = true then (if am_inr a1 (r 914).1 = true then (if am_inr ((r 914).2 (a1 : Int32).toNatClampNeg) (r 915).1 = true then (B174_45 L xs (m + 1) d m a1 a2 g (a2_ua (a2_ua (a2_ua r 916 ((r 916).1, (upd (r 916).2 (a2 : Int32).toNatClampNeg a1))) 915 ((r 915).1, (upd (r 915).2 (a2 : Int32).toNatClampNeg 0))) 915 ((r 915).1, (upd (upd (r 915).2 (a2 : Int32).toNatClampNeg 0) (((r 914).2 (a1 : Int32).toNatClampNeg) : Int32).toNatClampNeg a2)))) else none) else none) else (if am_inr a1 (r 913).1 = true then (B174_45 L xs (m + 1) d m a1 a2 g (a2_ua (a2_ua (a2_ua r 916 ((r 916).1, (upd (r 916).2 (a2 : Int32).toNatClampNeg a1))) 915 ((r 915).1, (upd (r 915).2 (a2 : Int32).toNatClampNeg 0))) 913 ((r 913).1, (upd (r 913).2 (a1 : Int32).toNatClampNeg a2)))) else none)) else none) else none) else none) := (fs_ev (M := nm_m174) rfl rfl).trans (e174 L xs (m + 1) d m 871 a1 a2 g r)
/-- CobolParserModel.literal(I)V -/
def B175_42 (L : Nat) (xs : Nat → Int32) (m d k : Nat) (x1 : Int32) (g : a2_G) (r : a2_A) : Option fn_Z := (some (.inl none, g, r))
theorem b175_42 (L : Nat) (xs : Nat → Int32) (m d k : Nat) (n : Nat) (x1 : Int32) (g : a2_G) (r : a2_A) : bk L xs 175 nm_m175 m d k (n + 1) 42 [some (.ref 9), some (.int x1)] [] g r = B175_42 L xs m d k x1 g r := by
  show _ = ((some (.inl none, g, r)) : Option fn_Z)
  exact (fs_rv (n := n + 0) rfl rfl).trans rfl
def B175_37 (L : Nat) (xs : Nat → Int32) (m d k : Nat) (x1 : Int32) (g : a2_G) (r : a2_A) : Option fn_Z := (fn_n (ev L xs m d 176 [.ref 9, .int x1] g r) fun g4 r5 => (B175_42 L xs m d k x1 g4 r5))
theorem b175_37 (L : Nat) (xs : Nat → Int32) (m d k : Nat) (n : Nat) (x1 : Int32) (g : a2_G) (r : a2_A) : bk L xs 175 nm_m175 m d k (n + 4) 37 [some (.ref 9), some (.int x1)] [] g r = B175_37 L xs m d k x1 g r := by
  show _ = ((fn_n (ev L xs m d 176 [.ref 9, .int x1] g r) fun g4 r5 => (B175_42 L xs m d k x1 g4 r5)) : Option fn_Z)
  refine (fs_r (n := n + 2) 2 (pc' := 39) (L' := [some (.ref 9), some (.int x1)]) (S' := [.int x1, .ref 9]) rfl).trans ?_
  refine (fs_cn (n := n + 1) (N := nm_m176) (as := [.ref 9, .int x1]) (rest := []) rfl rfl (Or.inl rfl) rfl rfl rfl rfl rfl).trans (fs_fn fun g4 r5 => ?_)
  exact b175_42 L xs m d k (n + 0) x1 g4 r5
theorem e175 (L : Nat) (xs : Nat → Int32) (m d k : Nat) (n : Nat) (a1 : Int32) (g : a2_G) (r : a2_A) : bk L xs 175 nm_m175 m d k (n + 20) 0 [some (.ref 9), some (.int a1)] [] g r = (fn_v (ev L xs m d 167 [.ref 9, .int (g 941), .int 2] g r) fun v3 g1 r2 => (if am_c2 .ne v3 0 = true then (B175_37 L xs m d k a1 g1 r2) else (fn_v (ev L xs m d 167 [.ref 9, .int (g1 941), .int 3] g1 r2) fun v8 g6 r7 => (if am_c2 .ne v8 0 = true then (B175_37 L xs m d k a1 g6 r7) else (fn_v (ev L xs m d 165 [.ref 9, .int 1, .int (g6 941)] g6 r7) fun v11 g9 r10 => (B175_42 L xs m d k a1 g9 r10)))))) := by
  refine (fs_r (n := n + 16) 4 (pc' := 6) (L' := [some (.ref 9), some (.int a1)]) (S' := [.int 2, .int (g 941), .ref 9]) rfl).trans ?_
  refine (fs_cv (n := n + 15) (N := nm_m167) (as := [.ref 9, .int (g 941), .int 2]) (rest := []) rfl rfl (Or.inl rfl) rfl rfl rfl rfl rfl).trans (fs_fv fun v3 g1 r2 => ?_)
  refine (fs_i (n := n + 14) rfl (t := 37) rfl (by decide)).trans (fs_ite ?_ ?_)
  · skip
    exact b175_37 L xs m d k (n + 10) a1 g1 r2
  · skip
    refine (fs_r (n := n + 10) 4 (pc' := 18) (L' := [some (.ref 9), some (.int a1)]) (S' := [.int 3, .int (g1 941), .ref 9]) rfl).trans ?_
    refine (fs_cv (n := n + 9) (N := nm_m167) (as := [.ref 9, .int (g1 941), .int 3]) (rest := []) rfl rfl (Or.inl rfl) rfl rfl rfl rfl rfl).trans (fs_fv fun v8 g6 r7 => ?_)
    refine (fs_i (n := n + 8) rfl (t := 37) rfl (by decide)).trans (fs_ite ?_ ?_)
    · skip
      exact b175_37 L xs m d k (n + 4) a1 g6 r7
    · skip
      refine (fs_r (n := n + 4) 4 (pc' := 30) (L' := [some (.ref 9), some (.int a1)]) (S' := [.int (g6 941), .int 1, .ref 9]) rfl).trans ?_
      refine (fs_cv (n := n + 3) (N := nm_m165) (as := [.ref 9, .int 1, .int (g6 941)]) (rest := []) rfl rfl (Or.inl rfl) rfl rfl rfl rfl rfl).trans (fs_fv fun v11 g9 r10 => ?_)
      refine (fs_r (n := n + 2) 1 (pc' := 34) (L' := [some (.ref 9), some (.int a1)]) (S' := []) rfl).trans ?_
      refine (fs_go (n := n + 1) rfl (t := 42) rfl (by decide)).trans ?_
      exact b175_42 L xs m d k (n + 0) a1 g9 r10
theorem q175 (L : Nat) (xs : Nat → Int32) (m d : Nat) (a1 : Int32) (g : a2_G) (r : a2_A) : ev L xs (m + 1) (d + 1) 175 [.ref 9, .int a1] g r = (fn_v (ev L xs (m + 1) d 167 [.ref 9, .int (g 941), .int 2] g r) fun v3 g1 r2 => (if am_c2 .ne v3 0 = true then (B175_37 L xs (m + 1) d m a1 g1 r2) else (fn_v (ev L xs (m + 1) d 167 [.ref 9, .int (g1 941), .int 3] g1 r2) fun v8 g6 r7 => (if am_c2 .ne v8 0 = true then (B175_37 L xs (m + 1) d m a1 g6 r7) else (fn_v (ev L xs (m + 1) d 165 [.ref 9, .int 1, .int (g6 941)] g6 r7) fun v11 g9 r10 => (B175_42 L xs (m + 1) d m a1 g9 r10)))))) := (fs_ev (M := nm_m175) rfl rfl).trans (e175 L xs (m + 1) d m 880 a1 g r)
/-- CobolParserModel.operandOf(I)V -/
def B176_15 (L : Nat) (xs : Nat → Int32) (m d k : Nat) (x1 x2 : Int32) (g : a2_G) (r : a2_A) : Option fn_Z := (some (.inl none, g, r))
theorem b176_15 (L : Nat) (xs : Nat → Int32) (m d k : Nat) (n : Nat) (x1 x2 : Int32) (g : a2_G) (r : a2_A) : bk L xs 176 nm_m176 m d k (n + 1) 15 [some (.ref 9), some (.int x1), some (.int x2)] [] g r = B176_15 L xs m d k x1 x2 g r := by
  show _ = ((some (.inl none, g, r)) : Option fn_Z)
  exact (fs_rv (n := n + 0) rfl rfl).trans rfl
theorem e176 (L : Nat) (xs : Nat → Int32) (m d k : Nat) (n : Nat) (a1 : Int32) (g : a2_G) (r : a2_A) : bk L xs 176 nm_m176 m d k (n + 10) 0 [some (.ref 9), some (.int a1), none] [] g r = (fn_v (ev L xs m d 177 [.ref 9] g r) fun v3 g1 r2 => (if am_c2 .le v3 0 = true then (B176_15 L xs m d k a1 v3 g1 r2) else (fn_n (ev L xs m d 174 [.ref 9, .int a1, .int v3] g1 r2) fun g4 r5 => (B176_15 L xs m d k a1 v3 g4 r5)))) := by
  refine (fs_r (n := n + 9) 1 (pc' := 1) (L' := [some (.ref 9), some (.int a1), none]) (S' := [.ref 9]) rfl).trans ?_
  refine (fs_cv (n := n + 8) (N := nm_m177) (as := [.ref 9]) (rest := []) rfl rfl (Or.inl rfl) rfl rfl rfl rfl rfl).trans (fs_fv fun v3 g1 r2 => ?_)
  refine (fs_r (n := n + 6) 2 (pc' := 6) (L' := [some (.ref 9), some (.int a1), some (.int v3)]) (S' := [.int v3]) rfl).trans ?_
  refine (fs_i (n := n + 5) rfl (t := 15) rfl (by decide)).trans (fs_ite ?_ ?_)
  · skip
    exact b176_15 L xs m d k (n + 4) a1 v3 g1 r2
  · skip
    refine (fs_r (n := n + 2) 3 (pc' := 12) (L' := [some (.ref 9), some (.int a1), some (.int v3)]) (S' := [.int v3, .int a1, .ref 9]) rfl).trans ?_
    refine (fs_cn (n := n + 1) (N := nm_m174) (as := [.ref 9, .int a1, .int v3]) (rest := []) rfl rfl (Or.inl rfl) rfl rfl rfl rfl rfl).trans (fs_fn fun g4 r5 => ?_)
    exact b176_15 L xs m d k (n + 0) a1 v3 g4 r5
theorem q176 (L : Nat) (xs : Nat → Int32) (m d : Nat) (a1 : Int32) (g : a2_G) (r : a2_A) : ev L xs (m + 1) (d + 1) 176 [.ref 9, .int a1] g r = (fn_v (ev L xs (m + 1) d 177 [.ref 9] g r) fun v3 g1 r2 => (if am_c2 .le v3 0 = true then (B176_15 L xs (m + 1) d m a1 v3 g1 r2) else (fn_n (ev L xs (m + 1) d 174 [.ref 9, .int a1, .int v3] g1 r2) fun g4 r5 => (B176_15 L xs (m + 1) d m a1 v3 g4 r5)))) := (fs_ev (M := nm_m176) rfl rfl).trans (e176 L xs (m + 1) d m 890 a1 g r)
/-- CobolParserModel.operand()I -/
def B177_18 (L : Nat) (xs : Nat → Int32) (m d k : Nat) (g : a2_G) (r : a2_A) : Option fn_Z := (fn_v (ev L xs m d 165 [.ref 9, .int 1, .int (g 941)] g r) fun v3 g1 r2 => (some (.inl (some (.int 0)), g1, r2)))
theorem b177_18 (L : Nat) (xs : Nat → Int32) (m d k : Nat) (n : Nat) (g : a2_G) (r : a2_A) : bk L xs 177 nm_m177 m d k (n + 8) 18 [some (.ref 9)] [] g r = B177_18 L xs m d k g r := by
  show _ = ((fn_v (ev L xs m d 165 [.ref 9, .int 1, .int (g 941)] g r) fun v3 g1 r2 => (some (.inl (some (.int 0)), g1, r2))) : Option fn_Z)
  refine (fs_r (n := n + 4) 4 (pc' := 24) (L' := [some (.ref 9)]) (S' := [.int (g 941), .int 1, .ref 9]) rfl).trans ?_
  refine (fs_cv (n := n + 3) (N := nm_m165) (as := [.ref 9, .int 1, .int (g 941)]) (rest := []) rfl rfl (Or.inl rfl) rfl rfl rfl rfl rfl).trans (fs_fv fun v3 g1 r2 => ?_)
  refine (fs_r (n := n + 1) 2 (pc' := 29) (L' := [some (.ref 9)]) (S' := [.int 0]) rfl).trans ?_
  exact (fs_ri (n := n + 0) rfl rfl).trans rfl
theorem e177 (L : Nat) (xs : Nat → Int32) (m d k : Nat) (n : Nat) (g : a2_G) (r : a2_A) : bk L xs 177 nm_m177 m d k (n + 39) 0 [some (.ref 9)] [] g r = (if am_c2 .ne (g 943) 0 = true then (B177_18 L xs m d k g r) else (fn_v (ev L xs m d 178 [.ref 9, .int (g 941)] g r) fun v6 g4 r5 => (if am_c2 .ne v6 0 = true then (if am_inr (((g4 941) + 1) - 1) (r5 902).1 = true then (if am_inr (((g4 941) + 1) - 1) (r5 903).1 = true then (fn_v (ev L xs m d 161 [.ref 9, .int 41, .int ((100000 * ((r5 902).2 ((((g4 941) + 1) - 1) : Int32).toNatClampNeg)) + ((r5 903).2 ((((g4 941) + 1) - 1) : Int32).toNatClampNeg)), .int (((g4 941) + 1) - 1)] (upd g4 941 ((g4 941) + 1)) r5) fun v9 g7 r8 => (some (.inl (some (.int v9)), g7, r8))) else none) else none) else (B177_18 L xs m d k g4 r5)))) := by
  refine (fs_r (n := n + 37) 2 (pc' := 4) (L' := [some (.ref 9)]) (S' := [.int (g 943)]) rfl).trans ?_
  refine (fs_i (n := n + 36) rfl (t := 18) rfl (by decide)).trans (fs_ite ?_ ?_)
  · skip
    exact b177_18 L xs m d k (n + 28) g r
  · skip
    refine (fs_r (n := n + 33) 3 (pc' := 12) (L' := [some (.ref 9)]) (S' := [.int (g 941), .ref 9]) rfl).trans ?_
    refine (fs_cv (n := n + 32) (N := nm_m178) (as := [.ref 9, .int (g 941)]) (rest := []) rfl rfl (Or.inl rfl) rfl rfl rfl rfl rfl).trans (fs_fv fun v6 g4 r5 => ?_)
    refine (fs_i (n := n + 31) rfl (t := 30) rfl (by decide)).trans (fs_ite ?_ ?_)
    · skip
      refine (fs_r (n := n + 26) 5 (pc' := 37) (L' := [some (.ref 9)]) (S' := [.int ((g4 941) + 1), .ref 9]) rfl).trans ?_
      refine (fs_pf (n := n + 25) (ci := 9) (j := 41) rfl rfl rfl rfl).trans ?_
      refine (fs_r (n := n + 16) 9 (pc' := 55) (L' := [some (.ref 9)]) (S' := [.int (((g4 941) + 1) - 1), .ref 10902, .int 100000, .int 41, .ref 9]) rfl).trans ?_
      refine (fs_il (n := n + 15) (k := 902) rfl rfl).trans (fs_ite ?_ rfl)
      refine (fs_r (n := n + 8) 7 (pc' := 67) (L' := [some (.ref 9)]) (S' := [.int (((g4 941) + 1) - 1), .ref 10903, .int (100000 * ((r5 902).2 ((((g4 941) + 1) - 1) : Int32).toNatClampNeg)), .int 41, .ref 9]) rfl).trans ?_
      refine (fs_il (n := n + 7) (k := 903) rfl rfl).trans (fs_ite ?_ rfl)
      refine (fs_r (n := n + 2) 5 (pc' := 75) (L' := [some (.ref 9)]) (S' := [.int (((g4 941) + 1) - 1), .int ((100000 * ((r5 902).2 ((((g4 941) + 1) - 1) : Int32).toNatClampNeg)) + ((r5 903).2 ((((g4 941) + 1) - 1) : Int32).toNatClampNeg)), .int 41, .ref 9]) rfl).trans ?_
      refine (fs_cv (n := n + 1) (N := nm_m161) (as := [.ref 9, .int 41, .int ((100000 * ((r5 902).2 ((((g4 941) + 1) - 1) : Int32).toNatClampNeg)) + ((r5 903).2 ((((g4 941) + 1) - 1) : Int32).toNatClampNeg)), .int (((g4 941) + 1) - 1)]) (rest := []) rfl rfl (Or.inl rfl) rfl rfl rfl rfl rfl).trans (fs_fv fun v9 g7 r8 => ?_)
      exact (fs_ri (n := n + 0) rfl rfl).trans rfl
    · skip
      exact b177_18 L xs m d k (n + 23) g4 r5
theorem q177 (L : Nat) (xs : Nat → Int32) (m d : Nat) (g : a2_G) (r : a2_A) : ev L xs (m + 1) (d + 1) 177 [.ref 9] g r = (if am_c2 .ne (g 943) 0 = true then (B177_18 L xs (m + 1) d m g r) else (fn_v (ev L xs (m + 1) d 178 [.ref 9, .int (g 941)] g r) fun v6 g4 r5 => (if am_c2 .ne v6 0 = true then (if am_inr (((g4 941) + 1) - 1) (r5 902).1 = true then (if am_inr (((g4 941) + 1) - 1) (r5 903).1 = true then (fn_v (ev L xs (m + 1) d 161 [.ref 9, .int 41, .int ((100000 * ((r5 902).2 ((((g4 941) + 1) - 1) : Int32).toNatClampNeg)) + ((r5 903).2 ((((g4 941) + 1) - 1) : Int32).toNatClampNeg)), .int (((g4 941) + 1) - 1)] (upd g4 941 ((g4 941) + 1)) r5) fun v9 g7 r8 => (some (.inl (some (.int v9)), g7, r8))) else none) else none) else (B177_18 L xs (m + 1) d m g4 r5)))) := (fs_ev (M := nm_m177) rfl rfl).trans (e177 L xs (m + 1) d m 861 g r)
/-- CobolParserModel.isOperand(I)Z -/
def B178_32 (L : Nat) (xs : Nat → Int32) (m d k : Nat) (x1 x2 : Int32) (g : a2_G) (r : a2_A) : Option fn_Z := (if x2 = 0 ∨ x2 = 1 then some (.inl (some (.int x2)), g, r) else none)
theorem b178_32 (L : Nat) (xs : Nat → Int32) (m d k : Nat) (n : Nat) (x1 x2 : Int32) (g : a2_G) (r : a2_A) : bk L xs 178 nm_m178 m d k (n + 1) 32 [some (.ref 9), some (.int x1)] [.int x2] g r = B178_32 L xs m d k x1 x2 g r := by
  show _ = ((if x2 = 0 ∨ x2 = 1 then some (.inl (some (.int x2)), g, r) else none) : Option fn_Z)
  exact (fs_rb (n := n + 0) rfl rfl).trans rfl
def B178_27 (L : Nat) (xs : Nat → Int32) (m d k : Nat) (x1 : Int32) (g : a2_G) (r : a2_A) : Option fn_Z := (B178_32 L xs m d k x1 1 g r)
theorem b178_27 (L : Nat) (xs : Nat → Int32) (m d k : Nat) (n : Nat) (x1 : Int32) (g : a2_G) (r : a2_A) : bk L xs 178 nm_m178 m d k (n + 3) 27 [some (.ref 9), some (.int x1)] [] g r = B178_27 L xs m d k x1 g r := by
  show _ = ((B178_32 L xs m d k x1 1 g r) : Option fn_Z)
  refine (fs_r (n := n + 2) 1 (pc' := 28) (L' := [some (.ref 9), some (.int x1)]) (S' := [.int 1]) rfl).trans ?_
  refine (fs_go (n := n + 1) rfl (t := 32) rfl (by decide)).trans ?_
  exact b178_32 L xs m d k (n + 0) x1 1 g r
theorem e178 (L : Nat) (xs : Nat → Int32) (m d k : Nat) (n : Nat) (a1 : Int32) (g : a2_G) (r : a2_A) : bk L xs 178 nm_m178 m d k (n + 18) 0 [some (.ref 9), some (.int a1)] [] g r = (fn_v (ev L xs m d 167 [.ref 9, .int a1, .int 1] g r) fun v3 g1 r2 => (if am_c2 .ne v3 0 = true then (B178_27 L xs m d k a1 g1 r2) else (fn_v (ev L xs m d 167 [.ref 9, .int a1, .int 2] g1 r2) fun v6 g4 r5 => (if am_c2 .ne v6 0 = true then (B178_27 L xs m d k a1 g4 r5) else (fn_v (ev L xs m d 167 [.ref 9, .int a1, .int 3] g4 r5) fun v9 g7 r8 => (if am_c2 .eq v9 0 = true then (B178_32 L xs m d k a1 0 g7 r8) else (B178_27 L xs m d k a1 g7 r8))))))) := by
  refine (fs_r (n := n + 15) 3 (pc' := 3) (L' := [some (.ref 9), some (.int a1)]) (S' := [.int 1, .int a1, .ref 9]) rfl).trans ?_
  refine (fs_cv (n := n + 14) (N := nm_m167) (as := [.ref 9, .int a1, .int 1]) (rest := []) rfl rfl (Or.inl rfl) rfl rfl rfl rfl rfl).trans (fs_fv fun v3 g1 r2 => ?_)
  refine (fs_i (n := n + 13) rfl (t := 27) rfl (by decide)).trans (fs_ite ?_ ?_)
  · skip
    exact b178_27 L xs m d k (n + 10) a1 g1 r2
  · skip
    refine (fs_r (n := n + 10) 3 (pc' := 12) (L' := [some (.ref 9), some (.int a1)]) (S' := [.int 2, .int a1, .ref 9]) rfl).trans ?_
    refine (fs_cv (n := n + 9) (N := nm_m167) (as := [.ref 9, .int a1, .int 2]) (rest := []) rfl rfl (Or.inl rfl) rfl rfl rfl rfl rfl).trans (fs_fv fun v6 g4 r5 => ?_)
    refine (fs_i (n := n + 8) rfl (t := 27) rfl (by decide)).trans (fs_ite ?_ ?_)
    · skip
      exact b178_27 L xs m d k (n + 5) a1 g4 r5
    · skip
      refine (fs_r (n := n + 5) 3 (pc' := 21) (L' := [some (.ref 9), some (.int a1)]) (S' := [.int 3, .int a1, .ref 9]) rfl).trans ?_
      refine (fs_cv (n := n + 4) (N := nm_m167) (as := [.ref 9, .int a1, .int 3]) (rest := []) rfl rfl (Or.inl rfl) rfl rfl rfl rfl rfl).trans (fs_fv fun v9 g7 r8 => ?_)
      refine (fs_i (n := n + 3) rfl (t := 31) rfl (by decide)).trans (fs_ite ?_ ?_)
      · skip
        refine (fs_r (n := n + 2) 1 (pc' := 32) (L' := [some (.ref 9), some (.int a1)]) (S' := [.int 0]) rfl).trans ?_
        exact b178_32 L xs m d k (n + 1) a1 0 g7 r8
      · skip
        exact b178_27 L xs m d k (n + 0) a1 g7 r8
theorem q178 (L : Nat) (xs : Nat → Int32) (m d : Nat) (a1 : Int32) (g : a2_G) (r : a2_A) : ev L xs (m + 1) (d + 1) 178 [.ref 9, .int a1] g r = (fn_v (ev L xs (m + 1) d 167 [.ref 9, .int a1, .int 1] g r) fun v3 g1 r2 => (if am_c2 .ne v3 0 = true then (B178_27 L xs (m + 1) d m a1 g1 r2) else (fn_v (ev L xs (m + 1) d 167 [.ref 9, .int a1, .int 2] g1 r2) fun v6 g4 r5 => (if am_c2 .ne v6 0 = true then (B178_27 L xs (m + 1) d m a1 g4 r5) else (fn_v (ev L xs (m + 1) d 167 [.ref 9, .int a1, .int 3] g4 r5) fun v9 g7 r8 => (if am_c2 .eq v9 0 = true then (B178_32 L xs (m + 1) d m a1 0 g7 r8) else (B178_27 L xs (m + 1) d m a1 g7 r8))))))) := (fs_ev (M := nm_m178) rfl rfl).trans (e178 L xs (m + 1) d m 882 a1 g r)
/-- CobolParserModel.occurs(II)V -/
def B179_93 (L : Nat) (xs : Nat → Int32) (m d k : Nat) (x1 x2 x3 x4 : Int32) (g : a2_G) (r : a2_A) : Option fn_Z := (some (.inl none, g, r))
theorem b179_93 (L : Nat) (xs : Nat → Int32) (m d k : Nat) (n : Nat) (x1 x2 x3 x4 : Int32) (g : a2_G) (r : a2_A) : bk L xs 179 nm_m179 m d k (n + 1) 93 [some (.ref 9), some (.int x1), some (.int x2), some (.int x3), some (.int x4)] [] g r = B179_93 L xs m d k x1 x2 x3 x4 g r := by
  show _ = ((some (.inl none, g, r)) : Option fn_Z)
  exact (fs_rv (n := n + 0) rfl rfl).trans rfl
def B179_69 (L : Nat) (xs : Nat → Int32) (m d k : Nat) (x1 x2 x3 x4 : Int32) (g : a2_G) (r : a2_A) : Option fn_Z := (fn_v (ev L xs m d 170 [.ref 9, .int 10] g r) fun v20 g18 r19 => (if am_c2 .eq v20 0 = true then (B179_93 L xs m d k x1 x2 x3 x4 g18 r19) else (fn_v (ev L xs m d 170 [.ref 9, .int 25] g18 r19) fun v23 g21 r22 => (fn_n (ev L xs m d 180 [.ref 9, .int x3, .int 17] g21 r22) fun g24 r25 => (B179_93 L xs m d k x1 x2 x3 v23 g24 r25)))))
theorem b179_69 (L : Nat) (xs : Nat → Int32) (m d k : Nat) (n : Nat) (x1 x2 x3 x4 : Int32) (g : a2_G) (r : a2_A) : bk L xs 179 nm_m179 m d k (n + 13) 69 [some (.ref 9), some (.int x1), some (.int x2), some (.int x3), some (.int x4)] [] g r = B179_69 L xs m d k x1 x2 x3 x4 g r := by
  show _ = ((fn_v (ev L xs m d 170 [.ref 9, .int 10] g r) fun v20 g18 r19 => (if am_c2 .eq v20 0 = true then (B179_93 L xs m d k x1 x2 x3 x4 g18 r19) else (fn_v (ev L xs m d 170 [.ref 9, .int 25] g18 r19) fun v23 g21 r22 => (fn_n (ev L xs m d 180 [.ref 9, .int x3, .int 17] g21 r22) fun g24 r25 => (B179_93 L xs m d k x1 x2 x3 v23 g24 r25))))) : Option fn_Z)
  refine (fs_r (n := n + 11) 2 (pc' := 72) (L' := [some (.ref 9), some (.int x1), some (.int x2), some (.int x3), some (.int x4)]) (S' := [.int 10, .ref 9]) rfl).trans ?_
  refine (fs_cv (n := n + 10) (N := nm_m170) (as := [.ref 9, .int 10]) (rest := []) rfl rfl (Or.inl rfl) rfl rfl rfl rfl rfl).trans (fs_fv fun v20 g18 r19 => ?_)
  refine (fs_i (n := n + 9) rfl (t := 93) rfl (by decide)).trans (fs_ite ?_ ?_)
  · skip
    exact b179_93 L xs m d k (n + 8) x1 x2 x3 x4 g18 r19
  · skip
    refine (fs_r (n := n + 7) 2 (pc' := 81) (L' := [some (.ref 9), some (.int x1), some (.int x2), some (.int x3), some (.int x4)]) (S' := [.int 25, .ref 9]) rfl).trans ?_
    refine (fs_cv (n := n + 6) (N := nm_m170) (as := [.ref 9, .int 25]) (rest := []) rfl rfl (Or.inl rfl) rfl rfl rfl rfl rfl).trans (fs_fv fun v23 g21 r22 => ?_)
    refine (fs_r (n := n + 2) 4 (pc' := 90) (L' := [some (.ref 9), some (.int x1), some (.int x2), some (.int x3), some (.int v23)]) (S' := [.int 17, .int x3, .ref 9]) rfl).trans ?_
    refine (fs_cn (n := n + 1) (N := nm_m180) (as := [.ref 9, .int x3, .int 17]) (rest := []) rfl rfl (Or.inl rfl) rfl rfl rfl rfl rfl).trans (fs_fn fun g24 r25 => ?_)
    exact b179_93 L xs m d k (n + 0) x1 x2 x3 v23 g24 r25
theorem e179 (L : Nat) (xs : Nat → Int32) (m d k : Nat) (n : Nat) (a1 a2 : Int32) (g : a2_G) (r : a2_A) : bk L xs 179 nm_m179 m d k (n + 50) 0 [some (.ref 9), some (.int a1), some (.int a2), none, none] [] g r = (fn_v (ev L xs m d 171 [.ref 9, .int 2] g r) fun v3 g1 r2 => (if am_c2 .ne v3 0 = true then (fn_v (ev L xs m d 172 [.ref 9] g1 r2) fun v6 g4 r5 => (fn_v (ev L xs m d 161 [.ref 9, .int 15, .int v6, .int a2] g4 r5) fun v9 g7 r8 => (fn_n (ev L xs m d 174 [.ref 9, .int a1, .int v9] g7 r8) fun g10 r11 => (fn_v (ev L xs m d 170 [.ref 9, .int 23] g10 r11) fun v14 g12 r13 => (fn_v (ev L xs m d 170 [.ref 9, .int 24] g12 r13) fun v17 g15 r16 => (if am_c2 .eq v17 0 = true then (B179_69 L xs m d k a1 a2 v9 v14 g15 r16) else (fn_v (ev L xs m d 171 [.ref 9, .int 1] g15 r16) fun v28 g26 r27 => (if am_c2 .eq v28 0 = true then (B179_69 L xs m d k a1 a2 v9 v14 g26 r27) else (fn_v (ev L xs m d 172 [.ref 9] g26 r27) fun v31 g29 r30 => (fn_n (ev L xs m d 173 [.ref 9, .int v9, .int 16, .int v31, .int ((g29 941) - 1)] g29 r30) fun g32 r33 => (B179_69 L xs m d k a1 a2 v9 v14 g32 r33))))))))))) else (some (.inl none, g1, r2)))) := by
  refine (fs_r (n := n + 48) 2 (pc' := 2) (L' := [some (.ref 9), some (.int a1), some (.int a2), none, none]) (S' := [.int 2, .ref 9]) rfl).trans ?_
  refine (fs_cv (n := n + 47) (N := nm_m171) (as := [.ref 9, .int 2]) (rest := []) rfl rfl (Or.inl rfl) rfl rfl rfl rfl rfl).trans (fs_fv fun v3 g1 r2 => ?_)
  refine (fs_i (n := n + 46) rfl (t := 9) rfl (by decide)).trans (fs_ite ?_ ?_)
  · skip
    refine (fs_r (n := n + 43) 3 (pc' := 13) (L' := [some (.ref 9), some (.int a1), some (.int a2), none, none]) (S' := [.ref 9, .int 15, .ref 9]) rfl).trans ?_
    refine (fs_cv (n := n + 42) (N := nm_m172) (as := [.ref 9]) (rest := [.int 15, .ref 9]) rfl rfl (Or.inl rfl) rfl rfl rfl rfl rfl).trans (fs_fv fun v6 g4 r5 => ?_)
    refine (fs_r (n := n + 41) 1 (pc' := 17) (L' := [some (.ref 9), some (.int a1), some (.int a2), none, none]) (S' := [.int a2, .int v6, .int 15, .ref 9]) rfl).trans ?_
    refine (fs_cv (n := n + 40) (N := nm_m161) (as := [.ref 9, .int 15, .int v6, .int a2]) (rest := []) rfl rfl (Or.inl rfl) rfl rfl rfl rfl rfl).trans (fs_fv fun v9 g7 r8 => ?_)
    refine (fs_r (n := n + 36) 4 (pc' := 24) (L' := [some (.ref 9), some (.int a1), some (.int a2), some (.int v9), none]) (S' := [.int v9, .int a1, .ref 9]) rfl).trans ?_
    refine (fs_cn (n := n + 35) (N := nm_m174) (as := [.ref 9, .int a1, .int v9]) (rest := []) rfl rfl (Or.inl rfl) rfl rfl rfl rfl rfl).trans (fs_fn fun g10 r11 => ?_)
    refine (fs_r (n := n + 33) 2 (pc' := 30) (L' := [some (.ref 9), some (.int a1), some (.int a2), some (.int v9), none]) (S' := [.int 23, .ref 9]) rfl).trans ?_
    refine (fs_cv (n := n + 32) (N := nm_m170) (as := [.ref 9, .int 23]) (rest := []) rfl rfl (Or.inl rfl) rfl rfl rfl rfl rfl).trans (fs_fv fun v14 g12 r13 => ?_)
    refine (fs_r (n := n + 29) 3 (pc' := 38) (L' := [some (.ref 9), some (.int a1), some (.int a2), some (.int v9), some (.int v14)]) (S' := [.int 24, .ref 9]) rfl).trans ?_
    refine (fs_cv (n := n + 28) (N := nm_m170) (as := [.ref 9, .int 24]) (rest := []) rfl rfl (Or.inl rfl) rfl rfl rfl rfl rfl).trans (fs_fv fun v17 g15 r16 => ?_)
    refine (fs_i (n := n + 27) rfl (t := 69) rfl (by decide)).trans (fs_ite ?_ ?_)
    · skip
      exact b179_69 L xs m d k (n + 14) a1 a2 v9 v14 g15 r16
    · skip
      refine (fs_r (n := n + 25) 2 (pc' := 46) (L' := [some (.ref 9), some (.int a1), some (.int a2), some (.int v9), some (.int v14)]) (S' := [.int 1, .ref 9]) rfl).trans ?_
      refine (fs_cv (n := n + 24) (N := nm_m171) (as := [.ref 9, .int 1]) (rest := []) rfl rfl (Or.inl rfl) rfl rfl rfl rfl rfl).trans (fs_fv fun v28 g26 r27 => ?_)
      refine (fs_i (n := n + 23) rfl (t := 69) rfl (by decide)).trans (fs_ite ?_ ?_)
      · skip
        exact b179_69 L xs m d k (n + 10) a1 a2 v9 v14 g26 r27
      · skip
        refine (fs_r (n := n + 19) 4 (pc' := 57) (L' := [some (.ref 9), some (.int a1), some (.int a2), some (.int v9), some (.int v14)]) (S' := [.ref 9, .int 16, .int v9, .ref 9]) rfl).trans ?_
        refine (fs_cv (n := n + 18) (N := nm_m172) (as := [.ref 9]) (rest := [.int 16, .int v9, .ref 9]) rfl rfl (Or.inl rfl) rfl rfl rfl rfl rfl).trans (fs_fv fun v31 g29 r30 => ?_)
        refine (fs_r (n := n + 14) 4 (pc' := 66) (L' := [some (.ref 9), some (.int a1), some (.int a2), some (.int v9), some (.int v14)]) (S' := [.int ((g29 941) - 1), .int v31, .int 16, .int v9, .ref 9]) rfl).trans ?_
        refine (fs_cn (n := n + 13) (N := nm_m173) (as := [.ref 9, .int v9, .int 16, .int v31, .int ((g29 941) - 1)]) (rest := []) rfl rfl (Or.inl rfl) rfl rfl rfl rfl rfl).trans (fs_fn fun g32 r33 => ?_)
        exact b179_69 L xs m d k (n + 0) a1 a2 v9 v14 g32 r33
  · skip
    exact (fs_rv (n := n + 45) rfl rfl).trans rfl
theorem q179 (L : Nat) (xs : Nat → Int32) (m d : Nat) (a1 a2 : Int32) (g : a2_G) (r : a2_A) : ev L xs (m + 1) (d + 1) 179 [.ref 9, .int a1, .int a2] g r = (fn_v (ev L xs (m + 1) d 171 [.ref 9, .int 2] g r) fun v3 g1 r2 => (if am_c2 .ne v3 0 = true then (fn_v (ev L xs (m + 1) d 172 [.ref 9] g1 r2) fun v6 g4 r5 => (fn_v (ev L xs (m + 1) d 161 [.ref 9, .int 15, .int v6, .int a2] g4 r5) fun v9 g7 r8 => (fn_n (ev L xs (m + 1) d 174 [.ref 9, .int a1, .int v9] g7 r8) fun g10 r11 => (fn_v (ev L xs (m + 1) d 170 [.ref 9, .int 23] g10 r11) fun v14 g12 r13 => (fn_v (ev L xs (m + 1) d 170 [.ref 9, .int 24] g12 r13) fun v17 g15 r16 => (if am_c2 .eq v17 0 = true then (B179_69 L xs (m + 1) d m a1 a2 v9 v14 g15 r16) else (fn_v (ev L xs (m + 1) d 171 [.ref 9, .int 1] g15 r16) fun v28 g26 r27 => (if am_c2 .eq v28 0 = true then (B179_69 L xs (m + 1) d m a1 a2 v9 v14 g26 r27) else (fn_v (ev L xs (m + 1) d 172 [.ref 9] g26 r27) fun v31 g29 r30 => (fn_n (ev L xs (m + 1) d 173 [.ref 9, .int v9, .int 16, .int v31, .int ((g29 941) - 1)] g29 r30) fun g32 r33 => (B179_69 L xs (m + 1) d m a1 a2 v9 v14 g32 r33))))))))))) else (some (.inl none, g1, r2)))) := (fs_ev (M := nm_m179) rfl rfl).trans (e179 L xs (m + 1) d m 850 a1 a2 g r)
/-- CobolParserModel.names(II)V -/
def B180_66 (L : Nat) (xs : Nat → Int32) (m d k : Nat) (x1 x2 x3 x4 x5 : Int32) (g : a2_G) (r : a2_A) : Option fn_Z := (lp L xs 180 nm_m180 m d k 6 [some (.ref 9), some (.int x1), some (.int x2), some (.int x3)] (upd g 941 (x5 + x4)) r)
theorem b180_66 (L : Nat) (xs : Nat → Int32) (m d k : Nat) (n : Nat) (x1 x2 x3 x4 x5 : Int32) (g : a2_G) (r : a2_A) : bk L xs 180 nm_m180 m d k (n + 3) 66 [some (.ref 9), some (.int x1), some (.int x2), some (.int x3)] [.int x4, .int x5, .ref 9] g r = B180_66 L xs m d k x1 x2 x3 x4 x5 g r := by
  show _ = ((lp L xs 180 nm_m180 m d k 6 [some (.ref 9), some (.int x1), some (.int x2), some (.int x3)] (upd g 941 (x5 + x4)) r) : Option fn_Z)
  refine (fs_r (n := n + 2) 1 (pc' := 67) (L' := [some (.ref 9), some (.int x1), some (.int x2), some (.int x3)]) (S' := [.int (x5 + x4), .ref 9]) rfl).trans ?_
  refine (fs_pf (n := n + 1) (ci := 9) (j := 41) rfl rfl rfl rfl).trans ?_
  exact (fs_gb (n := n + 0) rfl (t := 6) rfl (by decide)).trans rfl
def B180_33 (L : Nat) (xs : Nat → Int32) (m d k : Nat) (x1 x2 x3 x4 x5 x6 : Int32) (g : a2_G) (r : a2_A) : Option fn_Z := (fn_n (ev L xs m d 173 [.ref 9, .int x6, .int x5, .int x4, .int ((g 941) - 1)] g r) fun g7 r8 => (fn_v (ev L xs m d 167 [.ref 9, .int (g7 941), .int 1] g7 r8) fun v11 g9 r10 => (if am_c2 .eq v11 0 = true then (B180_66 L xs m d k x1 x2 v11 0 (g9 941) g9 r10) else (B180_66 L xs m d k x1 x2 v11 1 (g9 941) g9 r10))))
theorem b180_33 (L : Nat) (xs : Nat → Int32) (m d k : Nat) (n : Nat) (x1 x2 x3 x4 x5 x6 : Int32) (g : a2_G) (r : a2_A) : bk L xs 180 nm_m180 m d k (n + 21) 33 [some (.ref 9), some (.int x1), some (.int x2), some (.int x3)] [.int x4, .int x5, .int x6, .ref 9] g r = B180_33 L xs m d k x1 x2 x3 x4 x5 x6 g r := by
  show _ = ((fn_n (ev L xs m d 173 [.ref 9, .int x6, .int x5, .int x4, .int ((g 941) - 1)] g r) fun g7 r8 => (fn_v (ev L xs m d 167 [.ref 9, .int (g7 941), .int 1] g7 r8) fun v11 g9 r10 => (if am_c2 .eq v11 0 = true then (B180_66 L xs m d k x1 x2 v11 0 (g9 941) g9 r10) else (B180_66 L xs m d k x1 x2 v11 1 (g9 941) g9 r10)))) : Option fn_Z)
  refine (fs_r (n := n + 17) 4 (pc' := 39) (L' := [some (.ref 9), some (.int x1), some (.int x2), some (.int x3)]) (S' := [.int ((g 941) - 1), .int x4, .int x5, .int x6, .ref 9]) rfl).trans ?_
  refine (fs_cn (n := n + 16) (N := nm_m173) (as := [.ref 9, .int x6, .int x5, .int x4, .int ((g 941) - 1)]) (rest := []) rfl rfl (Or.inl rfl) rfl rfl rfl rfl rfl).trans (fs_fn fun g7 r8 => ?_)
  refine (fs_r (n := n + 12) 4 (pc' := 48) (L' := [some (.ref 9), some (.int x1), some (.int x2), some (.int x3)]) (S' := [.int 1, .int (g7 941), .ref 9]) rfl).trans ?_
  refine (fs_cv (n := n + 11) (N := nm_m167) (as := [.ref 9, .int (g7 941), .int 1]) (rest := []) rfl rfl (Or.inl rfl) rfl rfl rfl rfl rfl).trans (fs_fv fun v11 g9 r10 => ?_)
  refine (fs_r (n := n + 6) 5 (pc' := 58) (L' := [some (.ref 9), some (.int x1), some (.int x2), some (.int v11)]) (S' := [.int v11, .int (g9 941), .ref 9]) rfl).trans ?_
  refine (fs_i (n := n + 5) rfl (t := 65) rfl (by decide)).trans (fs_ite ?_ ?_)
  · skip
    refine (fs_r (n := n + 4) 1 (pc' := 66) (L' := [some (.ref 9), some (.int x1), some (.int x2), some (.int v11)]) (S' := [.int 0, .int (g9 941), .ref 9]) rfl).trans ?_
    exact b180_66 L xs m d k (n + 1) x1 x2 v11 0 (g9 941) g9 r10
  · skip
    refine (fs_r (n := n + 4) 1 (pc' := 62) (L' := [some (.ref 9), some (.int x1), some (.int x2), some (.int v11)]) (S' := [.int 1, .int (g9 941), .ref 9]) rfl).trans ?_
    refine (fs_go (n := n + 3) rfl (t := 66) rfl (by decide)).trans ?_
    exact b180_66 L xs m d k (n + 0) x1 x2 v11 1 (g9 941) g9 r10
def B180_6 (L : Nat) (xs : Nat → Int32) (m d k : Nat) (x1 x2 x3 : Int32) (g : a2_G) (r : a2_A) : Option fn_Z := (if am_c2 .eq x3 0 = true then (some (.inl none, g, r)) else (if am_c2 .ne x2 41 = true then (fn_v (ev L xs m d 172 [.ref 9] g r) fun v6 g4 r5 => (B180_33 L xs m d k x1 x2 x3 v6 x2 x1 g4 r5)) else (fn_v (ev L xs m d 172 [.ref 9] g r) fun v14 g12 r13 => (B180_33 L xs m d k x1 x2 x3 (100000 + v14) x2 x1 g12 r13))))
theorem b180_6 (L : Nat) (xs : Nat → Int32) (m d k : Nat) (n : Nat) (x1 x2 x3 : Int32) (g : a2_G) (r : a2_A) : bk L xs 180 nm_m180 m d k (n + 34) 6 [some (.ref 9), some (.int x1), some (.int x2), some (.int x3)] [] g r = B180_6 L xs m d k x1 x2 x3 g r := by
  show _ = ((if am_c2 .eq x3 0 = true then (some (.inl none, g, r)) else (if am_c2 .ne x2 41 = true then (fn_v (ev L xs m d 172 [.ref 9] g r) fun v6 g4 r5 => (B180_33 L xs m d k x1 x2 x3 v6 x2 x1 g4 r5)) else (fn_v (ev L xs m d 172 [.ref 9] g r) fun v14 g12 r13 => (B180_33 L xs m d k x1 x2 x3 (100000 + v14) x2 x1 g12 r13)))) : Option fn_Z)
  refine (fs_r (n := n + 33) 1 (pc' := 7) (L' := [some (.ref 9), some (.int x1), some (.int x2), some (.int x3)]) (S' := [.int x3]) rfl).trans ?_
  refine (fs_i (n := n + 32) rfl (t := 73) rfl (by decide)).trans (fs_ite ?_ ?_)
  · skip
    exact (fs_rv (n := n + 31) rfl rfl).trans rfl
  · skip
    refine (fs_r (n := n + 27) 5 (pc' := 16) (L' := [some (.ref 9), some (.int x1), some (.int x2), some (.int x3)]) (S' := [.int 41, .int x2, .int x2, .int x1, .ref 9]) rfl).trans ?_
    refine (fs_j (n := n + 26) rfl (t := 29) rfl (by decide)).trans (fs_ite ?_ ?_)
    · skip
      refine (fs_r (n := n + 25) 1 (pc' := 30) (L' := [some (.ref 9), some (.int x1), some (.int x2), some (.int x3)]) (S' := [.ref 9, .int x2, .int x1, .ref 9]) rfl).trans ?_
      refine (fs_cv (n := n + 24) (N := nm_m172) (as := [.ref 9]) (rest := [.int x2, .int x1, .ref 9]) rfl rfl (Or.inl rfl) rfl rfl rfl rfl rfl).trans (fs_fv fun v6 g4 r5 => ?_)
      exact b180_33 L xs m d k (n + 3) x1 x2 x3 v6 x2 x1 g4 r5
    · skip
      refine (fs_r (n := n + 24) 2 (pc' := 22) (L' := [some (.ref 9), some (.int x1), some (.int x2), some (.int x3)]) (S' := [.ref 9, .int 100000, .int x2, .int x1, .ref 9]) rfl).trans ?_
      refine (fs_cv (n := n + 23) (N := nm_m172) (as := [.ref 9]) (rest := [.int 100000, .int x2, .int x1, .ref 9]) rfl rfl (Or.inl rfl) rfl rfl rfl rfl rfl).trans (fs_fv fun v14 g12 r13 => ?_)
      refine (fs_r (n := n + 22) 1 (pc' := 26) (L' := [some (.ref 9), some (.int x1), some (.int x2), some (.int x3)]) (S' := [.int (100000 + v14), .int x2, .int x1, .ref 9]) rfl).trans ?_
      refine (fs_go (n := n + 21) rfl (t := 33) rfl (by decide)).trans ?_
      exact b180_33 L xs m d k (n + 0) x1 x2 x3 (100000 + v14) x2 x1 g12 r13
theorem l180_6 (L : Nat) (xs : Nat → Int32) (m d k : Nat) (x1 x2 x3 : Int32) (g : a2_G) (r : a2_A) : lp L xs 180 nm_m180 m d (k + 1) 6 [some (.ref 9), some (.int x1), some (.int x2), some (.int x3)] g r = B180_6 L xs m d k x1 x2 x3 g r := fs_lp.trans (b180_6 L xs m d k 866 x1 x2 x3 g r)
theorem e180 (L : Nat) (xs : Nat → Int32) (m d k : Nat) (n : Nat) (a1 a2 : Int32) (g : a2_G) (r : a2_A) : bk L xs 180 nm_m180 m d k (n + 38) 0 [some (.ref 9), some (.int a1), some (.int a2), none] [] g r = (fn_v (ev L xs m d 171 [.ref 9, .int 1] g r) fun v3 g1 r2 => (B180_6 L xs m d k a1 a2 v3 g1 r2)) := by
  refine (fs_r (n := n + 36) 2 (pc' := 2) (L' := [some (.ref 9), some (.int a1), some (.int a2), none]) (S' := [.int 1, .ref 9]) rfl).trans ?_
  refine (fs_cv (n := n + 35) (N := nm_m171) (as := [.ref 9, .int 1]) (rest := []) rfl rfl (Or.inl rfl) rfl rfl rfl rfl rfl).trans (fs_fv fun v3 g1 r2 => ?_)
  refine (fs_r (n := n + 34) 1 (pc' := 6) (L' := [some (.ref 9), some (.int a1), some (.int a2), some (.int v3)]) (S' := []) rfl).trans ?_
  exact b180_6 L xs m d k (n + 0) a1 a2 v3 g1 r2
theorem q180 (L : Nat) (xs : Nat → Int32) (m d : Nat) (a1 a2 : Int32) (g : a2_G) (r : a2_A) : ev L xs (m + 1) (d + 1) 180 [.ref 9, .int a1, .int a2] g r = (fn_v (ev L xs (m + 1) d 171 [.ref 9, .int 1] g r) fun v3 g1 r2 => (B180_6 L xs (m + 1) d m a1 a2 v3 g1 r2)) := (fs_ev (M := nm_m180) rfl rfl).trans (e180 L xs (m + 1) d m 862 a1 a2 g r)
/-- CobolParserModel.named(I)V -/
def B181_216 (L : Nat) (xs : Nat → Int32) (m d k : Nat) (x1 x2 x3 x4 : Int32) (g : a2_G) (r : a2_A) : Option fn_Z := (some (.inl none, g, r))
theorem b181_216 (L : Nat) (xs : Nat → Int32) (m d k : Nat) (n : Nat) (x1 x2 x3 x4 : Int32) (g : a2_G) (r : a2_A) : bk L xs 181 nm_m181 m d k (n + 1) 216 [some (.ref 9), some (.int x1), some (.int x2), some (.int x3), some (.int x4)] [] g r = B181_216 L xs m d k x1 x2 x3 x4 g r := by
  show _ = ((some (.inl none, g, r)) : Option fn_Z)
  exact (fs_rv (n := n + 0) rfl rfl).trans rfl
def B181_201 (L : Nat) (xs : Nat → Int32) (m d k : Nat) (x1 x2 x3 x4 x5 : Int32) (g : a2_G) (r : a2_A) : Option fn_Z := (if am_c2 .eq x1 9 = true then (B181_216 L xs m d k x1 x2 x3 x4 (upd g 936 x5) r) else (fn_n (ev L xs m d 183 [.ref 9, .int 11] (upd g 936 x5) r) fun g12 r13 => (B181_216 L xs m d k x1 x2 x3 x4 g12 r13)))
theorem b181_201 (L : Nat) (xs : Nat → Int32) (m d k : Nat) (n : Nat) (x1 x2 x3 x4 x5 : Int32) (g : a2_G) (r : a2_A) : bk L xs 181 nm_m181 m d k (n + 8) 201 [some (.ref 9), some (.int x1), some (.int x2), some (.int x3), some (.int x4)] [.int x5, .ref 9] g r = B181_201 L xs m d k x1 x2 x3 x4 x5 g r := by
  show _ = ((if am_c2 .eq x1 9 = true then (B181_216 L xs m d k x1 x2 x3 x4 (upd g 936 x5) r) else (fn_n (ev L xs m d 183 [.ref 9, .int 11] (upd g 936 x5) r) fun g12 r13 => (B181_216 L xs m d k x1 x2 x3 x4 g12 r13))) : Option fn_Z)
  refine (fs_pf (n := n + 7) (ci := 9) (j := 36) rfl rfl rfl rfl).trans ?_
  refine (fs_r (n := n + 5) 2 (pc' := 207) (L' := [some (.ref 9), some (.int x1), some (.int x2), some (.int x3), some (.int x4)]) (S' := [.int 9, .int x1]) rfl).trans ?_
  refine (fs_j (n := n + 4) rfl (t := 216) rfl (by decide)).trans (fs_ite ?_ ?_)
  · skip
    exact b181_216 L xs m d k (n + 3) x1 x2 x3 x4 (upd g 936 x5) r
  · skip
    refine (fs_r (n := n + 2) 2 (pc' := 213) (L' := [some (.ref 9), some (.int x1), some (.int x2), some (.int x3), some (.int x4)]) (S' := [.int 11, .ref 9]) rfl).trans ?_
    refine (fs_cn (n := n + 1) (N := nm_m183) (as := [.ref 9, .int 11]) (rest := []) rfl rfl (Or.inl rfl) rfl rfl rfl rfl rfl).trans (fs_fn fun g12 r13 => ?_)
    exact b181_216 L xs m d k (n + 0) x1 x2 x3 x4 g12 r13
def B181_187 (L : Nat) (xs : Nat → Int32) (m d k : Nat) (x1 x2 x3 x4 x5 : Int32) (g : a2_G) (r : a2_A) : Option fn_Z := (if am_c2 .eq x3 0 = true then (B181_201 L xs m d k x1 x2 x3 x4 x4 (upd g 935 x5) r) else (B181_201 L xs m d k x1 x2 x3 x4 0 (upd g 935 x5) r))
theorem b181_187 (L : Nat) (xs : Nat → Int32) (m d k : Nat) (n : Nat) (x1 x2 x3 x4 x5 : Int32) (g : a2_G) (r : a2_A) : bk L xs 181 nm_m181 m d k (n + 14) 187 [some (.ref 9), some (.int x1), some (.int x2), some (.int x3), some (.int x4)] [.int x5, .ref 9] g r = B181_187 L xs m d k x1 x2 x3 x4 x5 g r := by
  show _ = ((if am_c2 .eq x3 0 = true then (B181_201 L xs m d k x1 x2 x3 x4 x4 (upd g 935 x5) r) else (B181_201 L xs m d k x1 x2 x3 x4 0 (upd g 935 x5) r)) : Option fn_Z)
  refine (fs_pf (n := n + 13) (ci := 9) (j := 35) rfl rfl rfl rfl).trans ?_
  refine (fs_r (n := n + 11) 2 (pc' := 192) (L' := [some (.ref 9), some (.int x1), some (.int x2), some (.int x3), some (.int x4)]) (S' := [.int x3, .ref 9]) rfl).trans ?_
  refine (fs_i (n := n + 10) rfl (t := 199) rfl (by decide)).trans (fs_ite ?_ ?_)
  · skip
    refine (fs_r (n := n + 9) 1 (pc' := 201) (L' := [some (.ref 9), some (.int x1), some (.int x2), some (.int x3), some (.int x4)]) (S' := [.int x4, .ref 9]) rfl).trans ?_
    exact b181_201 L xs m d k (n + 1) x1 x2 x3 x4 x4 (upd g 935 x5) r
  · skip
    refine (fs_r (n := n + 9) 1 (pc' := 196) (L' := [some (.ref 9), some (.int x1), some (.int x2), some (.int x3), some (.int x4)]) (S' := [.int 0, .ref 9]) rfl).trans ?_
    refine (fs_go (n := n + 8) rfl (t := 201) rfl (by decide)).trans ?_
    exact b181_201 L xs m d k (n + 0) x1 x2 x3 x4 0 (upd g 935 x5) r
def B181_173 (L : Nat) (xs : Nat → Int32) (m d k : Nat) (x1 x2 x3 x4 : Int32) (g : a2_G) (r : a2_A) : Option fn_Z := (if am_c2 .eq x3 0 = true then (B181_187 L xs m d k x1 x2 x3 x4 (g 935) g r) else (B181_187 L xs m d k x1 x2 x3 x4 x4 g r))
theorem b181_173 (L : Nat) (xs : Nat → Int32) (m d k : Nat) (n : Nat) (x1 x2 x3 x4 : Int32) (g : a2_G) (r : a2_A) : bk L xs 181 nm_m181 m d k (n + 19) 173 [some (.ref 9), some (.int x1), some (.int x2), some (.int x3), some (.int x4)] [] g r = B181_173 L xs m d k x1 x2 x3 x4 g r := by
  show _ = ((if am_c2 .eq x3 0 = true then (B181_187 L xs m d k x1 x2 x3 x4 (g 935) g r) else (B181_187 L xs m d k x1 x2 x3 x4 x4 g r)) : Option fn_Z)
  refine (fs_r (n := n + 17) 2 (pc' := 175) (L' := [some (.ref 9), some (.int x1), some (.int x2), some (.int x3), some (.int x4)]) (S' := [.int x3, .ref 9]) rfl).trans ?_
  refine (fs_i (n := n + 16) rfl (t := 183) rfl (by decide)).trans (fs_ite ?_ ?_)
  · skip
    refine (fs_r (n := n + 14) 2 (pc' := 187) (L' := [some (.ref 9), some (.int x1), some (.int x2), some (.int x3), some (.int x4)]) (S' := [.int (g 935), .ref 9]) rfl).trans ?_
    exact b181_187 L xs m d k (n + 0) x1 x2 x3 x4 (g 935) g r
  · skip
    refine (fs_r (n := n + 15) 1 (pc' := 180) (L' := [some (.ref 9), some (.int x1), some (.int x2), some (.int x3), some (.int x4)]) (S' := [.int x4, .ref 9]) rfl).trans ?_
    refine (fs_go (n := n + 14) rfl (t := 187) rfl (by decide)).trans ?_
    exact b181_187 L xs m d k (n + 0) x1 x2 x3 x4 x4 g r
def B181_168 (L : Nat) (xs : Nat → Int32) (m d k : Nat) (x1 x2 x3 x4 x5 : Int32) (g : a2_G) (r : a2_A) : Option fn_Z := (fn_n (ev L xs m d 174 [.ref 9, .int x5, .int x4] g r) fun g10 r11 => (B181_173 L xs m d k x1 x2 x3 x4 g10 r11))
theorem b181_168 (L : Nat) (xs : Nat → Int32) (m d k : Nat) (n : Nat) (x1 x2 x3 x4 x5 : Int32) (g : a2_G) (r : a2_A) : bk L xs 181 nm_m181 m d k (n + 21) 168 [some (.ref 9), some (.int x1), some (.int x2), some (.int x3), some (.int x4)] [.int x5, .ref 9] g r = B181_168 L xs m d k x1 x2 x3 x4 x5 g r := by
  show _ = ((fn_n (ev L xs m d 174 [.ref 9, .int x5, .int x4] g r) fun g10 r11 => (B181_173 L xs m d k x1 x2 x3 x4 g10 r11)) : Option fn_Z)
  refine (fs_r (n := n + 20) 1 (pc' := 170) (L' := [some (.ref 9), some (.int x1), some (.int x2), some (.int x3), some (.int x4)]) (S' := [.int x4, .int x5, .ref 9]) rfl).trans ?_
  refine (fs_cn (n := n + 19) (N := nm_m174) (as := [.ref 9, .int x5, .int x4]) (rest := []) rfl rfl (Or.inl rfl) rfl rfl rfl rfl rfl).trans (fs_fn fun g10 r11 => ?_)
  exact b181_173 L xs m d k (n + 0) x1 x2 x3 x4 g10 r11
def B181_136 (L : Nat) (xs : Nat → Int32) (m d k : Nat) (x1 x2 x3 x4 x5 : Int32) (g : a2_G) (r : a2_A) : Option fn_Z := (fn_n (ev L xs m d 174 [.ref 9, .int x5, .int x4] g r) fun g17 r18 => (B181_173 L xs m d k x1 x2 x3 x4 g17 r18))
theorem b181_136 (L : Nat) (xs : Nat → Int32) (m d k : Nat) (n : Nat) (x1 x2 x3 x4 x5 : Int32) (g : a2_G) (r : a2_A) : bk L xs 181 nm_m181 m d k (n + 22) 136 [some (.ref 9), some (.int x1), some (.int x2), some (.int x3), some (.int x4)] [.int x5, .ref 9] g r = B181_136 L xs m d k x1 x2 x3 x4 x5 g r := by
  show _ = ((fn_n (ev L xs m d 174 [.ref 9, .int x5, .int x4] g r) fun g17 r18 => (B181_173 L xs m d k x1 x2 x3 x4 g17 r18)) : Option fn_Z)
  refine (fs_r (n := n + 21) 1 (pc' := 138) (L' := [some (.ref 9), some (.int x1), some (.int x2), some (.int x3), some (.int x4)]) (S' := [.int x4, .int x5, .ref 9]) rfl).trans ?_
  refine (fs_cn (n := n + 20) (N := nm_m174) (as := [.ref 9, .int x5, .int x4]) (rest := []) rfl rfl (Or.inl rfl) rfl rfl rfl rfl rfl).trans (fs_fn fun g17 r18 => ?_)
  refine (fs_go (n := n + 19) rfl (t := 173) rfl (by decide)).trans ?_
  exact b181_173 L xs m d k (n + 0) x1 x2 x3 x4 g17 r18
def B181_97 (L : Nat) (xs : Nat → Int32) (m d k : Nat) (x1 x2 x3 x4 : Int32) (g : a2_G) (r : a2_A) : Option fn_Z := (if am_inr x2 (r 903).1 = true then (fn_v (ev L xs m d 161 [.ref 9, .int x4, .int ((r 903).2 (x2 : Int32).toNatClampNeg), .int x2] g r) fun v6 g4 r5 => (if am_c2 .eq x3 0 = true then (if am_c2 .le (g4 935) 0 = true then (fn_v (ev L xs m d 182 [.ref 9] g4 r5) fun v9 g7 r8 => (if am_inr v9 (r8 925).1 = true then (B181_168 L xs m d k x1 x2 x3 v6 ((r8 925).2 (v9 : Int32).toNatClampNeg) g7 r8) else none)) else (B181_168 L xs m d k x1 x2 x3 v6 (g4 935) g4 r5)) else (if am_c2 .ne x1 9 = true then (fn_v (ev L xs m d 182 [.ref 9] g4 r5) fun v16 g14 r15 => (if am_inr v16 (r15 925).1 = true then (B181_136 L xs m d k x1 x2 x3 v6 ((r15 925).2 (v16 : Int32).toNatClampNeg) g14 r15) else none)) else (B181_136 L xs m d k x1 x2 x3 v6 (g4 934) g4 r5)))) else none)
theorem b181_97 (L : Nat) (xs : Nat → Int32) (m d k : Nat) (n : Nat) (x1 x2 x3 x4 : Int32) (g : a2_G) (r : a2_A) : bk L xs 181 nm_m181 m d k (n + 40) 97 [some (.ref 9), some (.int x1), some (.int x2), some (.int x3), none] [.int x4, .ref 9] g r = B181_97 L xs m d k x1 x2 x3 x4 g r := by
  show _ = ((if am_inr x2 (r 903).1 = true then (fn_v (ev L xs m d 161 [.ref 9, .int x4, .int ((r 903).2 (x2 : Int32).toNatClampNeg), .int x2] g r) fun v6 g4 r5 => (if am_c2 .eq x3 0 = true then (if am_c2 .le (g4 935) 0 = true then (fn_v (ev L xs m d 182 [.ref 9] g4 r5) fun v9 g7 r8 => (if am_inr v9 (r8 925).1 = true then (B181_168 L xs m d k x1 x2 x3 v6 ((r8 925).2 (v9 : Int32).toNatClampNeg) g7 r8) else none)) else (B181_168 L xs m d k x1 x2 x3 v6 (g4 935) g4 r5)) else (if am_c2 .ne x1 9 = true then (fn_v (ev L xs m d 182 [.ref 9] g4 r5) fun v16 g14 r15 => (if am_inr v16 (r15 925).1 = true then (B181_136 L xs m d k x1 x2 x3 v6 ((r15 925).2 (v16 : Int32).toNatClampNeg) g14 r15) else none)) else (B181_136 L xs m d k x1 x2 x3 v6 (g4 934) g4 r5)))) else none) : Option fn_Z)
  refine (fs_r (n := n + 37) 3 (pc' := 102) (L' := [some (.ref 9), some (.int x1), some (.int x2), some (.int x3), none]) (S' := [.int x2, .ref 10903, .int x4, .ref 9]) rfl).trans ?_
  refine (fs_il (n := n + 36) (k := 903) rfl rfl).trans (fs_ite ?_ rfl)
  refine (fs_r (n := n + 35) 1 (pc' := 104) (L' := [some (.ref 9), some (.int x1), some (.int x2), some (.int x3), none]) (S' := [.int x2, .int ((r 903).2 (x2 : Int32).toNatClampNeg), .int x4, .ref 9]) rfl).trans ?_
  refine (fs_cv (n := n + 34) (N := nm_m161) (as := [.ref 9, .int x4, .int ((r 903).2 (x2 : Int32).toNatClampNeg), .int x2]) (rest := []) rfl rfl (Or.inl rfl) rfl rfl rfl rfl rfl).trans (fs_fv fun v6 g4 r5 => ?_)
  refine (fs_r (n := n + 32) 2 (pc' := 110) (L' := [some (.ref 9), some (.int x1), some (.int x2), some (.int x3), some (.int v6)]) (S' := [.int x3]) rfl).trans ?_
  refine (fs_i (n := n + 31) rfl (t := 144) rfl (by decide)).trans (fs_ite ?_ ?_)
  · skip
    refine (fs_r (n := n + 28) 3 (pc' := 149) (L' := [some (.ref 9), some (.int x1), some (.int x2), some (.int x3), some (.int v6)]) (S' := [.int (g4 935), .ref 9]) rfl).trans ?_
    refine (fs_i (n := n + 27) rfl (t := 159) rfl (by decide)).trans (fs_ite ?_ ?_)
    · skip
      refine (fs_r (n := n + 24) 3 (pc' := 164) (L' := [some (.ref 9), some (.int x1), some (.int x2), some (.int x3), some (.int v6)]) (S' := [.ref 9, .ref 10925, .ref 9]) rfl).trans ?_
      refine (fs_cv (n := n + 23) (N := nm_m182) (as := [.ref 9]) (rest := [.ref 10925, .ref 9]) rfl rfl (Or.inl rfl) rfl rfl rfl rfl rfl).trans (fs_fv fun v9 g7 r8 => ?_)
      refine (fs_il (n := n + 22) (k := 925) rfl rfl).trans (fs_ite ?_ rfl)
      exact b181_168 L xs m d k (n + 1) x1 x2 x3 v6 ((r8 925).2 (v9 : Int32).toNatClampNeg) g7 r8
    · skip
      refine (fs_r (n := n + 25) 2 (pc' := 156) (L' := [some (.ref 9), some (.int x1), some (.int x2), some (.int x3), some (.int v6)]) (S' := [.int (g4 935), .ref 9]) rfl).trans ?_
      refine (fs_go (n := n + 24) rfl (t := 168) rfl (by decide)).trans ?_
      exact b181_168 L xs m d k (n + 3) x1 x2 x3 v6 (g4 935) g4 r5
  · skip
    refine (fs_r (n := n + 28) 3 (pc' := 117) (L' := [some (.ref 9), some (.int x1), some (.int x2), some (.int x3), some (.int v6)]) (S' := [.int 9, .int x1, .ref 9]) rfl).trans ?_
    refine (fs_j (n := n + 27) rfl (t := 127) rfl (by decide)).trans (fs_ite ?_ ?_)
    · skip
      refine (fs_r (n := n + 24) 3 (pc' := 132) (L' := [some (.ref 9), some (.int x1), some (.int x2), some (.int x3), some (.int v6)]) (S' := [.ref 9, .ref 10925, .ref 9]) rfl).trans ?_
      refine (fs_cv (n := n + 23) (N := nm_m182) (as := [.ref 9]) (rest := [.ref 10925, .ref 9]) rfl rfl (Or.inl rfl) rfl rfl rfl rfl rfl).trans (fs_fv fun v16 g14 r15 => ?_)
      refine (fs_il (n := n + 22) (k := 925) rfl rfl).trans (fs_ite ?_ rfl)
      exact b181_136 L xs m d k (n + 0) x1 x2 x3 v6 ((r15 925).2 (v16 : Int32).toNatClampNeg) g14 r15
    · skip
      refine (fs_r (n := n + 25) 2 (pc' := 124) (L' := [some (.ref 9), some (.int x1), some (.int x2), some (.int x3), some (.int v6)]) (S' := [.int (g4 934), .ref 9]) rfl).trans ?_
      refine (fs_go (n := n + 24) rfl (t := 136) rfl (by decide)).trans ?_
      exact b181_136 L xs m d k (n + 2) x1 x2 x3 v6 (g4 934) g4 r5
def B181_85 (L : Nat) (xs : Nat → Int32) (m d k : Nat) (x1 x2 x3 : Int32) (g : a2_G) (r : a2_A) : Option fn_Z := (if am_c2 .eq x3 0 = true then (B181_97 L xs m d k x1 x2 x3 24 g r) else (B181_97 L xs m d k x1 x2 x3 23 g r))
theorem b181_85 (L : Nat) (xs : Nat → Int32) (m d k : Nat) (n : Nat) (x1 x2 x3 : Int32) (g : a2_G) (r : a2_A) : bk L xs 181 nm_m181 m d k (n + 45) 85 [some (.ref 9), some (.int x1), some (.int x2), some (.int x3), none] [] g r = B181_85 L xs m d k x1 x2 x3 g r := by
  show _ = ((if am_c2 .eq x3 0 = true then (B181_97 L xs m d k x1 x2 x3 24 g r) else (B181_97 L xs m d k x1 x2 x3 23 g r)) : Option fn_Z)
  refine (fs_r (n := n + 43) 2 (pc' := 87) (L' := [some (.ref 9), some (.int x1), some (.int x2), some (.int x3), none]) (S' := [.int x3, .ref 9]) rfl).trans ?_
  refine (fs_i (n := n + 42) rfl (t := 95) rfl (by decide)).trans (fs_ite ?_ ?_)
  · skip
    refine (fs_r (n := n + 41) 1 (pc' := 97) (L' := [some (.ref 9), some (.int x1), some (.int x2), some (.int x3), none]) (S' := [.int 24, .ref 9]) rfl).trans ?_
    exact b181_97 L xs m d k (n + 1) x1 x2 x3 24 g r
  · skip
    refine (fs_r (n := n + 41) 1 (pc' := 92) (L' := [some (.ref 9), some (.int x1), some (.int x2), some (.int x3), none]) (S' := [.int 23, .ref 9]) rfl).trans ?_
    refine (fs_go (n := n + 40) rfl (t := 97) rfl (by decide)).trans ?_
    exact b181_97 L xs m d k (n + 0) x1 x2 x3 23 g r
def B181_62 (L : Nat) (xs : Nat → Int32) (m d k : Nat) (x1 x2 x3 : Int32) (g : a2_G) (r : a2_A) : Option fn_Z := (if am_c2 .eq x3 0 = true then (B181_85 L xs m d k x1 x2 x3 (upd g 941 ((g 941) + 2)) r) else (fn_v (ev L xs m d 171 [.ref 9, .int 4] (upd g 941 ((g 941) + 2)) r) fun v21 g19 r20 => (if am_c2 .ne v21 0 = true then (B181_85 L xs m d k x1 x2 x3 g19 r20) else (some (.inl none, g19, r20)))))
theorem b181_62 (L : Nat) (xs : Nat → Int32) (m d k : Nat) (n : Nat) (x1 x2 x3 : Int32) (g : a2_G) (r : a2_A) : bk L xs 181 nm_m181 m d k (n + 57) 62 [some (.ref 9), some (.int x1), some (.int x2), some (.int x3), none] [] g r = B181_62 L xs m d k x1 x2 x3 g r := by
  show _ = ((if am_c2 .eq x3 0 = true then (B181_85 L xs m d k x1 x2 x3 (upd g 941 ((g 941) + 2)) r) else (fn_v (ev L xs m d 171 [.ref 9, .int 4] (upd g 941 ((g 941) + 2)) r) fun v21 g19 r20 => (if am_c2 .ne v21 0 = true then (B181_85 L xs m d k x1 x2 x3 g19 r20) else (some (.inl none, g19, r20))))) : Option fn_Z)
  refine (fs_r (n := n + 52) 5 (pc' := 69) (L' := [some (.ref 9), some (.int x1), some (.int x2), some (.int x3), none]) (S' := [.int ((g 941) + 2), .ref 9]) rfl).trans ?_
  refine (fs_pf (n := n + 51) (ci := 9) (j := 41) rfl rfl rfl rfl).trans ?_
  refine (fs_r (n := n + 50) 1 (pc' := 73) (L' := [some (.ref 9), some (.int x1), some (.int x2), some (.int x3), none]) (S' := [.int x3]) rfl).trans ?_
  refine (fs_i (n := n + 49) rfl (t := 85) rfl (by decide)).trans (fs_ite ?_ ?_)
  · skip
    exact b181_85 L xs m d k (n + 4) x1 x2 x3 (upd g 941 ((g 941) + 2)) r
  · skip
    refine (fs_r (n := n + 47) 2 (pc' := 78) (L' := [some (.ref 9), some (.int x1), some (.int x2), some (.int x3), none]) (S' := [.int 4, .ref 9]) rfl).trans ?_
    refine (fs_cv (n := n + 46) (N := nm_m171) (as := [.ref 9, .int 4]) (rest := []) rfl rfl (Or.inl rfl) rfl rfl rfl rfl rfl).trans (fs_fv fun v21 g19 r20 => ?_)
    refine (fs_i (n := n + 45) rfl (t := 85) rfl (by decide)).trans (fs_ite ?_ ?_)
    · skip
      exact b181_85 L xs m d k (n + 0) x1 x2 x3 g19 r20
    · skip
      exact (fs_rv (n := n + 44) rfl rfl).trans rfl
def B181_49 (L : Nat) (xs : Nat → Int32) (m d k : Nat) (x1 x2 x3 : Int32) (g : a2_G) (r : a2_A) : Option fn_Z := (fn_v (ev L xs m d 165 [.ref 9, .int 1, .int ((g 941) + 1)] g r) fun v27 g25 r26 => (some (.inl none, g25, r26)))
theorem b181_49 (L : Nat) (xs : Nat → Int32) (m d k : Nat) (n : Nat) (x1 x2 x3 : Int32) (g : a2_G) (r : a2_A) : bk L xs 181 nm_m181 m d k (n + 9) 49 [some (.ref 9), some (.int x1), some (.int x2), some (.int x3), none] [] g r = B181_49 L xs m d k x1 x2 x3 g r := by
  show _ = ((fn_v (ev L xs m d 165 [.ref 9, .int 1, .int ((g 941) + 1)] g r) fun v27 g25 r26 => (some (.inl none, g25, r26))) : Option fn_Z)
  refine (fs_r (n := n + 3) 6 (pc' := 57) (L' := [some (.ref 9), some (.int x1), some (.int x2), some (.int x3), none]) (S' := [.int ((g 941) + 1), .int 1, .ref 9]) rfl).trans ?_
  refine (fs_cv (n := n + 2) (N := nm_m165) (as := [.ref 9, .int 1, .int ((g 941) + 1)]) (rest := []) rfl rfl (Or.inl rfl) rfl rfl rfl rfl rfl).trans (fs_fv fun v27 g25 r26 => ?_)
  refine (fs_r (n := n + 1) 1 (pc' := 61) (L' := [some (.ref 9), some (.int x1), some (.int x2), some (.int x3), none]) (S' := []) rfl).trans ?_
  exact (fs_rv (n := n + 0) rfl rfl).trans rfl
theorem e181 (L : Nat) (xs : Nat → Int32) (m d k : Nat) (n : Nat) (a1 : Int32) (g : a2_G) (r : a2_A) : bk L xs 181 nm_m181 m d k (n + 84) 0 [some (.ref 9), some (.int a1), none, none, none] [] g r = (fn_v (ev L xs m d 168 [.ref 9, .int ((g 941) + 1), .int 16] g r) fun v3 g1 r2 => (if am_c2 .ne v3 0 = true then (B181_62 L xs m d k a1 (g 941) v3 g1 r2) else (fn_v (ev L xs m d 167 [.ref 9, .int ((g1 941) + 1), .int 4] g1 r2) fun v24 g22 r23 => (if am_c2 .eq v24 0 = true then (B181_49 L xs m d k a1 (g 941) v3 g22 r23) else (if am_c2 .ne a1 9 = true then (B181_62 L xs m d k a1 (g 941) v3 g22 r23) else (if am_c2 .gt (g22 935) 0 = true then (B181_62 L xs m d k a1 (g 941) v3 g22 r23) else (B181_49 L xs m d k a1 (g 941) v3 g22 r23))))))) := by
  refine (fs_r (n := n + 75) 9 (pc' := 14) (L' := [some (.ref 9), some (.int a1), some (.int (g 941)), none, none]) (S' := [.int 16, .int ((g 941) + 1), .ref 9]) rfl).trans ?_
  refine (fs_cv (n := n + 74) (N := nm_m168) (as := [.ref 9, .int ((g 941) + 1), .int 16]) (rest := []) rfl rfl (Or.inl rfl) rfl rfl rfl rfl rfl).trans (fs_fv fun v3 g1 r2 => ?_)
  refine (fs_r (n := n + 72) 2 (pc' := 19) (L' := [some (.ref 9), some (.int a1), some (.int (g 941)), some (.int v3), none]) (S' := [.int v3]) rfl).trans ?_
  refine (fs_i (n := n + 71) rfl (t := 62) rfl (by decide)).trans (fs_ite ?_ ?_)
  · skip
    exact b181_62 L xs m d k (n + 14) a1 (g 941) v3 g1 r2
  · skip
    refine (fs_r (n := n + 65) 6 (pc' := 30) (L' := [some (.ref 9), some (.int a1), some (.int (g 941)), some (.int v3), none]) (S' := [.int 4, .int ((g1 941) + 1), .ref 9]) rfl).trans ?_
    refine (fs_cv (n := n + 64) (N := nm_m167) (as := [.ref 9, .int ((g1 941) + 1), .int 4]) (rest := []) rfl rfl (Or.inl rfl) rfl rfl rfl rfl rfl).trans (fs_fv fun v24 g22 r23 => ?_)
    refine (fs_i (n := n + 63) rfl (t := 49) rfl (by decide)).trans (fs_ite ?_ ?_)
    · skip
      exact b181_49 L xs m d k (n + 54) a1 (g 941) v3 g22 r23
    · skip
      refine (fs_r (n := n + 61) 2 (pc' := 39) (L' := [some (.ref 9), some (.int a1), some (.int (g 941)), some (.int v3), none]) (S' := [.int 9, .int a1]) rfl).trans ?_
      refine (fs_j (n := n + 60) rfl (t := 62) rfl (by decide)).trans (fs_ite ?_ ?_)
      · skip
        exact b181_62 L xs m d k (n + 3) a1 (g 941) v3 g22 r23
      · skip
        refine (fs_r (n := n + 58) 2 (pc' := 46) (L' := [some (.ref 9), some (.int a1), some (.int (g 941)), some (.int v3), none]) (S' := [.int (g22 935)]) rfl).trans ?_
        refine (fs_i (n := n + 57) rfl (t := 62) rfl (by decide)).trans (fs_ite ?_ ?_)
        · skip
          exact b181_62 L xs m d k (n + 0) a1 (g 941) v3 g22 r23
        · skip
          exact b181_49 L xs m d k (n + 48) a1 (g 941) v3 g22 r23
theorem q181 (L : Nat) (xs : Nat → Int32) (m d : Nat) (a1 : Int32) (g : a2_G) (r : a2_A) : ev L xs (m + 1) (d + 1) 181 [.ref 9, .int a1] g r = (fn_v (ev L xs (m + 1) d 168 [.ref 9, .int ((g 941) + 1), .int 16] g r) fun v3 g1 r2 => (if am_c2 .ne v3 0 = true then (B181_62 L xs (m + 1) d m a1 (g 941) v3 g1 r2) else (fn_v (ev L xs (m + 1) d 167 [.ref 9, .int ((g1 941) + 1), .int 4] g1 r2) fun v24 g22 r23 => (if am_c2 .eq v24 0 = true then (B181_49 L xs (m + 1) d m a1 (g 941) v3 g22 r23) else (if am_c2 .ne a1 9 = true then (B181_62 L xs (m + 1) d m a1 (g 941) v3 g22 r23) else (if am_c2 .gt (g22 935) 0 = true then (B181_62 L xs (m + 1) d m a1 (g 941) v3 g22 r23) else (B181_49 L xs (m + 1) d m a1 (g 941) v3 g22 r23))))))) := (fs_ev (M := nm_m181) rfl rfl).trans (e181 L xs (m + 1) d m 816 a1 g r)
/-- CobolParserModel.here()I -/
theorem e182 (L : Nat) (xs : Nat → Int32) (m d k : Nat) (n : Nat) (g : a2_G) (r : a2_A) : bk L xs 182 nm_m182 m d k (n + 8) 0 [some (.ref 9)] [] g r = (if am_inr ((g 926) - 1) (r 929).1 = true then (some (.inl (some (.int ((r 929).2 (((g 926) - 1) : Int32).toNatClampNeg))), g, r)) else none) := by
  refine (fs_r (n := n + 2) 6 (pc' := 10) (L' := [some (.ref 9)]) (S' := [.int ((g 926) - 1), .ref 10929]) rfl).trans ?_
  refine (fs_il (n := n + 1) (k := 929) rfl rfl).trans (fs_ite ?_ rfl)
  exact (fs_ri (n := n + 0) rfl rfl).trans rfl
theorem q182 (L : Nat) (xs : Nat → Int32) (m d : Nat) (g : a2_G) (r : a2_A) : ev L xs (m + 1) (d + 1) 182 [.ref 9] g r = (if am_inr ((g 926) - 1) (r 929).1 = true then (some (.inl (some (.int ((r 929).2 (((g 926) - 1) : Int32).toNatClampNeg))), g, r)) else none) := (fs_ev (M := nm_m182) rfl rfl).trans (e182 L xs (m + 1) d m 892 g r)
/-- CobolParserModel.to(I)V -/
theorem e183 (L : Nat) (xs : Nat → Int32) (m d k : Nat) (n : Nat) (a1 : Int32) (g : a2_G) (r : a2_A) : bk L xs 183 nm_m183 m d k (n + 9) 0 [some (.ref 9), some (.int a1)] [] g r = (if am_inr ((g 926) - 1) (r 927).1 = true then (some (.inl none, g, (a2_ua r 927 ((r 927).1, (upd (r 927).2 (((g 926) - 1) : Int32).toNatClampNeg a1))))) else none) := by
  refine (fs_r (n := n + 2) 7 (pc' := 11) (L' := [some (.ref 9), some (.int a1)]) (S' := [.int a1, .int ((g 926) - 1), .ref 10927]) rfl).trans ?_
  refine (fs_is (n := n + 1) (k := 927) rfl rfl).trans (fs_ite ?_ rfl)
  exact (fs_rv (n := n + 0) rfl rfl).trans rfl
theorem q183 (L : Nat) (xs : Nat → Int32) (m d : Nat) (a1 : Int32) (g : a2_G) (r : a2_A) : ev L xs (m + 1) (d + 1) 183 [.ref 9, .int a1] g r = (if am_inr ((g 926) - 1) (r 927).1 = true then (some (.inl none, g, (a2_ua r 927 ((r 927).1, (upd (r 927).2 (((g 926) - 1) : Int32).toNatClampNeg a1))))) else none) := (fs_ev (M := nm_m183) rfl rfl).trans (e183 L xs (m + 1) d m 891 a1 g r)
/-- CobolParserModel.reserved(II)V -/
def B184_446 (L : Nat) (xs : Nat → Int32) (m d k : Nat) (x1 x2 x3 x4 x5 : Int32) (g : a2_G) (r : a2_A) : Option fn_Z := (some (.inl none, g, r))
theorem b184_446 (L : Nat) (xs : Nat → Int32) (m d k : Nat) (n : Nat) (x1 x2 x3 x4 x5 : Int32) (g : a2_G) (r : a2_A) : bk L xs 184 nm_m184 m d k (n + 1) 446 [some (.ref 9), some (.int x1), some (.int x2), some (.int x3), some (.int x4), some (.int x5)] [] g r = B184_446 L xs m d k x1 x2 x3 x4 x5 g r := by
  show _ = ((some (.inl none, g, r)) : Option fn_Z)
  exact (fs_rv (n := n + 0) rfl rfl).trans rfl
def B184_355 (L : Nat) (xs : Nat → Int32) (m d k : Nat) (x1 x2 x3 x4 x5 x6 : Int32) (g : a2_G) (r : a2_A) : Option fn_Z := (fn_n (ev L xs m d 220 [.ref 9, .int x6] g r) fun g4 r5 => (B184_446 L xs m d k x1 x2 x3 x4 x5 g4 r5))
theorem b184_355 (L : Nat) (xs : Nat → Int32) (m d k : Nat) (n : Nat) (x1 x2 x3 x4 x5 x6 : Int32) (g : a2_G) (r : a2_A) : bk L xs 184 nm_m184 m d k (n + 3) 355 [some (.ref 9), some (.int x1), some (.int x2), some (.int x3), some (.int x4), some (.int x5)] [.int x6, .ref 9] g r = B184_355 L xs m d k x1 x2 x3 x4 x5 x6 g r := by
  show _ = ((fn_n (ev L xs m d 220 [.ref 9, .int x6] g r) fun g4 r5 => (B184_446 L xs m d k x1 x2 x3 x4 x5 g4 r5)) : Option fn_Z)
  refine (fs_cn (n := n + 2) (N := nm_m220) (as := [.ref 9, .int x6]) (rest := []) rfl rfl (Or.inl rfl) rfl rfl rfl rfl rfl).trans (fs_fn fun g4 r5 => ?_)
  refine (fs_go (n := n + 1) rfl (t := 446) rfl (by decide)).trans ?_
  exact b184_446 L xs m d k (n + 0) x1 x2 x3 x4 x5 g4 r5
def B184_344 (L : Nat) (xs : Nat → Int32) (m d k : Nat) (x1 x2 x3 x4 x5 : Int32) (g : a2_G) (r : a2_A) : Option fn_Z := (if am_c2 .ne x2 3 = true then (B184_355 L xs m d k x1 x2 x3 x4 x5 0 g r) else (B184_355 L xs m d k x1 x2 x3 x4 x5 1 g r))
theorem b184_344 (L : Nat) (xs : Nat → Int32) (m d k : Nat) (n : Nat) (x1 x2 x3 x4 x5 : Int32) (g : a2_G) (r : a2_A) : bk L xs 184 nm_m184 m d k (n + 9) 344 [some (.ref 9), some (.int x1), some (.int x2), some (.int x3), some (.int x4), some (.int x5)] [] g r = B184_344 L xs m d k x1 x2 x3 x4 x5 g r := by
  show _ = ((if am_c2 .ne x2 3 = true then (B184_355 L xs m d k x1 x2 x3 x4 x5 0 g r) else (B184_355 L xs m d k x1 x2 x3 x4 x5 1 g r)) : Option fn_Z)
  refine (fs_r (n := n + 6) 3 (pc' := 347) (L' := [some (.ref 9), some (.int x1), some (.int x2), some (.int x3), some (.int x4), some (.int x5)]) (S' := [.int 3, .int x2, .ref 9]) rfl).trans ?_
  refine (fs_j (n := n + 5) rfl (t := 354) rfl (by decide)).trans (fs_ite ?_ ?_)
  · skip
    refine (fs_r (n := n + 4) 1 (pc' := 355) (L' := [some (.ref 9), some (.int x1), some (.int x2), some (.int x3), some (.int x4), some (.int x5)]) (S' := [.int 0, .ref 9]) rfl).trans ?_
    exact b184_355 L xs m d k (n + 1) x1 x2 x3 x4 x5 0 g r
  · skip
    refine (fs_r (n := n + 4) 1 (pc' := 351) (L' := [some (.ref 9), some (.int x1), some (.int x2), some (.int x3), some (.int x4), some (.int x5)]) (S' := [.int 1, .ref 9]) rfl).trans ?_
    refine (fs_go (n := n + 3) rfl (t := 355) rfl (by decide)).trans ?_
    exact b184_355 L xs m d k (n + 0) x1 x2 x3 x4 x5 1 g r
def B184_247 (L : Nat) (xs : Nat → Int32) (m d k : Nat) (x1 x2 x3 x4 x5 : Int32) (g : a2_G) (r : a2_A) : Option fn_Z := (if am_c2 .eq x4 0 = true then (if am_c2 .ne x2 0 = true then (if (x2 : Int32).toInt = 2 then (B184_344 L xs m d k x1 x2 x3 x4 x5 (upd g 941 ((g 941) + 1)) r) else (if (x2 : Int32).toInt = 3 then (B184_344 L xs m d k x1 x2 x3 x4 x5 (upd g 941 ((g 941) + 1)) r) else (if (x2 : Int32).toInt = 5 then (fn_n (ev L xs m d 221 [.ref 9, .int x3] (upd g 941 ((g 941) + 1)) r) fun g6 r7 => (B184_446 L xs m d k x1 x2 x3 x4 x5 g6 r7)) else (if (x2 : Int32).toInt = 17 then (fn_n (ev L xs m d 222 [.ref 9, .int x3] (upd g 941 ((g 941) + 1)) r) fun g8 r9 => (B184_446 L xs m d k x1 x2 x3 x4 x5 g8 r9)) else (if (x2 : Int32).toInt = 30 then (fn_n (ev L xs m d 223 [.ref 9, .int x3] (upd g 941 ((g 941) + 1)) r) fun g10 r11 => (B184_446 L xs m d k x1 x2 x3 x4 x5 g10 r11)) else (if (x2 : Int32).toInt = 32 then (fn_v (ev L xs m d 171 [.ref 9, .int 4] (upd g 941 ((g 941) + 1)) r) fun v14 g12 r13 => (if am_c2 .ne v14 0 = true then (fn_v (ev L xs m d 161 [.ref 9, .int 22, .int 0, .int x3] g12 r13) fun v17 g15 r16 => (fn_v (ev L xs m d 182 [.ref 9] (upd g15 934 v17) r16) fun v20 g18 r19 => (if am_inr v20 (r19 925).1 = true then (fn_n (ev L xs m d 174 [.ref 9, .int ((r19 925).2 (v20 : Int32).toNatClampNeg), .int (g18 934)] g18 r19) fun g21 r22 => (fn_n (ev L xs m d 183 [.ref 9, .int 9] g21 r22) fun g23 r24 => (B184_446 L xs m d k x1 x2 x3 x4 x5 g23 r24))) else none))) else (some (.inl none, g12, r13)))) else (if (x2 : Int32).toInt = 33 then (fn_n (ev L xs m d 224 [.ref 9, .int x1] (upd g 941 ((g 941) + 1)) r) fun g25 r26 => (B184_446 L xs m d k x1 x2 x3 x4 x5 g25 r26)) else (fn_n (ev L xs m d 225 [.ref 9, .int x2, .int x3] (upd g 941 ((g 941) + 1)) r) fun g27 r28 => (B184_446 L xs m d k x1 x2 x3 x4 x5 g27 r28))))))))) else (fn_n (ev L xs m d 219 [.ref 9, .int x1] g r) fun g29 r30 => (some (.inl none, g29, r30)))) else (fn_n (ev L xs m d 186 [.ref 9, .int x1] g r) fun g31 r32 => (some (.inl none, g31, r32))))
theorem b184_247 (L : Nat) (xs : Nat → Int32) (m d k : Nat) (n : Nat) (x1 x2 x3 x4 x5 : Int32) (g : a2_G) (r : a2_A) : bk L xs 184 nm_m184 m d k (n + 37) 247 [some (.ref 9), some (.int x1), some (.int x2), some (.int x3), some (.int x4), some (.int x5)] [] g r = B184_247 L xs m d k x1 x2 x3 x4 x5 g r := by
  show _ = ((if am_c2 .eq x4 0 = true then (if am_c2 .ne x2 0 = true then (if (x2 : Int32).toInt = 2 then (B184_344 L xs m d k x1 x2 x3 x4 x5 (upd g 941 ((g 941) + 1)) r) else (if (x2 : Int32).toInt = 3 then (B184_344 L xs m d k x1 x2 x3 x4 x5 (upd g 941 ((g 941) + 1)) r) else (if (x2 : Int32).toInt = 5 then (fn_n (ev L xs m d 221 [.ref 9, .int x3] (upd g 941 ((g 941) + 1)) r) fun g6 r7 => (B184_446 L xs m d k x1 x2 x3 x4 x5 g6 r7)) else (if (x2 : Int32).toInt = 17 then (fn_n (ev L xs m d 222 [.ref 9, .int x3] (upd g 941 ((g 941) + 1)) r) fun g8 r9 => (B184_446 L xs m d k x1 x2 x3 x4 x5 g8 r9)) else (if (x2 : Int32).toInt = 30 then (fn_n (ev L xs m d 223 [.ref 9, .int x3] (upd g 941 ((g 941) + 1)) r) fun g10 r11 => (B184_446 L xs m d k x1 x2 x3 x4 x5 g10 r11)) else (if (x2 : Int32).toInt = 32 then (fn_v (ev L xs m d 171 [.ref 9, .int 4] (upd g 941 ((g 941) + 1)) r) fun v14 g12 r13 => (if am_c2 .ne v14 0 = true then (fn_v (ev L xs m d 161 [.ref 9, .int 22, .int 0, .int x3] g12 r13) fun v17 g15 r16 => (fn_v (ev L xs m d 182 [.ref 9] (upd g15 934 v17) r16) fun v20 g18 r19 => (if am_inr v20 (r19 925).1 = true then (fn_n (ev L xs m d 174 [.ref 9, .int ((r19 925).2 (v20 : Int32).toNatClampNeg), .int (g18 934)] g18 r19) fun g21 r22 => (fn_n (ev L xs m d 183 [.ref 9, .int 9] g21 r22) fun g23 r24 => (B184_446 L xs m d k x1 x2 x3 x4 x5 g23 r24))) else none))) else (some (.inl none, g12, r13)))) else (if (x2 : Int32).toInt = 33 then (fn_n (ev L xs m d 224 [.ref 9, .int x1] (upd g 941 ((g 941) + 1)) r) fun g25 r26 => (B184_446 L xs m d k x1 x2 x3 x4 x5 g25 r26)) else (fn_n (ev L xs m d 225 [.ref 9, .int x2, .int x3] (upd g 941 ((g 941) + 1)) r) fun g27 r28 => (B184_446 L xs m d k x1 x2 x3 x4 x5 g27 r28))))))))) else (fn_n (ev L xs m d 219 [.ref 9, .int x1] g r) fun g29 r30 => (some (.inl none, g29, r30)))) else (fn_n (ev L xs m d 186 [.ref 9, .int x1] g r) fun g31 r32 => (some (.inl none, g31, r32)))) : Option fn_Z)
  refine (fs_r (n := n + 36) 1 (pc' := 249) (L' := [some (.ref 9), some (.int x1), some (.int x2), some (.int x3), some (.int x4), some (.int x5)]) (S' := [.int x4]) rfl).trans ?_
  refine (fs_i (n := n + 35) rfl (t := 258) rfl (by decide)).trans (fs_ite ?_ ?_)
  · skip
    refine (fs_r (n := n + 34) 1 (pc' := 259) (L' := [some (.ref 9), some (.int x1), some (.int x2), some (.int x3), some (.int x4), some (.int x5)]) (S' := [.int x2]) rfl).trans ?_
    refine (fs_i (n := n + 33) rfl (t := 268) rfl (by decide)).trans (fs_ite ?_ ?_)
    · skip
      refine (fs_r (n := n + 28) 5 (pc' := 275) (L' := [some (.ref 9), some (.int x1), some (.int x2), some (.int x3), some (.int x4), some (.int x5)]) (S' := [.int ((g 941) + 1), .ref 9]) rfl).trans ?_
      refine (fs_pf (n := n + 27) (ci := 9) (j := 41) rfl rfl rfl rfl).trans ?_
      refine (fs_r (n := n + 26) 1 (pc' := 279) (L' := [some (.ref 9), some (.int x1), some (.int x2), some (.int x3), some (.int x4), some (.int x5)]) (S' := [.int x2]) rfl).trans ?_
      refine (fs_ls (n := n + 25) (l := [(2, 65), (3, 65), (5, 82), (17, 90), (30, 98), (32, 106), (33, 153)]) rfl rfl rfl).trans ?_
      refine fs_lc ?_ (fs_lc ?_ (fs_lc ?_ (fs_lc ?_ (fs_lc ?_ (fs_lc ?_ (fs_lc ?_ (fs_ln ?_)))))))
      · refine (fs_J1 (n := n + 25) (t := 344) rfl (by decide)).trans ?_
        exact b184_344 L xs m d k (n + 16) x1 x2 x3 x4 x5 (upd g 941 ((g 941) + 1)) r
      · refine (fs_J1 (n := n + 25) (t := 344) rfl (by decide)).trans ?_
        exact b184_344 L xs m d k (n + 16) x1 x2 x3 x4 x5 (upd g 941 ((g 941) + 1)) r
      · refine (fs_J1 (n := n + 25) (t := 361) rfl (by decide)).trans ?_
        refine (fs_r (n := n + 23) 2 (pc' := 363) (L' := [some (.ref 9), some (.int x1), some (.int x2), some (.int x3), some (.int x4), some (.int x5)]) (S' := [.int x3, .ref 9]) rfl).trans ?_
        refine (fs_cn (n := n + 22) (N := nm_m221) (as := [.ref 9, .int x3]) (rest := []) rfl rfl (Or.inl rfl) rfl rfl rfl rfl rfl).trans (fs_fn fun g6 r7 => ?_)
        refine (fs_go (n := n + 21) rfl (t := 446) rfl (by decide)).trans ?_
        exact b184_446 L xs m d k (n + 20) x1 x2 x3 x4 x5 g6 r7
      · refine (fs_J1 (n := n + 25) (t := 369) rfl (by decide)).trans ?_
        refine (fs_r (n := n + 23) 2 (pc' := 371) (L' := [some (.ref 9), some (.int x1), some (.int x2), some (.int x3), some (.int x4), some (.int x5)]) (S' := [.int x3, .ref 9]) rfl).trans ?_
        refine (fs_cn (n := n + 22) (N := nm_m222) (as := [.ref 9, .int x3]) (rest := []) rfl rfl (Or.inl rfl) rfl rfl rfl rfl rfl).trans (fs_fn fun g8 r9 => ?_)
        refine (fs_go (n := n + 21) rfl (t := 446) rfl (by decide)).trans ?_
        exact b184_446 L xs m d k (n + 20) x1 x2 x3 x4 x5 g8 r9
      · refine (fs_J1 (n := n + 25) (t := 377) rfl (by decide)).trans ?_
        refine (fs_r (n := n + 23) 2 (pc' := 379) (L' := [some (.ref 9), some (.int x1), some (.int x2), some (.int x3), some (.int x4), some (.int x5)]) (S' := [.int x3, .ref 9]) rfl).trans ?_
        refine (fs_cn (n := n + 22) (N := nm_m223) (as := [.ref 9, .int x3]) (rest := []) rfl rfl (Or.inl rfl) rfl rfl rfl rfl rfl).trans (fs_fn fun g10 r11 => ?_)
        refine (fs_go (n := n + 21) rfl (t := 446) rfl (by decide)).trans ?_
        exact b184_446 L xs m d k (n + 20) x1 x2 x3 x4 x5 g10 r11
      · refine (fs_J1 (n := n + 25) (t := 385) rfl (by decide)).trans ?_
        refine (fs_r (n := n + 23) 2 (pc' := 387) (L' := [some (.ref 9), some (.int x1), some (.int x2), some (.int x3), some (.int x4), some (.int x5)]) (S' := [.int 4, .ref 9]) rfl).trans ?_
        refine (fs_cv (n := n + 22) (N := nm_m171) (as := [.ref 9, .int 4]) (rest := []) rfl rfl (Or.inl rfl) rfl rfl rfl rfl rfl).trans (fs_fv fun v14 g12 r13 => ?_)
        refine (fs_i (n := n + 21) rfl (t := 394) rfl (by decide)).trans (fs_ite ?_ ?_)
        · skip
          refine (fs_r (n := n + 16) 5 (pc' := 400) (L' := [some (.ref 9), some (.int x1), some (.int x2), some (.int x3), some (.int x4), some (.int x5)]) (S' := [.int x3, .int 0, .int 22, .ref 9, .ref 9]) rfl).trans ?_
          refine (fs_cv (n := n + 15) (N := nm_m161) (as := [.ref 9, .int 22, .int 0, .int x3]) (rest := [.ref 9]) rfl rfl (Or.inl rfl) rfl rfl rfl rfl rfl).trans (fs_fv fun v17 g15 r16 => ?_)
          refine (fs_pf (n := n + 14) (ci := 9) (j := 34) rfl rfl rfl rfl).trans ?_
          refine (fs_r (n := n + 10) 4 (pc' := 412) (L' := [some (.ref 9), some (.int x1), some (.int x2), some (.int x3), some (.int x4), some (.int x5)]) (S' := [.ref 9, .ref 10925, .ref 9]) rfl).trans ?_
          refine (fs_cv (n := n + 9) (N := nm_m182) (as := [.ref 9]) (rest := [.ref 10925, .ref 9]) rfl rfl (Or.inl rfl) rfl rfl rfl rfl rfl).trans (fs_fv fun v20 g18 r19 => ?_)
          refine (fs_il (n := n + 8) (k := 925) rfl rfl).trans (fs_ite ?_ rfl)
          refine (fs_r (n := n + 6) 2 (pc' := 420) (L' := [some (.ref 9), some (.int x1), some (.int x2), some (.int x3), some (.int x4), some (.int x5)]) (S' := [.int (g18 934), .int ((r19 925).2 (v20 : Int32).toNatClampNeg), .ref 9]) rfl).trans ?_
          refine (fs_cn (n := n + 5) (N := nm_m174) (as := [.ref 9, .int ((r19 925).2 (v20 : Int32).toNatClampNeg), .int (g18 934)]) (rest := []) rfl rfl (Or.inl rfl) rfl rfl rfl rfl rfl).trans (fs_fn fun g21 r22 => ?_)
          refine (fs_r (n := n + 3) 2 (pc' := 426) (L' := [some (.ref 9), some (.int x1), some (.int x2), some (.int x3), some (.int x4), some (.int x5)]) (S' := [.int 9, .ref 9]) rfl).trans ?_
          refine (fs_cn (n := n + 2) (N := nm_m183) (as := [.ref 9, .int 9]) (rest := []) rfl rfl (Or.inl rfl) rfl rfl rfl rfl rfl).trans (fs_fn fun g23 r24 => ?_)
          refine (fs_go (n := n + 1) rfl (t := 446) rfl (by decide)).trans ?_
          exact b184_446 L xs m d k (n + 0) x1 x2 x3 x4 x5 g23 r24
        · skip
          exact (fs_rv (n := n + 20) rfl rfl).trans rfl
      · refine (fs_J1 (n := n + 25) (t := 432) rfl (by decide)).trans ?_
        refine (fs_r (n := n + 23) 2 (pc' := 434) (L' := [some (.ref 9), some (.int x1), some (.int x2), some (.int x3), some (.int x4), some (.int x5)]) (S' := [.int x1, .ref 9]) rfl).trans ?_
        refine (fs_cn (n := n + 22) (N := nm_m224) (as := [.ref 9, .int x1]) (rest := []) rfl rfl (Or.inl rfl) rfl rfl rfl rfl rfl).trans (fs_fn fun g25 r26 => ?_)
        refine (fs_go (n := n + 21) rfl (t := 446) rfl (by decide)).trans ?_
        exact b184_446 L xs m d k (n + 20) x1 x2 x3 x4 x5 g25 r26
      · refine (fs_J1 (n := n + 25) (t := 440) rfl (by decide)).trans ?_
        refine (fs_r (n := n + 22) 3 (pc' := 443) (L' := [some (.ref 9), some (.int x1), some (.int x2), some (.int x3), some (.int x4), some (.int x5)]) (S' := [.int x3, .int x2, .ref 9]) rfl).trans ?_
        refine (fs_cn (n := n + 21) (N := nm_m225) (as := [.ref 9, .int x2, .int x3]) (rest := []) rfl rfl (Or.inl rfl) rfl rfl rfl rfl rfl).trans (fs_fn fun g27 r28 => ?_)
        exact b184_446 L xs m d k (n + 20) x1 x2 x3 x4 x5 g27 r28
    · skip
      refine (fs_r (n := n + 31) 2 (pc' := 264) (L' := [some (.ref 9), some (.int x1), some (.int x2), some (.int x3), some (.int x4), some (.int x5)]) (S' := [.int x1, .ref 9]) rfl).trans ?_
      refine (fs_cn (n := n + 30) (N := nm_m219) (as := [.ref 9, .int x1]) (rest := []) rfl rfl (Or.inl rfl) rfl rfl rfl rfl rfl).trans (fs_fn fun g29 r30 => ?_)
      exact (fs_rv (n := n + 29) rfl rfl).trans rfl
  · skip
    refine (fs_r (n := n + 33) 2 (pc' := 254) (L' := [some (.ref 9), some (.int x1), some (.int x2), some (.int x3), some (.int x4), some (.int x5)]) (S' := [.int x1, .ref 9]) rfl).trans ?_
    refine (fs_cn (n := n + 32) (N := nm_m186) (as := [.ref 9, .int x1]) (rest := []) rfl rfl (Or.inl rfl) rfl rfl rfl rfl rfl).trans (fs_fn fun g31 r32 => ?_)
    exact (fs_rv (n := n + 31) rfl rfl).trans rfl
def B184_224 (L : Nat) (xs : Nat → Int32) (m d k : Nat) (x1 x2 x3 x4 x5 x6 : Int32) (g : a2_G) (r : a2_A) : Option fn_Z := (if am_c2 .ne x6 0 = true then (B184_247 L xs m d k x1 x2 x3 x4 x6 g r) else (if am_c2 .ne x4 0 = true then (B184_247 L xs m d k x1 x2 x3 x4 x6 g r) else (fn_v (ev L xs m d 165 [.ref 9, .int 1, .int (g 941)] g r) fun v35 g33 r34 => (some (.inl none, g33, r34)))))
theorem b184_224 (L : Nat) (xs : Nat → Int32) (m d k : Nat) (n : Nat) (x1 x2 x3 x4 x5 x6 : Int32) (g : a2_G) (r : a2_A) : bk L xs 184 nm_m184 m d k (n + 42) 224 [some (.ref 9), some (.int x1), some (.int x2), some (.int x3), some (.int x4), some (.int x5)] [.int x6] g r = B184_224 L xs m d k x1 x2 x3 x4 x5 x6 g r := by
  show _ = ((if am_c2 .ne x6 0 = true then (B184_247 L xs m d k x1 x2 x3 x4 x6 g r) else (if am_c2 .ne x4 0 = true then (B184_247 L xs m d k x1 x2 x3 x4 x6 g r) else (fn_v (ev L xs m d 165 [.ref 9, .int 1, .int (g 941)] g r) fun v35 g33 r34 => (some (.inl none, g33, r34))))) : Option fn_Z)
  refine (fs_r (n := n + 40) 2 (pc' := 228) (L' := [some (.ref 9), some (.int x1), some (.int x2), some (.int x3), some (.int x4), some (.int x6)]) (S' := [.int x6]) rfl).trans ?_
  refine (fs_i (n := n + 39) rfl (t := 247) rfl (by decide)).trans (fs_ite ?_ ?_)
  · skip
    exact b184_247 L xs m d k (n + 2) x1 x2 x3 x4 x6 g r
  · skip
    refine (fs_r (n := n + 38) 1 (pc' := 233) (L' := [some (.ref 9), some (.int x1), some (.int x2), some (.int x3), some (.int x4), some (.int x6)]) (S' := [.int x4]) rfl).trans ?_
    refine (fs_i (n := n + 37) rfl (t := 247) rfl (by decide)).trans (fs_ite ?_ ?_)
    · skip
      exact b184_247 L xs m d k (n + 0) x1 x2 x3 x4 x6 g r
    · skip
      refine (fs_r (n := n + 33) 4 (pc' := 242) (L' := [some (.ref 9), some (.int x1), some (.int x2), some (.int x3), some (.int x4), some (.int x6)]) (S' := [.int (g 941), .int 1, .ref 9]) rfl).trans ?_
      refine (fs_cv (n := n + 32) (N := nm_m165) (as := [.ref 9, .int 1, .int (g 941)]) (rest := []) rfl rfl (Or.inl rfl) rfl rfl rfl rfl rfl).trans (fs_fv fun v35 g33 r34 => ?_)
      refine (fs_r (n := n + 31) 1 (pc' := 246) (L' := [some (.ref 9), some (.int x1), some (.int x2), some (.int x3), some (.int x4), some (.int x6)]) (S' := []) rfl).trans ?_
      exact (fs_rv (n := n + 30) rfl rfl).trans rfl
def B184_219 (L : Nat) (xs : Nat → Int32) (m d k : Nat) (x1 x2 x3 x4 x5 : Int32) (g : a2_G) (r : a2_A) : Option fn_Z := (B184_224 L xs m d k x1 x2 x3 x4 x5 1 g r)
theorem b184_219 (L : Nat) (xs : Nat → Int32) (m d k : Nat) (n : Nat) (x1 x2 x3 x4 x5 : Int32) (g : a2_G) (r : a2_A) : bk L xs 184 nm_m184 m d k (n + 44) 219 [some (.ref 9), some (.int x1), some (.int x2), some (.int x3), some (.int x4), some (.int x5)] [] g r = B184_219 L xs m d k x1 x2 x3 x4 x5 g r := by
  show _ = ((B184_224 L xs m d k x1 x2 x3 x4 x5 1 g r) : Option fn_Z)
  refine (fs_r (n := n + 43) 1 (pc' := 220) (L' := [some (.ref 9), some (.int x1), some (.int x2), some (.int x3), some (.int x4), some (.int x5)]) (S' := [.int 1]) rfl).trans ?_
  refine (fs_go (n := n + 42) rfl (t := 224) rfl (by decide)).trans ?_
  exact b184_224 L xs m d k (n + 0) x1 x2 x3 x4 x5 1 g r
def B184_223 (L : Nat) (xs : Nat → Int32) (m d k : Nat) (x1 x2 x3 x4 x5 : Int32) (g : a2_G) (r : a2_A) : Option fn_Z := (B184_224 L xs m d k x1 x2 x3 x4 x5 0 g r)
theorem b184_223 (L : Nat) (xs : Nat → Int32) (m d k : Nat) (n : Nat) (x1 x2 x3 x4 x5 : Int32) (g : a2_G) (r : a2_A) : bk L xs 184 nm_m184 m d k (n + 43) 223 [some (.ref 9), some (.int x1), some (.int x2), some (.int x3), some (.int x4), some (.int x5)] [] g r = B184_223 L xs m d k x1 x2 x3 x4 x5 g r := by
  show _ = ((B184_224 L xs m d k x1 x2 x3 x4 x5 0 g r) : Option fn_Z)
  refine (fs_r (n := n + 42) 1 (pc' := 224) (L' := [some (.ref 9), some (.int x1), some (.int x2), some (.int x3), some (.int x4), some (.int x5)]) (S' := [.int 0]) rfl).trans ?_
  exact b184_224 L xs m d k (n + 0) x1 x2 x3 x4 x5 0 g r
def B184_209 (L : Nat) (xs : Nat → Int32) (m d k : Nat) (x1 x2 x3 x4 x5 : Int32) (g : a2_G) (r : a2_A) : Option fn_Z := (if am_c2 .ne x2 33 = true then (B184_223 L xs m d k x1 x2 x3 x4 x5 g r) else (if am_c2 .le x1 0 = true then (B184_223 L xs m d k x1 x2 x3 x4 x5 g r) else (B184_219 L xs m d k x1 x2 x3 x4 x5 g r)))
theorem b184_209 (L : Nat) (xs : Nat → Int32) (m d k : Nat) (n : Nat) (x1 x2 x3 x4 x5 : Int32) (g : a2_G) (r : a2_A) : bk L xs 184 nm_m184 m d k (n + 49) 209 [some (.ref 9), some (.int x1), some (.int x2), some (.int x3), some (.int x4), some (.int x5)] [] g r = B184_209 L xs m d k x1 x2 x3 x4 x5 g r := by
  show _ = ((if am_c2 .ne x2 33 = true then (B184_223 L xs m d k x1 x2 x3 x4 x5 g r) else (if am_c2 .le x1 0 = true then (B184_223 L xs m d k x1 x2 x3 x4 x5 g r) else (B184_219 L xs m d k x1 x2 x3 x4 x5 g r))) : Option fn_Z)
  refine (fs_r (n := n + 47) 2 (pc' := 212) (L' := [some (.ref 9), some (.int x1), some (.int x2), some (.int x3), some (.int x4), some (.int x5)]) (S' := [.int 33, .int x2]) rfl).trans ?_
  refine (fs_j (n := n + 46) rfl (t := 223) rfl (by decide)).trans (fs_ite ?_ ?_)
  · skip
    exact b184_223 L xs m d k (n + 3) x1 x2 x3 x4 x5 g r
  · skip
    refine (fs_r (n := n + 45) 1 (pc' := 216) (L' := [some (.ref 9), some (.int x1), some (.int x2), some (.int x3), some (.int x4), some (.int x5)]) (S' := [.int x1]) rfl).trans ?_
    refine (fs_i (n := n + 44) rfl (t := 223) rfl (by decide)).trans (fs_ite ?_ ?_)
    · skip
      exact b184_223 L xs m d k (n + 1) x1 x2 x3 x4 x5 g r
    · skip
      exact b184_219 L xs m d k (n + 0) x1 x2 x3 x4 x5 g r
def B184_197 (L : Nat) (xs : Nat → Int32) (m d k : Nat) (x1 x2 x3 x4 x5 : Int32) (g : a2_G) (r : a2_A) : Option fn_Z := (if am_c2 .ne x2 32 = true then (B184_209 L xs m d k x1 x2 x3 x4 x5 g r) else (if am_c2 .eq x1 8 = true then (B184_219 L xs m d k x1 x2 x3 x4 x5 g r) else (B184_209 L xs m d k x1 x2 x3 x4 x5 g r)))
theorem b184_197 (L : Nat) (xs : Nat → Int32) (m d k : Nat) (n : Nat) (x1 x2 x3 x4 x5 : Int32) (g : a2_G) (r : a2_A) : bk L xs 184 nm_m184 m d k (n + 55) 197 [some (.ref 9), some (.int x1), some (.int x2), some (.int x3), some (.int x4), some (.int x5)] [] g r = B184_197 L xs m d k x1 x2 x3 x4 x5 g r := by
  show _ = ((if am_c2 .ne x2 32 = true then (B184_209 L xs m d k x1 x2 x3 x4 x5 g r) else (if am_c2 .eq x1 8 = true then (B184_219 L xs m d k x1 x2 x3 x4 x5 g r) else (B184_209 L xs m d k x1 x2 x3 x4 x5 g r))) : Option fn_Z)
  refine (fs_r (n := n + 53) 2 (pc' := 200) (L' := [some (.ref 9), some (.int x1), some (.int x2), some (.int x3), some (.int x4), some (.int x5)]) (S' := [.int 32, .int x2]) rfl).trans ?_
  refine (fs_j (n := n + 52) rfl (t := 209) rfl (by decide)).trans (fs_ite ?_ ?_)
  · skip
    exact b184_209 L xs m d k (n + 3) x1 x2 x3 x4 x5 g r
  · skip
    refine (fs_r (n := n + 50) 2 (pc' := 206) (L' := [some (.ref 9), some (.int x1), some (.int x2), some (.int x3), some (.int x4), some (.int x5)]) (S' := [.int 8, .int x1]) rfl).trans ?_
    refine (fs_j (n := n + 49) rfl (t := 219) rfl (by decide)).trans (fs_ite ?_ ?_)
    · skip
      exact b184_219 L xs m d k (n + 5) x1 x2 x3 x4 x5 g r
    · skip
      exact b184_209 L xs m d k (n + 0) x1 x2 x3 x4 x5 g r
def B184_181 (L : Nat) (xs : Nat → Int32) (m d k : Nat) (x1 x2 x3 x4 x5 : Int32) (g : a2_G) (r : a2_A) : Option fn_Z := (if am_c2 .ne x2 30 = true then (B184_197 L xs m d k x1 x2 x3 x4 x5 g r) else (fn_v (ev L xs m d 159 [.int x1, .int 1, .int 7] g r) fun v38 g36 r37 => (if am_c2 .ne v38 0 = true then (B184_219 L xs m d k x1 x2 x3 x4 x5 g36 r37) else (B184_197 L xs m d k x1 x2 x3 x4 x5 g36 r37))))
theorem b184_181 (L : Nat) (xs : Nat → Int32) (m d k : Nat) (n : Nat) (x1 x2 x3 x4 x5 : Int32) (g : a2_G) (r : a2_A) : bk L xs 184 nm_m184 m d k (n + 63) 181 [some (.ref 9), some (.int x1), some (.int x2), some (.int x3), some (.int x4), some (.int x5)] [] g r = B184_181 L xs m d k x1 x2 x3 x4 x5 g r := by
  show _ = ((if am_c2 .ne x2 30 = true then (B184_197 L xs m d k x1 x2 x3 x4 x5 g r) else (fn_v (ev L xs m d 159 [.int x1, .int 1, .int 7] g r) fun v38 g36 r37 => (if am_c2 .ne v38 0 = true then (B184_219 L xs m d k x1 x2 x3 x4 x5 g36 r37) else (B184_197 L xs m d k x1 x2 x3 x4 x5 g36 r37)))) : Option fn_Z)
  refine (fs_r (n := n + 61) 2 (pc' := 184) (L' := [some (.ref 9), some (.int x1), some (.int x2), some (.int x3), some (.int x4), some (.int x5)]) (S' := [.int 30, .int x2]) rfl).trans ?_
  refine (fs_j (n := n + 60) rfl (t := 197) rfl (by decide)).trans (fs_ite ?_ ?_)
  · skip
    exact b184_197 L xs m d k (n + 5) x1 x2 x3 x4 x5 g r
  · skip
    refine (fs_r (n := n + 57) 3 (pc' := 191) (L' := [some (.ref 9), some (.int x1), some (.int x2), some (.int x3), some (.int x4), some (.int x5)]) (S' := [.int 7, .int 1, .int x1]) rfl).trans ?_
    refine (fs_sv (n := n + 56) (N := nm_m159) (as := [.int x1, .int 1, .int 7]) (rest := []) rfl rfl (by decide) rfl rfl rfl rfl rfl).trans (fs_fv fun v38 g36 r37 => ?_)
    refine (fs_i (n := n + 55) rfl (t := 219) rfl (by decide)).trans (fs_ite ?_ ?_)
    · skip
      exact b184_219 L xs m d k (n + 11) x1 x2 x3 x4 x5 g36 r37
    · skip
      exact b184_197 L xs m d k (n + 0) x1 x2 x3 x4 x5 g36 r37
def B184_165 (L : Nat) (xs : Nat → Int32) (m d k : Nat) (x1 x2 x3 x4 x5 : Int32) (g : a2_G) (r : a2_A) : Option fn_Z := (if am_c2 .ne x2 15 = true then (B184_181 L xs m d k x1 x2 x3 x4 x5 g r) else (fn_v (ev L xs m d 159 [.int x1, .int 3, .int 6] g r) fun v41 g39 r40 => (if am_c2 .ne v41 0 = true then (B184_219 L xs m d k x1 x2 x3 x4 x5 g39 r40) else (B184_181 L xs m d k x1 x2 x3 x4 x5 g39 r40))))
theorem b184_165 (L : Nat) (xs : Nat → Int32) (m d k : Nat) (n : Nat) (x1 x2 x3 x4 x5 : Int32) (g : a2_G) (r : a2_A) : bk L xs 184 nm_m184 m d k (n + 71) 165 [some (.ref 9), some (.int x1), some (.int x2), some (.int x3), some (.int x4), some (.int x5)] [] g r = B184_165 L xs m d k x1 x2 x3 x4 x5 g r := by
  show _ = ((if am_c2 .ne x2 15 = true then (B184_181 L xs m d k x1 x2 x3 x4 x5 g r) else (fn_v (ev L xs m d 159 [.int x1, .int 3, .int 6] g r) fun v41 g39 r40 => (if am_c2 .ne v41 0 = true then (B184_219 L xs m d k x1 x2 x3 x4 x5 g39 r40) else (B184_181 L xs m d k x1 x2 x3 x4 x5 g39 r40)))) : Option fn_Z)
  refine (fs_r (n := n + 69) 2 (pc' := 168) (L' := [some (.ref 9), some (.int x1), some (.int x2), some (.int x3), some (.int x4), some (.int x5)]) (S' := [.int 15, .int x2]) rfl).trans ?_
  refine (fs_j (n := n + 68) rfl (t := 181) rfl (by decide)).trans (fs_ite ?_ ?_)
  · skip
    exact b184_181 L xs m d k (n + 5) x1 x2 x3 x4 x5 g r
  · skip
    refine (fs_r (n := n + 65) 3 (pc' := 175) (L' := [some (.ref 9), some (.int x1), some (.int x2), some (.int x3), some (.int x4), some (.int x5)]) (S' := [.int 6, .int 3, .int x1]) rfl).trans ?_
    refine (fs_sv (n := n + 64) (N := nm_m159) (as := [.int x1, .int 3, .int 6]) (rest := []) rfl rfl (by decide) rfl rfl rfl rfl rfl).trans (fs_fv fun v41 g39 r40 => ?_)
    refine (fs_i (n := n + 63) rfl (t := 219) rfl (by decide)).trans (fs_ite ?_ ?_)
    · skip
      exact b184_219 L xs m d k (n + 19) x1 x2 x3 x4 x5 g39 r40
    · skip
      exact b184_181 L xs m d k (n + 0) x1 x2 x3 x4 x5 g39 r40
def B184_150 (L : Nat) (xs : Nat → Int32) (m d k : Nat) (x1 x2 x3 x4 x5 : Int32) (g : a2_G) (r : a2_A) : Option fn_Z := (if am_c2 .ne x2 14 = true then (B184_165 L xs m d k x1 x2 x3 x4 x5 g r) else (fn_v (ev L xs m d 159 [.int x1, .int 3, .int 5] g r) fun v44 g42 r43 => (if am_c2 .ne v44 0 = true then (B184_219 L xs m d k x1 x2 x3 x4 x5 g42 r43) else (B184_165 L xs m d k x1 x2 x3 x4 x5 g42 r43))))
theorem b184_150 (L : Nat) (xs : Nat → Int32) (m d k : Nat) (n : Nat) (x1 x2 x3 x4 x5 : Int32) (g : a2_G) (r : a2_A) : bk L xs 184 nm_m184 m d k (n + 79) 150 [some (.ref 9), some (.int x1), some (.int x2), some (.int x3), some (.int x4), some (.int x5)] [] g r = B184_150 L xs m d k x1 x2 x3 x4 x5 g r := by
  show _ = ((if am_c2 .ne x2 14 = true then (B184_165 L xs m d k x1 x2 x3 x4 x5 g r) else (fn_v (ev L xs m d 159 [.int x1, .int 3, .int 5] g r) fun v44 g42 r43 => (if am_c2 .ne v44 0 = true then (B184_219 L xs m d k x1 x2 x3 x4 x5 g42 r43) else (B184_165 L xs m d k x1 x2 x3 x4 x5 g42 r43)))) : Option fn_Z)
  refine (fs_r (n := n + 77) 2 (pc' := 153) (L' := [some (.ref 9), some (.int x1), some (.int x2), some (.int x3), some (.int x4), some (.int x5)]) (S' := [.int 14, .int x2]) rfl).trans ?_
  refine (fs_j (n := n + 76) rfl (t := 165) rfl (by decide)).trans (fs_ite ?_ ?_)
  · skip
    exact b184_165 L xs m d k (n + 5) x1 x2 x3 x4 x5 g r
  · skip
    refine (fs_r (n := n + 73) 3 (pc' := 159) (L' := [some (.ref 9), some (.int x1), some (.int x2), some (.int x3), some (.int x4), some (.int x5)]) (S' := [.int 5, .int 3, .int x1]) rfl).trans ?_
    refine (fs_sv (n := n + 72) (N := nm_m159) (as := [.int x1, .int 3, .int 5]) (rest := []) rfl rfl (by decide) rfl rfl rfl rfl rfl).trans (fs_fv fun v44 g42 r43 => ?_)
    refine (fs_i (n := n + 71) rfl (t := 219) rfl (by decide)).trans (fs_ite ?_ ?_)
    · skip
      exact b184_219 L xs m d k (n + 27) x1 x2 x3 x4 x5 g42 r43
    · skip
      exact b184_165 L xs m d k (n + 0) x1 x2 x3 x4 x5 g42 r43
def B184_128 (L : Nat) (xs : Nat → Int32) (m d k : Nat) (x1 x2 x3 x4 x5 : Int32) (g : a2_G) (r : a2_A) : Option fn_Z := (if am_c2 .ne x5 0 = true then (B184_219 L xs m d k x1 x2 x3 x4 x5 g r) else (if am_c2 .ne x2 17 = true then (B184_150 L xs m d k x1 x2 x3 x4 x5 g r) else (fn_v (ev L xs m d 159 [.int x1, .int 4, .int 5] g r) fun v47 g45 r46 => (if am_c2 .ne v47 0 = true then (B184_219 L xs m d k x1 x2 x3 x4 x5 g45 r46) else (B184_150 L xs m d k x1 x2 x3 x4 x5 g45 r46)))))
theorem b184_128 (L : Nat) (xs : Nat → Int32) (m d k : Nat) (n : Nat) (x1 x2 x3 x4 x5 : Int32) (g : a2_G) (r : a2_A) : bk L xs 184 nm_m184 m d k (n + 90) 128 [some (.ref 9), some (.int x1), some (.int x2), some (.int x3), some (.int x4), none] [.int x5] g r = B184_128 L xs m d k x1 x2 x3 x4 x5 g r := by
  show _ = ((if am_c2 .ne x5 0 = true then (B184_219 L xs m d k x1 x2 x3 x4 x5 g r) else (if am_c2 .ne x2 17 = true then (B184_150 L xs m d k x1 x2 x3 x4 x5 g r) else (fn_v (ev L xs m d 159 [.int x1, .int 4, .int 5] g r) fun v47 g45 r46 => (if am_c2 .ne v47 0 = true then (B184_219 L xs m d k x1 x2 x3 x4 x5 g45 r46) else (B184_150 L xs m d k x1 x2 x3 x4 x5 g45 r46))))) : Option fn_Z)
  refine (fs_r (n := n + 88) 2 (pc' := 132) (L' := [some (.ref 9), some (.int x1), some (.int x2), some (.int x3), some (.int x4), some (.int x5)]) (S' := [.int x5]) rfl).trans ?_
  refine (fs_i (n := n + 87) rfl (t := 219) rfl (by decide)).trans (fs_ite ?_ ?_)
  · skip
    exact b184_219 L xs m d k (n + 43) x1 x2 x3 x4 x5 g r
  · skip
    refine (fs_r (n := n + 85) 2 (pc' := 138) (L' := [some (.ref 9), some (.int x1), some (.int x2), some (.int x3), some (.int x4), some (.int x5)]) (S' := [.int 17, .int x2]) rfl).trans ?_
    refine (fs_j (n := n + 84) rfl (t := 150) rfl (by decide)).trans (fs_ite ?_ ?_)
    · skip
      exact b184_150 L xs m d k (n + 5) x1 x2 x3 x4 x5 g r
    · skip
      refine (fs_r (n := n + 81) 3 (pc' := 144) (L' := [some (.ref 9), some (.int x1), some (.int x2), some (.int x3), some (.int x4), some (.int x5)]) (S' := [.int 5, .int 4, .int x1]) rfl).trans ?_
      refine (fs_sv (n := n + 80) (N := nm_m159) (as := [.int x1, .int 4, .int 5]) (rest := []) rfl rfl (by decide) rfl rfl rfl rfl rfl).trans (fs_fv fun v47 g45 r46 => ?_)
      refine (fs_i (n := n + 79) rfl (t := 219) rfl (by decide)).trans (fs_ite ?_ ?_)
      · skip
        exact b184_219 L xs m d k (n + 35) x1 x2 x3 x4 x5 g45 r46
      · skip
        exact b184_150 L xs m d k (n + 0) x1 x2 x3 x4 x5 g45 r46
def B184_123 (L : Nat) (xs : Nat → Int32) (m d k : Nat) (x1 x2 x3 x4 : Int32) (g : a2_G) (r : a2_A) : Option fn_Z := (B184_128 L xs m d k x1 x2 x3 x4 1 g r)
theorem b184_123 (L : Nat) (xs : Nat → Int32) (m d k : Nat) (n : Nat) (x1 x2 x3 x4 : Int32) (g : a2_G) (r : a2_A) : bk L xs 184 nm_m184 m d k (n + 92) 123 [some (.ref 9), some (.int x1), some (.int x2), some (.int x3), some (.int x4), none] [] g r = B184_123 L xs m d k x1 x2 x3 x4 g r := by
  show _ = ((B184_128 L xs m d k x1 x2 x3 x4 1 g r) : Option fn_Z)
  refine (fs_r (n := n + 91) 1 (pc' := 124) (L' := [some (.ref 9), some (.int x1), some (.int x2), some (.int x3), some (.int x4), none]) (S' := [.int 1]) rfl).trans ?_
  refine (fs_go (n := n + 90) rfl (t := 128) rfl (by decide)).trans ?_
  exact b184_128 L xs m d k (n + 0) x1 x2 x3 x4 1 g r
def B184_127 (L : Nat) (xs : Nat → Int32) (m d k : Nat) (x1 x2 x3 x4 : Int32) (g : a2_G) (r : a2_A) : Option fn_Z := (B184_128 L xs m d k x1 x2 x3 x4 0 g r)
theorem b184_127 (L : Nat) (xs : Nat → Int32) (m d k : Nat) (n : Nat) (x1 x2 x3 x4 : Int32) (g : a2_G) (r : a2_A) : bk L xs 184 nm_m184 m d k (n + 91) 127 [some (.ref 9), some (.int x1), some (.int x2), some (.int x3), some (.int x4), none] [] g r = B184_127 L xs m d k x1 x2 x3 x4 g r := by
  show _ = ((B184_128 L xs m d k x1 x2 x3 x4 0 g r) : Option fn_Z)
  refine (fs_r (n := n + 90) 1 (pc' := 128) (L' := [some (.ref 9), some (.int x1), some (.int x2), some (.int x3), some (.int x4), none]) (S' := [.int 0]) rfl).trans ?_
  exact b184_128 L xs m d k (n + 0) x1 x2 x3 x4 0 g r
def B184_112 (L : Nat) (xs : Nat → Int32) (m d k : Nat) (x1 x2 x3 x4 : Int32) (g : a2_G) (r : a2_A) : Option fn_Z := (if am_c2 .ne x2 13 = true then (B184_127 L xs m d k x1 x2 x3 x4 g r) else (if am_c2 .ne x1 3 = true then (B184_127 L xs m d k x1 x2 x3 x4 g r) else (B184_123 L xs m d k x1 x2 x3 x4 g r)))
theorem b184_112 (L : Nat) (xs : Nat → Int32) (m d k : Nat) (n : Nat) (x1 x2 x3 x4 : Int32) (g : a2_G) (r : a2_A) : bk L xs 184 nm_m184 m d k (n + 98) 112 [some (.ref 9), some (.int x1), some (.int x2), some (.int x3), some (.int x4), none] [] g r = B184_112 L xs m d k x1 x2 x3 x4 g r := by
  show _ = ((if am_c2 .ne x2 13 = true then (B184_127 L xs m d k x1 x2 x3 x4 g r) else (if am_c2 .ne x1 3 = true then (B184_127 L xs m d k x1 x2 x3 x4 g r) else (B184_123 L xs m d k x1 x2 x3 x4 g r))) : Option fn_Z)
  refine (fs_r (n := n + 96) 2 (pc' := 115) (L' := [some (.ref 9), some (.int x1), some (.int x2), some (.int x3), some (.int x4), none]) (S' := [.int 13, .int x2]) rfl).trans ?_
  refine (fs_j (n := n + 95) rfl (t := 127) rfl (by decide)).trans (fs_ite ?_ ?_)
  · skip
    exact b184_127 L xs m d k (n + 4) x1 x2 x3 x4 g r
  · skip
    refine (fs_r (n := n + 93) 2 (pc' := 120) (L' := [some (.ref 9), some (.int x1), some (.int x2), some (.int x3), some (.int x4), none]) (S' := [.int 3, .int x1]) rfl).trans ?_
    refine (fs_j (n := n + 92) rfl (t := 127) rfl (by decide)).trans (fs_ite ?_ ?_)
    · skip
      exact b184_127 L xs m d k (n + 1) x1 x2 x3 x4 g r
    · skip
      exact b184_123 L xs m d k (n + 0) x1 x2 x3 x4 g r
def B184_97 (L : Nat) (xs : Nat → Int32) (m d k : Nat) (x1 x2 x3 x4 : Int32) (g : a2_G) (r : a2_A) : Option fn_Z := (if am_c2 .ne x2 12 = true then (B184_112 L xs m d k x1 x2 x3 x4 g r) else (fn_v (ev L xs m d 159 [.int x1, .int 1, .int 2] g r) fun v50 g48 r49 => (if am_c2 .ne v50 0 = true then (B184_123 L xs m d k x1 x2 x3 x4 g48 r49) else (B184_112 L xs m d k x1 x2 x3 x4 g48 r49))))
theorem b184_97 (L : Nat) (xs : Nat → Int32) (m d k : Nat) (n : Nat) (x1 x2 x3 x4 : Int32) (g : a2_G) (r : a2_A) : bk L xs 184 nm_m184 m d k (n + 106) 97 [some (.ref 9), some (.int x1), some (.int x2), some (.int x3), some (.int x4), none] [] g r = B184_97 L xs m d k x1 x2 x3 x4 g r := by
  show _ = ((if am_c2 .ne x2 12 = true then (B184_112 L xs m d k x1 x2 x3 x4 g r) else (fn_v (ev L xs m d 159 [.int x1, .int 1, .int 2] g r) fun v50 g48 r49 => (if am_c2 .ne v50 0 = true then (B184_123 L xs m d k x1 x2 x3 x4 g48 r49) else (B184_112 L xs m d k x1 x2 x3 x4 g48 r49)))) : Option fn_Z)
  refine (fs_r (n := n + 104) 2 (pc' := 100) (L' := [some (.ref 9), some (.int x1), some (.int x2), some (.int x3), some (.int x4), none]) (S' := [.int 12, .int x2]) rfl).trans ?_
  refine (fs_j (n := n + 103) rfl (t := 112) rfl (by decide)).trans (fs_ite ?_ ?_)
  · skip
    exact b184_112 L xs m d k (n + 5) x1 x2 x3 x4 g r
  · skip
    refine (fs_r (n := n + 100) 3 (pc' := 106) (L' := [some (.ref 9), some (.int x1), some (.int x2), some (.int x3), some (.int x4), none]) (S' := [.int 2, .int 1, .int x1]) rfl).trans ?_
    refine (fs_sv (n := n + 99) (N := nm_m159) (as := [.int x1, .int 1, .int 2]) (rest := []) rfl rfl (by decide) rfl rfl rfl rfl rfl).trans (fs_fv fun v50 g48 r49 => ?_)
    refine (fs_i (n := n + 98) rfl (t := 123) rfl (by decide)).trans (fs_ite ?_ ?_)
    · skip
      exact b184_123 L xs m d k (n + 6) x1 x2 x3 x4 g48 r49
    · skip
      exact b184_112 L xs m d k (n + 0) x1 x2 x3 x4 g48 r49
def B184_87 (L : Nat) (xs : Nat → Int32) (m d k : Nat) (x1 x2 x3 x4 : Int32) (g : a2_G) (r : a2_A) : Option fn_Z := (if am_c2 .ne x2 5 = true then (B184_97 L xs m d k x1 x2 x3 x4 g r) else (if am_c2 .eq x1 2 = true then (B184_123 L xs m d k x1 x2 x3 x4 g r) else (B184_97 L xs m d k x1 x2 x3 x4 g r)))
theorem b184_87 (L : Nat) (xs : Nat → Int32) (m d k : Nat) (n : Nat) (x1 x2 x3 x4 : Int32) (g : a2_G) (r : a2_A) : bk L xs 184 nm_m184 m d k (n + 112) 87 [some (.ref 9), some (.int x1), some (.int x2), some (.int x3), some (.int x4), none] [] g r = B184_87 L xs m d k x1 x2 x3 x4 g r := by
  show _ = ((if am_c2 .ne x2 5 = true then (B184_97 L xs m d k x1 x2 x3 x4 g r) else (if am_c2 .eq x1 2 = true then (B184_123 L xs m d k x1 x2 x3 x4 g r) else (B184_97 L xs m d k x1 x2 x3 x4 g r))) : Option fn_Z)
  refine (fs_r (n := n + 110) 2 (pc' := 89) (L' := [some (.ref 9), some (.int x1), some (.int x2), some (.int x3), some (.int x4), none]) (S' := [.int 5, .int x2]) rfl).trans ?_
  refine (fs_j (n := n + 109) rfl (t := 97) rfl (by decide)).trans (fs_ite ?_ ?_)
  · skip
    exact b184_97 L xs m d k (n + 3) x1 x2 x3 x4 g r
  · skip
    refine (fs_r (n := n + 107) 2 (pc' := 94) (L' := [some (.ref 9), some (.int x1), some (.int x2), some (.int x3), some (.int x4), none]) (S' := [.int 2, .int x1]) rfl).trans ?_
    refine (fs_j (n := n + 106) rfl (t := 123) rfl (by decide)).trans (fs_ite ?_ ?_)
    · skip
      exact b184_123 L xs m d k (n + 14) x1 x2 x3 x4 g r
    · skip
      exact b184_97 L xs m d k (n + 0) x1 x2 x3 x4 g r
def B184_77 (L : Nat) (xs : Nat → Int32) (m d k : Nat) (x1 x2 x3 x4 : Int32) (g : a2_G) (r : a2_A) : Option fn_Z := (if am_c2 .ne x2 4 = true then (B184_87 L xs m d k x1 x2 x3 x4 g r) else (if am_c2 .eq x1 1 = true then (B184_123 L xs m d k x1 x2 x3 x4 g r) else (B184_87 L xs m d k x1 x2 x3 x4 g r)))
theorem b184_77 (L : Nat) (xs : Nat → Int32) (m d k : Nat) (n : Nat) (x1 x2 x3 x4 : Int32) (g : a2_G) (r : a2_A) : bk L xs 184 nm_m184 m d k (n + 118) 77 [some (.ref 9), some (.int x1), some (.int x2), some (.int x3), some (.int x4), none] [] g r = B184_77 L xs m d k x1 x2 x3 x4 g r := by
  show _ = ((if am_c2 .ne x2 4 = true then (B184_87 L xs m d k x1 x2 x3 x4 g r) else (if am_c2 .eq x1 1 = true then (B184_123 L xs m d k x1 x2 x3 x4 g r) else (B184_87 L xs m d k x1 x2 x3 x4 g r))) : Option fn_Z)
  refine (fs_r (n := n + 116) 2 (pc' := 79) (L' := [some (.ref 9), some (.int x1), some (.int x2), some (.int x3), some (.int x4), none]) (S' := [.int 4, .int x2]) rfl).trans ?_
  refine (fs_j (n := n + 115) rfl (t := 87) rfl (by decide)).trans (fs_ite ?_ ?_)
  · skip
    exact b184_87 L xs m d k (n + 3) x1 x2 x3 x4 g r
  · skip
    refine (fs_r (n := n + 113) 2 (pc' := 84) (L' := [some (.ref 9), some (.int x1), some (.int x2), some (.int x3), some (.int x4), none]) (S' := [.int 1, .int x1]) rfl).trans ?_
    refine (fs_j (n := n + 112) rfl (t := 123) rfl (by decide)).trans (fs_ite ?_ ?_)
    · skip
      exact b184_123 L xs m d k (n + 20) x1 x2 x3 x4 g r
    · skip
      exact b184_87 L xs m d k (n + 0) x1 x2 x3 x4 g r
def B184_60 (L : Nat) (xs : Nat → Int32) (m d k : Nat) (x1 x2 x3 x4 : Int32) (g : a2_G) (r : a2_A) : Option fn_Z := (if am_c2 .ne x2 3 = true then (B184_77 L xs m d k x1 x2 x3 x4 g r) else (if am_c2 .ne x1 0 = true then (B184_77 L xs m d k x1 x2 x3 x4 g r) else (if am_c2 .eq (g 926) 1 = true then (B184_123 L xs m d k x1 x2 x3 x4 g r) else (B184_77 L xs m d k x1 x2 x3 x4 g r))))
theorem b184_60 (L : Nat) (xs : Nat → Int32) (m d k : Nat) (n : Nat) (x1 x2 x3 x4 : Int32) (g : a2_G) (r : a2_A) : bk L xs 184 nm_m184 m d k (n + 127) 60 [some (.ref 9), some (.int x1), some (.int x2), some (.int x3), some (.int x4), none] [] g r = B184_60 L xs m d k x1 x2 x3 x4 g r := by
  show _ = ((if am_c2 .ne x2 3 = true then (B184_77 L xs m d k x1 x2 x3 x4 g r) else (if am_c2 .ne x1 0 = true then (B184_77 L xs m d k x1 x2 x3 x4 g r) else (if am_c2 .eq (g 926) 1 = true then (B184_123 L xs m d k x1 x2 x3 x4 g r) else (B184_77 L xs m d k x1 x2 x3 x4 g r)))) : Option fn_Z)
  refine (fs_r (n := n + 125) 2 (pc' := 62) (L' := [some (.ref 9), some (.int x1), some (.int x2), some (.int x3), some (.int x4), none]) (S' := [.int 3, .int x2]) rfl).trans ?_
  refine (fs_j (n := n + 124) rfl (t := 77) rfl (by decide)).trans (fs_ite ?_ ?_)
  · skip
    exact b184_77 L xs m d k (n + 6) x1 x2 x3 x4 g r
  · skip
    refine (fs_r (n := n + 123) 1 (pc' := 66) (L' := [some (.ref 9), some (.int x1), some (.int x2), some (.int x3), some (.int x4), none]) (S' := [.int x1]) rfl).trans ?_
    refine (fs_i (n := n + 122) rfl (t := 77) rfl (by decide)).trans (fs_ite ?_ ?_)
    · skip
      exact b184_77 L xs m d k (n + 4) x1 x2 x3 x4 g r
    · skip
      refine (fs_r (n := n + 119) 3 (pc' := 74) (L' := [some (.ref 9), some (.int x1), some (.int x2), some (.int x3), some (.int x4), none]) (S' := [.int 1, .int (g 926)]) rfl).trans ?_
      refine (fs_j (n := n + 118) rfl (t := 123) rfl (by decide)).trans (fs_ite ?_ ?_)
      · skip
        exact b184_123 L xs m d k (n + 26) x1 x2 x3 x4 g r
      · skip
        exact b184_77 L xs m d k (n + 0) x1 x2 x3 x4 g r
def B184_45 (L : Nat) (xs : Nat → Int32) (m d k : Nat) (x1 x2 x3 x4 : Int32) (g : a2_G) (r : a2_A) : Option fn_Z := (if am_c2 .eq x2 0 = true then (B184_123 L xs m d k x1 x2 x3 x4 g r) else (if am_c2 .ne x2 2 = true then (B184_60 L xs m d k x1 x2 x3 x4 g r) else (if am_c2 .eq x1 0 = true then (B184_123 L xs m d k x1 x2 x3 x4 g r) else (B184_60 L xs m d k x1 x2 x3 x4 g r))))
theorem b184_45 (L : Nat) (xs : Nat → Int32) (m d k : Nat) (n : Nat) (x1 x2 x3 x4 : Int32) (g : a2_G) (r : a2_A) : bk L xs 184 nm_m184 m d k (n + 135) 45 [some (.ref 9), some (.int x1), some (.int x2), some (.int x3), none, none] [.int x4] g r = B184_45 L xs m d k x1 x2 x3 x4 g r := by
  show _ = ((if am_c2 .eq x2 0 = true then (B184_123 L xs m d k x1 x2 x3 x4 g r) else (if am_c2 .ne x2 2 = true then (B184_60 L xs m d k x1 x2 x3 x4 g r) else (if am_c2 .eq x1 0 = true then (B184_123 L xs m d k x1 x2 x3 x4 g r) else (B184_60 L xs m d k x1 x2 x3 x4 g r)))) : Option fn_Z)
  refine (fs_r (n := n + 133) 2 (pc' := 48) (L' := [some (.ref 9), some (.int x1), some (.int x2), some (.int x3), some (.int x4), none]) (S' := [.int x2]) rfl).trans ?_
  refine (fs_i (n := n + 132) rfl (t := 123) rfl (by decide)).trans (fs_ite ?_ ?_)
  · skip
    exact b184_123 L xs m d k (n + 40) x1 x2 x3 x4 g r
  · skip
    refine (fs_r (n := n + 130) 2 (pc' := 53) (L' := [some (.ref 9), some (.int x1), some (.int x2), some (.int x3), some (.int x4), none]) (S' := [.int 2, .int x2]) rfl).trans ?_
    refine (fs_j (n := n + 129) rfl (t := 60) rfl (by decide)).trans (fs_ite ?_ ?_)
    · skip
      exact b184_60 L xs m d k (n + 2) x1 x2 x3 x4 g r
    · skip
      refine (fs_r (n := n + 128) 1 (pc' := 57) (L' := [some (.ref 9), some (.int x1), some (.int x2), some (.int x3), some (.int x4), none]) (S' := [.int x1]) rfl).trans ?_
      refine (fs_i (n := n + 127) rfl (t := 123) rfl (by decide)).trans (fs_ite ?_ ?_)
      · skip
        exact b184_123 L xs m d k (n + 35) x1 x2 x3 x4 g r
      · skip
        exact b184_60 L xs m d k (n + 0) x1 x2 x3 x4 g r
def B184_44 (L : Nat) (xs : Nat → Int32) (m d k : Nat) (x1 x2 x3 : Int32) (g : a2_G) (r : a2_A) : Option fn_Z := (B184_45 L xs m d k x1 x2 x3 0 g r)
theorem b184_44 (L : Nat) (xs : Nat → Int32) (m d k : Nat) (n : Nat) (x1 x2 x3 : Int32) (g : a2_G) (r : a2_A) : bk L xs 184 nm_m184 m d k (n + 136) 44 [some (.ref 9), some (.int x1), some (.int x2), some (.int x3), none, none] [] g r = B184_44 L xs m d k x1 x2 x3 g r := by
  show _ = ((B184_45 L xs m d k x1 x2 x3 0 g r) : Option fn_Z)
  refine (fs_r (n := n + 135) 1 (pc' := 45) (L' := [some (.ref 9), some (.int x1), some (.int x2), some (.int x3), none, none]) (S' := [.int 0]) rfl).trans ?_
  exact b184_45 L xs m d k (n + 0) x1 x2 x3 0 g r
def B184_40 (L : Nat) (xs : Nat → Int32) (m d k : Nat) (x1 x2 x3 : Int32) (g : a2_G) (r : a2_A) : Option fn_Z := (B184_45 L xs m d k x1 x2 x3 1 g r)
theorem b184_40 (L : Nat) (xs : Nat → Int32) (m d k : Nat) (n : Nat) (x1 x2 x3 : Int32) (g : a2_G) (r : a2_A) : bk L xs 184 nm_m184 m d k (n + 137) 40 [some (.ref 9), some (.int x1), some (.int x2), some (.int x3), none, none] [] g r = B184_40 L xs m d k x1 x2 x3 g r := by
  show _ = ((B184_45 L xs m d k x1 x2 x3 1 g r) : Option fn_Z)
  refine (fs_r (n := n + 136) 1 (pc' := 41) (L' := [some (.ref 9), some (.int x1), some (.int x2), some (.int x3), none, none]) (S' := [.int 1]) rfl).trans ?_
  refine (fs_go (n := n + 135) rfl (t := 45) rfl (by decide)).trans ?_
  exact b184_45 L xs m d k (n + 0) x1 x2 x3 1 g r
theorem e184 (L : Nat) (xs : Nat → Int32) (m d k : Nat) (n : Nat) (a1 a2 : Int32) (g : a2_G) (r : a2_A) : bk L xs 184 nm_m184 m d k (n + 156) 0 [some (.ref 9), some (.int a1), some (.int a2), none, none, none] [] g r = (fn_v (ev L xs m d 185 [.ref 9, .int (g 941)] g r) fun v3 g1 r2 => (if am_c2 .eq v3 0 = true then (B184_44 L xs m d k a1 a2 (g 941) g1 r2) else (fn_v (ev L xs m d 159 [.int a1, .int 8, .int 11] g1 r2) fun v53 g51 r52 => (if am_c2 .eq v53 0 = true then (B184_44 L xs m d k a1 a2 (g 941) g51 r52) else (if am_c2 .ne a1 9 = true then (B184_40 L xs m d k a1 a2 (g 941) g51 r52) else (if am_c2 .le (g51 935) 0 = true then (B184_44 L xs m d k a1 a2 (g 941) g51 r52) else (B184_40 L xs m d k a1 a2 (g 941) g51 r52))))))) := by
  refine (fs_r (n := n + 150) 6 (pc' := 10) (L' := [some (.ref 9), some (.int a1), some (.int a2), some (.int (g 941)), none, none]) (S' := [.int (g 941), .ref 9]) rfl).trans ?_
  refine (fs_cv (n := n + 149) (N := nm_m185) (as := [.ref 9, .int (g 941)]) (rest := []) rfl rfl (Or.inl rfl) rfl rfl rfl rfl rfl).trans (fs_fv fun v3 g1 r2 => ?_)
  refine (fs_i (n := n + 148) rfl (t := 44) rfl (by decide)).trans (fs_ite ?_ ?_)
  · skip
    exact b184_44 L xs m d k (n + 12) a1 a2 (g 941) g1 r2
  · skip
    refine (fs_r (n := n + 145) 3 (pc' := 21) (L' := [some (.ref 9), some (.int a1), some (.int a2), some (.int (g 941)), none, none]) (S' := [.int 11, .int 8, .int a1]) rfl).trans ?_
    refine (fs_sv (n := n + 144) (N := nm_m159) (as := [.int a1, .int 8, .int 11]) (rest := []) rfl rfl (by decide) rfl rfl rfl rfl rfl).trans (fs_fv fun v53 g51 r52 => ?_)
    refine (fs_i (n := n + 143) rfl (t := 44) rfl (by decide)).trans (fs_ite ?_ ?_)
    · skip
      exact b184_44 L xs m d k (n + 7) a1 a2 (g 941) g51 r52
    · skip
      refine (fs_r (n := n + 141) 2 (pc' := 30) (L' := [some (.ref 9), some (.int a1), some (.int a2), some (.int (g 941)), none, none]) (S' := [.int 9, .int a1]) rfl).trans ?_
      refine (fs_j (n := n + 140) rfl (t := 40) rfl (by decide)).trans (fs_ite ?_ ?_)
      · skip
        exact b184_40 L xs m d k (n + 3) a1 a2 (g 941) g51 r52
      · skip
        refine (fs_r (n := n + 138) 2 (pc' := 37) (L' := [some (.ref 9), some (.int a1), some (.int a2), some (.int (g 941)), none, none]) (S' := [.int (g51 935)]) rfl).trans ?_
        refine (fs_i (n := n + 137) rfl (t := 44) rfl (by decide)).trans (fs_ite ?_ ?_)
        · skip
          exact b184_44 L xs m d k (n + 1) a1 a2 (g 941) g51 r52
        · skip
          exact b184_40 L xs m d k (n + 0) a1 a2 (g 941) g51 r52
theorem q184 (L : Nat) (xs : Nat → Int32) (m d : Nat) (a1 a2 : Int32) (g : a2_G) (r : a2_A) : ev L xs (m + 1) (d + 1) 184 [.ref 9, .int a1, .int a2] g r = (fn_v (ev L xs (m + 1) d 185 [.ref 9, .int (g 941)] g r) fun v3 g1 r2 => (if am_c2 .eq v3 0 = true then (B184_44 L xs (m + 1) d m a1 a2 (g 941) g1 r2) else (fn_v (ev L xs (m + 1) d 159 [.int a1, .int 8, .int 11] g1 r2) fun v53 g51 r52 => (if am_c2 .eq v53 0 = true then (B184_44 L xs (m + 1) d m a1 a2 (g 941) g51 r52) else (if am_c2 .ne a1 9 = true then (B184_40 L xs (m + 1) d m a1 a2 (g 941) g51 r52) else (if am_c2 .le (g51 935) 0 = true then (B184_44 L xs (m + 1) d m a1 a2 (g 941) g51 r52) else (B184_40 L xs (m + 1) d m a1 a2 (g 941) g51 r52))))))) := (fs_ev (M := nm_m184) rfl rfl).trans (e184 L xs (m + 1) d m 744 a1 a2 g r)
/-- CobolParserModel.begins(I)Z -/
def B185_41 (L : Nat) (xs : Nat → Int32) (m d k : Nat) (x1 x2 : Int32) (g : a2_G) (r : a2_A) : Option fn_Z := (if x2 = 0 ∨ x2 = 1 then some (.inl (some (.int x2)), g, r) else none)
theorem b185_41 (L : Nat) (xs : Nat → Int32) (m d k : Nat) (n : Nat) (x1 x2 : Int32) (g : a2_G) (r : a2_A) : bk L xs 185 nm_m185 m d k (n + 1) 41 [some (.ref 9), some (.int x1)] [.int x2] g r = B185_41 L xs m d k x1 x2 g r := by
  show _ = ((if x2 = 0 ∨ x2 = 1 then some (.inl (some (.int x2)), g, r) else none) : Option fn_Z)
  exact (fs_rb (n := n + 0) rfl rfl).trans rfl
def B185_40 (L : Nat) (xs : Nat → Int32) (m d k : Nat) (x1 : Int32) (g : a2_G) (r : a2_A) : Option fn_Z := (B185_41 L xs m d k x1 0 g r)
theorem b185_40 (L : Nat) (xs : Nat → Int32) (m d k : Nat) (n : Nat) (x1 : Int32) (g : a2_G) (r : a2_A) : bk L xs 185 nm_m185 m d k (n + 2) 40 [some (.ref 9), some (.int x1)] [] g r = B185_40 L xs m d k x1 g r := by
  show _ = ((B185_41 L xs m d k x1 0 g r) : Option fn_Z)
  refine (fs_r (n := n + 1) 1 (pc' := 41) (L' := [some (.ref 9), some (.int x1)]) (S' := [.int 0]) rfl).trans ?_
  exact b185_41 L xs m d k (n + 0) x1 0 g r
def B185_36 (L : Nat) (xs : Nat → Int32) (m d k : Nat) (x1 : Int32) (g : a2_G) (r : a2_A) : Option fn_Z := (B185_41 L xs m d k x1 1 g r)
theorem b185_36 (L : Nat) (xs : Nat → Int32) (m d k : Nat) (n : Nat) (x1 : Int32) (g : a2_G) (r : a2_A) : bk L xs 185 nm_m185 m d k (n + 3) 36 [some (.ref 9), some (.int x1)] [] g r = B185_36 L xs m d k x1 g r := by
  show _ = ((B185_41 L xs m d k x1 1 g r) : Option fn_Z)
  refine (fs_r (n := n + 2) 1 (pc' := 37) (L' := [some (.ref 9), some (.int x1)]) (S' := [.int 1]) rfl).trans ?_
  refine (fs_go (n := n + 1) rfl (t := 41) rfl (by decide)).trans ?_
  exact b185_41 L xs m d k (n + 0) x1 1 g r
theorem e185 (L : Nat) (xs : Nat → Int32) (m d k : Nat) (n : Nat) (a1 : Int32) (g : a2_G) (r : a2_A) : bk L xs 185 nm_m185 m d k (n + 22) 0 [some (.ref 9), some (.int a1)] [] g r = (fn_v (ev L xs m d 167 [.ref 9, .int a1, .int 0] g r) fun v3 g1 r2 => (if am_c2 .eq v3 0 = true then (B185_40 L xs m d k a1 g1 r2) else (if am_inr a1 (r2 903).1 = true then (fn_v (ev L xs m d 159 [.int ((r2 903).2 (a1 : Int32).toNatClampNeg), .int 36, .int 47] g1 r2) fun v6 g4 r5 => (if am_c2 .ne v6 0 = true then (B185_36 L xs m d k a1 g4 r5) else (if am_inr a1 (r5 903).1 = true then (if am_c2 .ne ((r5 903).2 (a1 : Int32).toNatClampNeg) 29 = true then (B185_40 L xs m d k a1 g4 r5) else (B185_36 L xs m d k a1 g4 r5)) else none))) else none))) := by
  refine (fs_r (n := n + 19) 3 (pc' := 3) (L' := [some (.ref 9), some (.int a1)]) (S' := [.int 0, .int a1, .ref 9]) rfl).trans ?_
  refine (fs_cv (n := n + 18) (N := nm_m167) (as := [.ref 9, .int a1, .int 0]) (rest := []) rfl rfl (Or.inl rfl) rfl rfl rfl rfl rfl).trans (fs_fv fun v3 g1 r2 => ?_)
  refine (fs_i (n := n + 17) rfl (t := 40) rfl (by decide)).trans (fs_ite ?_ ?_)
  · skip
    exact b185_40 L xs m d k (n + 15) a1 g1 r2
  · skip
    refine (fs_r (n := n + 14) 3 (pc' := 14) (L' := [some (.ref 9), some (.int a1)]) (S' := [.int a1, .ref 10903]) rfl).trans ?_
    refine (fs_il (n := n + 13) (k := 903) rfl rfl).trans (fs_ite ?_ rfl)
    refine (fs_r (n := n + 11) 2 (pc' := 19) (L' := [some (.ref 9), some (.int a1)]) (S' := [.int 47, .int 36, .int ((r2 903).2 (a1 : Int32).toNatClampNeg)]) rfl).trans ?_
    refine (fs_sv (n := n + 10) (N := nm_m159) (as := [.int ((r2 903).2 (a1 : Int32).toNatClampNeg), .int 36, .int 47]) (rest := []) rfl rfl (by decide) rfl rfl rfl rfl rfl).trans (fs_fv fun v6 g4 r5 => ?_)
    refine (fs_i (n := n + 9) rfl (t := 36) rfl (by decide)).trans (fs_ite ?_ ?_)
    · skip
      exact b185_36 L xs m d k (n + 6) a1 g4 r5
    · skip
      refine (fs_r (n := n + 6) 3 (pc' := 30) (L' := [some (.ref 9), some (.int a1)]) (S' := [.int a1, .ref 10903]) rfl).trans ?_
      refine (fs_il (n := n + 5) (k := 903) rfl rfl).trans (fs_ite ?_ rfl)
      refine (fs_r (n := n + 4) 1 (pc' := 33) (L' := [some (.ref 9), some (.int a1)]) (S' := [.int 29, .int ((r5 903).2 (a1 : Int32).toNatClampNeg)]) rfl).trans ?_
      refine (fs_j (n := n + 3) rfl (t := 40) rfl (by decide)).trans (fs_ite ?_ ?_)
      · skip
        exact b185_40 L xs m d k (n + 1) a1 g4 r5
      · skip
        exact b185_36 L xs m d k (n + 0) a1 g4 r5
theorem q185 (L : Nat) (xs : Nat → Int32) (m d : Nat) (a1 : Int32) (g : a2_G) (r : a2_A) : ev L xs (m + 1) (d + 1) 185 [.ref 9, .int a1] g r = (fn_v (ev L xs (m + 1) d 167 [.ref 9, .int a1, .int 0] g r) fun v3 g1 r2 => (if am_c2 .eq v3 0 = true then (B185_40 L xs (m + 1) d m a1 g1 r2) else (if am_inr a1 (r2 903).1 = true then (fn_v (ev L xs (m + 1) d 159 [.int ((r2 903).2 (a1 : Int32).toNatClampNeg), .int 36, .int 47] g1 r2) fun v6 g4 r5 => (if am_c2 .ne v6 0 = true then (B185_36 L xs (m + 1) d m a1 g4 r5) else (if am_inr a1 (r5 903).1 = true then (if am_c2 .ne ((r5 903).2 (a1 : Int32).toNatClampNeg) 29 = true then (B185_40 L xs (m + 1) d m a1 g4 r5) else (B185_36 L xs (m + 1) d m a1 g4 r5)) else none))) else none))) := (fs_ev (M := nm_m185) rfl rfl).trans (e185 L xs (m + 1) d m 878 a1 g r)
/-- CobolParserModel.sentence(I)V -/
def B186_80 (L : Nat) (xs : Nat → Int32) (m d k : Nat) (x1 x2 : Int32) (g : a2_G) (r : a2_A) : Option fn_Z := (some (.inl none, g, r))
theorem b186_80 (L : Nat) (xs : Nat → Int32) (m d k : Nat) (n : Nat) (x1 x2 : Int32) (g : a2_G) (r : a2_A) : bk L xs 186 nm_m186 m d k (n + 1) 80 [some (.ref 9), some (.int x1), some (.int x2)] [] g r = B186_80 L xs m d k x1 x2 g r := by
  show _ = ((some (.inl none, g, r)) : Option fn_Z)
  exact (fs_rv (n := n + 0) rfl rfl).trans rfl
def B186_64 (L : Nat) (xs : Nat → Int32) (m d k : Nat) (x1 x2 x3 : Int32) (g : a2_G) (r : a2_A) : Option fn_Z := (fn_n (ev L xs m d 174 [.ref 9, .int x3, .int x2] g r) fun g12 r13 => (if am_c2 .eq x1 9 = true then (B186_80 L xs m d k x1 x2 g12 r13) else (fn_n (ev L xs m d 183 [.ref 9, .int 11] g12 r13) fun g14 r15 => (B186_80 L xs m d k x1 x2 g14 r15))))
theorem b186_64 (L : Nat) (xs : Nat → Int32) (m d k : Nat) (n : Nat) (x1 x2 x3 : Int32) (g : a2_G) (r : a2_A) : bk L xs 186 nm_m186 m d k (n + 9) 64 [some (.ref 9), some (.int x1), some (.int x2)] [.int x3, .ref 9] g r = B186_64 L xs m d k x1 x2 x3 g r := by
  show _ = ((fn_n (ev L xs m d 174 [.ref 9, .int x3, .int x2] g r) fun g12 r13 => (if am_c2 .eq x1 9 = true then (B186_80 L xs m d k x1 x2 g12 r13) else (fn_n (ev L xs m d 183 [.ref 9, .int 11] g12 r13) fun g14 r15 => (B186_80 L xs m d k x1 x2 g14 r15)))) : Option fn_Z)
  refine (fs_r (n := n + 8) 1 (pc' := 65) (L' := [some (.ref 9), some (.int x1), some (.int x2)]) (S' := [.int x2, .int x3, .ref 9]) rfl).trans ?_
  refine (fs_cn (n := n + 7) (N := nm_m174) (as := [.ref 9, .int x3, .int x2]) (rest := []) rfl rfl (Or.inl rfl) rfl rfl rfl rfl rfl).trans (fs_fn fun g12 r13 => ?_)
  refine (fs_r (n := n + 5) 2 (pc' := 71) (L' := [some (.ref 9), some (.int x1), some (.int x2)]) (S' := [.int 9, .int x1]) rfl).trans ?_
  refine (fs_j (n := n + 4) rfl (t := 80) rfl (by decide)).trans (fs_ite ?_ ?_)
  · skip
    exact b186_80 L xs m d k (n + 3) x1 x2 g12 r13
  · skip
    refine (fs_r (n := n + 2) 2 (pc' := 77) (L' := [some (.ref 9), some (.int x1), some (.int x2)]) (S' := [.int 11, .ref 9]) rfl).trans ?_
    refine (fs_cn (n := n + 1) (N := nm_m183) (as := [.ref 9, .int 11]) (rest := []) rfl rfl (Or.inl rfl) rfl rfl rfl rfl rfl).trans (fs_fn fun g14 r15 => ?_)
    exact b186_80 L xs m d k (n + 0) x1 x2 g14 r15
theorem e186 (L : Nat) (xs : Nat → Int32) (m d k : Nat) (n : Nat) (a1 : Int32) (g : a2_G) (r : a2_A) : bk L xs 186 nm_m186 m d k (n + 35) 0 [some (.ref 9), some (.int a1), none] [] g r = (fn_v (ev L xs m d 161 [.ref 9, .int 25, .int 0, .int (g 941)] g r) fun v3 g1 r2 => (fn_n (ev L xs m d 187 [.ref 9, .int v3] g1 r2) fun g4 r5 => (fn_v (ev L xs m d 171 [.ref 9, .int 4] g4 r5) fun v8 g6 r7 => (if am_c2 .ne v8 0 = true then (if am_c2 .le (g6 936) 0 = true then (if am_c2 .le (g6 935) 0 = true then (fn_v (ev L xs m d 182 [.ref 9] g6 r7) fun v11 g9 r10 => (if am_inr v11 (r10 925).1 = true then (B186_64 L xs m d k a1 v3 ((r10 925).2 (v11 : Int32).toNatClampNeg) g9 r10) else none)) else (B186_64 L xs m d k a1 v3 (g6 935) g6 r7)) else (B186_64 L xs m d k a1 v3 (g6 936) g6 r7)) else (some (.inl none, g6, r7)))))) := by
  refine (fs_r (n := n + 30) 5 (pc' := 8) (L' := [some (.ref 9), some (.int a1), none]) (S' := [.int (g 941), .int 0, .int 25, .ref 9]) rfl).trans ?_
  refine (fs_cv (n := n + 29) (N := nm_m161) (as := [.ref 9, .int 25, .int 0, .int (g 941)]) (rest := []) rfl rfl (Or.inl rfl) rfl rfl rfl rfl rfl).trans (fs_fv fun v3 g1 r2 => ?_)
  refine (fs_r (n := n + 26) 3 (pc' := 14) (L' := [some (.ref 9), some (.int a1), some (.int v3)]) (S' := [.int v3, .ref 9]) rfl).trans ?_
  refine (fs_cn (n := n + 25) (N := nm_m187) (as := [.ref 9, .int v3]) (rest := []) rfl rfl (Or.inl rfl) rfl rfl rfl rfl rfl).trans (fs_fn fun g4 r5 => ?_)
  refine (fs_r (n := n + 23) 2 (pc' := 19) (L' := [some (.ref 9), some (.int a1), some (.int v3)]) (S' := [.int 4, .ref 9]) rfl).trans ?_
  refine (fs_cv (n := n + 22) (N := nm_m171) (as := [.ref 9, .int 4]) (rest := []) rfl rfl (Or.inl rfl) rfl rfl rfl rfl rfl).trans (fs_fv fun v8 g6 r7 => ?_)
  refine (fs_i (n := n + 21) rfl (t := 26) rfl (by decide)).trans (fs_ite ?_ ?_)
  · skip
    refine (fs_r (n := n + 18) 3 (pc' := 31) (L' := [some (.ref 9), some (.int a1), some (.int v3)]) (S' := [.int (g6 936), .ref 9]) rfl).trans ?_
    refine (fs_i (n := n + 17) rfl (t := 41) rfl (by decide)).trans (fs_ite ?_ ?_)
    · skip
      refine (fs_r (n := n + 15) 2 (pc' := 45) (L' := [some (.ref 9), some (.int a1), some (.int v3)]) (S' := [.int (g6 935), .ref 9]) rfl).trans ?_
      refine (fs_i (n := n + 14) rfl (t := 55) rfl (by decide)).trans (fs_ite ?_ ?_)
      · skip
        refine (fs_r (n := n + 11) 3 (pc' := 60) (L' := [some (.ref 9), some (.int a1), some (.int v3)]) (S' := [.ref 9, .ref 10925, .ref 9]) rfl).trans ?_
        refine (fs_cv (n := n + 10) (N := nm_m182) (as := [.ref 9]) (rest := [.ref 10925, .ref 9]) rfl rfl (Or.inl rfl) rfl rfl rfl rfl rfl).trans (fs_fv fun v11 g9 r10 => ?_)
        refine (fs_il (n := n + 9) (k := 925) rfl rfl).trans (fs_ite ?_ rfl)
        exact b186_64 L xs m d k (n + 0) a1 v3 ((r10 925).2 (v11 : Int32).toNatClampNeg) g9 r10
      · skip
        refine (fs_r (n := n + 12) 2 (pc' := 52) (L' := [some (.ref 9), some (.int a1), some (.int v3)]) (S' := [.int (g6 935), .ref 9]) rfl).trans ?_
        refine (fs_go (n := n + 11) rfl (t := 64) rfl (by decide)).trans ?_
        exact b186_64 L xs m d k (n + 2) a1 v3 (g6 935) g6 r7
    · skip
      refine (fs_r (n := n + 15) 2 (pc' := 38) (L' := [some (.ref 9), some (.int a1), some (.int v3)]) (S' := [.int (g6 936), .ref 9]) rfl).trans ?_
      refine (fs_go (n := n + 14) rfl (t := 64) rfl (by decide)).trans ?_
      exact b186_64 L xs m d k (n + 5) a1 v3 (g6 936) g6 r7
  · skip
    exact (fs_rv (n := n + 20) rfl rfl).trans rfl
theorem q186 (L : Nat) (xs : Nat → Int32) (m d : Nat) (a1 : Int32) (g : a2_G) (r : a2_A) : ev L xs (m + 1) (d + 1) 186 [.ref 9, .int a1] g r = (fn_v (ev L xs (m + 1) d 161 [.ref 9, .int 25, .int 0, .int (g 941)] g r) fun v3 g1 r2 => (fn_n (ev L xs (m + 1) d 187 [.ref 9, .int v3] g1 r2) fun g4 r5 => (fn_v (ev L xs (m + 1) d 171 [.ref 9, .int 4] g4 r5) fun v8 g6 r7 => (if am_c2 .ne v8 0 = true then (if am_c2 .le (g6 936) 0 = true then (if am_c2 .le (g6 935) 0 = true then (fn_v (ev L xs (m + 1) d 182 [.ref 9] g6 r7) fun v11 g9 r10 => (if am_inr v11 (r10 925).1 = true then (B186_64 L xs (m + 1) d m a1 v3 ((r10 925).2 (v11 : Int32).toNatClampNeg) g9 r10) else none)) else (B186_64 L xs (m + 1) d m a1 v3 (g6 935) g6 r7)) else (B186_64 L xs (m + 1) d m a1 v3 (g6 936) g6 r7)) else (some (.inl none, g6, r7)))))) := (fs_ev (M := nm_m186) rfl rfl).trans (e186 L xs (m + 1) d m 865 a1 g r)
/-- CobolParserModel.statements(I)V -/
def B187_136 (L : Nat) (xs : Nat → Int32) (m d k : Nat) (x1 : Int32) (g : a2_G) (r : a2_A) : Option fn_Z := (some (.inl none, g, r))
theorem b187_136 (L : Nat) (xs : Nat → Int32) (m d k : Nat) (n : Nat) (x1 : Int32) (g : a2_G) (r : a2_A) : bk L xs 187 nm_m187 m d k (n + 1) 136 [some (.ref 9), some (.int x1), none] [] g r = B187_136 L xs m d k x1 g r := by
  show _ = ((some (.inl none, g, r)) : Option fn_Z)
  exact (fs_rv (n := n + 0) rfl rfl).trans rfl
def B187_133 (L : Nat) (xs : Nat → Int32) (m d k : Nat) (x1 x2 : Int32) (g : a2_G) (r : a2_A) : Option fn_Z := (lp L xs 187 nm_m187 m d k 16 [some (.ref 9), some (.int x1), some (.int x2)] g r)
theorem b187_133 (L : Nat) (xs : Nat → Int32) (m d k : Nat) (n : Nat) (x1 x2 : Int32) (g : a2_G) (r : a2_A) : bk L xs 187 nm_m187 m d k (n + 1) 133 [some (.ref 9), some (.int x1), some (.int x2)] [] g r = B187_133 L xs m d k x1 x2 g r := by
  show _ = ((lp L xs 187 nm_m187 m d k 16 [some (.ref 9), some (.int x1), some (.int x2)] g r) : Option fn_Z)
  exact (fs_gb (n := n + 0) rfl (t := 16) rfl (by decide)).trans rfl
def B187_16 (L : Nat) (xs : Nat → Int32) (m d k : Nat) (x1 : Int32) (g : a2_G) (r : a2_A) : Option fn_Z := (if am_c2 .le (g 945) 0 = true then (B187_136 L xs m d k x1 g r) else (if am_c2 .ne (g 943) 0 = true then (B187_136 L xs m d k x1 g r) else (if am_inr ((g 945) - 1) (r 946).1 = true then (if am_c2 .eq ((r 946).2 (((g 945) - 1) : Int32).toNatClampNeg) 0 = true then (fn_v (ev L xs m d 185 [.ref 9, .int (g 941)] g r) fun v5 g3 r4 => (if am_c2 .eq v5 0 = true then (if am_inr ((g 945) - 1) (r4 948).1 = true then (if am_c2 .ne ((r4 948).2 (((g 945) - 1) : Int32).toNatClampNeg) 0 = true then (B187_133 L xs m d k x1 ((g 945) - 1) (upd (upd g3 945 ((g3 945) - 1)) 944 ((g3 944) - 1)) r4) else (fn_v (ev L xs m d 165 [.ref 9, .int 1, .int (g3 941)] g3 r4) fun v8 g6 r7 => (B187_133 L xs m d k x1 ((g 945) - 1) g6 r7))) else none) else (if am_inr ((g 945) - 1) (r4 948).1 = true then (if am_inr ((g 945) - 1) (r4 947).1 = true then (fn_n (ev L xs m d 196 [.ref 9, .int ((r4 947).2 (((g 945) - 1) : Int32).toNatClampNeg)] g3 (a2_ua r4 948 ((r4 948).1, (upd (r4 948).2 (((g 945) - 1) : Int32).toNatClampNeg 1)))) fun g9 r10 => (B187_133 L xs m d k x1 ((g 945) - 1) g9 r10)) else none) else none))) else (if am_inr ((g 945) - 1) (r 947).1 = true then (fn_n (ev L xs m d 189 [.ref 9, .int ((g 945) - 1), .int ((r 947).2 (((g 945) - 1) : Int32).toNatClampNeg)] g r) fun g11 r12 => (B187_133 L xs m d k x1 ((g 945) - 1) g11 r12)) else none)) else none)))
theorem b187_16 (L : Nat) (xs : Nat → Int32) (m d k : Nat) (n : Nat) (x1 : Int32) (g : a2_G) (r : a2_A) : bk L xs 187 nm_m187 m d k (n + 39) 16 [some (.ref 9), some (.int x1), none] [] g r = B187_16 L xs m d k x1 g r := by
  show _ = ((if am_c2 .le (g 945) 0 = true then (B187_136 L xs m d k x1 g r) else (if am_c2 .ne (g 943) 0 = true then (B187_136 L xs m d k x1 g r) else (if am_inr ((g 945) - 1) (r 946).1 = true then (if am_c2 .eq ((r 946).2 (((g 945) - 1) : Int32).toNatClampNeg) 0 = true then (fn_v (ev L xs m d 185 [.ref 9, .int (g 941)] g r) fun v5 g3 r4 => (if am_c2 .eq v5 0 = true then (if am_inr ((g 945) - 1) (r4 948).1 = true then (if am_c2 .ne ((r4 948).2 (((g 945) - 1) : Int32).toNatClampNeg) 0 = true then (B187_133 L xs m d k x1 ((g 945) - 1) (upd (upd g3 945 ((g3 945) - 1)) 944 ((g3 944) - 1)) r4) else (fn_v (ev L xs m d 165 [.ref 9, .int 1, .int (g3 941)] g3 r4) fun v8 g6 r7 => (B187_133 L xs m d k x1 ((g 945) - 1) g6 r7))) else none) else (if am_inr ((g 945) - 1) (r4 948).1 = true then (if am_inr ((g 945) - 1) (r4 947).1 = true then (fn_n (ev L xs m d 196 [.ref 9, .int ((r4 947).2 (((g 945) - 1) : Int32).toNatClampNeg)] g3 (a2_ua r4 948 ((r4 948).1, (upd (r4 948).2 (((g 945) - 1) : Int32).toNatClampNeg 1)))) fun g9 r10 => (B187_133 L xs m d k x1 ((g 945) - 1) g9 r10)) else none) else none))) else (if am_inr ((g 945) - 1) (r 947).1 = true then (fn_n (ev L xs m d 189 [.ref 9, .int ((g 945) - 1), .int ((r 947).2 (((g 945) - 1) : Int32).toNatClampNeg)] g r) fun g11 r12 => (B187_133 L xs m d k x1 ((g 945) - 1) g11 r12)) else none)) else none))) : Option fn_Z)
  refine (fs_r (n := n + 37) 2 (pc' := 20) (L' := [some (.ref 9), some (.int x1), none]) (S' := [.int (g 945)]) rfl).trans ?_
  refine (fs_i (n := n + 36) rfl (t := 136) rfl (by decide)).trans (fs_ite ?_ ?_)
  · skip
    exact b187_136 L xs m d k (n + 35) x1 g r
  · skip
    refine (fs_r (n := n + 34) 2 (pc' := 27) (L' := [some (.ref 9), some (.int x1), none]) (S' := [.int (g 943)]) rfl).trans ?_
    refine (fs_i (n := n + 33) rfl (t := 136) rfl (by decide)).trans (fs_ite ?_ ?_)
    · skip
      exact b187_136 L xs m d k (n + 32) x1 g r
    · skip
      refine (fs_r (n := n + 25) 8 (pc' := 42) (L' := [some (.ref 9), some (.int x1), some (.int ((g 945) - 1))]) (S' := [.int ((g 945) - 1), .ref 10946]) rfl).trans ?_
      refine (fs_il (n := n + 24) (k := 946) rfl rfl).trans (fs_ite ?_ rfl)
      refine (fs_i (n := n + 23) rfl (t := 60) rfl (by decide)).trans (fs_ite ?_ ?_)
      · skip
        refine (fs_r (n := n + 20) 3 (pc' := 65) (L' := [some (.ref 9), some (.int x1), some (.int ((g 945) - 1))]) (S' := [.int (g 941), .ref 9]) rfl).trans ?_
        refine (fs_cv (n := n + 19) (N := nm_m185) (as := [.ref 9, .int (g 941)]) (rest := []) rfl rfl (Or.inl rfl) rfl rfl rfl rfl rfl).trans (fs_fv fun v5 g3 r4 => ?_)
        refine (fs_i (n := n + 18) rfl (t := 91) rfl (by decide)).trans (fs_ite ?_ ?_)
        · skip
          refine (fs_r (n := n + 15) 3 (pc' := 96) (L' := [some (.ref 9), some (.int x1), some (.int ((g 945) - 1))]) (S' := [.int ((g 945) - 1), .ref 10948]) rfl).trans ?_
          refine (fs_il (n := n + 14) (k := 948) rfl rfl).trans (fs_ite ?_ rfl)
          refine (fs_i (n := n + 13) rfl (t := 113) rfl (by decide)).trans (fs_ite ?_ ?_)
          · skip
            refine (fs_r (n := n + 8) 5 (pc' := 120) (L' := [some (.ref 9), some (.int x1), some (.int ((g 945) - 1))]) (S' := [.int ((g3 945) - 1), .ref 9]) rfl).trans ?_
            refine (fs_pf (n := n + 7) (ci := 9) (j := 45) rfl rfl rfl rfl).trans ?_
            refine (fs_r (n := n + 2) 5 (pc' := 130) (L' := [some (.ref 9), some (.int x1), some (.int ((g 945) - 1))]) (S' := [.int ((g3 944) - 1), .ref 9]) rfl).trans ?_
            refine (fs_pf (n := n + 1) (ci := 9) (j := 44) rfl rfl rfl rfl).trans ?_
            exact b187_133 L xs m d k (n + 0) x1 ((g 945) - 1) (upd (upd g3 945 ((g3 945) - 1)) 944 ((g3 944) - 1)) r4
          · skip
            refine (fs_r (n := n + 9) 4 (pc' := 106) (L' := [some (.ref 9), some (.int x1), some (.int ((g 945) - 1))]) (S' := [.int (g3 941), .int 1, .ref 9]) rfl).trans ?_
            refine (fs_cv (n := n + 8) (N := nm_m165) (as := [.ref 9, .int 1, .int (g3 941)]) (rest := []) rfl rfl (Or.inl rfl) rfl rfl rfl rfl rfl).trans (fs_fv fun v8 g6 r7 => ?_)
            refine (fs_r (n := n + 7) 1 (pc' := 110) (L' := [some (.ref 9), some (.int x1), some (.int ((g 945) - 1))]) (S' := []) rfl).trans ?_
            refine (fs_go (n := n + 6) rfl (t := 133) rfl (by decide)).trans ?_
            exact b187_133 L xs m d k (n + 5) x1 ((g 945) - 1) g6 r7
        · skip
          refine (fs_r (n := n + 14) 4 (pc' := 77) (L' := [some (.ref 9), some (.int x1), some (.int ((g 945) - 1))]) (S' := [.int 1, .int ((g 945) - 1), .ref 10948]) rfl).trans ?_
          refine (fs_is (n := n + 13) (k := 948) rfl rfl).trans (fs_ite ?_ rfl)
          refine (fs_r (n := n + 9) 4 (pc' := 84) (L' := [some (.ref 9), some (.int x1), some (.int ((g 945) - 1))]) (S' := [.int ((g 945) - 1), .ref 10947, .ref 9]) rfl).trans ?_
          refine (fs_il (n := n + 8) (k := 947) rfl rfl).trans (fs_ite ?_ rfl)
          refine (fs_cn (n := n + 7) (N := nm_m196) (as := [.ref 9, .int ((r4 947).2 (((g 945) - 1) : Int32).toNatClampNeg)]) (rest := []) rfl rfl (Or.inl rfl) rfl rfl rfl rfl rfl).trans (fs_fn fun g9 r10 => ?_)
          refine (fs_go (n := n + 6) rfl (t := 133) rfl (by decide)).trans ?_
          exact b187_133 L xs m d k (n + 5) x1 ((g 945) - 1) g9 r10
      · skip
        refine (fs_r (n := n + 18) 5 (pc' := 53) (L' := [some (.ref 9), some (.int x1), some (.int ((g 945) - 1))]) (S' := [.int ((g 945) - 1), .ref 10947, .int ((g 945) - 1), .ref 9]) rfl).trans ?_
        refine (fs_il (n := n + 17) (k := 947) rfl rfl).trans (fs_ite ?_ rfl)
        refine (fs_cn (n := n + 16) (N := nm_m189) (as := [.ref 9, .int ((g 945) - 1), .int ((r 947).2 (((g 945) - 1) : Int32).toNatClampNeg)]) (rest := []) rfl rfl (Or.inl rfl) rfl rfl rfl rfl rfl).trans (fs_fn fun g11 r12 => ?_)
        refine (fs_go (n := n + 15) rfl (t := 133) rfl (by decide)).trans ?_
        exact b187_133 L xs m d k (n + 14) x1 ((g 945) - 1) g11 r12
theorem l187_16 (L : Nat) (xs : Nat → Int32) (m d k : Nat) (x1 : Int32) (g : a2_G) (r : a2_A) : lp L xs 187 nm_m187 m d (k + 1) 16 [some (.ref 9), some (.int x1), none] g r = B187_16 L xs m d k x1 g r := fs_lp.trans (b187_16 L xs m d k 861 x1 g r)
def B187_136_1 (L : Nat) (xs : Nat → Int32) (m d k : Nat) (x1 x2 : Int32) (g : a2_G) (r : a2_A) : Option fn_Z := (some (.inl none, g, r))
theorem b187_136_1 (L : Nat) (xs : Nat → Int32) (m d k : Nat) (n : Nat) (x1 x2 : Int32) (g : a2_G) (r : a2_A) : bk L xs 187 nm_m187 m d k (n + 1) 136 [some (.ref 9), some (.int x1), some (.int x2)] [] g r = B187_136_1 L xs m d k x1 x2 g r := by
  show _ = ((some (.inl none, g, r)) : Option fn_Z)
  exact (fs_rv (n := n + 0) rfl rfl).trans rfl
def B187_16_1 (L : Nat) (xs : Nat → Int32) (m d k : Nat) (x1 x2 : Int32) (g : a2_G) (r : a2_A) : Option fn_Z := (if am_c2 .le (g 945) 0 = true then (B187_136_1 L xs m d k x1 x2 g r) else (if am_c2 .ne (g 943) 0 = true then (B187_136_1 L xs m d k x1 x2 g r) else (if am_inr ((g 945) - 1) (r 946).1 = true then (if am_c2 .eq ((r 946).2 (((g 945) - 1) : Int32).toNatClampNeg) 0 = true then (fn_v (ev L xs m d 185 [.ref 9, .int (g 941)] g r) fun v15 g13 r14 => (if am_c2 .eq v15 0 = true then (if am_inr ((g 945) - 1) (r14 948).1 = true then (if am_c2 .ne ((r14 948).2 (((g 945) - 1) : Int32).toNatClampNeg) 0 = true then (B187_133 L xs m d k x1 ((g 945) - 1) (upd (upd g13 945 ((g13 945) - 1)) 944 ((g13 944) - 1)) r14) else (fn_v (ev L xs m d 165 [.ref 9, .int 1, .int (g13 941)] g13 r14) fun v18 g16 r17 => (B187_133 L xs m d k x1 ((g 945) - 1) g16 r17))) else none) else (if am_inr ((g 945) - 1) (r14 948).1 = true then (if am_inr ((g 945) - 1) (r14 947).1 = true then (fn_n (ev L xs m d 196 [.ref 9, .int ((r14 947).2 (((g 945) - 1) : Int32).toNatClampNeg)] g13 (a2_ua r14 948 ((r14 948).1, (upd (r14 948).2 (((g 945) - 1) : Int32).toNatClampNeg 1)))) fun g19 r20 => (B187_133 L xs m d k x1 ((g 945) - 1) g19 r20)) else none) else none))) else (if am_inr ((g 945) - 1) (r 947).1 = true then (fn_n (ev L xs m d 189 [.ref 9, .int ((g 945) - 1), .int ((r 947).2 (((g 945) - 1) : Int32).toNatClampNeg)] g r) fun g21 r22 => (B187_133 L xs m d k x1 ((g 945) - 1) g21 r22)) else none)) else none)))
theorem b187_16_1 (L : Nat) (xs : Nat → Int32) (m d k : Nat) (n : Nat) (x1 x2 : Int32) (g : a2_G) (r : a2_A) : bk L xs 187 nm_m187 m d k (n + 39) 16 [some (.ref 9), some (.int x1), some (.int x2)] [] g r = B187_16_1 L xs m d k x1 x2 g r := by
  show _ = ((if am_c2 .le (g 945) 0 = true then (B187_136_1 L xs m d k x1 x2 g r) else (if am_c2 .ne (g 943) 0 = true then (B187_136_1 L xs m d k x1 x2 g r) else (if am_inr ((g 945) - 1) (r 946).1 = true then (if am_c2 .eq ((r 946).2 (((g 945) - 1) : Int32).toNatClampNeg) 0 = true then (fn_v (ev L xs m d 185 [.ref 9, .int (g 941)] g r) fun v15 g13 r14 => (if am_c2 .eq v15 0 = true then (if am_inr ((g 945) - 1) (r14 948).1 = true then (if am_c2 .ne ((r14 948).2 (((g 945) - 1) : Int32).toNatClampNeg) 0 = true then (B187_133 L xs m d k x1 ((g 945) - 1) (upd (upd g13 945 ((g13 945) - 1)) 944 ((g13 944) - 1)) r14) else (fn_v (ev L xs m d 165 [.ref 9, .int 1, .int (g13 941)] g13 r14) fun v18 g16 r17 => (B187_133 L xs m d k x1 ((g 945) - 1) g16 r17))) else none) else (if am_inr ((g 945) - 1) (r14 948).1 = true then (if am_inr ((g 945) - 1) (r14 947).1 = true then (fn_n (ev L xs m d 196 [.ref 9, .int ((r14 947).2 (((g 945) - 1) : Int32).toNatClampNeg)] g13 (a2_ua r14 948 ((r14 948).1, (upd (r14 948).2 (((g 945) - 1) : Int32).toNatClampNeg 1)))) fun g19 r20 => (B187_133 L xs m d k x1 ((g 945) - 1) g19 r20)) else none) else none))) else (if am_inr ((g 945) - 1) (r 947).1 = true then (fn_n (ev L xs m d 189 [.ref 9, .int ((g 945) - 1), .int ((r 947).2 (((g 945) - 1) : Int32).toNatClampNeg)] g r) fun g21 r22 => (B187_133 L xs m d k x1 ((g 945) - 1) g21 r22)) else none)) else none))) : Option fn_Z)
  refine (fs_r (n := n + 37) 2 (pc' := 20) (L' := [some (.ref 9), some (.int x1), some (.int x2)]) (S' := [.int (g 945)]) rfl).trans ?_
  refine (fs_i (n := n + 36) rfl (t := 136) rfl (by decide)).trans (fs_ite ?_ ?_)
  · skip
    exact b187_136_1 L xs m d k (n + 35) x1 x2 g r
  · skip
    refine (fs_r (n := n + 34) 2 (pc' := 27) (L' := [some (.ref 9), some (.int x1), some (.int x2)]) (S' := [.int (g 943)]) rfl).trans ?_
    refine (fs_i (n := n + 33) rfl (t := 136) rfl (by decide)).trans (fs_ite ?_ ?_)
    · skip
      exact b187_136_1 L xs m d k (n + 32) x1 x2 g r
    · skip
      refine (fs_r (n := n + 25) 8 (pc' := 42) (L' := [some (.ref 9), some (.int x1), some (.int ((g 945) - 1))]) (S' := [.int ((g 945) - 1), .ref 10946]) rfl).trans ?_
      refine (fs_il (n := n + 24) (k := 946) rfl rfl).trans (fs_ite ?_ rfl)
      refine (fs_i (n := n + 23) rfl (t := 60) rfl (by decide)).trans (fs_ite ?_ ?_)
      · skip
        refine (fs_r (n := n + 20) 3 (pc' := 65) (L' := [some (.ref 9), some (.int x1), some (.int ((g 945) - 1))]) (S' := [.int (g 941), .ref 9]) rfl).trans ?_
        refine (fs_cv (n := n + 19) (N := nm_m185) (as := [.ref 9, .int (g 941)]) (rest := []) rfl rfl (Or.inl rfl) rfl rfl rfl rfl rfl).trans (fs_fv fun v15 g13 r14 => ?_)
        refine (fs_i (n := n + 18) rfl (t := 91) rfl (by decide)).trans (fs_ite ?_ ?_)
        · skip
          refine (fs_r (n := n + 15) 3 (pc' := 96) (L' := [some (.ref 9), some (.int x1), some (.int ((g 945) - 1))]) (S' := [.int ((g 945) - 1), .ref 10948]) rfl).trans ?_
          refine (fs_il (n := n + 14) (k := 948) rfl rfl).trans (fs_ite ?_ rfl)
          refine (fs_i (n := n + 13) rfl (t := 113) rfl (by decide)).trans (fs_ite ?_ ?_)
          · skip
            refine (fs_r (n := n + 8) 5 (pc' := 120) (L' := [some (.ref 9), some (.int x1), some (.int ((g 945) - 1))]) (S' := [.int ((g13 945) - 1), .ref 9]) rfl).trans ?_
            refine (fs_pf (n := n + 7) (ci := 9) (j := 45) rfl rfl rfl rfl).trans ?_
            refine (fs_r (n := n + 2) 5 (pc' := 130) (L' := [some (.ref 9), some (.int x1), some (.int ((g 945) - 1))]) (S' := [.int ((g13 944) - 1), .ref 9]) rfl).trans ?_
            refine (fs_pf (n := n + 1) (ci := 9) (j := 44) rfl rfl rfl rfl).trans ?_
            exact b187_133 L xs m d k (n + 0) x1 ((g 945) - 1) (upd (upd g13 945 ((g13 945) - 1)) 944 ((g13 944) - 1)) r14
          · skip
            refine (fs_r (n := n + 9) 4 (pc' := 106) (L' := [some (.ref 9), some (.int x1), some (.int ((g 945) - 1))]) (S' := [.int (g13 941), .int 1, .ref 9]) rfl).trans ?_
            refine (fs_cv (n := n + 8) (N := nm_m165) (as := [.ref 9, .int 1, .int (g13 941)]) (rest := []) rfl rfl (Or.inl rfl) rfl rfl rfl rfl rfl).trans (fs_fv fun v18 g16 r17 => ?_)
            refine (fs_r (n := n + 7) 1 (pc' := 110) (L' := [some (.ref 9), some (.int x1), some (.int ((g 945) - 1))]) (S' := []) rfl).trans ?_
            refine (fs_go (n := n + 6) rfl (t := 133) rfl (by decide)).trans ?_
            exact b187_133 L xs m d k (n + 5) x1 ((g 945) - 1) g16 r17
        · skip
          refine (fs_r (n := n + 14) 4 (pc' := 77) (L' := [some (.ref 9), some (.int x1), some (.int ((g 945) - 1))]) (S' := [.int 1, .int ((g 945) - 1), .ref 10948]) rfl).trans ?_
          refine (fs_is (n := n + 13) (k := 948) rfl rfl).trans (fs_ite ?_ rfl)
          refine (fs_r (n := n + 9) 4 (pc' := 84) (L' := [some (.ref 9), some (.int x1), some (.int ((g 945) - 1))]) (S' := [.int ((g 945) - 1), .ref 10947, .ref 9]) rfl).trans ?_
          refine (fs_il (n := n + 8) (k := 947) rfl rfl).trans (fs_ite ?_ rfl)
          refine (fs_cn (n := n + 7) (N := nm_m196) (as := [.ref 9, .int ((r14 947).2 (((g 945) - 1) : Int32).toNatClampNeg)]) (rest := []) rfl rfl (Or.inl rfl) rfl rfl rfl rfl rfl).trans (fs_fn fun g19 r20 => ?_)
          refine (fs_go (n := n + 6) rfl (t := 133) rfl (by decide)).trans ?_
          exact b187_133 L xs m d k (n + 5) x1 ((g 945) - 1) g19 r20
      · skip
        refine (fs_r (n := n + 18) 5 (pc' := 53) (L' := [some (.ref 9), some (.int x1), some (.int ((g 945) - 1))]) (S' := [.int ((g 945) - 1), .ref 10947, .int ((g 945) - 1), .ref 9]) rfl).trans ?_
        refine (fs_il (n := n + 17) (k := 947) rfl rfl).trans (fs_ite ?_ rfl)
        refine (fs_cn (n := n + 16) (N := nm_m189) (as := [.ref 9, .int ((g 945) - 1), .int ((r 947).2 (((g 945) - 1) : Int32).toNatClampNeg)]) (rest := []) rfl rfl (Or.inl rfl) rfl rfl rfl rfl rfl).trans (fs_fn fun g21 r22 => ?_)
        refine (fs_go (n := n + 15) rfl (t := 133) rfl (by decide)).trans ?_
        exact b187_133 L xs m d k (n + 14) x1 ((g 945) - 1) g21 r22
theorem l187_16_1 (L : Nat) (xs : Nat → Int32) (m d k : Nat) (x1 x2 : Int32) (g : a2_G) (r : a2_A) : lp L xs 187 nm_m187 m d (k + 1) 16 [some (.ref 9), some (.int x1), some (.int x2)] g r = B187_16_1 L xs m d k x1 x2 g r := fs_lp.trans (b187_16_1 L xs m d k 861 x1 x2 g r)
theorem e187 (L : Nat) (xs : Nat → Int32) (m d k : Nat) (n : Nat) (a1 : Int32) (g : a2_G) (r : a2_A) : bk L xs 187 nm_m187 m d k (n + 49) 0 [some (.ref 9), some (.int a1), none] [] g r = (fn_n (ev L xs m d 188 [.ref 9, .int 0, .int a1] (upd (upd g 945 0) 944 0) r) fun g1 r2 => (B187_16 L xs m d k a1 g1 r2)) := by
  refine (fs_r (n := n + 47) 2 (pc' := 2) (L' := [some (.ref 9), some (.int a1), none]) (S' := [.int 0, .ref 9]) rfl).trans ?_
  refine (fs_pf (n := n + 46) (ci := 9) (j := 45) rfl rfl rfl rfl).trans ?_
  refine (fs_r (n := n + 44) 2 (pc' := 7) (L' := [some (.ref 9), some (.int a1), none]) (S' := [.int 0, .ref 9]) rfl).trans ?_
  refine (fs_pf (n := n + 43) (ci := 9) (j := 44) rfl rfl rfl rfl).trans ?_
  refine (fs_r (n := n + 40) 3 (pc' := 13) (L' := [some (.ref 9), some (.int a1), none]) (S' := [.int a1, .int 0, .ref 9]) rfl).trans ?_
  refine (fs_cn (n := n + 39) (N := nm_m188) (as := [.ref 9, .int 0, .int a1]) (rest := []) rfl rfl (Or.inl rfl) rfl rfl rfl rfl rfl).trans (fs_fn fun g1 r2 => ?_)
  exact b187_16 L xs m d k (n + 0) a1 g1 r2
theorem q187 (L : Nat) (xs : Nat → Int32) (m d : Nat) (a1 : Int32) (g : a2_G) (r : a2_A) : ev L xs (m + 1) (d + 1) 187 [.ref 9, .int a1] g r = (fn_n (ev L xs (m + 1) d 188 [.ref 9, .int 0, .int a1] (upd (upd g 945 0) 944 0) r) fun g1 r2 => (B187_16 L xs (m + 1) d m a1 g1 r2)) := (fs_ev (M := nm_m187) rfl rfl).trans (e187 L xs (m + 1) d m 851 a1 g r)
/-- CobolParserModel.pile(II)V -/
theorem e188 (L : Nat) (xs : Nat → Int32) (m d k : Nat) (n : Nat) (a1 a2 : Int32) (g : a2_G) (r : a2_A) : bk L xs 188 nm_m188 m d k (n + 25) 0 [some (.ref 9), some (.int a1), some (.int a2)] [] g r = (if am_inr (g 945) (r 946).1 = true then (if am_inr (g 945) (r 947).1 = true then (if am_inr (g 945) (r 948).1 = true then (some (.inl none, (upd g 945 ((g 945) + 1)), (a2_ua (a2_ua (a2_ua r 946 ((r 946).1, (upd (r 946).2 ((g 945) : Int32).toNatClampNeg a1))) 947 ((r 947).1, (upd (r 947).2 ((g 945) : Int32).toNatClampNeg a2))) 948 ((r 948).1, (upd (r 948).2 ((g 945) : Int32).toNatClampNeg 0))))) else none) else none) else none) := by
  refine (fs_r (n := n + 20) 5 (pc' := 9) (L' := [some (.ref 9), some (.int a1), some (.int a2)]) (S' := [.int a1, .int (g 945), .ref 10946]) rfl).trans ?_
  refine (fs_is (n := n + 19) (k := 946) rfl rfl).trans (fs_ite ?_ rfl)
  refine (fs_r (n := n + 14) 5 (pc' := 19) (L' := [some (.ref 9), some (.int a1), some (.int a2)]) (S' := [.int a2, .int (g 945), .ref 10947]) rfl).trans ?_
  refine (fs_is (n := n + 13) (k := 947) rfl rfl).trans (fs_ite ?_ rfl)
  refine (fs_r (n := n + 8) 5 (pc' := 29) (L' := [some (.ref 9), some (.int a1), some (.int a2)]) (S' := [.int 0, .int (g 945), .ref 10948]) rfl).trans ?_
  refine (fs_is (n := n + 7) (k := 948) rfl rfl).trans (fs_ite ?_ rfl)
  refine (fs_r (n := n + 2) 5 (pc' := 37) (L' := [some (.ref 9), some (.int a1), some (.int a2)]) (S' := [.int ((g 945) + 1), .ref 9]) rfl).trans ?_
  refine (fs_pf (n := n + 1) (ci := 9) (j := 45) rfl rfl rfl rfl).trans ?_
  exact (fs_rv (n := n + 0) rfl rfl).trans rfl
theorem q188 (L : Nat) (xs : Nat → Int32) (m d : Nat) (a1 a2 : Int32) (g : a2_G) (r : a2_A) : ev L xs (m + 1) (d + 1) 188 [.ref 9, .int a1, .int a2] g r = (if am_inr (g 945) (r 946).1 = true then (if am_inr (g 945) (r 947).1 = true then (if am_inr (g 945) (r 948).1 = true then (some (.inl none, (upd g 945 ((g 945) + 1)), (a2_ua (a2_ua (a2_ua r 946 ((r 946).1, (upd (r 946).2 ((g 945) : Int32).toNatClampNeg a1))) 947 ((r 947).1, (upd (r 947).2 ((g 945) : Int32).toNatClampNeg a2))) 948 ((r 948).1, (upd (r 948).2 ((g 945) : Int32).toNatClampNeg 0))))) else none) else none) else none) := (fs_ev (M := nm_m188) rfl rfl).trans (e188 L xs (m + 1) d m 875 a1 a2 g r)
/-- CobolParserModel.goOn(II)V -/
def B189_144 (L : Nat) (xs : Nat → Int32) (m d k : Nat) (x1 x2 x3 : Int32) (g : a2_G) (r : a2_A) : Option fn_Z := (some (.inl none, g, r))
theorem b189_144 (L : Nat) (xs : Nat → Int32) (m d k : Nat) (n : Nat) (x1 x2 x3 : Int32) (g : a2_G) (r : a2_A) : bk L xs 189 nm_m189 m d k (n + 1) 144 [some (.ref 9), some (.int x1), some (.int x2), some (.int x3)] [] g r = B189_144 L xs m d k x1 x2 x3 g r := by
  show _ = ((some (.inl none, g, r)) : Option fn_Z)
  exact (fs_rv (n := n + 0) rfl rfl).trans rfl
def B189_137 (L : Nat) (xs : Nat → Int32) (m d k : Nat) (x1 x2 x3 : Int32) (g : a2_G) (r : a2_A) : Option fn_Z := (fn_n (ev L xs m d 195 [.ref 9, .int x1, .int x2, .int x3] g r) fun g9 r10 => (B189_144 L xs m d k x1 x2 x3 g9 r10))
theorem b189_137 (L : Nat) (xs : Nat → Int32) (m d k : Nat) (n : Nat) (x1 x2 x3 : Int32) (g : a2_G) (r : a2_A) : bk L xs 189 nm_m189 m d k (n + 6) 137 [some (.ref 9), some (.int x1), some (.int x2), some (.int x3)] [] g r = B189_137 L xs m d k x1 x2 x3 g r := by
  show _ = ((fn_n (ev L xs m d 195 [.ref 9, .int x1, .int x2, .int x3] g r) fun g9 r10 => (B189_144 L xs m d k x1 x2 x3 g9 r10)) : Option fn_Z)
  refine (fs_r (n := n + 2) 4 (pc' := 141) (L' := [some (.ref 9), some (.int x1), some (.int x2), some (.int x3)]) (S' := [.int x3, .int x2, .int x1, .ref 9]) rfl).trans ?_
  refine (fs_cn (n := n + 1) (N := nm_m195) (as := [.ref 9, .int x1, .int x2, .int x3]) (rest := []) rfl rfl (Or.inl rfl) rfl rfl rfl rfl rfl).trans (fs_fn fun g9 r10 => ?_)
  exact b189_144 L xs m d k (n + 0) x1 x2 x3 g9 r10
theorem e189 (L : Nat) (xs : Nat → Int32) (m d k : Nat) (n : Nat) (a1 a2 : Int32) (g : a2_G) (r : a2_A) : bk L xs 189 nm_m189 m d k (n + 26) 0 [some (.ref 9), some (.int a1), some (.int a2), none] [] g r = (if am_inr a1 (r 948).1 = true then (if am_inr a1 (r 948).1 = true then (if am_inr a1 (r 946).1 = true then (if (((r 946).2 (a1 : Int32).toNatClampNeg) : Int32).toInt = 37 then (fn_n (ev L xs m d 190 [.ref 9, .int a2, .int ((r 948).2 (a1 : Int32).toNatClampNeg), .int 50, .int 51, .int 72] g (a2_ua r 948 ((r 948).1, (upd (r 948).2 (a1 : Int32).toNatClampNeg (((r 948).2 (a1 : Int32).toNatClampNeg) + 1))))) fun g1 r2 => (B189_144 L xs m d k a1 a2 ((r 948).2 (a1 : Int32).toNatClampNeg) g1 r2)) else (if (((r 946).2 (a1 : Int32).toNatClampNeg) : Int32).toInt = 38 then (fn_n (ev L xs m d 194 [.ref 9, .int a1, .int a2, .int ((r 948).2 (a1 : Int32).toNatClampNeg)] g (a2_ua r 948 ((r 948).1, (upd (r 948).2 (a1 : Int32).toNatClampNeg (((r 948).2 (a1 : Int32).toNatClampNeg) + 1))))) fun g3 r4 => (B189_144 L xs m d k a1 a2 ((r 948).2 (a1 : Int32).toNatClampNeg) g3 r4)) else (if (((r 946).2 (a1 : Int32).toNatClampNeg) : Int32).toInt = 39 then (if am_c2 .ne ((r 948).2 (a1 : Int32).toNatClampNeg) 0 = true then (fn_n (ev L xs m d 191 [.ref 9, .int a2, .int 74, .int 1] g (a2_ua r 948 ((r 948).1, (upd (r 948).2 (a1 : Int32).toNatClampNeg (((r 948).2 (a1 : Int32).toNatClampNeg) + 1))))) fun g5 r6 => (B189_144 L xs m d k a1 a2 ((r 948).2 (a1 : Int32).toNatClampNeg) g5 r6)) else (fn_n (ev L xs m d 193 [.ref 9, .int a2] g (a2_ua r 948 ((r 948).1, (upd (r 948).2 (a1 : Int32).toNatClampNeg (((r 948).2 (a1 : Int32).toNatClampNeg) + 1))))) fun g7 r8 => (B189_144 L xs m d k a1 a2 ((r 948).2 (a1 : Int32).toNatClampNeg) g7 r8))) else (if (((r 946).2 (a1 : Int32).toNatClampNeg) : Int32).toInt = 40 then (B189_137 L xs m d k a1 a2 ((r 948).2 (a1 : Int32).toNatClampNeg) g (a2_ua r 948 ((r 948).1, (upd (r 948).2 (a1 : Int32).toNatClampNeg (((r 948).2 (a1 : Int32).toNatClampNeg) + 1))))) else (if (((r 946).2 (a1 : Int32).toNatClampNeg) : Int32).toInt = 41 then (fn_n (ev L xs m d 190 [.ref 9, .int a2, .int ((r 948).2 (a1 : Int32).toNatClampNeg), .int 61, .int 33, .int 76] g (a2_ua r 948 ((r 948).1, (upd (r 948).2 (a1 : Int32).toNatClampNeg (((r 948).2 (a1 : Int32).toNatClampNeg) + 1))))) fun g11 r12 => (B189_144 L xs m d k a1 a2 ((r 948).2 (a1 : Int32).toNatClampNeg) g11 r12)) else (if (((r 946).2 (a1 : Int32).toNatClampNeg) : Int32).toInt = 42 then (fn_n (ev L xs m d 190 [.ref 9, .int a2, .int ((r 948).2 (a1 : Int32).toNatClampNeg), .int 62, .int (-1), .int 77] g (a2_ua r 948 ((r 948).1, (upd (r 948).2 (a1 : Int32).toNatClampNeg (((r 948).2 (a1 : Int32).toNatClampNeg) + 1))))) fun g13 r14 => (B189_144 L xs m d k a1 a2 ((r 948).2 (a1 : Int32).toNatClampNeg) g13 r14)) else (B189_137 L xs m d k a1 a2 ((r 948).2 (a1 : Int32).toNatClampNeg) g (a2_ua r 948 ((r 948).1, (upd (r 948).2 (a1 : Int32).toNatClampNeg (((r 948).2 (a1 : Int32).toNatClampNeg) + 1))))))))))) else none) else none) else none) := by
  refine (fs_r (n := n + 23) 3 (pc' := 5) (L' := [some (.ref 9), some (.int a1), some (.int a2), none]) (S' := [.int a1, .ref 10948]) rfl).trans ?_
  refine (fs_il (n := n + 22) (k := 948) rfl rfl).trans (fs_ite ?_ rfl)
  refine (fs_r (n := n + 15) 7 (pc' := 15) (L' := [some (.ref 9), some (.int a1), some (.int a2), some (.int ((r 948).2 (a1 : Int32).toNatClampNeg))]) (S' := [.int (((r 948).2 (a1 : Int32).toNatClampNeg) + 1), .int a1, .ref 10948]) rfl).trans ?_
  refine (fs_is (n := n + 14) (k := 948) rfl rfl).trans (fs_ite ?_ rfl)
  refine (fs_r (n := n + 11) 3 (pc' := 21) (L' := [some (.ref 9), some (.int a1), some (.int a2), some (.int ((r 948).2 (a1 : Int32).toNatClampNeg))]) (S' := [.int a1, .ref 10946]) rfl).trans ?_
  refine (fs_il (n := n + 10) (k := 946) rfl rfl).trans (fs_ite ?_ rfl)
  refine (fs_ts (n := n + 9) (l := [38, 82, 92, 115, 53, 68]) rfl rfl rfl).trans ?_
  refine fs_tc (v' := 38) rfl ?_ (fs_tc (v' := 39) rfl ?_ (fs_tc (v' := 40) rfl ?_ (fs_tc (v' := 41) rfl ?_ (fs_tc (v' := 42) rfl ?_ (fs_tc (v' := 43) rfl ?_ (fs_tn ?_))))))
  · refine (fs_J1 (n := n + 9) (t := 60) rfl (by decide)).trans ?_
    refine (fs_r (n := n + 3) 6 (pc' := 69) (L' := [some (.ref 9), some (.int a1), some (.int a2), some (.int ((r 948).2 (a1 : Int32).toNatClampNeg))]) (S' := [.int 72, .int 51, .int 50, .int ((r 948).2 (a1 : Int32).toNatClampNeg), .int a2, .ref 9]) rfl).trans ?_
    refine (fs_cn (n := n + 2) (N := nm_m190) (as := [.ref 9, .int a2, .int ((r 948).2 (a1 : Int32).toNatClampNeg), .int 50, .int 51, .int 72]) (rest := []) rfl rfl (Or.inl rfl) rfl rfl rfl rfl rfl).trans (fs_fn fun g1 r2 => ?_)
    refine (fs_go (n := n + 1) rfl (t := 144) rfl (by decide)).trans ?_
    exact b189_144 L xs m d k (n + 0) a1 a2 ((r 948).2 (a1 : Int32).toNatClampNeg) g1 r2
  · refine (fs_J1 (n := n + 9) (t := 104) rfl (by decide)).trans ?_
    refine (fs_r (n := n + 5) 4 (pc' := 108) (L' := [some (.ref 9), some (.int a1), some (.int a2), some (.int ((r 948).2 (a1 : Int32).toNatClampNeg))]) (S' := [.int ((r 948).2 (a1 : Int32).toNatClampNeg), .int a2, .int a1, .ref 9]) rfl).trans ?_
    refine (fs_cn (n := n + 4) (N := nm_m194) (as := [.ref 9, .int a1, .int a2, .int ((r 948).2 (a1 : Int32).toNatClampNeg)]) (rest := []) rfl rfl (Or.inl rfl) rfl rfl rfl rfl rfl).trans (fs_fn fun g3 r4 => ?_)
    refine (fs_go (n := n + 3) rfl (t := 144) rfl (by decide)).trans ?_
    exact b189_144 L xs m d k (n + 2) a1 a2 ((r 948).2 (a1 : Int32).toNatClampNeg) g3 r4
  · refine (fs_J1 (n := n + 9) (t := 114) rfl (by decide)).trans ?_
    refine (fs_r (n := n + 8) 1 (pc' := 115) (L' := [some (.ref 9), some (.int a1), some (.int a2), some (.int ((r 948).2 (a1 : Int32).toNatClampNeg))]) (S' := [.int ((r 948).2 (a1 : Int32).toNatClampNeg)]) rfl).trans ?_
    refine (fs_i (n := n + 7) rfl (t := 126) rfl (by decide)).trans (fs_ite ?_ ?_)
    · skip
      refine (fs_r (n := n + 3) 4 (pc' := 131) (L' := [some (.ref 9), some (.int a1), some (.int a2), some (.int ((r 948).2 (a1 : Int32).toNatClampNeg))]) (S' := [.int 1, .int 74, .int a2, .ref 9]) rfl).trans ?_
      refine (fs_cn (n := n + 2) (N := nm_m191) (as := [.ref 9, .int a2, .int 74, .int 1]) (rest := []) rfl rfl (Or.inl rfl) rfl rfl rfl rfl rfl).trans (fs_fn fun g5 r6 => ?_)
      refine (fs_go (n := n + 1) rfl (t := 144) rfl (by decide)).trans ?_
      exact b189_144 L xs m d k (n + 0) a1 a2 ((r 948).2 (a1 : Int32).toNatClampNeg) g5 r6
    · skip
      refine (fs_r (n := n + 5) 2 (pc' := 120) (L' := [some (.ref 9), some (.int a1), some (.int a2), some (.int ((r 948).2 (a1 : Int32).toNatClampNeg))]) (S' := [.int a2, .ref 9]) rfl).trans ?_
      refine (fs_cn (n := n + 4) (N := nm_m193) (as := [.ref 9, .int a2]) (rest := []) rfl rfl (Or.inl rfl) rfl rfl rfl rfl rfl).trans (fs_fn fun g7 r8 => ?_)
      refine (fs_go (n := n + 3) rfl (t := 144) rfl (by decide)).trans ?_
      exact b189_144 L xs m d k (n + 2) a1 a2 ((r 948).2 (a1 : Int32).toNatClampNeg) g7 r8
  · refine (fs_J1 (n := n + 9) (t := 137) rfl (by decide)).trans ?_
    exact b189_137 L xs m d k (n + 3) a1 a2 ((r 948).2 (a1 : Int32).toNatClampNeg) g (a2_ua r 948 ((r 948).1, (upd (r 948).2 (a1 : Int32).toNatClampNeg (((r 948).2 (a1 : Int32).toNatClampNeg) + 1))))
  · refine (fs_J1 (n := n + 9) (t := 75) rfl (by decide)).trans ?_
    refine (fs_r (n := n + 3) 6 (pc' := 84) (L' := [some (.ref 9), some (.int a1), some (.int a2), some (.int ((r 948).2 (a1 : Int32).toNatClampNeg))]) (S' := [.int 76, .int 33, .int 61, .int ((r 948).2 (a1 : Int32).toNatClampNeg), .int a2, .ref 9]) rfl).trans ?_
    refine (fs_cn (n := n + 2) (N := nm_m190) (as := [.ref 9, .int a2, .int ((r 948).2 (a1 : Int32).toNatClampNeg), .int 61, .int 33, .int 76]) (rest := []) rfl rfl (Or.inl rfl) rfl rfl rfl rfl rfl).trans (fs_fn fun g11 r12 => ?_)
    refine (fs_go (n := n + 1) rfl (t := 144) rfl (by decide)).trans ?_
    exact b189_144 L xs m d k (n + 0) a1 a2 ((r 948).2 (a1 : Int32).toNatClampNeg) g11 r12
  · refine (fs_J1 (n := n + 9) (t := 90) rfl (by decide)).trans ?_
    refine (fs_r (n := n + 3) 6 (pc' := 98) (L' := [some (.ref 9), some (.int a1), some (.int a2), some (.int ((r 948).2 (a1 : Int32).toNatClampNeg))]) (S' := [.int 77, .int (-1), .int 62, .int ((r 948).2 (a1 : Int32).toNatClampNeg), .int a2, .ref 9]) rfl).trans ?_
    refine (fs_cn (n := n + 2) (N := nm_m190) (as := [.ref 9, .int a2, .int ((r 948).2 (a1 : Int32).toNatClampNeg), .int 62, .int (-1), .int 77]) (rest := []) rfl rfl (Or.inl rfl) rfl rfl rfl rfl rfl).trans (fs_fn fun g13 r14 => ?_)
    refine (fs_go (n := n + 1) rfl (t := 144) rfl (by decide)).trans ?_
    exact b189_144 L xs m d k (n + 0) a1 a2 ((r 948).2 (a1 : Int32).toNatClampNeg) g13 r14
  · refine (fs_J1 (n := n + 9) (t := 137) rfl (by decide)).trans ?_
    exact b189_137 L xs m d k (n + 3) a1 a2 ((r 948).2 (a1 : Int32).toNatClampNeg) g (a2_ua r 948 ((r 948).1, (upd (r 948).2 (a1 : Int32).toNatClampNeg (((r 948).2 (a1 : Int32).toNatClampNeg) + 1))))
theorem q189 (L : Nat) (xs : Nat → Int32) (m d : Nat) (a1 a2 : Int32) (g : a2_G) (r : a2_A) : ev L xs (m + 1) (d + 1) 189 [.ref 9, .int a1, .int a2] g r = (if am_inr a1 (r 948).1 = true then (if am_inr a1 (r 948).1 = true then (if am_inr a1 (r 946).1 = true then (if (((r 946).2 (a1 : Int32).toNatClampNeg) : Int32).toInt = 37 then (fn_n (ev L xs (m + 1) d 190 [.ref 9, .int a2, .int ((r 948).2 (a1 : Int32).toNatClampNeg), .int 50, .int 51, .int 72] g (a2_ua r 948 ((r 948).1, (upd (r 948).2 (a1 : Int32).toNatClampNeg (((r 948).2 (a1 : Int32).toNatClampNeg) + 1))))) fun g1 r2 => (B189_144 L xs (m + 1) d m a1 a2 ((r 948).2 (a1 : Int32).toNatClampNeg) g1 r2)) else (if (((r 946).2 (a1 : Int32).toNatClampNeg) : Int32).toInt = 38 then (fn_n (ev L xs (m + 1) d 194 [.ref 9, .int a1, .int a2, .int ((r 948).2 (a1 : Int32).toNatClampNeg)] g (a2_ua r 948 ((r 948).1, (upd (r 948).2 (a1 : Int32).toNatClampNeg (((r 948).2 (a1 : Int32).toNatClampNeg) + 1))))) fun g3 r4 => (B189_144 L xs (m + 1) d m a1 a2 ((r 948).2 (a1 : Int32).toNatClampNeg) g3 r4)) else (if (((r 946).2 (a1 : Int32).toNatClampNeg) : Int32).toInt = 39 then (if am_c2 .ne ((r 948).2 (a1 : Int32).toNatClampNeg) 0 = true then (fn_n (ev L xs (m + 1) d 191 [.ref 9, .int a2, .int 74, .int 1] g (a2_ua r 948 ((r 948).1, (upd (r 948).2 (a1 : Int32).toNatClampNeg (((r 948).2 (a1 : Int32).toNatClampNeg) + 1))))) fun g5 r6 => (B189_144 L xs (m + 1) d m a1 a2 ((r 948).2 (a1 : Int32).toNatClampNeg) g5 r6)) else (fn_n (ev L xs (m + 1) d 193 [.ref 9, .int a2] g (a2_ua r 948 ((r 948).1, (upd (r 948).2 (a1 : Int32).toNatClampNeg (((r 948).2 (a1 : Int32).toNatClampNeg) + 1))))) fun g7 r8 => (B189_144 L xs (m + 1) d m a1 a2 ((r 948).2 (a1 : Int32).toNatClampNeg) g7 r8))) else (if (((r 946).2 (a1 : Int32).toNatClampNeg) : Int32).toInt = 40 then (B189_137 L xs (m + 1) d m a1 a2 ((r 948).2 (a1 : Int32).toNatClampNeg) g (a2_ua r 948 ((r 948).1, (upd (r 948).2 (a1 : Int32).toNatClampNeg (((r 948).2 (a1 : Int32).toNatClampNeg) + 1))))) else (if (((r 946).2 (a1 : Int32).toNatClampNeg) : Int32).toInt = 41 then (fn_n (ev L xs (m + 1) d 190 [.ref 9, .int a2, .int ((r 948).2 (a1 : Int32).toNatClampNeg), .int 61, .int 33, .int 76] g (a2_ua r 948 ((r 948).1, (upd (r 948).2 (a1 : Int32).toNatClampNeg (((r 948).2 (a1 : Int32).toNatClampNeg) + 1))))) fun g11 r12 => (B189_144 L xs (m + 1) d m a1 a2 ((r 948).2 (a1 : Int32).toNatClampNeg) g11 r12)) else (if (((r 946).2 (a1 : Int32).toNatClampNeg) : Int32).toInt = 42 then (fn_n (ev L xs (m + 1) d 190 [.ref 9, .int a2, .int ((r 948).2 (a1 : Int32).toNatClampNeg), .int 62, .int (-1), .int 77] g (a2_ua r 948 ((r 948).1, (upd (r 948).2 (a1 : Int32).toNatClampNeg (((r 948).2 (a1 : Int32).toNatClampNeg) + 1))))) fun g13 r14 => (B189_144 L xs (m + 1) d m a1 a2 ((r 948).2 (a1 : Int32).toNatClampNeg) g13 r14)) else (B189_137 L xs (m + 1) d m a1 a2 ((r 948).2 (a1 : Int32).toNatClampNeg) g (a2_ua r 948 ((r 948).1, (upd (r 948).2 (a1 : Int32).toNatClampNeg (((r 948).2 (a1 : Int32).toNatClampNeg) + 1))))))))))) else none) else none) else none) := (fs_ev (M := nm_m189) rfl rfl).trans (e189 L xs (m + 1) d m 874 a1 a2 g r)
/-- CobolParserModel.asked(IIIII)V -/
def B190_12 (L : Nat) (xs : Nat → Int32) (m d k : Nat) (x1 x2 x3 x4 x5 : Int32) (g : a2_G) (r : a2_A) : Option fn_Z := (fn_n (ev L xs m d 191 [.ref 9, .int x1, .int x5, .int 0] g r) fun g1 r2 => (some (.inl none, g1, r2)))
theorem b190_12 (L : Nat) (xs : Nat → Int32) (m d k : Nat) (n : Nat) (x1 x2 x3 x4 x5 : Int32) (g : a2_G) (r : a2_A) : bk L xs 190 nm_m190 m d k (n + 6) 12 [some (.ref 9), some (.int x1), some (.int x2), some (.int x3), some (.int x4), some (.int x5), none] [] g r = B190_12 L xs m d k x1 x2 x3 x4 x5 g r := by
  show _ = ((fn_n (ev L xs m d 191 [.ref 9, .int x1, .int x5, .int 0] g r) fun g1 r2 => (some (.inl none, g1, r2))) : Option fn_Z)
  refine (fs_r (n := n + 2) 4 (pc' := 17) (L' := [some (.ref 9), some (.int x1), some (.int x2), some (.int x3), some (.int x4), some (.int x5), none]) (S' := [.int 0, .int x5, .int x1, .ref 9]) rfl).trans ?_
  refine (fs_cn (n := n + 1) (N := nm_m191) (as := [.ref 9, .int x1, .int x5, .int 0]) (rest := []) rfl rfl (Or.inl rfl) rfl rfl rfl rfl rfl).trans (fs_fn fun g1 r2 => ?_)
  exact (fs_rv (n := n + 0) rfl rfl).trans rfl
def B190_53 (L : Nat) (xs : Nat → Int32) (m d k : Nat) (x1 x2 x3 x4 x5 x6 : Int32) (g : a2_G) (r : a2_A) : Option fn_Z := (some (.inl none, g, r))
theorem b190_53 (L : Nat) (xs : Nat → Int32) (m d k : Nat) (n : Nat) (x1 x2 x3 x4 x5 x6 : Int32) (g : a2_G) (r : a2_A) : bk L xs 190 nm_m190 m d k (n + 1) 53 [some (.ref 9), some (.int x1), some (.int x2), some (.int x3), some (.int x4), some (.int x5), some (.int x6)] [] g r = B190_53 L xs m d k x1 x2 x3 x4 x5 x6 g r := by
  show _ = ((some (.inl none, g, r)) : Option fn_Z)
  exact (fs_rv (n := n + 0) rfl rfl).trans rfl
def B190_41 (L : Nat) (xs : Nat → Int32) (m d k : Nat) (x1 x2 x3 x4 x5 x6 : Int32) (g : a2_G) (r : a2_A) : Option fn_Z := (if am_c2 .eq x6 0 = true then (B190_53 L xs m d k x1 x2 x3 x4 x5 x6 g r) else (fn_n (ev L xs m d 193 [.ref 9, .int x1] g r) fun g6 r7 => (B190_53 L xs m d k x1 x2 x3 x4 x5 x6 g6 r7)))
theorem b190_41 (L : Nat) (xs : Nat → Int32) (m d k : Nat) (n : Nat) (x1 x2 x3 x4 x5 x6 : Int32) (g : a2_G) (r : a2_A) : bk L xs 190 nm_m190 m d k (n + 7) 41 [some (.ref 9), some (.int x1), some (.int x2), some (.int x3), some (.int x4), some (.int x5), none] [.int x6] g r = B190_41 L xs m d k x1 x2 x3 x4 x5 x6 g r := by
  show _ = ((if am_c2 .eq x6 0 = true then (B190_53 L xs m d k x1 x2 x3 x4 x5 x6 g r) else (fn_n (ev L xs m d 193 [.ref 9, .int x1] g r) fun g6 r7 => (B190_53 L xs m d k x1 x2 x3 x4 x5 x6 g6 r7))) : Option fn_Z)
  refine (fs_r (n := n + 5) 2 (pc' := 45) (L' := [some (.ref 9), some (.int x1), some (.int x2), some (.int x3), some (.int x4), some (.int x5), some (.int x6)]) (S' := [.int x6]) rfl).trans ?_
  refine (fs_i (n := n + 4) rfl (t := 53) rfl (by decide)).trans (fs_ite ?_ ?_)
  · skip
    exact b190_53 L xs m d k (n + 3) x1 x2 x3 x4 x5 x6 g r
  · skip
    refine (fs_r (n := n + 2) 2 (pc' := 50) (L' := [some (.ref 9), some (.int x1), some (.int x2), some (.int x3), some (.int x4), some (.int x5), some (.int x6)]) (S' := [.int x1, .ref 9]) rfl).trans ?_
    refine (fs_cn (n := n + 1) (N := nm_m193) (as := [.ref 9, .int x1]) (rest := []) rfl rfl (Or.inl rfl) rfl rfl rfl rfl rfl).trans (fs_fn fun g6 r7 => ?_)
    exact b190_53 L xs m d k (n + 0) x1 x2 x3 x4 x5 x6 g6 r7
def B190_36 (L : Nat) (xs : Nat → Int32) (m d k : Nat) (x1 x2 x3 x4 x5 : Int32) (g : a2_G) (r : a2_A) : Option fn_Z := (B190_41 L xs m d k x1 x2 x3 x4 x5 1 g r)
theorem b190_36 (L : Nat) (xs : Nat → Int32) (m d k : Nat) (n : Nat) (x1 x2 x3 x4 x5 : Int32) (g : a2_G) (r : a2_A) : bk L xs 190 nm_m190 m d k (n + 9) 36 [some (.ref 9), some (.int x1), some (.int x2), some (.int x3), some (.int x4), some (.int x5), none] [] g r = B190_36 L xs m d k x1 x2 x3 x4 x5 g r := by
  show _ = ((B190_41 L xs m d k x1 x2 x3 x4 x5 1 g r) : Option fn_Z)
  refine (fs_r (n := n + 8) 1 (pc' := 37) (L' := [some (.ref 9), some (.int x1), some (.int x2), some (.int x3), some (.int x4), some (.int x5), none]) (S' := [.int 1]) rfl).trans ?_
  refine (fs_go (n := n + 7) rfl (t := 41) rfl (by decide)).trans ?_
  exact b190_41 L xs m d k (n + 0) x1 x2 x3 x4 x5 1 g r
theorem e190 (L : Nat) (xs : Nat → Int32) (m d k : Nat) (n : Nat) (a1 a2 a3 a4 a5 : Int32) (g : a2_G) (r : a2_A) : bk L xs 190 nm_m190 m d k (n + 22) 0 [some (.ref 9), some (.int a1), some (.int a2), some (.int a3), some (.int a4), some (.int a5), none] [] g r = (if am_c2 .gt a2 0 = true then (B190_12 L xs m d k a1 a2 a3 a4 a5 g r) else (fn_v (ev L xs m d 170 [.ref 9, .int a3] g r) fun v5 g3 r4 => (if am_c2 .ne v5 0 = true then (if am_c2 .eq a4 (-1) = true then (B190_36 L xs m d k a1 a2 a3 a4 a5 g3 r4) else (fn_v (ev L xs m d 192 [.ref 9, .int a4] g3 r4) fun v10 g8 r9 => (if am_c2 .eq v10 0 = true then (B190_41 L xs m d k a1 a2 a3 a4 a5 0 g8 r9) else (B190_36 L xs m d k a1 a2 a3 a4 a5 g8 r9)))) else (B190_12 L xs m d k a1 a2 a3 a4 a5 g3 r4)))) := by
  refine (fs_r (n := n + 21) 1 (pc' := 1) (L' := [some (.ref 9), some (.int a1), some (.int a2), some (.int a3), some (.int a4), some (.int a5), none]) (S' := [.int a2]) rfl).trans ?_
  refine (fs_i (n := n + 20) rfl (t := 12) rfl (by decide)).trans (fs_ite ?_ ?_)
  · skip
    exact b190_12 L xs m d k (n + 14) a1 a2 a3 a4 a5 g r
  · skip
    refine (fs_r (n := n + 18) 2 (pc' := 6) (L' := [some (.ref 9), some (.int a1), some (.int a2), some (.int a3), some (.int a4), some (.int a5), none]) (S' := [.int a3, .ref 9]) rfl).trans ?_
    refine (fs_cv (n := n + 17) (N := nm_m170) (as := [.ref 9, .int a3]) (rest := []) rfl rfl (Or.inl rfl) rfl rfl rfl rfl rfl).trans (fs_fv fun v5 g3 r4 => ?_)
    refine (fs_i (n := n + 16) rfl (t := 21) rfl (by decide)).trans (fs_ite ?_ ?_)
    · skip
      refine (fs_r (n := n + 14) 2 (pc' := 24) (L' := [some (.ref 9), some (.int a1), some (.int a2), some (.int a3), some (.int a4), some (.int a5), none]) (S' := [.int (-1), .int a4]) rfl).trans ?_
      refine (fs_j (n := n + 13) rfl (t := 36) rfl (by decide)).trans (fs_ite ?_ ?_)
      · skip
        exact b190_36 L xs m d k (n + 4) a1 a2 a3 a4 a5 g3 r4
      · skip
        refine (fs_r (n := n + 11) 2 (pc' := 30) (L' := [some (.ref 9), some (.int a1), some (.int a2), some (.int a3), some (.int a4), some (.int a5), none]) (S' := [.int a4, .ref 9]) rfl).trans ?_
        refine (fs_cv (n := n + 10) (N := nm_m192) (as := [.ref 9, .int a4]) (rest := []) rfl rfl (Or.inl rfl) rfl rfl rfl rfl rfl).trans (fs_fv fun v10 g8 r9 => ?_)
        refine (fs_i (n := n + 9) rfl (t := 40) rfl (by decide)).trans (fs_ite ?_ ?_)
        · skip
          refine (fs_r (n := n + 8) 1 (pc' := 41) (L' := [some (.ref 9), some (.int a1), some (.int a2), some (.int a3), some (.int a4), some (.int a5), none]) (S' := [.int 0]) rfl).trans ?_
          exact b190_41 L xs m d k (n + 1) a1 a2 a3 a4 a5 0 g8 r9
        · skip
          exact b190_36 L xs m d k (n + 0) a1 a2 a3 a4 a5 g8 r9
    · skip
      exact b190_12 L xs m d k (n + 10) a1 a2 a3 a4 a5 g3 r4
theorem q190 (L : Nat) (xs : Nat → Int32) (m d : Nat) (a1 a2 a3 a4 a5 : Int32) (g : a2_G) (r : a2_A) : ev L xs (m + 1) (d + 1) 190 [.ref 9, .int a1, .int a2, .int a3, .int a4, .int a5] g r = (if am_c2 .gt a2 0 = true then (B190_12 L xs (m + 1) d m a1 a2 a3 a4 a5 g r) else (fn_v (ev L xs (m + 1) d 170 [.ref 9, .int a3] g r) fun v5 g3 r4 => (if am_c2 .ne v5 0 = true then (if am_c2 .eq a4 (-1) = true then (B190_36 L xs (m + 1) d m a1 a2 a3 a4 a5 g3 r4) else (fn_v (ev L xs (m + 1) d 192 [.ref 9, .int a4] g3 r4) fun v10 g8 r9 => (if am_c2 .eq v10 0 = true then (B190_41 L xs (m + 1) d m a1 a2 a3 a4 a5 0 g8 r9) else (B190_36 L xs (m + 1) d m a1 a2 a3 a4 a5 g8 r9)))) else (B190_12 L xs (m + 1) d m a1 a2 a3 a4 a5 g3 r4)))) := (fs_ev (M := nm_m190) rfl rfl).trans (e190 L xs (m + 1) d m 878 a1 a2 a3 a4 a5 g r)
/-- CobolParserModel.scope(IIZ)V -/
def B191_34 (L : Nat) (xs : Nat → Int32) (m d k : Nat) (x1 x2 x3 x4 x5 x6 : Int32) (g : a2_G) (r : a2_A) : Option fn_Z := (if am_inr x6 (r 912).1 = true then (some (.inl none, (upd g 945 ((g 945) - 1)), (a2_ua r 912 ((r 912).1, (upd (r 912).2 (x6 : Int32).toNatClampNeg x5))))) else none)
theorem b191_34 (L : Nat) (xs : Nat → Int32) (m d k : Nat) (n : Nat) (x1 x2 x3 x4 x5 x6 : Int32) (g : a2_G) (r : a2_A) : bk L xs 191 nm_m191 m d k (n + 8) 34 [some (.ref 9), some (.int x1), some (.int x2), some (.int x3), some (.int x4)] [.int x5, .int x6, .ref 10912] g r = B191_34 L xs m d k x1 x2 x3 x4 x5 x6 g r := by
  show _ = ((if am_inr x6 (r 912).1 = true then (some (.inl none, (upd g 945 ((g 945) - 1)), (a2_ua r 912 ((r 912).1, (upd (r 912).2 (x6 : Int32).toNatClampNeg x5))))) else none) : Option fn_Z)
  refine (fs_is (n := n + 7) (k := 912) rfl rfl).trans (fs_ite ?_ rfl)
  refine (fs_r (n := n + 2) 5 (pc' := 42) (L' := [some (.ref 9), some (.int x1), some (.int x2), some (.int x3), some (.int x4)]) (S' := [.int ((g 945) - 1), .ref 9]) rfl).trans ?_
  refine (fs_pf (n := n + 1) (ci := 9) (j := 45) rfl rfl rfl rfl).trans ?_
  exact (fs_rv (n := n + 0) rfl rfl).trans rfl
def B191_17 (L : Nat) (xs : Nat → Int32) (m d k : Nat) (x1 x2 x3 x4 : Int32) (g : a2_G) (r : a2_A) : Option fn_Z := (if am_c2 .eq x4 0 = true then (B191_34 L xs m d k x1 x2 x3 x4 0 x1 g r) else (B191_34 L xs m d k x1 x2 x3 x4 1 x1 g r))
theorem b191_17 (L : Nat) (xs : Nat → Int32) (m d k : Nat) (n : Nat) (x1 x2 x3 x4 : Int32) (g : a2_G) (r : a2_A) : bk L xs 191 nm_m191 m d k (n + 16) 17 [some (.ref 9), some (.int x1), some (.int x2), some (.int x3), none] [.int x4] g r = B191_17 L xs m d k x1 x2 x3 x4 g r := by
  show _ = ((if am_c2 .eq x4 0 = true then (B191_34 L xs m d k x1 x2 x3 x4 0 x1 g r) else (B191_34 L xs m d k x1 x2 x3 x4 1 x1 g r)) : Option fn_Z)
  refine (fs_r (n := n + 11) 5 (pc' := 26) (L' := [some (.ref 9), some (.int x1), some (.int x2), some (.int x3), some (.int x4)]) (S' := [.int x4, .int x1, .ref 10912]) rfl).trans ?_
  refine (fs_i (n := n + 10) rfl (t := 33) rfl (by decide)).trans (fs_ite ?_ ?_)
  · skip
    refine (fs_r (n := n + 9) 1 (pc' := 34) (L' := [some (.ref 9), some (.int x1), some (.int x2), some (.int x3), some (.int x4)]) (S' := [.int 0, .int x1, .ref 10912]) rfl).trans ?_
    exact b191_34 L xs m d k (n + 1) x1 x2 x3 x4 0 x1 g r
  · skip
    refine (fs_r (n := n + 9) 1 (pc' := 30) (L' := [some (.ref 9), some (.int x1), some (.int x2), some (.int x3), some (.int x4)]) (S' := [.int 1, .int x1, .ref 10912]) rfl).trans ?_
    refine (fs_go (n := n + 8) rfl (t := 34) rfl (by decide)).trans ?_
    exact b191_34 L xs m d k (n + 0) x1 x2 x3 x4 1 x1 g r
theorem e191 (L : Nat) (xs : Nat → Int32) (m d k : Nat) (n : Nat) (a1 a2 a3 : Int32) (g : a2_G) (r : a2_A) : bk L xs 191 nm_m191 m d k (n + 22) 0 [some (.ref 9), some (.int a1), some (.int a2), some (.int a3), none] [] g r = (if am_c2 .eq a3 0 = true then (fn_v (ev L xs m d 170 [.ref 9, .int a2] g r) fun v3 g1 r2 => (B191_17 L xs m d k a1 a2 a3 v3 g1 r2)) else (fn_v (ev L xs m d 192 [.ref 9, .int a2] g r) fun v6 g4 r5 => (B191_17 L xs m d k a1 a2 a3 v6 g4 r5))) := by
  refine (fs_r (n := n + 21) 1 (pc' := 1) (L' := [some (.ref 9), some (.int a1), some (.int a2), some (.int a3), none]) (S' := [.int a3]) rfl).trans ?_
  refine (fs_i (n := n + 20) rfl (t := 12) rfl (by decide)).trans (fs_ite ?_ ?_)
  · skip
    refine (fs_r (n := n + 18) 2 (pc' := 14) (L' := [some (.ref 9), some (.int a1), some (.int a2), some (.int a3), none]) (S' := [.int a2, .ref 9]) rfl).trans ?_
    refine (fs_cv (n := n + 17) (N := nm_m170) (as := [.ref 9, .int a2]) (rest := []) rfl rfl (Or.inl rfl) rfl rfl rfl rfl rfl).trans (fs_fv fun v3 g1 r2 => ?_)
    exact b191_17 L xs m d k (n + 1) a1 a2 a3 v3 g1 r2
  · skip
    refine (fs_r (n := n + 18) 2 (pc' := 6) (L' := [some (.ref 9), some (.int a1), some (.int a2), some (.int a3), none]) (S' := [.int a2, .ref 9]) rfl).trans ?_
    refine (fs_cv (n := n + 17) (N := nm_m192) (as := [.ref 9, .int a2]) (rest := []) rfl rfl (Or.inl rfl) rfl rfl rfl rfl rfl).trans (fs_fv fun v6 g4 r5 => ?_)
    refine (fs_go (n := n + 16) rfl (t := 17) rfl (by decide)).trans ?_
    exact b191_17 L xs m d k (n + 0) a1 a2 a3 v6 g4 r5
theorem q191 (L : Nat) (xs : Nat → Int32) (m d : Nat) (a1 a2 a3 : Int32) (g : a2_G) (r : a2_A) : ev L xs (m + 1) (d + 1) 191 [.ref 9, .int a1, .int a2, .int a3] g r = (if am_c2 .eq a3 0 = true then (fn_v (ev L xs (m + 1) d 170 [.ref 9, .int a2] g r) fun v3 g1 r2 => (B191_17 L xs (m + 1) d m a1 a2 a3 v3 g1 r2)) else (fn_v (ev L xs (m + 1) d 192 [.ref 9, .int a2] g r) fun v6 g4 r5 => (B191_17 L xs (m + 1) d m a1 a2 a3 v6 g4 r5))) := (fs_ev (M := nm_m191) rfl rfl).trans (e191 L xs (m + 1) d m 878 a1 a2 a3 g r)
/-- CobolParserModel.must(I)Z -/
def B192_25 (L : Nat) (xs : Nat → Int32) (m d k : Nat) (x1 x2 : Int32) (g : a2_G) (r : a2_A) : Option fn_Z := (if x2 = 0 ∨ x2 = 1 then some (.inl (some (.int x2)), g, r) else none)
theorem b192_25 (L : Nat) (xs : Nat → Int32) (m d k : Nat) (n : Nat) (x1 x2 : Int32) (g : a2_G) (r : a2_A) : bk L xs 192 nm_m192 m d k (n + 1) 25 [some (.ref 9), some (.int x1)] [.int x2] g r = B192_25 L xs m d k x1 x2 g r := by
  show _ = ((if x2 = 0 ∨ x2 = 1 then some (.inl (some (.int x2)), g, r) else none) : Option fn_Z)
  exact (fs_rb (n := n + 0) rfl rfl).trans rfl
def B192_20 (L : Nat) (xs : Nat → Int32) (m d k : Nat) (x1 : Int32) (g : a2_G) (r : a2_A) : Option fn_Z := (B192_25 L xs m d k x1 1 g r)
theorem b192_20 (L : Nat) (xs : Nat → Int32) (m d k : Nat) (n : Nat) (x1 : Int32) (g : a2_G) (r : a2_A) : bk L xs 192 nm_m192 m d k (n + 3) 20 [some (.ref 9), some (.int x1)] [] g r = B192_20 L xs m d k x1 g r := by
  show _ = ((B192_25 L xs m d k x1 1 g r) : Option fn_Z)
  refine (fs_r (n := n + 2) 1 (pc' := 21) (L' := [some (.ref 9), some (.int x1)]) (S' := [.int 1]) rfl).trans ?_
  refine (fs_go (n := n + 1) rfl (t := 25) rfl (by decide)).trans ?_
  exact b192_25 L xs m d k (n + 0) x1 1 g r
theorem e192 (L : Nat) (xs : Nat → Int32) (m d k : Nat) (n : Nat) (a1 : Int32) (g : a2_G) (r : a2_A) : bk L xs 192 nm_m192 m d k (n + 13) 0 [some (.ref 9), some (.int a1)] [] g r = (fn_v (ev L xs m d 170 [.ref 9, .int a1] g r) fun v3 g1 r2 => (if am_c2 .ne v3 0 = true then (B192_20 L xs m d k a1 g1 r2) else (fn_v (ev L xs m d 165 [.ref 9, .int 1, .int (g1 941)] g1 r2) fun v6 g4 r5 => (if am_c2 .eq v6 0 = true then (B192_25 L xs m d k a1 0 g4 r5) else (B192_20 L xs m d k a1 g4 r5))))) := by
  refine (fs_r (n := n + 11) 2 (pc' := 2) (L' := [some (.ref 9), some (.int a1)]) (S' := [.int a1, .ref 9]) rfl).trans ?_
  refine (fs_cv (n := n + 10) (N := nm_m170) (as := [.ref 9, .int a1]) (rest := []) rfl rfl (Or.inl rfl) rfl rfl rfl rfl rfl).trans (fs_fv fun v3 g1 r2 => ?_)
  refine (fs_i (n := n + 9) rfl (t := 20) rfl (by decide)).trans (fs_ite ?_ ?_)
  · skip
    exact b192_20 L xs m d k (n + 6) a1 g1 r2
  · skip
    refine (fs_r (n := n + 5) 4 (pc' := 14) (L' := [some (.ref 9), some (.int a1)]) (S' := [.int (g1 941), .int 1, .ref 9]) rfl).trans ?_
    refine (fs_cv (n := n + 4) (N := nm_m165) (as := [.ref 9, .int 1, .int (g1 941)]) (rest := []) rfl rfl (Or.inl rfl) rfl rfl rfl rfl rfl).trans (fs_fv fun v6 g4 r5 => ?_)
    refine (fs_i (n := n + 3) rfl (t := 24) rfl (by decide)).trans (fs_ite ?_ ?_)
    · skip
      refine (fs_r (n := n + 2) 1 (pc' := 25) (L' := [some (.ref 9), some (.int a1)]) (S' := [.int 0]) rfl).trans ?_
      exact b192_25 L xs m d k (n + 1) a1 0 g4 r5
    · skip
      exact b192_20 L xs m d k (n + 0) a1 g4 r5
theorem q192 (L : Nat) (xs : Nat → Int32) (m d : Nat) (a1 : Int32) (g : a2_G) (r : a2_A) : ev L xs (m + 1) (d + 1) 192 [.ref 9, .int a1] g r = (fn_v (ev L xs (m + 1) d 170 [.ref 9, .int a1] g r) fun v3 g1 r2 => (if am_c2 .ne v3 0 = true then (B192_20 L xs (m + 1) d m a1 g1 r2) else (fn_v (ev L xs (m + 1) d 165 [.ref 9, .int 1, .int (g1 941)] g1 r2) fun v6 g4 r5 => (if am_c2 .eq v6 0 = true then (B192_25 L xs (m + 1) d m a1 0 g4 r5) else (B192_20 L xs (m + 1) d m a1 g4 r5))))) := (fs_ev (M := nm_m192) rfl rfl).trans (e192 L xs (m + 1) d m 887 a1 g r)
