/-! The equations of the methods, by wip/whole/gensh2.py -/
/-- a loop's further turns; a method's rest -/
abbrev lp (L : Nat) (xs : Nat → Int32) (j : Nat) (M : am_M) (m d k : Nat) : Nat → am_L → a2_G → a2_A → Option fn_Z := fn_l (sh_tb L xs j) nm_Y nm_RG 13 nm_ms sh_oc (sh_tw j) (ev L xs m d) M 900 k
abbrev bk (L : Nat) (xs : Nat → Int32) (j : Nat) (M : am_M) (m d k : Nat) : Nat → Nat → am_L → List Value → a2_G → a2_A → Option fn_Z := fn_b (sh_tb L xs j) nm_Y nm_RG 13 nm_ms sh_oc (sh_tw j) (ev L xs m d) M (lp L xs j M m d k)
/-- CobolParser.word(II)I -/
def B9_34 (L : Nat) (xs : Nat → Int32) (m d k : Nat) (x1 x2 x3 : Int32) (g : a2_G) (r : a2_A) : Option fn_Z := (some (.inl (some (.int x3)), g, r))
theorem b9_34 (L : Nat) (xs : Nat → Int32) (m d k : Nat) (n : Nat) (x1 x2 x3 : Int32) (g : a2_G) (r : a2_A) : bk L xs 9 nm_m9 m d k (n + 1) 34 [some (.ref 0), some (.int x1), some (.int x2)] [.int x3] g r = B9_34 L xs m d k x1 x2 x3 g r := by
  show _ = ((some (.inl (some (.int x3)), g, r)) : Option fn_Z)
  exact (fs_ri (n := n + 0) rfl rfl).trans rfl
theorem e9 (L : Nat) (xs : Nat → Int32) (m d k : Nat) (n : Nat) (a1 a2 : Int32) (g : a2_G) (r : a2_A) : bk L xs 9 nm_m9 m d k (n + 14) 0 [some (.ref 0), some (.int a1), some (.int a2)] [] g r = (fn_v (ev L xs m d 10 [.int a1, .int a2] g r) fun v3 g1 r2 => (if am_c2 .ne v3 0 = true then (fn_v (ev L xs m d 11 [.ref 1] g1 r2) fun v6 g4 r5 => (if am_c2 .eq v6 0 = true then (fn_v (ev L xs m d 12 [.ref 1, .int a1, .int a2] g4 r5) fun v9 g7 r8 => (B9_34 L xs m d k a1 a2 v9 g7 r8)) else (B9_34 L xs m d k a1 a2 (-1) g4 r5))) else (some (.inl (some (.int (-4))), g1, r2)))) := by
  refine (fs_r (n := n + 12) 2 (pc' := 2) (L' := [some (.ref 0), some (.int a1), some (.int a2)]) (S' := [.int a2, .int a1]) rfl).trans ?_
  refine (fs_sv (n := n + 11) (N := nm_m10) (as := [.int a1, .int a2]) (rest := []) rfl rfl (by decide) rfl rfl rfl rfl rfl).trans (fs_fv fun v3 g1 r2 => ?_)
  refine (fs_i (n := n + 10) rfl (t := 11) rfl (by decide)).trans (fs_ite ?_ ?_)
  · skip
    refine (fs_r (n := n + 8) 2 (pc' := 15) (L' := [some (.ref 0), some (.int a1), some (.int a2)]) (S' := [.ref 1]) rfl).trans ?_
    refine (fs_cv (n := n + 7) (N := nm_m11) (as := [.ref 1]) (rest := []) rfl rfl (Or.inl rfl) rfl rfl rfl rfl rfl).trans (fs_fv fun v6 g4 r5 => ?_)
    refine (fs_i (n := n + 6) rfl (t := 25) rfl (by decide)).trans (fs_ite ?_ ?_)
    · skip
      refine (fs_r (n := n + 2) 4 (pc' := 31) (L' := [some (.ref 0), some (.int a1), some (.int a2)]) (S' := [.int a2, .int a1, .ref 1]) rfl).trans ?_
      refine (fs_cv (n := n + 1) (N := nm_m12) (as := [.ref 1, .int a1, .int a2]) (rest := []) rfl rfl (Or.inl rfl) rfl rfl rfl rfl rfl).trans (fs_fv fun v9 g7 r8 => ?_)
      exact b9_34 L xs m d k (n + 0) a1 a2 v9 g7 r8
    · skip
      refine (fs_r (n := n + 5) 1 (pc' := 22) (L' := [some (.ref 0), some (.int a1), some (.int a2)]) (S' := [.int (-1)]) rfl).trans ?_
      refine (fs_go (n := n + 4) rfl (t := 34) rfl (by decide)).trans ?_
      exact b9_34 L xs m d k (n + 3) a1 a2 (-1) g4 r5
  · skip
    refine (fs_r (n := n + 9) 1 (pc' := 10) (L' := [some (.ref 0), some (.int a1), some (.int a2)]) (S' := [.int (-4)]) rfl).trans ?_
    exact (fs_ri (n := n + 8) rfl rfl).trans rfl
theorem q9 (L : Nat) (xs : Nat → Int32) (m d : Nat) (a1 a2 : Int32) (g : a2_G) (r : a2_A) : ev L xs (m + 1) (d + 1) 9 [.ref 0, .int a1, .int a2] g r = (fn_v (ev L xs (m + 1) d 10 [.int a1, .int a2] g r) fun v3 g1 r2 => (if am_c2 .ne v3 0 = true then (fn_v (ev L xs (m + 1) d 11 [.ref 1] g1 r2) fun v6 g4 r5 => (if am_c2 .eq v6 0 = true then (fn_v (ev L xs (m + 1) d 12 [.ref 1, .int a1, .int a2] g4 r5) fun v9 g7 r8 => (B9_34 L xs (m + 1) d m a1 a2 v9 g7 r8)) else (B9_34 L xs (m + 1) d m a1 a2 (-1) g4 r5))) else (some (.inl (some (.int (-4))), g1, r2)))) := (fs_ev (M := nm_m9) rfl rfl).trans (e9 L xs (m + 1) d m 886 a1 a2 g r)
/-- CobolParser.isWord(II)Z -/
def B10_55 (L : Nat) (xs : Nat → Int32) (m d k : Nat) (x1 x2 x3 : Int32) (g : a2_G) (r : a2_A) : Option fn_Z := (if x3 = 0 ∨ x3 = 1 then some (.inl (some (.int x3)), g, r) else none)
theorem b10_55 (L : Nat) (xs : Nat → Int32) (m d k : Nat) (n : Nat) (x1 x2 x3 : Int32) (g : a2_G) (r : a2_A) : bk L xs 10 nm_m10 m d k (n + 1) 55 [some (.int x1), some (.int x2)] [.int x3] g r = B10_55 L xs m d k x1 x2 x3 g r := by
  show _ = ((if x3 = 0 ∨ x3 = 1 then some (.inl (some (.int x3)), g, r) else none) : Option fn_Z)
  exact (fs_rb (n := n + 0) rfl rfl).trans rfl
def B10_54 (L : Nat) (xs : Nat → Int32) (m d k : Nat) (x1 x2 : Int32) (g : a2_G) (r : a2_A) : Option fn_Z := (B10_55 L xs m d k x1 x2 0 g r)
theorem b10_54 (L : Nat) (xs : Nat → Int32) (m d k : Nat) (n : Nat) (x1 x2 : Int32) (g : a2_G) (r : a2_A) : bk L xs 10 nm_m10 m d k (n + 2) 54 [some (.int x1), some (.int x2)] [] g r = B10_54 L xs m d k x1 x2 g r := by
  show _ = ((B10_55 L xs m d k x1 x2 0 g r) : Option fn_Z)
  refine (fs_r (n := n + 1) 1 (pc' := 55) (L' := [some (.int x1), some (.int x2)]) (S' := [.int 0]) rfl).trans ?_
  exact b10_55 L xs m d k (n + 0) x1 x2 0 g r
def B10_71 (L : Nat) (xs : Nat → Int32) (m d k : Nat) (x1 x2 x3 : Int32) (g : a2_G) (r : a2_A) : Option fn_Z := (if x3 = 0 ∨ x3 = 1 then some (.inl (some (.int x3)), g, r) else none)
theorem b10_71 (L : Nat) (xs : Nat → Int32) (m d k : Nat) (n : Nat) (x1 x2 x3 : Int32) (g : a2_G) (r : a2_A) : bk L xs 10 nm_m10 m d k (n + 1) 71 [some (.int x1), some (.int x2)] [.int x3] g r = B10_71 L xs m d k x1 x2 x3 g r := by
  show _ = ((if x3 = 0 ∨ x3 = 1 then some (.inl (some (.int x3)), g, r) else none) : Option fn_Z)
  exact (fs_rb (n := n + 0) rfl rfl).trans rfl
def B10_70 (L : Nat) (xs : Nat → Int32) (m d k : Nat) (x1 x2 : Int32) (g : a2_G) (r : a2_A) : Option fn_Z := (B10_71 L xs m d k x1 x2 0 g r)
theorem b10_70 (L : Nat) (xs : Nat → Int32) (m d k : Nat) (n : Nat) (x1 x2 : Int32) (g : a2_G) (r : a2_A) : bk L xs 10 nm_m10 m d k (n + 2) 70 [some (.int x1), some (.int x2)] [] g r = B10_70 L xs m d k x1 x2 g r := by
  show _ = ((B10_71 L xs m d k x1 x2 0 g r) : Option fn_Z)
  refine (fs_r (n := n + 1) 1 (pc' := 71) (L' := [some (.int x1), some (.int x2)]) (S' := [.int 0]) rfl).trans ?_
  exact b10_71 L xs m d k (n + 0) x1 x2 0 g r
def B10_56 (L : Nat) (xs : Nat → Int32) (m d k : Nat) (x1 x2 : Int32) (g : a2_G) (r : a2_A) : Option fn_Z := (if am_c2 .lt x2 0 = true then (B10_70 L xs m d k x1 x2 g r) else (if am_c2 .gt x2 99 = true then (B10_70 L xs m d k x1 x2 g r) else (B10_71 L xs m d k x1 x2 1 g r)))
theorem b10_56 (L : Nat) (xs : Nat → Int32) (m d k : Nat) (n : Nat) (x1 x2 : Int32) (g : a2_G) (r : a2_A) : bk L xs 10 nm_m10 m d k (n + 8) 56 [some (.int x1), some (.int x2)] [] g r = B10_56 L xs m d k x1 x2 g r := by
  show _ = ((if am_c2 .lt x2 0 = true then (B10_70 L xs m d k x1 x2 g r) else (if am_c2 .gt x2 99 = true then (B10_70 L xs m d k x1 x2 g r) else (B10_71 L xs m d k x1 x2 1 g r))) : Option fn_Z)
  refine (fs_r (n := n + 7) 1 (pc' := 57) (L' := [some (.int x1), some (.int x2)]) (S' := [.int x2]) rfl).trans ?_
  refine (fs_i (n := n + 6) rfl (t := 70) rfl (by decide)).trans (fs_ite ?_ ?_)
  · skip
    exact b10_70 L xs m d k (n + 4) x1 x2 g r
  · skip
    refine (fs_r (n := n + 4) 2 (pc' := 63) (L' := [some (.int x1), some (.int x2)]) (S' := [.int 99, .int x2]) rfl).trans ?_
    refine (fs_j (n := n + 3) rfl (t := 70) rfl (by decide)).trans (fs_ite ?_ ?_)
    · skip
      exact b10_70 L xs m d k (n + 1) x1 x2 g r
    · skip
      refine (fs_r (n := n + 2) 1 (pc' := 67) (L' := [some (.int x1), some (.int x2)]) (S' := [.int 1]) rfl).trans ?_
      refine (fs_go (n := n + 1) rfl (t := 71) rfl (by decide)).trans ?_
      exact b10_71 L xs m d k (n + 0) x1 x2 1 g r
def B10_87 (L : Nat) (xs : Nat → Int32) (m d k : Nat) (x1 x2 x3 : Int32) (g : a2_G) (r : a2_A) : Option fn_Z := (if x3 = 0 ∨ x3 = 1 then some (.inl (some (.int x3)), g, r) else none)
theorem b10_87 (L : Nat) (xs : Nat → Int32) (m d k : Nat) (n : Nat) (x1 x2 x3 : Int32) (g : a2_G) (r : a2_A) : bk L xs 10 nm_m10 m d k (n + 1) 87 [some (.int x1), some (.int x2)] [.int x3] g r = B10_87 L xs m d k x1 x2 x3 g r := by
  show _ = ((if x3 = 0 ∨ x3 = 1 then some (.inl (some (.int x3)), g, r) else none) : Option fn_Z)
  exact (fs_rb (n := n + 0) rfl rfl).trans rfl
def B10_86 (L : Nat) (xs : Nat → Int32) (m d k : Nat) (x1 x2 : Int32) (g : a2_G) (r : a2_A) : Option fn_Z := (B10_87 L xs m d k x1 x2 0 g r)
theorem b10_86 (L : Nat) (xs : Nat → Int32) (m d k : Nat) (n : Nat) (x1 x2 : Int32) (g : a2_G) (r : a2_A) : bk L xs 10 nm_m10 m d k (n + 2) 86 [some (.int x1), some (.int x2)] [] g r = B10_86 L xs m d k x1 x2 g r := by
  show _ = ((B10_87 L xs m d k x1 x2 0 g r) : Option fn_Z)
  refine (fs_r (n := n + 1) 1 (pc' := 87) (L' := [some (.int x1), some (.int x2)]) (S' := [.int 0]) rfl).trans ?_
  exact b10_87 L xs m d k (n + 0) x1 x2 0 g r
def B10_105 (L : Nat) (xs : Nat → Int32) (m d k : Nat) (x1 x2 x3 : Int32) (g : a2_G) (r : a2_A) : Option fn_Z := (if x3 = 0 ∨ x3 = 1 then some (.inl (some (.int x3)), g, r) else none)
theorem b10_105 (L : Nat) (xs : Nat → Int32) (m d k : Nat) (n : Nat) (x1 x2 x3 : Int32) (g : a2_G) (r : a2_A) : bk L xs 10 nm_m10 m d k (n + 1) 105 [some (.int x1), some (.int x2)] [.int x3] g r = B10_105 L xs m d k x1 x2 x3 g r := by
  show _ = ((if x3 = 0 ∨ x3 = 1 then some (.inl (some (.int x3)), g, r) else none) : Option fn_Z)
  exact (fs_rb (n := n + 0) rfl rfl).trans rfl
def B10_104 (L : Nat) (xs : Nat → Int32) (m d k : Nat) (x1 x2 : Int32) (g : a2_G) (r : a2_A) : Option fn_Z := (B10_105 L xs m d k x1 x2 0 g r)
theorem b10_104 (L : Nat) (xs : Nat → Int32) (m d k : Nat) (n : Nat) (x1 x2 : Int32) (g : a2_G) (r : a2_A) : bk L xs 10 nm_m10 m d k (n + 2) 104 [some (.int x1), some (.int x2)] [] g r = B10_104 L xs m d k x1 x2 g r := by
  show _ = ((B10_105 L xs m d k x1 x2 0 g r) : Option fn_Z)
  refine (fs_r (n := n + 1) 1 (pc' := 105) (L' := [some (.int x1), some (.int x2)]) (S' := [.int 0]) rfl).trans ?_
  exact b10_105 L xs m d k (n + 0) x1 x2 0 g r
theorem e10 (L : Nat) (xs : Nat → Int32) (m d k : Nat) (n : Nat) (a1 a2 : Int32) (g : a2_G) (r : a2_A) : bk L xs 10 nm_m10 m d k (n + 10) 0 [some (.int a1), some (.int a2)] [] g r = (if (a1 : Int32).toInt = 0 then (if am_c2 .lt a2 0 = true then (B10_54 L xs m d k a1 a2 g r) else (if am_c2 .gt a2 78 = true then (B10_54 L xs m d k a1 a2 g r) else (B10_55 L xs m d k a1 a2 1 g r))) else (if (a1 : Int32).toInt = 1 then (B10_56 L xs m d k a1 a2 g r) else (if (a1 : Int32).toInt = 2 then (if am_c2 .lt a2 0 = true then (B10_86 L xs m d k a1 a2 g r) else (if am_c2 .gt a2 99999 = true then (B10_86 L xs m d k a1 a2 g r) else (B10_87 L xs m d k a1 a2 1 g r))) else (if (a1 : Int32).toInt = 3 then (B10_56 L xs m d k a1 a2 g r) else (if (a1 : Int32).toInt = 4 then (some (.inl (some (.int 1)), g, r)) else (if (a1 : Int32).toInt = 5 then (if am_c2 .lt a2 0 = true then (B10_104 L xs m d k a1 a2 g r) else (if am_c2 .gt a2 8 = true then (B10_104 L xs m d k a1 a2 g r) else (B10_105 L xs m d k a1 a2 1 g r))) else (some (.inl (some (.int 0)), g, r)))))))) := by
  refine (fs_r (n := n + 9) 1 (pc' := 1) (L' := [some (.int a1), some (.int a2)]) (S' := [.int a1]) rfl).trans ?_
  refine (fs_ts (n := n + 8) (l := [39, 55, 71, 55, 87, 89]) rfl rfl rfl).trans ?_
  refine fs_tc (v' := 1) rfl ?_ (fs_tc (v' := 2) rfl ?_ (fs_tc (v' := 3) rfl ?_ (fs_tc (v' := 4) rfl ?_ (fs_tc (v' := 5) rfl ?_ (fs_tc (v' := 6) rfl ?_ (fs_tn ?_))))))
  · refine (fs_J1 (n := n + 8) (t := 40) rfl (by decide)).trans ?_
    refine (fs_r (n := n + 7) 1 (pc' := 41) (L' := [some (.int a1), some (.int a2)]) (S' := [.int a2]) rfl).trans ?_
    refine (fs_i (n := n + 6) rfl (t := 54) rfl (by decide)).trans (fs_ite ?_ ?_)
    · skip
      exact b10_54 L xs m d k (n + 4) a1 a2 g r
    · skip
      refine (fs_r (n := n + 4) 2 (pc' := 47) (L' := [some (.int a1), some (.int a2)]) (S' := [.int 78, .int a2]) rfl).trans ?_
      refine (fs_j (n := n + 3) rfl (t := 54) rfl (by decide)).trans (fs_ite ?_ ?_)
      · skip
        exact b10_54 L xs m d k (n + 1) a1 a2 g r
      · skip
        refine (fs_r (n := n + 2) 1 (pc' := 51) (L' := [some (.int a1), some (.int a2)]) (S' := [.int 1]) rfl).trans ?_
        refine (fs_go (n := n + 1) rfl (t := 55) rfl (by decide)).trans ?_
        exact b10_55 L xs m d k (n + 0) a1 a2 1 g r
  · refine (fs_J1 (n := n + 8) (t := 56) rfl (by decide)).trans ?_
    exact b10_56 L xs m d k (n + 0) a1 a2 g r
  · refine (fs_J1 (n := n + 8) (t := 72) rfl (by decide)).trans ?_
    refine (fs_r (n := n + 7) 1 (pc' := 73) (L' := [some (.int a1), some (.int a2)]) (S' := [.int a2]) rfl).trans ?_
    refine (fs_i (n := n + 6) rfl (t := 86) rfl (by decide)).trans (fs_ite ?_ ?_)
    · skip
      exact b10_86 L xs m d k (n + 4) a1 a2 g r
    · skip
      refine (fs_r (n := n + 4) 2 (pc' := 79) (L' := [some (.int a1), some (.int a2)]) (S' := [.int 99999, .int a2]) rfl).trans ?_
      refine (fs_j (n := n + 3) rfl (t := 86) rfl (by decide)).trans (fs_ite ?_ ?_)
      · skip
        exact b10_86 L xs m d k (n + 1) a1 a2 g r
      · skip
        refine (fs_r (n := n + 2) 1 (pc' := 83) (L' := [some (.int a1), some (.int a2)]) (S' := [.int 1]) rfl).trans ?_
        refine (fs_go (n := n + 1) rfl (t := 87) rfl (by decide)).trans ?_
        exact b10_87 L xs m d k (n + 0) a1 a2 1 g r
  · refine (fs_J1 (n := n + 8) (t := 56) rfl (by decide)).trans ?_
    exact b10_56 L xs m d k (n + 0) a1 a2 g r
  · refine (fs_J1 (n := n + 8) (t := 88) rfl (by decide)).trans ?_
    refine (fs_r (n := n + 7) 1 (pc' := 89) (L' := [some (.int a1), some (.int a2)]) (S' := [.int 1]) rfl).trans ?_
    exact (fs_rb (n := n + 6) rfl rfl).trans ((if_pos (by decide)).trans rfl)
  · refine (fs_J1 (n := n + 8) (t := 90) rfl (by decide)).trans ?_
    refine (fs_r (n := n + 7) 1 (pc' := 91) (L' := [some (.int a1), some (.int a2)]) (S' := [.int a2]) rfl).trans ?_
    refine (fs_i (n := n + 6) rfl (t := 104) rfl (by decide)).trans (fs_ite ?_ ?_)
    · skip
      exact b10_104 L xs m d k (n + 4) a1 a2 g r
    · skip
      refine (fs_r (n := n + 4) 2 (pc' := 97) (L' := [some (.int a1), some (.int a2)]) (S' := [.int 8, .int a2]) rfl).trans ?_
      refine (fs_j (n := n + 3) rfl (t := 104) rfl (by decide)).trans (fs_ite ?_ ?_)
      · skip
        exact b10_104 L xs m d k (n + 1) a1 a2 g r
      · skip
        refine (fs_r (n := n + 2) 1 (pc' := 101) (L' := [some (.int a1), some (.int a2)]) (S' := [.int 1]) rfl).trans ?_
        refine (fs_go (n := n + 1) rfl (t := 105) rfl (by decide)).trans ?_
        exact b10_105 L xs m d k (n + 0) a1 a2 1 g r
  · refine (fs_J1 (n := n + 8) (t := 106) rfl (by decide)).trans ?_
    refine (fs_r (n := n + 7) 1 (pc' := 107) (L' := [some (.int a1), some (.int a2)]) (S' := [.int 0]) rfl).trans ?_
    exact (fs_rb (n := n + 6) rfl rfl).trans ((if_pos (by decide)).trans rfl)
theorem q10 (L : Nat) (xs : Nat → Int32) (m d : Nat) (a1 a2 : Int32) (g : a2_G) (r : a2_A) : ev L xs (m + 1) (d + 1) 10 [.int a1, .int a2] g r = (if (a1 : Int32).toInt = 0 then (if am_c2 .lt a2 0 = true then (B10_54 L xs (m + 1) d m a1 a2 g r) else (if am_c2 .gt a2 78 = true then (B10_54 L xs (m + 1) d m a1 a2 g r) else (B10_55 L xs (m + 1) d m a1 a2 1 g r))) else (if (a1 : Int32).toInt = 1 then (B10_56 L xs (m + 1) d m a1 a2 g r) else (if (a1 : Int32).toInt = 2 then (if am_c2 .lt a2 0 = true then (B10_86 L xs (m + 1) d m a1 a2 g r) else (if am_c2 .gt a2 99999 = true then (B10_86 L xs (m + 1) d m a1 a2 g r) else (B10_87 L xs (m + 1) d m a1 a2 1 g r))) else (if (a1 : Int32).toInt = 3 then (B10_56 L xs (m + 1) d m a1 a2 g r) else (if (a1 : Int32).toInt = 4 then (some (.inl (some (.int 1)), g, r)) else (if (a1 : Int32).toInt = 5 then (if am_c2 .lt a2 0 = true then (B10_104 L xs (m + 1) d m a1 a2 g r) else (if am_c2 .gt a2 8 = true then (B10_104 L xs (m + 1) d m a1 a2 g r) else (B10_105 L xs (m + 1) d m a1 a2 1 g r))) else (some (.inl (some (.int 0)), g, r)))))))) := (fs_ev (M := nm_m10) rfl rfl).trans (e10 L xs (m + 1) d m 890 a1 a2 g r)
/-- CobolParser$Row.isFull()Z -/
def B11_15 (L : Nat) (xs : Nat → Int32) (m d k : Nat) (x1 : Int32) (g : a2_G) (r : a2_A) : Option fn_Z := (if x1 = 0 ∨ x1 = 1 then some (.inl (some (.int x1)), g, r) else none)
theorem b11_15 (L : Nat) (xs : Nat → Int32) (m d k : Nat) (n : Nat) (x1 : Int32) (g : a2_G) (r : a2_A) : bk L xs 11 nm_m11 m d k (n + 1) 15 [some (.ref 1)] [.int x1] g r = B11_15 L xs m d k x1 g r := by
  show _ = ((if x1 = 0 ∨ x1 = 1 then some (.inl (some (.int x1)), g, r) else none) : Option fn_Z)
  exact (fs_rb (n := n + 0) rfl rfl).trans rfl
theorem e11 (L : Nat) (xs : Nat → Int32) (m d k : Nat) (n : Nat) (g : a2_G) (r : a2_A) : bk L xs 11 nm_m11 m d k (n + 7) 0 [some (.ref 1)] [] g r = (if am_c2 .lt (g 102) 1500 = true then (B11_15 L xs m d k 0 g r) else (B11_15 L xs m d k 1 g r)) := by
  refine (fs_r (n := n + 4) 3 (pc' := 7) (L' := [some (.ref 1)]) (S' := [.int 1500, .int (g 102)]) rfl).trans ?_
  refine (fs_j (n := n + 3) rfl (t := 14) rfl (by decide)).trans (fs_ite ?_ ?_)
  · skip
    refine (fs_r (n := n + 2) 1 (pc' := 15) (L' := [some (.ref 1)]) (S' := [.int 0]) rfl).trans ?_
    exact b11_15 L xs m d k (n + 1) 0 g r
  · skip
    refine (fs_r (n := n + 2) 1 (pc' := 11) (L' := [some (.ref 1)]) (S' := [.int 1]) rfl).trans ?_
    refine (fs_go (n := n + 1) rfl (t := 15) rfl (by decide)).trans ?_
    exact b11_15 L xs m d k (n + 0) 1 g r
theorem q11 (L : Nat) (xs : Nat → Int32) (m d : Nat) (g : a2_G) (r : a2_A) : ev L xs (m + 1) (d + 1) 11 [.ref 1] g r = (if am_c2 .lt (g 102) 1500 = true then (B11_15 L xs (m + 1) d m 0 g r) else (B11_15 L xs (m + 1) d m 1 g r)) := (fs_ev (M := nm_m11) rfl rfl).trans (e11 L xs (m + 1) d m 893 g r)
/-- CobolParser$Row.add(II)I -/
def B12_46 (L : Nat) (xs : Nat → Int32) (m d k : Nat) (x1 x2 : Int32) (g : a2_G) (r : a2_A) : Option fn_Z := (if am_inr (g 102) (r 100).1 = true then (if am_inr (g 102) (r 101).1 = true then (some (.inl (some (.int ((g 102) + 1))), (upd g 102 ((g 102) + 1)), (a2_ua (a2_ua r 100 ((r 100).1, (upd (r 100).2 ((g 102) : Int32).toNatClampNeg x1))) 101 ((r 101).1, (upd (r 101).2 ((g 102) : Int32).toNatClampNeg x2))))) else none) else none)
theorem b12_46 (L : Nat) (xs : Nat → Int32) (m d k : Nat) (n : Nat) (x1 x2 : Int32) (g : a2_G) (r : a2_A) : bk L xs 12 nm_m12 m d k (n + 21) 46 [some (.ref 1), some (.int x1), some (.int x2)] [] g r = B12_46 L xs m d k x1 x2 g r := by
  show _ = ((if am_inr (g 102) (r 100).1 = true then (if am_inr (g 102) (r 101).1 = true then (some (.inl (some (.int ((g 102) + 1))), (upd g 102 ((g 102) + 1)), (a2_ua (a2_ua r 100 ((r 100).1, (upd (r 100).2 ((g 102) : Int32).toNatClampNeg x1))) 101 ((r 101).1, (upd (r 101).2 ((g 102) : Int32).toNatClampNeg x2))))) else none) else none) : Option fn_Z)
  refine (fs_r (n := n + 16) 5 (pc' := 55) (L' := [some (.ref 1), some (.int x1), some (.int x2)]) (S' := [.int x1, .int (g 102), .ref 10100]) rfl).trans ?_
  refine (fs_is (n := n + 15) (k := 100) rfl rfl).trans (fs_ite ?_ rfl)
  refine (fs_r (n := n + 10) 5 (pc' := 65) (L' := [some (.ref 1), some (.int x1), some (.int x2)]) (S' := [.int x2, .int (g 102), .ref 10101]) rfl).trans ?_
  refine (fs_is (n := n + 9) (k := 101) rfl rfl).trans (fs_ite ?_ rfl)
  refine (fs_r (n := n + 4) 5 (pc' := 73) (L' := [some (.ref 1), some (.int x1), some (.int x2)]) (S' := [.int ((g 102) + 1), .ref 1]) rfl).trans ?_
  refine (fs_pf (n := n + 3) (ci := 1) (j := 2) rfl rfl rfl rfl).trans ?_
  refine (fs_r (n := n + 1) 2 (pc' := 80) (L' := [some (.ref 1), some (.int x1), some (.int x2)]) (S' := [.int ((g 102) + 1)]) rfl).trans ?_
  exact (fs_ri (n := n + 0) rfl rfl).trans rfl
theorem e12 (L : Nat) (xs : Nat → Int32) (m d k : Nat) (n : Nat) (a1 a2 : Int32) (g : a2_G) (r : a2_A) : bk L xs 12 nm_m12 m d k (n + 43) 0 [some (.ref 1), some (.int a1), some (.int a2)] [] g r = (if am_c2 .lt (g 102) (Int32.ofNat (r 100).1) = true then (B12_46 L xs m d k a1 a2 g r) else (if ¬ ((2 * (g 102)) : Int32) < 0 ∧ ((2 * (g 102)) : Int32).toNatClampNeg ≤ 60000000 ∧ ((2 * (g 102)) : Int32).toNatClampNeg ≠ (r 100).1 ∧ (r 100).1 ≤ 60000000 then (if ¬ ((2 * (g 102)) : Int32) < 0 ∧ ((2 * (g 102)) : Int32).toNatClampNeg ≤ 60000000 ∧ ((2 * (g 102)) : Int32).toNatClampNeg ≠ (r 101).1 ∧ (r 101).1 ≤ 60000000 then (B12_46 L xs m d k a1 a2 g (a2_ua (a2_ua r 100 (a2_cp ((2 * (g 102)) : Int32).toNatClampNeg (r 100))) 101 (a2_cp ((2 * (g 102)) : Int32).toNatClampNeg (r 101)))) else none) else none)) := by
  refine (fs_r (n := n + 38) 5 (pc' := 9) (L' := [some (.ref 1), some (.int a1), some (.int a2)]) (S' := [.int (Int32.ofNat (r 100).1), .int (g 102)]) rfl).trans ?_
  refine (fs_j (n := n + 37) rfl (t := 46) rfl (by decide)).trans (fs_ite ?_ ?_)
  · skip
    exact b12_46 L xs m d k (n + 16) a1 a2 g r
  · skip
    refine (fs_r (n := n + 30) 7 (pc' := 23) (L' := [some (.ref 1), some (.int a1), some (.int a2)]) (S' := [.int (2 * (g 102)), .ref 10100, .ref 1]) rfl).trans ?_
    refine (fs_cp (n := n + 29) (q := 100) (ci := 1) (j := 0) rfl rfl rfl rfl rfl rfl).trans (fs_ite ?_ rfl)
    refine (fs_r (n := n + 22) 7 (pc' := 40) (L' := [some (.ref 1), some (.int a1), some (.int a2)]) (S' := [.int (2 * (g 102)), .ref 10101, .ref 1]) rfl).trans ?_
    refine (fs_cp (n := n + 21) (q := 101) (ci := 1) (j := 1) rfl rfl rfl rfl rfl rfl).trans (fs_ite ?_ rfl)
    exact b12_46 L xs m d k (n + 0) a1 a2 g (a2_ua (a2_ua r 100 (a2_cp ((2 * (g 102)) : Int32).toNatClampNeg (r 100))) 101 (a2_cp ((2 * (g 102)) : Int32).toNatClampNeg (r 101)))
theorem q12 (L : Nat) (xs : Nat → Int32) (m d : Nat) (a1 a2 : Int32) (g : a2_G) (r : a2_A) : ev L xs (m + 1) (d + 1) 12 [.ref 1, .int a1, .int a2] g r = (if am_c2 .lt (g 102) (Int32.ofNat (r 100).1) = true then (B12_46 L xs (m + 1) d m a1 a2 g r) else (if ¬ ((2 * (g 102)) : Int32) < 0 ∧ ((2 * (g 102)) : Int32).toNatClampNeg ≤ 60000000 ∧ ((2 * (g 102)) : Int32).toNatClampNeg ≠ (r 100).1 ∧ (r 100).1 ≤ 60000000 then (if ¬ ((2 * (g 102)) : Int32) < 0 ∧ ((2 * (g 102)) : Int32).toNatClampNeg ≤ 60000000 ∧ ((2 * (g 102)) : Int32).toNatClampNeg ≠ (r 101).1 ∧ (r 101).1 ≤ 60000000 then (B12_46 L xs (m + 1) d m a1 a2 g (a2_ua (a2_ua r 100 (a2_cp ((2 * (g 102)) : Int32).toNatClampNeg (r 100))) 101 (a2_cp ((2 * (g 102)) : Int32).toNatClampNeg (r 101)))) else none) else none)) := (fs_ev (M := nm_m12) rfl rfl).trans (e12 L xs (m + 1) d m 857 a1 a2 g r)
/-- CobolParser.node(II)I -/
theorem e14 (L : Nat) (xs : Nat → Int32) (m d k : Nat) (n : Nat) (a1 a2 : Int32) (g : a2_G) (r : a2_A) : bk L xs 14 nm_m14 m d k (n + 7) 0 [some (.ref 0), some (.int a1), some (.int a2)] [] g r = (if (a2 : Int32).toInt = 0 then (fn_v (ev L xs m d 15 [.ref 2, .int a1] g r) fun v3 g1 r2 => (some (.inl (some (.int v3)), g1, r2))) else (if (a2 : Int32).toInt = 1 then (fn_v (ev L xs m d 18 [.ref 2, .int a1] g r) fun v6 g4 r5 => (some (.inl (some (.int v6)), g4, r5))) else (if (a2 : Int32).toInt = 2 then (fn_v (ev L xs m d 19 [.ref 2, .int a1] g r) fun v9 g7 r8 => (some (.inl (some (.int v9)), g7, r8))) else (if (a2 : Int32).toInt = 3 then (fn_v (ev L xs m d 20 [.ref 2, .int a1] g r) fun v12 g10 r11 => (some (.inl (some (.int v12)), g10, r11))) else (if (a2 : Int32).toInt = 4 then (fn_v (ev L xs m d 21 [.ref 2, .int a1] g r) fun v15 g13 r14 => (some (.inl (some (.int v15)), g13, r14))) else (if (a2 : Int32).toInt = 5 then (fn_v (ev L xs m d 23 [.ref 2, .int a1] g r) fun v18 g16 r17 => (some (.inl (some (.int v18)), g16, r17))) else (some (.inl (some (.int (-1))), g, r)))))))) := by
  refine (fs_r (n := n + 6) 1 (pc' := 1) (L' := [some (.ref 0), some (.int a1), some (.int a2)]) (S' := [.int a2]) rfl).trans ?_
  refine (fs_ts (n := n + 5) (l := [39, 48, 57, 66, 75, 84]) rfl rfl rfl).trans ?_
  refine fs_tc (v' := 1) rfl ?_ (fs_tc (v' := 2) rfl ?_ (fs_tc (v' := 3) rfl ?_ (fs_tc (v' := 4) rfl ?_ (fs_tc (v' := 5) rfl ?_ (fs_tc (v' := 6) rfl ?_ (fs_tn ?_))))))
  · refine (fs_J1 (n := n + 5) (t := 40) rfl (by decide)).trans ?_
    refine (fs_r (n := n + 2) 3 (pc' := 45) (L' := [some (.ref 0), some (.int a1), some (.int a2)]) (S' := [.int a1, .ref 2]) rfl).trans ?_
    refine (fs_cv (n := n + 1) (N := nm_m15) (as := [.ref 2, .int a1]) (rest := []) rfl rfl (Or.inl rfl) rfl rfl rfl rfl rfl).trans (fs_fv fun v3 g1 r2 => ?_)
    exact (fs_ri (n := n + 0) rfl rfl).trans rfl
  · refine (fs_J1 (n := n + 5) (t := 49) rfl (by decide)).trans ?_
    refine (fs_r (n := n + 2) 3 (pc' := 54) (L' := [some (.ref 0), some (.int a1), some (.int a2)]) (S' := [.int a1, .ref 2]) rfl).trans ?_
    refine (fs_cv (n := n + 1) (N := nm_m18) (as := [.ref 2, .int a1]) (rest := []) rfl rfl (Or.inl rfl) rfl rfl rfl rfl rfl).trans (fs_fv fun v6 g4 r5 => ?_)
    exact (fs_ri (n := n + 0) rfl rfl).trans rfl
  · refine (fs_J1 (n := n + 5) (t := 58) rfl (by decide)).trans ?_
    refine (fs_r (n := n + 2) 3 (pc' := 63) (L' := [some (.ref 0), some (.int a1), some (.int a2)]) (S' := [.int a1, .ref 2]) rfl).trans ?_
    refine (fs_cv (n := n + 1) (N := nm_m19) (as := [.ref 2, .int a1]) (rest := []) rfl rfl (Or.inl rfl) rfl rfl rfl rfl rfl).trans (fs_fv fun v9 g7 r8 => ?_)
    exact (fs_ri (n := n + 0) rfl rfl).trans rfl
  · refine (fs_J1 (n := n + 5) (t := 67) rfl (by decide)).trans ?_
    refine (fs_r (n := n + 2) 3 (pc' := 72) (L' := [some (.ref 0), some (.int a1), some (.int a2)]) (S' := [.int a1, .ref 2]) rfl).trans ?_
    refine (fs_cv (n := n + 1) (N := nm_m20) (as := [.ref 2, .int a1]) (rest := []) rfl rfl (Or.inl rfl) rfl rfl rfl rfl rfl).trans (fs_fv fun v12 g10 r11 => ?_)
    exact (fs_ri (n := n + 0) rfl rfl).trans rfl
  · refine (fs_J1 (n := n + 5) (t := 76) rfl (by decide)).trans ?_
    refine (fs_r (n := n + 2) 3 (pc' := 81) (L' := [some (.ref 0), some (.int a1), some (.int a2)]) (S' := [.int a1, .ref 2]) rfl).trans ?_
    refine (fs_cv (n := n + 1) (N := nm_m21) (as := [.ref 2, .int a1]) (rest := []) rfl rfl (Or.inl rfl) rfl rfl rfl rfl rfl).trans (fs_fv fun v15 g13 r14 => ?_)
    exact (fs_ri (n := n + 0) rfl rfl).trans rfl
  · refine (fs_J1 (n := n + 5) (t := 85) rfl (by decide)).trans ?_
    refine (fs_r (n := n + 2) 3 (pc' := 90) (L' := [some (.ref 0), some (.int a1), some (.int a2)]) (S' := [.int a1, .ref 2]) rfl).trans ?_
    refine (fs_cv (n := n + 1) (N := nm_m23) (as := [.ref 2, .int a1]) (rest := []) rfl rfl (Or.inl rfl) rfl rfl rfl rfl rfl).trans (fs_fv fun v18 g16 r17 => ?_)
    exact (fs_ri (n := n + 0) rfl rfl).trans rfl
  · refine (fs_J1 (n := n + 5) (t := 94) rfl (by decide)).trans ?_
    refine (fs_r (n := n + 4) 1 (pc' := 95) (L' := [some (.ref 0), some (.int a1), some (.int a2)]) (S' := [.int (-1)]) rfl).trans ?_
    exact (fs_ri (n := n + 3) rfl rfl).trans rfl
theorem q14 (L : Nat) (xs : Nat → Int32) (m d : Nat) (a1 a2 : Int32) (g : a2_G) (r : a2_A) : ev L xs (m + 1) (d + 1) 14 [.ref 0, .int a1, .int a2] g r = (if (a2 : Int32).toInt = 0 then (fn_v (ev L xs (m + 1) d 15 [.ref 2, .int a1] g r) fun v3 g1 r2 => (some (.inl (some (.int v3)), g1, r2))) else (if (a2 : Int32).toInt = 1 then (fn_v (ev L xs (m + 1) d 18 [.ref 2, .int a1] g r) fun v6 g4 r5 => (some (.inl (some (.int v6)), g4, r5))) else (if (a2 : Int32).toInt = 2 then (fn_v (ev L xs (m + 1) d 19 [.ref 2, .int a1] g r) fun v9 g7 r8 => (some (.inl (some (.int v9)), g7, r8))) else (if (a2 : Int32).toInt = 3 then (fn_v (ev L xs (m + 1) d 20 [.ref 2, .int a1] g r) fun v12 g10 r11 => (some (.inl (some (.int v12)), g10, r11))) else (if (a2 : Int32).toInt = 4 then (fn_v (ev L xs (m + 1) d 21 [.ref 2, .int a1] g r) fun v15 g13 r14 => (some (.inl (some (.int v15)), g13, r14))) else (if (a2 : Int32).toInt = 5 then (fn_v (ev L xs (m + 1) d 23 [.ref 2, .int a1] g r) fun v18 g16 r17 => (some (.inl (some (.int v18)), g16, r17))) else (some (.inl (some (.int (-1))), g, r)))))))) := (fs_ev (M := nm_m14) rfl rfl).trans (e14 L xs (m + 1) d m 893 a1 a2 g r)
/-- CobolParser$Tree.kindOf(I)I -/
theorem e15 (L : Nat) (xs : Nat → Int32) (m d k : Nat) (n : Nat) (a1 : Int32) (g : a2_G) (r : a2_A) : bk L xs 15 nm_m15 m d k (n + 7) 0 [some (.ref 2), some (.int a1)] [] g r = (fn_v (ev L xs m d 16 [.ref 2, .int a1] g r) fun v3 g1 r2 => (fn_v (ev L xs m d 17 [.ref 2, .int v3, .int 0] g1 r2) fun v6 g4 r5 => (some (.inl (some (.int v6)), g4, r5)))) := by
  refine (fs_r (n := n + 4) 3 (pc' := 3) (L' := [some (.ref 2), some (.int a1)]) (S' := [.int a1, .ref 2, .ref 2]) rfl).trans ?_
  refine (fs_cv (n := n + 3) (N := nm_m16) (as := [.ref 2, .int a1]) (rest := [.ref 2]) rfl rfl (Or.inl rfl) rfl rfl rfl rfl rfl).trans (fs_fv fun v3 g1 r2 => ?_)
  refine (fs_r (n := n + 2) 1 (pc' := 7) (L' := [some (.ref 2), some (.int a1)]) (S' := [.int 0, .int v3, .ref 2]) rfl).trans ?_
  refine (fs_cv (n := n + 1) (N := nm_m17) (as := [.ref 2, .int v3, .int 0]) (rest := []) rfl rfl (Or.inl rfl) rfl rfl rfl rfl rfl).trans (fs_fv fun v6 g4 r5 => ?_)
  exact (fs_ri (n := n + 0) rfl rfl).trans rfl
theorem q15 (L : Nat) (xs : Nat → Int32) (m d : Nat) (a1 : Int32) (g : a2_G) (r : a2_A) : ev L xs (m + 1) (d + 1) 15 [.ref 2, .int a1] g r = (fn_v (ev L xs (m + 1) d 16 [.ref 2, .int a1] g r) fun v3 g1 r2 => (fn_v (ev L xs (m + 1) d 17 [.ref 2, .int v3, .int 0] g1 r2) fun v6 g4 r5 => (some (.inl (some (.int v6)), g4, r5)))) := (fs_ev (M := nm_m15) rfl rfl).trans (e15 L xs (m + 1) d m 893 a1 g r)
/-- CobolParser$Tree.handleOf(I)I -/
def B16_23 (L : Nat) (xs : Nat → Int32) (m d k : Nat) (x1 x2 : Int32) (g : a2_G) (r : a2_A) : Option fn_Z := (some (.inl (some (.int x2)), g, r))
theorem b16_23 (L : Nat) (xs : Nat → Int32) (m d k : Nat) (n : Nat) (x1 x2 : Int32) (g : a2_G) (r : a2_A) : bk L xs 16 nm_m16 m d k (n + 1) 23 [some (.ref 2), some (.int x1)] [.int x2] g r = B16_23 L xs m d k x1 x2 g r := by
  show _ = ((some (.inl (some (.int x2)), g, r)) : Option fn_Z)
  exact (fs_ri (n := n + 0) rfl rfl).trans rfl
def B16_22 (L : Nat) (xs : Nat → Int32) (m d k : Nat) (x1 : Int32) (g : a2_G) (r : a2_A) : Option fn_Z := (B16_23 L xs m d k x1 (-1) g r)
theorem b16_22 (L : Nat) (xs : Nat → Int32) (m d k : Nat) (n : Nat) (x1 : Int32) (g : a2_G) (r : a2_A) : bk L xs 16 nm_m16 m d k (n + 2) 22 [some (.ref 2), some (.int x1)] [] g r = B16_22 L xs m d k x1 g r := by
  show _ = ((B16_23 L xs m d k x1 (-1) g r) : Option fn_Z)
  refine (fs_r (n := n + 1) 1 (pc' := 23) (L' := [some (.ref 2), some (.int x1)]) (S' := [.int (-1)]) rfl).trans ?_
  exact b16_23 L xs m d k (n + 0) x1 (-1) g r
theorem e16 (L : Nat) (xs : Nat → Int32) (m d k : Nat) (n : Nat) (a1 : Int32) (g : a2_G) (r : a2_A) : bk L xs 16 nm_m16 m d k (n + 12) 0 [some (.ref 2), some (.int a1)] [] g r = (if am_c2 .lt a1 0 = true then (B16_22 L xs m d k a1 g r) else (if am_c2 .ge a1 (g 202) = true then (B16_22 L xs m d k a1 g r) else (fn_v (ev L xs m d 17 [.ref 2, .int a1, .int 11] g r) fun v3 g1 r2 => (B16_23 L xs m d k a1 v3 g1 r2)))) := by
  refine (fs_r (n := n + 11) 1 (pc' := 1) (L' := [some (.ref 2), some (.int a1)]) (S' := [.int a1]) rfl).trans ?_
  refine (fs_i (n := n + 10) rfl (t := 22) rfl (by decide)).trans (fs_ite ?_ ?_)
  · skip
    exact b16_22 L xs m d k (n + 8) a1 g r
  · skip
    refine (fs_r (n := n + 7) 3 (pc' := 9) (L' := [some (.ref 2), some (.int a1)]) (S' := [.int (g 202), .int a1]) rfl).trans ?_
    refine (fs_j (n := n + 6) rfl (t := 22) rfl (by decide)).trans (fs_ite ?_ ?_)
    · skip
      exact b16_22 L xs m d k (n + 4) a1 g r
    · skip
      refine (fs_r (n := n + 3) 3 (pc' := 16) (L' := [some (.ref 2), some (.int a1)]) (S' := [.int 11, .int a1, .ref 2]) rfl).trans ?_
      refine (fs_cv (n := n + 2) (N := nm_m17) (as := [.ref 2, .int a1, .int 11]) (rest := []) rfl rfl (Or.inl rfl) rfl rfl rfl rfl rfl).trans (fs_fv fun v3 g1 r2 => ?_)
      refine (fs_go (n := n + 1) rfl (t := 23) rfl (by decide)).trans ?_
      exact b16_23 L xs m d k (n + 0) a1 v3 g1 r2
theorem q16 (L : Nat) (xs : Nat → Int32) (m d : Nat) (a1 : Int32) (g : a2_G) (r : a2_A) : ev L xs (m + 1) (d + 1) 16 [.ref 2, .int a1] g r = (if am_c2 .lt a1 0 = true then (B16_22 L xs (m + 1) d m a1 g r) else (if am_c2 .ge a1 (g 202) = true then (B16_22 L xs (m + 1) d m a1 g r) else (fn_v (ev L xs (m + 1) d 17 [.ref 2, .int a1, .int 11] g r) fun v3 g1 r2 => (B16_23 L xs (m + 1) d m a1 v3 g1 r2)))) := (fs_ev (M := nm_m16) rfl rfl).trans (e16 L xs (m + 1) d m 888 a1 g r)
/-- CobolParser$Tree.get(II)I -/
def B17_37 (L : Nat) (xs : Nat → Int32) (m d k : Nat) (x1 x2 x3 : Int32) (g : a2_G) (r : a2_A) : Option fn_Z := (some (.inl (some (.int x3)), g, r))
theorem b17_37 (L : Nat) (xs : Nat → Int32) (m d k : Nat) (n : Nat) (x1 x2 x3 : Int32) (g : a2_G) (r : a2_A) : bk L xs 17 nm_m17 m d k (n + 1) 37 [some (.ref 2), some (.int x1), some (.int x2)] [.int x3] g r = B17_37 L xs m d k x1 x2 x3 g r := by
  show _ = ((some (.inl (some (.int x3)), g, r)) : Option fn_Z)
  exact (fs_ri (n := n + 0) rfl rfl).trans rfl
def B17_36 (L : Nat) (xs : Nat → Int32) (m d k : Nat) (x1 x2 : Int32) (g : a2_G) (r : a2_A) : Option fn_Z := (B17_37 L xs m d k x1 x2 (-1) g r)
theorem b17_36 (L : Nat) (xs : Nat → Int32) (m d k : Nat) (n : Nat) (x1 x2 : Int32) (g : a2_G) (r : a2_A) : bk L xs 17 nm_m17 m d k (n + 2) 36 [some (.ref 2), some (.int x1), some (.int x2)] [] g r = B17_36 L xs m d k x1 x2 g r := by
  show _ = ((B17_37 L xs m d k x1 x2 (-1) g r) : Option fn_Z)
  refine (fs_r (n := n + 1) 1 (pc' := 37) (L' := [some (.ref 2), some (.int x1), some (.int x2)]) (S' := [.int (-1)]) rfl).trans ?_
  exact b17_37 L xs m d k (n + 0) x1 x2 (-1) g r
theorem e17 (L : Nat) (xs : Nat → Int32) (m d k : Nat) (n : Nat) (a1 a2 : Int32) (g : a2_G) (r : a2_A) : bk L xs 17 nm_m17 m d k (n + 21) 0 [some (.ref 2), some (.int a1), some (.int a2)] [] g r = (if am_c2 .lt a1 0 = true then (B17_36 L xs m d k a1 a2 g r) else (if am_c2 .ge a1 (g 201) = true then (B17_36 L xs m d k a1 a2 g r) else (if am_c2 .lt a2 0 = true then (B17_36 L xs m d k a1 a2 g r) else (if am_c2 .ge a2 12 = true then (B17_36 L xs m d k a1 a2 g r) else (if am_inr ((a1 * 12) + a2) (r 200).1 = true then (B17_37 L xs m d k a1 a2 ((r 200).2 (((a1 * 12) + a2) : Int32).toNatClampNeg) g r) else none))))) := by
  refine (fs_r (n := n + 20) 1 (pc' := 1) (L' := [some (.ref 2), some (.int a1), some (.int a2)]) (S' := [.int a1]) rfl).trans ?_
  refine (fs_i (n := n + 19) rfl (t := 36) rfl (by decide)).trans (fs_ite ?_ ?_)
  · skip
    exact b17_36 L xs m d k (n + 17) a1 a2 g r
  · skip
    refine (fs_r (n := n + 16) 3 (pc' := 9) (L' := [some (.ref 2), some (.int a1), some (.int a2)]) (S' := [.int (g 201), .int a1]) rfl).trans ?_
    refine (fs_j (n := n + 15) rfl (t := 36) rfl (by decide)).trans (fs_ite ?_ ?_)
    · skip
      exact b17_36 L xs m d k (n + 13) a1 a2 g r
    · skip
      refine (fs_r (n := n + 14) 1 (pc' := 13) (L' := [some (.ref 2), some (.int a1), some (.int a2)]) (S' := [.int a2]) rfl).trans ?_
      refine (fs_i (n := n + 13) rfl (t := 36) rfl (by decide)).trans (fs_ite ?_ ?_)
      · skip
        exact b17_36 L xs m d k (n + 11) a1 a2 g r
      · skip
        refine (fs_r (n := n + 11) 2 (pc' := 19) (L' := [some (.ref 2), some (.int a1), some (.int a2)]) (S' := [.int 12, .int a2]) rfl).trans ?_
        refine (fs_j (n := n + 10) rfl (t := 36) rfl (by decide)).trans (fs_ite ?_ ?_)
        · skip
          exact b17_36 L xs m d k (n + 8) a1 a2 g r
        · skip
          refine (fs_r (n := n + 3) 7 (pc' := 32) (L' := [some (.ref 2), some (.int a1), some (.int a2)]) (S' := [.int ((a1 * 12) + a2), .ref 10200]) rfl).trans ?_
          refine (fs_il (n := n + 2) (k := 200) rfl rfl).trans (fs_ite ?_ rfl)
          refine (fs_go (n := n + 1) rfl (t := 37) rfl (by decide)).trans ?_
          exact b17_37 L xs m d k (n + 0) a1 a2 ((r 200).2 (((a1 * 12) + a2) : Int32).toNatClampNeg) g r
theorem q17 (L : Nat) (xs : Nat → Int32) (m d : Nat) (a1 a2 : Int32) (g : a2_G) (r : a2_A) : ev L xs (m + 1) (d + 1) 17 [.ref 2, .int a1, .int a2] g r = (if am_c2 .lt a1 0 = true then (B17_36 L xs (m + 1) d m a1 a2 g r) else (if am_c2 .ge a1 (g 201) = true then (B17_36 L xs (m + 1) d m a1 a2 g r) else (if am_c2 .lt a2 0 = true then (B17_36 L xs (m + 1) d m a1 a2 g r) else (if am_c2 .ge a2 12 = true then (B17_36 L xs (m + 1) d m a1 a2 g r) else (if am_inr ((a1 * 12) + a2) (r 200).1 = true then (B17_37 L xs (m + 1) d m a1 a2 ((r 200).2 (((a1 * 12) + a2) : Int32).toNatClampNeg) g r) else none))))) := (fs_ev (M := nm_m17) rfl rfl).trans (e17 L xs (m + 1) d m 879 a1 a2 g r)
/-- CobolParser$Tree.valueOf(I)I -/
theorem e18 (L : Nat) (xs : Nat → Int32) (m d k : Nat) (n : Nat) (a1 : Int32) (g : a2_G) (r : a2_A) : bk L xs 18 nm_m18 m d k (n + 7) 0 [some (.ref 2), some (.int a1)] [] g r = (fn_v (ev L xs m d 16 [.ref 2, .int a1] g r) fun v3 g1 r2 => (fn_v (ev L xs m d 17 [.ref 2, .int v3, .int 1] g1 r2) fun v6 g4 r5 => (some (.inl (some (.int v6)), g4, r5)))) := by
  refine (fs_r (n := n + 4) 3 (pc' := 3) (L' := [some (.ref 2), some (.int a1)]) (S' := [.int a1, .ref 2, .ref 2]) rfl).trans ?_
  refine (fs_cv (n := n + 3) (N := nm_m16) (as := [.ref 2, .int a1]) (rest := [.ref 2]) rfl rfl (Or.inl rfl) rfl rfl rfl rfl rfl).trans (fs_fv fun v3 g1 r2 => ?_)
  refine (fs_r (n := n + 2) 1 (pc' := 7) (L' := [some (.ref 2), some (.int a1)]) (S' := [.int 1, .int v3, .ref 2]) rfl).trans ?_
  refine (fs_cv (n := n + 1) (N := nm_m17) (as := [.ref 2, .int v3, .int 1]) (rest := []) rfl rfl (Or.inl rfl) rfl rfl rfl rfl rfl).trans (fs_fv fun v6 g4 r5 => ?_)
  exact (fs_ri (n := n + 0) rfl rfl).trans rfl
theorem q18 (L : Nat) (xs : Nat → Int32) (m d : Nat) (a1 : Int32) (g : a2_G) (r : a2_A) : ev L xs (m + 1) (d + 1) 18 [.ref 2, .int a1] g r = (fn_v (ev L xs (m + 1) d 16 [.ref 2, .int a1] g r) fun v3 g1 r2 => (fn_v (ev L xs (m + 1) d 17 [.ref 2, .int v3, .int 1] g1 r2) fun v6 g4 r5 => (some (.inl (some (.int v6)), g4, r5)))) := (fs_ev (M := nm_m18) rfl rfl).trans (e18 L xs (m + 1) d m 893 a1 g r)
/-- CobolParser$Tree.placeOf(I)I -/
theorem e19 (L : Nat) (xs : Nat → Int32) (m d k : Nat) (n : Nat) (a1 : Int32) (g : a2_G) (r : a2_A) : bk L xs 19 nm_m19 m d k (n + 7) 0 [some (.ref 2), some (.int a1)] [] g r = (fn_v (ev L xs m d 16 [.ref 2, .int a1] g r) fun v3 g1 r2 => (fn_v (ev L xs m d 17 [.ref 2, .int v3, .int 2] g1 r2) fun v6 g4 r5 => (some (.inl (some (.int v6)), g4, r5)))) := by
  refine (fs_r (n := n + 4) 3 (pc' := 3) (L' := [some (.ref 2), some (.int a1)]) (S' := [.int a1, .ref 2, .ref 2]) rfl).trans ?_
  refine (fs_cv (n := n + 3) (N := nm_m16) (as := [.ref 2, .int a1]) (rest := [.ref 2]) rfl rfl (Or.inl rfl) rfl rfl rfl rfl rfl).trans (fs_fv fun v3 g1 r2 => ?_)
  refine (fs_r (n := n + 2) 1 (pc' := 7) (L' := [some (.ref 2), some (.int a1)]) (S' := [.int 2, .int v3, .ref 2]) rfl).trans ?_
  refine (fs_cv (n := n + 1) (N := nm_m17) (as := [.ref 2, .int v3, .int 2]) (rest := []) rfl rfl (Or.inl rfl) rfl rfl rfl rfl rfl).trans (fs_fv fun v6 g4 r5 => ?_)
  exact (fs_ri (n := n + 0) rfl rfl).trans rfl
theorem q19 (L : Nat) (xs : Nat → Int32) (m d : Nat) (a1 : Int32) (g : a2_G) (r : a2_A) : ev L xs (m + 1) (d + 1) 19 [.ref 2, .int a1] g r = (fn_v (ev L xs (m + 1) d 16 [.ref 2, .int a1] g r) fun v3 g1 r2 => (fn_v (ev L xs (m + 1) d 17 [.ref 2, .int v3, .int 2] g1 r2) fun v6 g4 r5 => (some (.inl (some (.int v6)), g4, r5)))) := (fs_ev (M := nm_m19) rfl rfl).trans (e19 L xs (m + 1) d m 893 a1 g r)
/-- CobolParser$Tree.childrenOf(I)I -/
theorem e20 (L : Nat) (xs : Nat → Int32) (m d k : Nat) (n : Nat) (a1 : Int32) (g : a2_G) (r : a2_A) : bk L xs 20 nm_m20 m d k (n + 7) 0 [some (.ref 2), some (.int a1)] [] g r = (fn_v (ev L xs m d 16 [.ref 2, .int a1] g r) fun v3 g1 r2 => (fn_v (ev L xs m d 17 [.ref 2, .int v3, .int 8] g1 r2) fun v6 g4 r5 => (some (.inl (some (.int v6)), g4, r5)))) := by
  refine (fs_r (n := n + 4) 3 (pc' := 3) (L' := [some (.ref 2), some (.int a1)]) (S' := [.int a1, .ref 2, .ref 2]) rfl).trans ?_
  refine (fs_cv (n := n + 3) (N := nm_m16) (as := [.ref 2, .int a1]) (rest := [.ref 2]) rfl rfl (Or.inl rfl) rfl rfl rfl rfl rfl).trans (fs_fv fun v3 g1 r2 => ?_)
  refine (fs_r (n := n + 2) 1 (pc' := 8) (L' := [some (.ref 2), some (.int a1)]) (S' := [.int 8, .int v3, .ref 2]) rfl).trans ?_
  refine (fs_cv (n := n + 1) (N := nm_m17) (as := [.ref 2, .int v3, .int 8]) (rest := []) rfl rfl (Or.inl rfl) rfl rfl rfl rfl rfl).trans (fs_fv fun v6 g4 r5 => ?_)
  exact (fs_ri (n := n + 0) rfl rfl).trans rfl
theorem q20 (L : Nat) (xs : Nat → Int32) (m d : Nat) (a1 : Int32) (g : a2_G) (r : a2_A) : ev L xs (m + 1) (d + 1) 20 [.ref 2, .int a1] g r = (fn_v (ev L xs (m + 1) d 16 [.ref 2, .int a1] g r) fun v3 g1 r2 => (fn_v (ev L xs (m + 1) d 17 [.ref 2, .int v3, .int 8] g1 r2) fun v6 g4 r5 => (some (.inl (some (.int v6)), g4, r5)))) := (fs_ev (M := nm_m20) rfl rfl).trans (e20 L xs (m + 1) d m 893 a1 g r)
/-- CobolParser$Tree.parentOf(I)I -/
theorem e21 (L : Nat) (xs : Nat → Int32) (m d k : Nat) (n : Nat) (a1 : Int32) (g : a2_G) (r : a2_A) : bk L xs 21 nm_m21 m d k (n + 9) 0 [some (.ref 2), some (.int a1)] [] g r = (fn_v (ev L xs m d 16 [.ref 2, .int a1] g r) fun v3 g1 r2 => (fn_v (ev L xs m d 17 [.ref 2, .int v3, .int 4] g1 r2) fun v6 g4 r5 => (fn_v (ev L xs m d 22 [.ref 2, .int v6] g4 r5) fun v9 g7 r8 => (some (.inl (some (.int v9)), g7, r8))))) := by
  refine (fs_r (n := n + 5) 4 (pc' := 4) (L' := [some (.ref 2), some (.int a1)]) (S' := [.int a1, .ref 2, .ref 2, .ref 2]) rfl).trans ?_
  refine (fs_cv (n := n + 4) (N := nm_m16) (as := [.ref 2, .int a1]) (rest := [.ref 2, .ref 2]) rfl rfl (Or.inl rfl) rfl rfl rfl rfl rfl).trans (fs_fv fun v3 g1 r2 => ?_)
  refine (fs_r (n := n + 3) 1 (pc' := 8) (L' := [some (.ref 2), some (.int a1)]) (S' := [.int 4, .int v3, .ref 2, .ref 2]) rfl).trans ?_
  refine (fs_cv (n := n + 2) (N := nm_m17) (as := [.ref 2, .int v3, .int 4]) (rest := [.ref 2]) rfl rfl (Or.inl rfl) rfl rfl rfl rfl rfl).trans (fs_fv fun v6 g4 r5 => ?_)
  refine (fs_cv (n := n + 1) (N := nm_m22) (as := [.ref 2, .int v6]) (rest := []) rfl rfl (Or.inl rfl) rfl rfl rfl rfl rfl).trans (fs_fv fun v9 g7 r8 => ?_)
  exact (fs_ri (n := n + 0) rfl rfl).trans rfl
theorem q21 (L : Nat) (xs : Nat → Int32) (m d : Nat) (a1 : Int32) (g : a2_G) (r : a2_A) : ev L xs (m + 1) (d + 1) 21 [.ref 2, .int a1] g r = (fn_v (ev L xs (m + 1) d 16 [.ref 2, .int a1] g r) fun v3 g1 r2 => (fn_v (ev L xs (m + 1) d 17 [.ref 2, .int v3, .int 4] g1 r2) fun v6 g4 r5 => (fn_v (ev L xs (m + 1) d 22 [.ref 2, .int v6] g4 r5) fun v9 g7 r8 => (some (.inl (some (.int v9)), g7, r8))))) := (fs_ev (M := nm_m21) rfl rfl).trans (e21 L xs (m + 1) d m 891 a1 g r)
/-- CobolParser$Tree.numberOf(I)I -/
theorem e22 (L : Nat) (xs : Nat → Int32) (m d k : Nat) (n : Nat) (a1 : Int32) (g : a2_G) (r : a2_A) : bk L xs 22 nm_m22 m d k (n + 5) 0 [some (.ref 2), some (.int a1)] [] g r = (fn_v (ev L xs m d 17 [.ref 2, .int a1, .int 10] g r) fun v3 g1 r2 => (some (.inl (some (.int v3)), g1, r2))) := by
  refine (fs_r (n := n + 2) 3 (pc' := 4) (L' := [some (.ref 2), some (.int a1)]) (S' := [.int 10, .int a1, .ref 2]) rfl).trans ?_
  refine (fs_cv (n := n + 1) (N := nm_m17) (as := [.ref 2, .int a1, .int 10]) (rest := []) rfl rfl (Or.inl rfl) rfl rfl rfl rfl rfl).trans (fs_fv fun v3 g1 r2 => ?_)
  exact (fs_ri (n := n + 0) rfl rfl).trans rfl
theorem q22 (L : Nat) (xs : Nat → Int32) (m d : Nat) (a1 : Int32) (g : a2_G) (r : a2_A) : ev L xs (m + 1) (d + 1) 22 [.ref 2, .int a1] g r = (fn_v (ev L xs (m + 1) d 17 [.ref 2, .int a1, .int 10] g r) fun v3 g1 r2 => (some (.inl (some (.int v3)), g1, r2))) := (fs_ev (M := nm_m22) rfl rfl).trans (e22 L xs (m + 1) d m 895 a1 g r)
/-- CobolParser$Tree.extraOf(I)I -/
def B23_30 (L : Nat) (xs : Nat → Int32) (m d k : Nat) (x1 x2 x3 : Int32) (g : a2_G) (r : a2_A) : Option fn_Z := (some (.inl (some (.int x3)), g, r))
theorem b23_30 (L : Nat) (xs : Nat → Int32) (m d k : Nat) (n : Nat) (x1 x2 x3 : Int32) (g : a2_G) (r : a2_A) : bk L xs 23 nm_m23 m d k (n + 1) 30 [some (.ref 2), some (.int x1), some (.int x2)] [.int x3] g r = B23_30 L xs m d k x1 x2 x3 g r := by
  show _ = ((some (.inl (some (.int x3)), g, r)) : Option fn_Z)
  exact (fs_ri (n := n + 0) rfl rfl).trans rfl
theorem e23 (L : Nat) (xs : Nat → Int32) (m d k : Nat) (n : Nat) (a1 : Int32) (g : a2_G) (r : a2_A) : bk L xs 23 nm_m23 m d k (n + 17) 0 [some (.ref 2), some (.int a1), none] [] g r = (fn_v (ev L xs m d 16 [.ref 2, .int a1] g r) fun v3 g1 r2 => (fn_v (ev L xs m d 17 [.ref 2, .int v3, .int 3] g1 r2) fun v6 g4 r5 => (fn_v (ev L xs m d 15 [.ref 2, .int a1] g4 r5) fun v9 g7 r8 => (if am_c2 .ne v9 53 = true then (B23_30 L xs m d k a1 v6 v6 g7 r8) else (fn_v (ev L xs m d 22 [.ref 2, .int v6] g7 r8) fun v12 g10 r11 => (B23_30 L xs m d k a1 v6 v12 g10 r11)))))) := by
  refine (fs_r (n := n + 14) 3 (pc' := 3) (L' := [some (.ref 2), some (.int a1), none]) (S' := [.int a1, .ref 2, .ref 2]) rfl).trans ?_
  refine (fs_cv (n := n + 13) (N := nm_m16) (as := [.ref 2, .int a1]) (rest := [.ref 2]) rfl rfl (Or.inl rfl) rfl rfl rfl rfl rfl).trans (fs_fv fun v3 g1 r2 => ?_)
  refine (fs_r (n := n + 12) 1 (pc' := 7) (L' := [some (.ref 2), some (.int a1), none]) (S' := [.int 3, .int v3, .ref 2]) rfl).trans ?_
  refine (fs_cv (n := n + 11) (N := nm_m17) (as := [.ref 2, .int v3, .int 3]) (rest := []) rfl rfl (Or.inl rfl) rfl rfl rfl rfl rfl).trans (fs_fv fun v6 g4 r5 => ?_)
  refine (fs_r (n := n + 8) 3 (pc' := 13) (L' := [some (.ref 2), some (.int a1), some (.int v6)]) (S' := [.int a1, .ref 2]) rfl).trans ?_
  refine (fs_cv (n := n + 7) (N := nm_m15) (as := [.ref 2, .int a1]) (rest := []) rfl rfl (Or.inl rfl) rfl rfl rfl rfl rfl).trans (fs_fv fun v9 g7 r8 => ?_)
  refine (fs_r (n := n + 6) 1 (pc' := 18) (L' := [some (.ref 2), some (.int a1), some (.int v6)]) (S' := [.int 53, .int v9]) rfl).trans ?_
  refine (fs_j (n := n + 5) rfl (t := 29) rfl (by decide)).trans (fs_ite ?_ ?_)
  · skip
    refine (fs_r (n := n + 4) 1 (pc' := 30) (L' := [some (.ref 2), some (.int a1), some (.int v6)]) (S' := [.int v6]) rfl).trans ?_
    exact b23_30 L xs m d k (n + 3) a1 v6 v6 g7 r8
  · skip
    refine (fs_r (n := n + 3) 2 (pc' := 23) (L' := [some (.ref 2), some (.int a1), some (.int v6)]) (S' := [.int v6, .ref 2]) rfl).trans ?_
    refine (fs_cv (n := n + 2) (N := nm_m22) (as := [.ref 2, .int v6]) (rest := []) rfl rfl (Or.inl rfl) rfl rfl rfl rfl rfl).trans (fs_fv fun v12 g10 r11 => ?_)
    refine (fs_go (n := n + 1) rfl (t := 30) rfl (by decide)).trans ?_
    exact b23_30 L xs m d k (n + 0) a1 v6 v12 g10 r11
theorem q23 (L : Nat) (xs : Nat → Int32) (m d : Nat) (a1 : Int32) (g : a2_G) (r : a2_A) : ev L xs (m + 1) (d + 1) 23 [.ref 2, .int a1] g r = (fn_v (ev L xs (m + 1) d 16 [.ref 2, .int a1] g r) fun v3 g1 r2 => (fn_v (ev L xs (m + 1) d 17 [.ref 2, .int v3, .int 3] g1 r2) fun v6 g4 r5 => (fn_v (ev L xs (m + 1) d 15 [.ref 2, .int a1] g4 r5) fun v9 g7 r8 => (if am_c2 .ne v9 53 = true then (B23_30 L xs (m + 1) d m a1 v6 v6 g7 r8) else (fn_v (ev L xs (m + 1) d 22 [.ref 2, .int v6] g7 r8) fun v12 g10 r11 => (B23_30 L xs (m + 1) d m a1 v6 v12 g10 r11)))))) := (fs_ev (M := nm_m23) rfl rfl).trans (e23 L xs (m + 1) d m 883 a1 g r)
/-- CobolParser.child(II)I -/
theorem e24 (L : Nat) (xs : Nat → Int32) (m d k : Nat) (n : Nat) (a1 a2 : Int32) (g : a2_G) (r : a2_A) : bk L xs 24 nm_m24 m d k (n + 6) 0 [some (.ref 0), some (.int a1), some (.int a2)] [] g r = (fn_v (ev L xs m d 25 [.ref 2, .int a1, .int a2] g r) fun v3 g1 r2 => (some (.inl (some (.int v3)), g1, r2))) := by
  refine (fs_r (n := n + 2) 4 (pc' := 6) (L' := [some (.ref 0), some (.int a1), some (.int a2)]) (S' := [.int a2, .int a1, .ref 2]) rfl).trans ?_
  refine (fs_cv (n := n + 1) (N := nm_m25) (as := [.ref 2, .int a1, .int a2]) (rest := []) rfl rfl (Or.inl rfl) rfl rfl rfl rfl rfl).trans (fs_fv fun v3 g1 r2 => ?_)
  exact (fs_ri (n := n + 0) rfl rfl).trans rfl
theorem q24 (L : Nat) (xs : Nat → Int32) (m d : Nat) (a1 a2 : Int32) (g : a2_G) (r : a2_A) : ev L xs (m + 1) (d + 1) 24 [.ref 0, .int a1, .int a2] g r = (fn_v (ev L xs (m + 1) d 25 [.ref 2, .int a1, .int a2] g r) fun v3 g1 r2 => (some (.inl (some (.int v3)), g1, r2))) := (fs_ev (M := nm_m24) rfl rfl).trans (e24 L xs (m + 1) d m 894 a1 a2 g r)
/-- CobolParser$Tree.childOf(II)I -/
def B25_21 (L : Nat) (xs : Nat → Int32) (m d k : Nat) (x1 x2 x3 : Int32) (g : a2_G) (r : a2_A) : Option fn_Z := (some (.inl (some (.int (-1))), g, r))
theorem b25_21 (L : Nat) (xs : Nat → Int32) (m d k : Nat) (n : Nat) (x1 x2 x3 : Int32) (g : a2_G) (r : a2_A) : bk L xs 25 nm_m25 m d k (n + 2) 21 [some (.ref 2), some (.int x1), some (.int x2), some (.int x3), none, none] [] g r = B25_21 L xs m d k x1 x2 x3 g r := by
  show _ = ((some (.inl (some (.int (-1))), g, r)) : Option fn_Z)
  refine (fs_r (n := n + 1) 1 (pc' := 22) (L' := [some (.ref 2), some (.int x1), some (.int x2), some (.int x3), none, none]) (S' := [.int (-1)]) rfl).trans ?_
  exact (fs_ri (n := n + 0) rfl rfl).trans rfl
def B25_34 (L : Nat) (xs : Nat → Int32) (m d k : Nat) (x1 x2 x3 x4 x5 : Int32) (g : a2_G) (r : a2_A) : Option fn_Z := (if am_c2 .ge x5 x2 = true then (fn_v (ev L xs m d 22 [.ref 2, .int x4] g r) fun v12 g10 r11 => (some (.inl (some (.int v12)), g10, r11))) else (fn_v (ev L xs m d 17 [.ref 2, .int x4, .int 7] g r) fun v15 g13 r14 => (lp L xs 25 nm_m25 m d k 34 [some (.ref 2), some (.int x1), some (.int x2), some (.int x3), some (.int v15), some (.int (x5 + 1))] g13 r14)))
theorem b25_34 (L : Nat) (xs : Nat → Int32) (m d k : Nat) (n : Nat) (x1 x2 x3 x4 x5 : Int32) (g : a2_G) (r : a2_A) : bk L xs 25 nm_m25 m d k (n + 10) 34 [some (.ref 2), some (.int x1), some (.int x2), some (.int x3), some (.int x4), some (.int x5)] [] g r = B25_34 L xs m d k x1 x2 x3 x4 x5 g r := by
  show _ = ((if am_c2 .ge x5 x2 = true then (fn_v (ev L xs m d 22 [.ref 2, .int x4] g r) fun v12 g10 r11 => (some (.inl (some (.int v12)), g10, r11))) else (fn_v (ev L xs m d 17 [.ref 2, .int x4, .int 7] g r) fun v15 g13 r14 => (lp L xs 25 nm_m25 m d k 34 [some (.ref 2), some (.int x1), some (.int x2), some (.int x3), some (.int v15), some (.int (x5 + 1))] g13 r14))) : Option fn_Z)
  refine (fs_r (n := n + 8) 2 (pc' := 37) (L' := [some (.ref 2), some (.int x1), some (.int x2), some (.int x3), some (.int x4), some (.int x5)]) (S' := [.int x2, .int x5]) rfl).trans ?_
  refine (fs_j (n := n + 7) rfl (t := 56) rfl (by decide)).trans (fs_ite ?_ ?_)
  · skip
    refine (fs_r (n := n + 5) 2 (pc' := 59) (L' := [some (.ref 2), some (.int x1), some (.int x2), some (.int x3), some (.int x4), some (.int x5)]) (S' := [.int x4, .ref 2]) rfl).trans ?_
    refine (fs_cv (n := n + 4) (N := nm_m22) (as := [.ref 2, .int x4]) (rest := []) rfl rfl (Or.inl rfl) rfl rfl rfl rfl rfl).trans (fs_fv fun v12 g10 r11 => ?_)
    exact (fs_ri (n := n + 3) rfl rfl).trans rfl
  · skip
    refine (fs_r (n := n + 4) 3 (pc' := 45) (L' := [some (.ref 2), some (.int x1), some (.int x2), some (.int x3), some (.int x4), some (.int x5)]) (S' := [.int 7, .int x4, .ref 2]) rfl).trans ?_
    refine (fs_cv (n := n + 3) (N := nm_m17) (as := [.ref 2, .int x4, .int 7]) (rest := []) rfl rfl (Or.inl rfl) rfl rfl rfl rfl rfl).trans (fs_fv fun v15 g13 r14 => ?_)
    refine (fs_r (n := n + 1) 2 (pc' := 53) (L' := [some (.ref 2), some (.int x1), some (.int x2), some (.int x3), some (.int v15), some (.int (x5 + 1))]) (S' := []) rfl).trans ?_
    exact (fs_gb (n := n + 0) rfl (t := 34) rfl (by decide)).trans rfl
theorem l25_34 (L : Nat) (xs : Nat → Int32) (m d k : Nat) (x1 x2 x3 x4 x5 : Int32) (g : a2_G) (r : a2_A) : lp L xs 25 nm_m25 m d (k + 1) 34 [some (.ref 2), some (.int x1), some (.int x2), some (.int x3), some (.int x4), some (.int x5)] g r = B25_34 L xs m d k x1 x2 x3 x4 x5 g r := fs_lp.trans (b25_34 L xs m d k 890 x1 x2 x3 x4 x5 g r)
theorem e25 (L : Nat) (xs : Nat → Int32) (m d k : Nat) (n : Nat) (a1 a2 : Int32) (g : a2_G) (r : a2_A) : bk L xs 25 nm_m25 m d k (n + 29) 0 [some (.ref 2), some (.int a1), some (.int a2), none, none, none] [] g r = (fn_v (ev L xs m d 16 [.ref 2, .int a1] g r) fun v3 g1 r2 => (if am_c2 .lt a2 0 = true then (B25_21 L xs m d k a1 a2 v3 g1 r2) else (fn_v (ev L xs m d 17 [.ref 2, .int v3, .int 8] g1 r2) fun v6 g4 r5 => (if am_c2 .lt a2 v6 = true then (fn_v (ev L xs m d 17 [.ref 2, .int v3, .int 5] g4 r5) fun v9 g7 r8 => (B25_34 L xs m d k a1 a2 v3 v9 0 g7 r8)) else (B25_21 L xs m d k a1 a2 v3 g4 r5))))) := by
  refine (fs_r (n := n + 27) 2 (pc' := 2) (L' := [some (.ref 2), some (.int a1), some (.int a2), none, none, none]) (S' := [.int a1, .ref 2]) rfl).trans ?_
  refine (fs_cv (n := n + 26) (N := nm_m16) (as := [.ref 2, .int a1]) (rest := []) rfl rfl (Or.inl rfl) rfl rfl rfl rfl rfl).trans (fs_fv fun v3 g1 r2 => ?_)
  refine (fs_r (n := n + 24) 2 (pc' := 7) (L' := [some (.ref 2), some (.int a1), some (.int a2), some (.int v3), none, none]) (S' := [.int a2]) rfl).trans ?_
  refine (fs_i (n := n + 23) rfl (t := 21) rfl (by decide)).trans (fs_ite ?_ ?_)
  · skip
    exact b25_21 L xs m d k (n + 21) a1 a2 v3 g1 r2
  · skip
    refine (fs_r (n := n + 19) 4 (pc' := 15) (L' := [some (.ref 2), some (.int a1), some (.int a2), some (.int v3), none, none]) (S' := [.int 8, .int v3, .ref 2, .int a2]) rfl).trans ?_
    refine (fs_cv (n := n + 18) (N := nm_m17) (as := [.ref 2, .int v3, .int 8]) (rest := [.int a2]) rfl rfl (Or.inl rfl) rfl rfl rfl rfl rfl).trans (fs_fv fun v6 g4 r5 => ?_)
    refine (fs_j (n := n + 17) rfl (t := 23) rfl (by decide)).trans (fs_ite ?_ ?_)
    · skip
      refine (fs_r (n := n + 14) 3 (pc' := 26) (L' := [some (.ref 2), some (.int a1), some (.int a2), some (.int v3), none, none]) (S' := [.int 5, .int v3, .ref 2]) rfl).trans ?_
      refine (fs_cv (n := n + 13) (N := nm_m17) (as := [.ref 2, .int v3, .int 5]) (rest := []) rfl rfl (Or.inl rfl) rfl rfl rfl rfl rfl).trans (fs_fv fun v9 g7 r8 => ?_)
      refine (fs_r (n := n + 10) 3 (pc' := 34) (L' := [some (.ref 2), some (.int a1), some (.int a2), some (.int v3), some (.int v9), some (.int 0)]) (S' := []) rfl).trans ?_
      exact b25_34 L xs m d k (n + 0) a1 a2 v3 v9 0 g7 r8
    · skip
      exact b25_21 L xs m d k (n + 15) a1 a2 v3 g4 r5
theorem q25 (L : Nat) (xs : Nat → Int32) (m d : Nat) (a1 a2 : Int32) (g : a2_G) (r : a2_A) : ev L xs (m + 1) (d + 1) 25 [.ref 2, .int a1, .int a2] g r = (fn_v (ev L xs (m + 1) d 16 [.ref 2, .int a1] g r) fun v3 g1 r2 => (if am_c2 .lt a2 0 = true then (B25_21 L xs (m + 1) d m a1 a2 v3 g1 r2) else (fn_v (ev L xs (m + 1) d 17 [.ref 2, .int v3, .int 8] g1 r2) fun v6 g4 r5 => (if am_c2 .lt a2 v6 = true then (fn_v (ev L xs (m + 1) d 17 [.ref 2, .int v3, .int 5] g4 r5) fun v9 g7 r8 => (B25_34 L xs (m + 1) d m a1 a2 v3 v9 0 g7 r8)) else (B25_21 L xs (m + 1) d m a1 a2 v3 g4 r5))))) := (fs_ev (M := nm_m25) rfl rfl).trans (e25 L xs (m + 1) d m 871 a1 a2 g r)
/-- CobolParser.faults()I -/
theorem e26 (L : Nat) (xs : Nat → Int32) (m d k : Nat) (n : Nat) (g : a2_G) (r : a2_A) : bk L xs 26 nm_m26 m d k (n + 4) 0 [some (.ref 0)] [] g r = (fn_v (ev L xs m d 27 [.ref 1] g r) fun v3 g1 r2 => (some (.inl (some (.int v3)), g1, r2))) := by
  refine (fs_r (n := n + 2) 2 (pc' := 4) (L' := [some (.ref 0)]) (S' := [.ref 1]) rfl).trans ?_
  refine (fs_cv (n := n + 1) (N := nm_m27) (as := [.ref 1]) (rest := []) rfl rfl (Or.inl rfl) rfl rfl rfl rfl rfl).trans (fs_fv fun v3 g1 r2 => ?_)
  exact (fs_ri (n := n + 0) rfl rfl).trans rfl
theorem q26 (L : Nat) (xs : Nat → Int32) (m d : Nat) (g : a2_G) (r : a2_A) : ev L xs (m + 1) (d + 1) 26 [.ref 0] g r = (fn_v (ev L xs (m + 1) d 27 [.ref 1] g r) fun v3 g1 r2 => (some (.inl (some (.int v3)), g1, r2))) := (fs_ev (M := nm_m26) rfl rfl).trans (e26 L xs (m + 1) d m 896 g r)
/-- CobolParser$Row.faultCount()I -/
theorem e27 (L : Nat) (xs : Nat → Int32) (m d k : Nat) (n : Nat) (g : a2_G) (r : a2_A) : bk L xs 27 nm_m27 m d k (n + 3) 0 [some (.ref 1)] [] g r = (some (.inl (some (.int (g 107))), g, r)) := by
  refine (fs_r (n := n + 1) 2 (pc' := 4) (L' := [some (.ref 1)]) (S' := [.int (g 107)]) rfl).trans ?_
  exact (fs_ri (n := n + 0) rfl rfl).trans rfl
theorem q27 (L : Nat) (xs : Nat → Int32) (m d : Nat) (g : a2_G) (r : a2_A) : ev L xs (m + 1) (d + 1) 27 [.ref 1] g r = (some (.inl (some (.int (g 107))), g, r)) := (fs_ev (M := nm_m27) rfl rfl).trans (e27 L xs (m + 1) d m 897 g r)
/-- CobolParser.fault(II)I -/
theorem e28 (L : Nat) (xs : Nat → Int32) (m d k : Nat) (n : Nat) (a1 a2 : Int32) (g : a2_G) (r : a2_A) : bk L xs 28 nm_m28 m d k (n + 7) 0 [some (.ref 0), some (.int a1), some (.int a2)] [] g r = (if (a2 : Int32).toInt = 0 then (fn_v (ev L xs m d 29 [.ref 1, .int a1] g r) fun v3 g1 r2 => (some (.inl (some (.int v3)), g1, r2))) else (if (a2 : Int32).toInt = 1 then (fn_v (ev L xs m d 30 [.ref 1, .int a1] g r) fun v6 g4 r5 => (some (.inl (some (.int v6)), g4, r5))) else (some (.inl (some (.int (-1))), g, r)))) := by
  refine (fs_r (n := n + 6) 1 (pc' := 1) (L' := [some (.ref 0), some (.int a1), some (.int a2)]) (S' := [.int a2]) rfl).trans ?_
  refine (fs_ls (n := n + 5) (l := [(0, 27), (1, 36)]) rfl rfl rfl).trans ?_
  refine fs_lc ?_ (fs_lc ?_ (fs_ln ?_))
  · refine (fs_J1 (n := n + 5) (t := 28) rfl (by decide)).trans ?_
    refine (fs_r (n := n + 2) 3 (pc' := 33) (L' := [some (.ref 0), some (.int a1), some (.int a2)]) (S' := [.int a1, .ref 1]) rfl).trans ?_
    refine (fs_cv (n := n + 1) (N := nm_m29) (as := [.ref 1, .int a1]) (rest := []) rfl rfl (Or.inl rfl) rfl rfl rfl rfl rfl).trans (fs_fv fun v3 g1 r2 => ?_)
    exact (fs_ri (n := n + 0) rfl rfl).trans rfl
  · refine (fs_J1 (n := n + 5) (t := 37) rfl (by decide)).trans ?_
    refine (fs_r (n := n + 2) 3 (pc' := 42) (L' := [some (.ref 0), some (.int a1), some (.int a2)]) (S' := [.int a1, .ref 1]) rfl).trans ?_
    refine (fs_cv (n := n + 1) (N := nm_m30) (as := [.ref 1, .int a1]) (rest := []) rfl rfl (Or.inl rfl) rfl rfl rfl rfl rfl).trans (fs_fv fun v6 g4 r5 => ?_)
    exact (fs_ri (n := n + 0) rfl rfl).trans rfl
  · refine (fs_J1 (n := n + 5) (t := 46) rfl (by decide)).trans ?_
    refine (fs_r (n := n + 4) 1 (pc' := 47) (L' := [some (.ref 0), some (.int a1), some (.int a2)]) (S' := [.int (-1)]) rfl).trans ?_
    exact (fs_ri (n := n + 3) rfl rfl).trans rfl
theorem q28 (L : Nat) (xs : Nat → Int32) (m d : Nat) (a1 a2 : Int32) (g : a2_G) (r : a2_A) : ev L xs (m + 1) (d + 1) 28 [.ref 0, .int a1, .int a2] g r = (if (a2 : Int32).toInt = 0 then (fn_v (ev L xs (m + 1) d 29 [.ref 1, .int a1] g r) fun v3 g1 r2 => (some (.inl (some (.int v3)), g1, r2))) else (if (a2 : Int32).toInt = 1 then (fn_v (ev L xs (m + 1) d 30 [.ref 1, .int a1] g r) fun v6 g4 r5 => (some (.inl (some (.int v6)), g4, r5))) else (some (.inl (some (.int (-1))), g, r)))) := (fs_ev (M := nm_m28) rfl rfl).trans (e28 L xs (m + 1) d m 893 a1 a2 g r)
/-- CobolParser$Row.faultNumber(I)I -/
def B29_22 (L : Nat) (xs : Nat → Int32) (m d k : Nat) (x1 x2 : Int32) (g : a2_G) (r : a2_A) : Option fn_Z := (some (.inl (some (.int x2)), g, r))
theorem b29_22 (L : Nat) (xs : Nat → Int32) (m d k : Nat) (n : Nat) (x1 x2 : Int32) (g : a2_G) (r : a2_A) : bk L xs 29 nm_m29 m d k (n + 1) 22 [some (.ref 1), some (.int x1)] [.int x2] g r = B29_22 L xs m d k x1 x2 g r := by
  show _ = ((some (.inl (some (.int x2)), g, r)) : Option fn_Z)
  exact (fs_ri (n := n + 0) rfl rfl).trans rfl
def B29_21 (L : Nat) (xs : Nat → Int32) (m d k : Nat) (x1 : Int32) (g : a2_G) (r : a2_A) : Option fn_Z := (B29_22 L xs m d k x1 (-1) g r)
theorem b29_21 (L : Nat) (xs : Nat → Int32) (m d k : Nat) (n : Nat) (x1 : Int32) (g : a2_G) (r : a2_A) : bk L xs 29 nm_m29 m d k (n + 2) 21 [some (.ref 1), some (.int x1)] [] g r = B29_21 L xs m d k x1 g r := by
  show _ = ((B29_22 L xs m d k x1 (-1) g r) : Option fn_Z)
  refine (fs_r (n := n + 1) 1 (pc' := 22) (L' := [some (.ref 1), some (.int x1)]) (S' := [.int (-1)]) rfl).trans ?_
  exact b29_22 L xs m d k (n + 0) x1 (-1) g r
theorem e29 (L : Nat) (xs : Nat → Int32) (m d k : Nat) (n : Nat) (a1 : Int32) (g : a2_G) (r : a2_A) : bk L xs 29 nm_m29 m d k (n + 12) 0 [some (.ref 1), some (.int a1)] [] g r = (if am_c2 .lt a1 0 = true then (B29_21 L xs m d k a1 g r) else (if am_c2 .ge a1 (g 107) = true then (B29_21 L xs m d k a1 g r) else (if am_inr a1 (r 105).1 = true then (B29_22 L xs m d k a1 ((r 105).2 (a1 : Int32).toNatClampNeg) g r) else none))) := by
  refine (fs_r (n := n + 11) 1 (pc' := 1) (L' := [some (.ref 1), some (.int a1)]) (S' := [.int a1]) rfl).trans ?_
  refine (fs_i (n := n + 10) rfl (t := 21) rfl (by decide)).trans (fs_ite ?_ ?_)
  · skip
    exact b29_21 L xs m d k (n + 8) a1 g r
  · skip
    refine (fs_r (n := n + 7) 3 (pc' := 9) (L' := [some (.ref 1), some (.int a1)]) (S' := [.int (g 107), .int a1]) rfl).trans ?_
    refine (fs_j (n := n + 6) rfl (t := 21) rfl (by decide)).trans (fs_ite ?_ ?_)
    · skip
      exact b29_21 L xs m d k (n + 4) a1 g r
    · skip
      refine (fs_r (n := n + 3) 3 (pc' := 17) (L' := [some (.ref 1), some (.int a1)]) (S' := [.int a1, .ref 10105]) rfl).trans ?_
      refine (fs_il (n := n + 2) (k := 105) rfl rfl).trans (fs_ite ?_ rfl)
      refine (fs_go (n := n + 1) rfl (t := 22) rfl (by decide)).trans ?_
      exact b29_22 L xs m d k (n + 0) a1 ((r 105).2 (a1 : Int32).toNatClampNeg) g r
theorem q29 (L : Nat) (xs : Nat → Int32) (m d : Nat) (a1 : Int32) (g : a2_G) (r : a2_A) : ev L xs (m + 1) (d + 1) 29 [.ref 1, .int a1] g r = (if am_c2 .lt a1 0 = true then (B29_21 L xs (m + 1) d m a1 g r) else (if am_c2 .ge a1 (g 107) = true then (B29_21 L xs (m + 1) d m a1 g r) else (if am_inr a1 (r 105).1 = true then (B29_22 L xs (m + 1) d m a1 ((r 105).2 (a1 : Int32).toNatClampNeg) g r) else none))) := (fs_ev (M := nm_m29) rfl rfl).trans (e29 L xs (m + 1) d m 888 a1 g r)
/-- CobolParser$Row.faultPlace(I)I -/
def B30_22 (L : Nat) (xs : Nat → Int32) (m d k : Nat) (x1 x2 : Int32) (g : a2_G) (r : a2_A) : Option fn_Z := (some (.inl (some (.int x2)), g, r))
theorem b30_22 (L : Nat) (xs : Nat → Int32) (m d k : Nat) (n : Nat) (x1 x2 : Int32) (g : a2_G) (r : a2_A) : bk L xs 30 nm_m30 m d k (n + 1) 22 [some (.ref 1), some (.int x1)] [.int x2] g r = B30_22 L xs m d k x1 x2 g r := by
  show _ = ((some (.inl (some (.int x2)), g, r)) : Option fn_Z)
  exact (fs_ri (n := n + 0) rfl rfl).trans rfl
def B30_21 (L : Nat) (xs : Nat → Int32) (m d k : Nat) (x1 : Int32) (g : a2_G) (r : a2_A) : Option fn_Z := (B30_22 L xs m d k x1 (-1) g r)
theorem b30_21 (L : Nat) (xs : Nat → Int32) (m d k : Nat) (n : Nat) (x1 : Int32) (g : a2_G) (r : a2_A) : bk L xs 30 nm_m30 m d k (n + 2) 21 [some (.ref 1), some (.int x1)] [] g r = B30_21 L xs m d k x1 g r := by
  show _ = ((B30_22 L xs m d k x1 (-1) g r) : Option fn_Z)
  refine (fs_r (n := n + 1) 1 (pc' := 22) (L' := [some (.ref 1), some (.int x1)]) (S' := [.int (-1)]) rfl).trans ?_
  exact b30_22 L xs m d k (n + 0) x1 (-1) g r
theorem e30 (L : Nat) (xs : Nat → Int32) (m d k : Nat) (n : Nat) (a1 : Int32) (g : a2_G) (r : a2_A) : bk L xs 30 nm_m30 m d k (n + 12) 0 [some (.ref 1), some (.int a1)] [] g r = (if am_c2 .lt a1 0 = true then (B30_21 L xs m d k a1 g r) else (if am_c2 .ge a1 (g 107) = true then (B30_21 L xs m d k a1 g r) else (if am_inr a1 (r 106).1 = true then (B30_22 L xs m d k a1 ((r 106).2 (a1 : Int32).toNatClampNeg) g r) else none))) := by
  refine (fs_r (n := n + 11) 1 (pc' := 1) (L' := [some (.ref 1), some (.int a1)]) (S' := [.int a1]) rfl).trans ?_
  refine (fs_i (n := n + 10) rfl (t := 21) rfl (by decide)).trans (fs_ite ?_ ?_)
  · skip
    exact b30_21 L xs m d k (n + 8) a1 g r
  · skip
    refine (fs_r (n := n + 7) 3 (pc' := 9) (L' := [some (.ref 1), some (.int a1)]) (S' := [.int (g 107), .int a1]) rfl).trans ?_
    refine (fs_j (n := n + 6) rfl (t := 21) rfl (by decide)).trans (fs_ite ?_ ?_)
    · skip
      exact b30_21 L xs m d k (n + 4) a1 g r
    · skip
      refine (fs_r (n := n + 3) 3 (pc' := 17) (L' := [some (.ref 1), some (.int a1)]) (S' := [.int a1, .ref 10106]) rfl).trans ?_
      refine (fs_il (n := n + 2) (k := 106) rfl rfl).trans (fs_ite ?_ rfl)
      refine (fs_go (n := n + 1) rfl (t := 22) rfl (by decide)).trans ?_
      exact b30_22 L xs m d k (n + 0) a1 ((r 106).2 (a1 : Int32).toNatClampNeg) g r
theorem q30 (L : Nat) (xs : Nat → Int32) (m d : Nat) (a1 : Int32) (g : a2_G) (r : a2_A) : ev L xs (m + 1) (d + 1) 30 [.ref 1, .int a1] g r = (if am_c2 .lt a1 0 = true then (B30_21 L xs (m + 1) d m a1 g r) else (if am_c2 .ge a1 (g 107) = true then (B30_21 L xs (m + 1) d m a1 g r) else (if am_inr a1 (r 106).1 = true then (B30_22 L xs (m + 1) d m a1 ((r 106).2 (a1 : Int32).toNatClampNeg) g r) else none))) := (fs_ev (M := nm_m30) rfl rfl).trans (e30 L xs (m + 1) d m 888 a1 g r)
/-- CobolParser.division(II)I -/
theorem e31 (L : Nat) (xs : Nat → Int32) (m d k : Nat) (n : Nat) (a1 a2 : Int32) (g : a2_G) (r : a2_A) : bk L xs 31 nm_m31 m d k (n + 13) 0 [some (.ref 0), some (.int a1), some (.int a2), none] [] g r = (fn_v (ev L xs m d 32 [.ref 2, .int a1] g r) fun v3 g1 r2 => (if (a2 : Int32).toInt = 0 then (some (.inl (some (.int v3)), g1, r2)) else (if (a2 : Int32).toInt = 1 then (fn_v (ev L xs m d 34 [.ref 2, .int v3, .int 3] g1 r2) fun v6 g4 r5 => (some (.inl (some (.int v6)), g4, r5))) else (if (a2 : Int32).toInt = 2 then (fn_v (ev L xs m d 34 [.ref 2, .int v3, .int 7] g1 r2) fun v9 g7 r8 => (some (.inl (some (.int v9)), g7, r8))) else (if (a2 : Int32).toInt = 3 then (fn_v (ev L xs m d 34 [.ref 2, .int v3, .int 20] g1 r2) fun v12 g10 r11 => (some (.inl (some (.int v12)), g10, r11))) else (some (.inl (some (.int (-1))), g1, r2))))))) := by
  refine (fs_r (n := n + 10) 3 (pc' := 5) (L' := [some (.ref 0), some (.int a1), some (.int a2), none]) (S' := [.int a1, .ref 2]) rfl).trans ?_
  refine (fs_cv (n := n + 9) (N := nm_m32) (as := [.ref 2, .int a1]) (rest := []) rfl rfl (Or.inl rfl) rfl rfl rfl rfl rfl).trans (fs_fv fun v3 g1 r2 => ?_)
  refine (fs_r (n := n + 7) 2 (pc' := 10) (L' := [some (.ref 0), some (.int a1), some (.int a2), some (.int v3)]) (S' := [.int a2]) rfl).trans ?_
  refine (fs_ts (n := n + 6) (l := [30, 32, 42, 53]) rfl rfl rfl).trans ?_
  refine fs_tc (v' := 1) rfl ?_ (fs_tc (v' := 2) rfl ?_ (fs_tc (v' := 3) rfl ?_ (fs_tc (v' := 4) rfl ?_ (fs_tn ?_))))
  · refine (fs_J1 (n := n + 6) (t := 40) rfl (by decide)).trans ?_
    refine (fs_r (n := n + 5) 1 (pc' := 41) (L' := [some (.ref 0), some (.int a1), some (.int a2), some (.int v3)]) (S' := [.int v3]) rfl).trans ?_
    exact (fs_ri (n := n + 4) rfl rfl).trans rfl
  · refine (fs_J1 (n := n + 6) (t := 42) rfl (by decide)).trans ?_
    refine (fs_r (n := n + 2) 4 (pc' := 48) (L' := [some (.ref 0), some (.int a1), some (.int a2), some (.int v3)]) (S' := [.int 3, .int v3, .ref 2]) rfl).trans ?_
    refine (fs_cv (n := n + 1) (N := nm_m34) (as := [.ref 2, .int v3, .int 3]) (rest := []) rfl rfl (Or.inl rfl) rfl rfl rfl rfl rfl).trans (fs_fv fun v6 g4 r5 => ?_)
    exact (fs_ri (n := n + 0) rfl rfl).trans rfl
  · refine (fs_J1 (n := n + 6) (t := 52) rfl (by decide)).trans ?_
    refine (fs_r (n := n + 2) 4 (pc' := 59) (L' := [some (.ref 0), some (.int a1), some (.int a2), some (.int v3)]) (S' := [.int 7, .int v3, .ref 2]) rfl).trans ?_
    refine (fs_cv (n := n + 1) (N := nm_m34) (as := [.ref 2, .int v3, .int 7]) (rest := []) rfl rfl (Or.inl rfl) rfl rfl rfl rfl rfl).trans (fs_fv fun v9 g7 r8 => ?_)
    exact (fs_ri (n := n + 0) rfl rfl).trans rfl
  · refine (fs_J1 (n := n + 6) (t := 63) rfl (by decide)).trans ?_
    refine (fs_r (n := n + 2) 4 (pc' := 70) (L' := [some (.ref 0), some (.int a1), some (.int a2), some (.int v3)]) (S' := [.int 20, .int v3, .ref 2]) rfl).trans ?_
    refine (fs_cv (n := n + 1) (N := nm_m34) (as := [.ref 2, .int v3, .int 20]) (rest := []) rfl rfl (Or.inl rfl) rfl rfl rfl rfl rfl).trans (fs_fv fun v12 g10 r11 => ?_)
    exact (fs_ri (n := n + 0) rfl rfl).trans rfl
  · refine (fs_J1 (n := n + 6) (t := 74) rfl (by decide)).trans ?_
    refine (fs_r (n := n + 5) 1 (pc' := 75) (L' := [some (.ref 0), some (.int a1), some (.int a2), some (.int v3)]) (S' := [.int (-1)]) rfl).trans ?_
    exact (fs_ri (n := n + 4) rfl rfl).trans rfl
theorem q31 (L : Nat) (xs : Nat → Int32) (m d : Nat) (a1 a2 : Int32) (g : a2_G) (r : a2_A) : ev L xs (m + 1) (d + 1) 31 [.ref 0, .int a1, .int a2] g r = (fn_v (ev L xs (m + 1) d 32 [.ref 2, .int a1] g r) fun v3 g1 r2 => (if (a2 : Int32).toInt = 0 then (some (.inl (some (.int v3)), g1, r2)) else (if (a2 : Int32).toInt = 1 then (fn_v (ev L xs (m + 1) d 34 [.ref 2, .int v3, .int 3] g1 r2) fun v6 g4 r5 => (some (.inl (some (.int v6)), g4, r5))) else (if (a2 : Int32).toInt = 2 then (fn_v (ev L xs (m + 1) d 34 [.ref 2, .int v3, .int 7] g1 r2) fun v9 g7 r8 => (some (.inl (some (.int v9)), g7, r8))) else (if (a2 : Int32).toInt = 3 then (fn_v (ev L xs (m + 1) d 34 [.ref 2, .int v3, .int 20] g1 r2) fun v12 g10 r11 => (some (.inl (some (.int v12)), g10, r11))) else (some (.inl (some (.int (-1))), g1, r2))))))) := (fs_ev (M := nm_m31) rfl rfl).trans (e31 L xs (m + 1) d m 887 a1 a2 g r)
/-- CobolParser$Tree.unitAt(I)I -/
def B32_34 (L : Nat) (xs : Nat → Int32) (m d k : Nat) (x1 x2 x3 : Int32) (g : a2_G) (r : a2_A) : Option fn_Z := (lp L xs 32 nm_m32 m d k 4 [some (.ref 2), some (.int x1), some (.int x2), some (.int (x3 + 1))] g r)
theorem b32_34 (L : Nat) (xs : Nat → Int32) (m d k : Nat) (n : Nat) (x1 x2 x3 : Int32) (g : a2_G) (r : a2_A) : bk L xs 32 nm_m32 m d k (n + 2) 34 [some (.ref 2), some (.int x1), some (.int x2), some (.int x3)] [] g r = B32_34 L xs m d k x1 x2 x3 g r := by
  show _ = ((lp L xs 32 nm_m32 m d k 4 [some (.ref 2), some (.int x1), some (.int x2), some (.int (x3 + 1))] g r) : Option fn_Z)
  refine (fs_r (n := n + 1) 1 (pc' := 37) (L' := [some (.ref 2), some (.int x1), some (.int x2), some (.int (x3 + 1))]) (S' := []) rfl).trans ?_
  exact (fs_gb (n := n + 0) rfl (t := 4) rfl (by decide)).trans rfl
def B32_4 (L : Nat) (xs : Nat → Int32) (m d k : Nat) (x1 x2 x3 : Int32) (g : a2_G) (r : a2_A) : Option fn_Z := (if am_c2 .ge x3 (g 202) = true then (some (.inl (some (.int (-1))), g, r)) else (fn_v (ev L xs m d 16 [.ref 2, .int x3] g r) fun v3 g1 r2 => (fn_v (ev L xs m d 33 [.ref 2, .int v3] g1 r2) fun v6 g4 r5 => (if am_c2 .eq v6 0 = true then (B32_34 L xs m d k x1 x2 x3 g4 r5) else (if am_c2 .ne x2 x1 = true then (B32_34 L xs m d k x1 (x2 + 1) x3 g4 r5) else (some (.inl (some (.int x3)), g4, r5)))))))
theorem b32_4 (L : Nat) (xs : Nat → Int32) (m d k : Nat) (n : Nat) (x1 x2 x3 : Int32) (g : a2_G) (r : a2_A) : bk L xs 32 nm_m32 m d k (n + 16) 4 [some (.ref 2), some (.int x1), some (.int x2), some (.int x3)] [] g r = B32_4 L xs m d k x1 x2 x3 g r := by
  show _ = ((if am_c2 .ge x3 (g 202) = true then (some (.inl (some (.int (-1))), g, r)) else (fn_v (ev L xs m d 16 [.ref 2, .int x3] g r) fun v3 g1 r2 => (fn_v (ev L xs m d 33 [.ref 2, .int v3] g1 r2) fun v6 g4 r5 => (if am_c2 .eq v6 0 = true then (B32_34 L xs m d k x1 x2 x3 g4 r5) else (if am_c2 .ne x2 x1 = true then (B32_34 L xs m d k x1 (x2 + 1) x3 g4 r5) else (some (.inl (some (.int x3)), g4, r5))))))) : Option fn_Z)
  refine (fs_r (n := n + 13) 3 (pc' := 9) (L' := [some (.ref 2), some (.int x1), some (.int x2), some (.int x3)]) (S' := [.int (g 202), .int x3]) rfl).trans ?_
  refine (fs_j (n := n + 12) rfl (t := 40) rfl (by decide)).trans (fs_ite ?_ ?_)
  · skip
    refine (fs_r (n := n + 11) 1 (pc' := 41) (L' := [some (.ref 2), some (.int x1), some (.int x2), some (.int x3)]) (S' := [.int (-1)]) rfl).trans ?_
    exact (fs_ri (n := n + 10) rfl rfl).trans rfl
  · skip
    refine (fs_r (n := n + 9) 3 (pc' := 15) (L' := [some (.ref 2), some (.int x1), some (.int x2), some (.int x3)]) (S' := [.int x3, .ref 2, .ref 2]) rfl).trans ?_
    refine (fs_cv (n := n + 8) (N := nm_m16) (as := [.ref 2, .int x3]) (rest := [.ref 2]) rfl rfl (Or.inl rfl) rfl rfl rfl rfl rfl).trans (fs_fv fun v3 g1 r2 => ?_)
    refine (fs_cv (n := n + 7) (N := nm_m33) (as := [.ref 2, .int v3]) (rest := []) rfl rfl (Or.inl rfl) rfl rfl rfl rfl rfl).trans (fs_fv fun v6 g4 r5 => ?_)
    refine (fs_i (n := n + 6) rfl (t := 34) rfl (by decide)).trans (fs_ite ?_ ?_)
    · skip
      exact b32_34 L xs m d k (n + 4) x1 x2 x3 g4 r5
    · skip
      refine (fs_r (n := n + 4) 2 (pc' := 26) (L' := [some (.ref 2), some (.int x1), some (.int x2), some (.int x3)]) (S' := [.int x1, .int x2]) rfl).trans ?_
      refine (fs_j (n := n + 3) rfl (t := 31) rfl (by decide)).trans (fs_ite ?_ ?_)
      · skip
        refine (fs_r (n := n + 2) 1 (pc' := 34) (L' := [some (.ref 2), some (.int x1), some (.int (x2 + 1)), some (.int x3)]) (S' := []) rfl).trans ?_
        exact b32_34 L xs m d k (n + 0) x1 (x2 + 1) x3 g4 r5
      · skip
        refine (fs_r (n := n + 2) 1 (pc' := 30) (L' := [some (.ref 2), some (.int x1), some (.int x2), some (.int x3)]) (S' := [.int x3]) rfl).trans ?_
        exact (fs_ri (n := n + 1) rfl rfl).trans rfl
theorem l32_4 (L : Nat) (xs : Nat → Int32) (m d k : Nat) (x1 x2 x3 : Int32) (g : a2_G) (r : a2_A) : lp L xs 32 nm_m32 m d (k + 1) 4 [some (.ref 2), some (.int x1), some (.int x2), some (.int x3)] g r = B32_4 L xs m d k x1 x2 x3 g r := fs_lp.trans (b32_4 L xs m d k 884 x1 x2 x3 g r)
theorem e32 (L : Nat) (xs : Nat → Int32) (m d k : Nat) (n : Nat) (a1 : Int32) (g : a2_G) (r : a2_A) : bk L xs 32 nm_m32 m d k (n + 20) 0 [some (.ref 2), some (.int a1), none, none] [] g r = (B32_4 L xs m d k a1 0 0 g r) := by
  refine (fs_r (n := n + 16) 4 (pc' := 4) (L' := [some (.ref 2), some (.int a1), some (.int 0), some (.int 0)]) (S' := []) rfl).trans ?_
  exact b32_4 L xs m d k (n + 0) a1 0 0 g r
theorem q32 (L : Nat) (xs : Nat → Int32) (m d : Nat) (a1 : Int32) (g : a2_G) (r : a2_A) : ev L xs (m + 1) (d + 1) 32 [.ref 2, .int a1] g r = (B32_4 L xs (m + 1) d m a1 0 0 g r) := (fs_ev (M := nm_m32) rfl rfl).trans (e32 L xs (m + 1) d m 880 a1 g r)
/-- CobolParser$Tree.isUnit(I)Z -/
def B33_22 (L : Nat) (xs : Nat → Int32) (m d k : Nat) (x1 x2 x3 : Int32) (g : a2_G) (r : a2_A) : Option fn_Z := (if x3 = 0 ∨ x3 = 1 then some (.inl (some (.int x3)), g, r) else none)
theorem b33_22 (L : Nat) (xs : Nat → Int32) (m d k : Nat) (n : Nat) (x1 x2 x3 : Int32) (g : a2_G) (r : a2_A) : bk L xs 33 nm_m33 m d k (n + 1) 22 [some (.ref 2), some (.int x1), some (.int x2)] [.int x3] g r = B33_22 L xs m d k x1 x2 x3 g r := by
  show _ = ((if x3 = 0 ∨ x3 = 1 then some (.inl (some (.int x3)), g, r) else none) : Option fn_Z)
  exact (fs_rb (n := n + 0) rfl rfl).trans rfl
def B33_17 (L : Nat) (xs : Nat → Int32) (m d k : Nat) (x1 x2 : Int32) (g : a2_G) (r : a2_A) : Option fn_Z := (B33_22 L xs m d k x1 x2 1 g r)
theorem b33_17 (L : Nat) (xs : Nat → Int32) (m d k : Nat) (n : Nat) (x1 x2 : Int32) (g : a2_G) (r : a2_A) : bk L xs 33 nm_m33 m d k (n + 3) 17 [some (.ref 2), some (.int x1), some (.int x2)] [] g r = B33_17 L xs m d k x1 x2 g r := by
  show _ = ((B33_22 L xs m d k x1 x2 1 g r) : Option fn_Z)
  refine (fs_r (n := n + 2) 1 (pc' := 18) (L' := [some (.ref 2), some (.int x1), some (.int x2)]) (S' := [.int 1]) rfl).trans ?_
  refine (fs_go (n := n + 1) rfl (t := 22) rfl (by decide)).trans ?_
  exact b33_22 L xs m d k (n + 0) x1 x2 1 g r
theorem e33 (L : Nat) (xs : Nat → Int32) (m d k : Nat) (n : Nat) (a1 : Int32) (g : a2_G) (r : a2_A) : bk L xs 33 nm_m33 m d k (n + 14) 0 [some (.ref 2), some (.int a1), none] [] g r = (fn_v (ev L xs m d 17 [.ref 2, .int a1, .int 0] g r) fun v3 g1 r2 => (if am_c2 .eq v3 1 = true then (B33_17 L xs m d k a1 v3 g1 r2) else (if am_c2 .ne v3 2 = true then (B33_22 L xs m d k a1 v3 0 g1 r2) else (B33_17 L xs m d k a1 v3 g1 r2)))) := by
  refine (fs_r (n := n + 11) 3 (pc' := 3) (L' := [some (.ref 2), some (.int a1), none]) (S' := [.int 0, .int a1, .ref 2]) rfl).trans ?_
  refine (fs_cv (n := n + 10) (N := nm_m17) (as := [.ref 2, .int a1, .int 0]) (rest := []) rfl rfl (Or.inl rfl) rfl rfl rfl rfl rfl).trans (fs_fv fun v3 g1 r2 => ?_)
  refine (fs_r (n := n + 7) 3 (pc' := 9) (L' := [some (.ref 2), some (.int a1), some (.int v3)]) (S' := [.int 1, .int v3]) rfl).trans ?_
  refine (fs_j (n := n + 6) rfl (t := 17) rfl (by decide)).trans (fs_ite ?_ ?_)
  · skip
    exact b33_17 L xs m d k (n + 3) a1 v3 g1 r2
  · skip
    refine (fs_r (n := n + 4) 2 (pc' := 14) (L' := [some (.ref 2), some (.int a1), some (.int v3)]) (S' := [.int 2, .int v3]) rfl).trans ?_
    refine (fs_j (n := n + 3) rfl (t := 21) rfl (by decide)).trans (fs_ite ?_ ?_)
    · skip
      refine (fs_r (n := n + 2) 1 (pc' := 22) (L' := [some (.ref 2), some (.int a1), some (.int v3)]) (S' := [.int 0]) rfl).trans ?_
      exact b33_22 L xs m d k (n + 1) a1 v3 0 g1 r2
    · skip
      exact b33_17 L xs m d k (n + 0) a1 v3 g1 r2
theorem q33 (L : Nat) (xs : Nat → Int32) (m d : Nat) (a1 : Int32) (g : a2_G) (r : a2_A) : ev L xs (m + 1) (d + 1) 33 [.ref 2, .int a1] g r = (fn_v (ev L xs (m + 1) d 17 [.ref 2, .int a1, .int 0] g r) fun v3 g1 r2 => (if am_c2 .eq v3 1 = true then (B33_17 L xs (m + 1) d m a1 v3 g1 r2) else (if am_c2 .ne v3 2 = true then (B33_22 L xs (m + 1) d m a1 v3 0 g1 r2) else (B33_17 L xs (m + 1) d m a1 v3 g1 r2)))) := (fs_ev (M := nm_m33) rfl rfl).trans (e33 L xs (m + 1) d m 886 a1 g r)
/-- CobolParser$Tree.childOfKind(II)I -/
def B34_17 (L : Nat) (xs : Nat → Int32) (m d k : Nat) (x1 x2 x3 x4 x5 : Int32) (g : a2_G) (r : a2_A) : Option fn_Z := (fn_v (ev L xs m d 17 [.ref 2, .int x3, .int 8] g r) fun v9 g7 r8 => (if am_c2 .ge x5 v9 = true then (some (.inl (some (.int (-1))), g7, r8)) else (fn_v (ev L xs m d 17 [.ref 2, .int x4, .int 0] g7 r8) fun v12 g10 r11 => (if am_c2 .ne v12 x2 = true then (fn_v (ev L xs m d 17 [.ref 2, .int x4, .int 7] g10 r11) fun v15 g13 r14 => (lp L xs 34 nm_m34 m d k 17 [some (.ref 2), some (.int x1), some (.int x2), some (.int x3), some (.int v15), some (.int (x5 + 1))] g13 r14)) else (fn_v (ev L xs m d 22 [.ref 2, .int x4] g10 r11) fun v18 g16 r17 => (some (.inl (some (.int v18)), g16, r17)))))))
theorem b34_17 (L : Nat) (xs : Nat → Int32) (m d k : Nat) (n : Nat) (x1 x2 x3 x4 x5 : Int32) (g : a2_G) (r : a2_A) : bk L xs 34 nm_m34 m d k (n + 19) 17 [some (.ref 2), some (.int x1), some (.int x2), some (.int x3), some (.int x4), some (.int x5)] [] g r = B34_17 L xs m d k x1 x2 x3 x4 x5 g r := by
  show _ = ((fn_v (ev L xs m d 17 [.ref 2, .int x3, .int 8] g r) fun v9 g7 r8 => (if am_c2 .ge x5 v9 = true then (some (.inl (some (.int (-1))), g7, r8)) else (fn_v (ev L xs m d 17 [.ref 2, .int x4, .int 0] g7 r8) fun v12 g10 r11 => (if am_c2 .ne v12 x2 = true then (fn_v (ev L xs m d 17 [.ref 2, .int x4, .int 7] g10 r11) fun v15 g13 r14 => (lp L xs 34 nm_m34 m d k 17 [some (.ref 2), some (.int x1), some (.int x2), some (.int x3), some (.int v15), some (.int (x5 + 1))] g13 r14)) else (fn_v (ev L xs m d 22 [.ref 2, .int x4] g10 r11) fun v18 g16 r17 => (some (.inl (some (.int v18)), g16, r17))))))) : Option fn_Z)
  refine (fs_r (n := n + 15) 4 (pc' := 23) (L' := [some (.ref 2), some (.int x1), some (.int x2), some (.int x3), some (.int x4), some (.int x5)]) (S' := [.int 8, .int x3, .ref 2, .int x5]) rfl).trans ?_
  refine (fs_cv (n := n + 14) (N := nm_m17) (as := [.ref 2, .int x3, .int 8]) (rest := [.int x5]) rfl rfl (Or.inl rfl) rfl rfl rfl rfl rfl).trans (fs_fv fun v9 g7 r8 => ?_)
  refine (fs_j (n := n + 13) rfl (t := 63) rfl (by decide)).trans (fs_ite ?_ ?_)
  · skip
    refine (fs_r (n := n + 12) 1 (pc' := 64) (L' := [some (.ref 2), some (.int x1), some (.int x2), some (.int x3), some (.int x4), some (.int x5)]) (S' := [.int (-1)]) rfl).trans ?_
    exact (fs_ri (n := n + 11) rfl rfl).trans rfl
  · skip
    refine (fs_r (n := n + 10) 3 (pc' := 33) (L' := [some (.ref 2), some (.int x1), some (.int x2), some (.int x3), some (.int x4), some (.int x5)]) (S' := [.int 0, .int x4, .ref 2]) rfl).trans ?_
    refine (fs_cv (n := n + 9) (N := nm_m17) (as := [.ref 2, .int x4, .int 0]) (rest := []) rfl rfl (Or.inl rfl) rfl rfl rfl rfl rfl).trans (fs_fv fun v12 g10 r11 => ?_)
    refine (fs_r (n := n + 8) 1 (pc' := 37) (L' := [some (.ref 2), some (.int x1), some (.int x2), some (.int x3), some (.int x4), some (.int x5)]) (S' := [.int x2, .int v12]) rfl).trans ?_
    refine (fs_j (n := n + 7) rfl (t := 47) rfl (by decide)).trans (fs_ite ?_ ?_)
    · skip
      refine (fs_r (n := n + 4) 3 (pc' := 52) (L' := [some (.ref 2), some (.int x1), some (.int x2), some (.int x3), some (.int x4), some (.int x5)]) (S' := [.int 7, .int x4, .ref 2]) rfl).trans ?_
      refine (fs_cv (n := n + 3) (N := nm_m17) (as := [.ref 2, .int x4, .int 7]) (rest := []) rfl rfl (Or.inl rfl) rfl rfl rfl rfl rfl).trans (fs_fv fun v15 g13 r14 => ?_)
      refine (fs_r (n := n + 1) 2 (pc' := 60) (L' := [some (.ref 2), some (.int x1), some (.int x2), some (.int x3), some (.int v15), some (.int (x5 + 1))]) (S' := []) rfl).trans ?_
      exact (fs_gb (n := n + 0) rfl (t := 17) rfl (by decide)).trans rfl
    · skip
      refine (fs_r (n := n + 5) 2 (pc' := 43) (L' := [some (.ref 2), some (.int x1), some (.int x2), some (.int x3), some (.int x4), some (.int x5)]) (S' := [.int x4, .ref 2]) rfl).trans ?_
      refine (fs_cv (n := n + 4) (N := nm_m22) (as := [.ref 2, .int x4]) (rest := []) rfl rfl (Or.inl rfl) rfl rfl rfl rfl rfl).trans (fs_fv fun v18 g16 r17 => ?_)
      exact (fs_ri (n := n + 3) rfl rfl).trans rfl
theorem l34_17 (L : Nat) (xs : Nat → Int32) (m d k : Nat) (x1 x2 x3 x4 x5 : Int32) (g : a2_G) (r : a2_A) : lp L xs 34 nm_m34 m d (k + 1) 17 [some (.ref 2), some (.int x1), some (.int x2), some (.int x3), some (.int x4), some (.int x5)] g r = B34_17 L xs m d k x1 x2 x3 x4 x5 g r := fs_lp.trans (b34_17 L xs m d k 881 x1 x2 x3 x4 x5 g r)
theorem e34 (L : Nat) (xs : Nat → Int32) (m d k : Nat) (n : Nat) (a1 a2 : Int32) (g : a2_G) (r : a2_A) : bk L xs 34 nm_m34 m d k (n + 30) 0 [some (.ref 2), some (.int a1), some (.int a2), none, none, none] [] g r = (fn_v (ev L xs m d 16 [.ref 2, .int a1] g r) fun v3 g1 r2 => (fn_v (ev L xs m d 17 [.ref 2, .int v3, .int 5] g1 r2) fun v6 g4 r5 => (B34_17 L xs m d k a1 a2 v3 v6 0 g4 r5))) := by
  refine (fs_r (n := n + 28) 2 (pc' := 2) (L' := [some (.ref 2), some (.int a1), some (.int a2), none, none, none]) (S' := [.int a1, .ref 2]) rfl).trans ?_
  refine (fs_cv (n := n + 27) (N := nm_m16) (as := [.ref 2, .int a1]) (rest := []) rfl rfl (Or.inl rfl) rfl rfl rfl rfl rfl).trans (fs_fv fun v3 g1 r2 => ?_)
  refine (fs_r (n := n + 23) 4 (pc' := 9) (L' := [some (.ref 2), some (.int a1), some (.int a2), some (.int v3), none, none]) (S' := [.int 5, .int v3, .ref 2]) rfl).trans ?_
  refine (fs_cv (n := n + 22) (N := nm_m17) (as := [.ref 2, .int v3, .int 5]) (rest := []) rfl rfl (Or.inl rfl) rfl rfl rfl rfl rfl).trans (fs_fv fun v6 g4 r5 => ?_)
  refine (fs_r (n := n + 19) 3 (pc' := 17) (L' := [some (.ref 2), some (.int a1), some (.int a2), some (.int v3), some (.int v6), some (.int 0)]) (S' := []) rfl).trans ?_
  exact b34_17 L xs m d k (n + 0) a1 a2 v3 v6 0 g4 r5
theorem q34 (L : Nat) (xs : Nat → Int32) (m d : Nat) (a1 a2 : Int32) (g : a2_G) (r : a2_A) : ev L xs (m + 1) (d + 1) 34 [.ref 2, .int a1, .int a2] g r = (fn_v (ev L xs (m + 1) d 16 [.ref 2, .int a1] g r) fun v3 g1 r2 => (fn_v (ev L xs (m + 1) d 17 [.ref 2, .int v3, .int 5] g1 r2) fun v6 g4 r5 => (B34_17 L xs (m + 1) d m a1 a2 v3 v6 0 g4 r5))) := (fs_ev (M := nm_m34) rfl rfl).trans (e34 L xs (m + 1) d m 870 a1 a2 g r)
/-- CobolParser.depth()I -/
theorem e35 (L : Nat) (xs : Nat → Int32) (m d k : Nat) (n : Nat) (g : a2_G) (r : a2_A) : bk L xs 35 nm_m35 m d k (n + 4) 0 [some (.ref 0)] [] g r = (fn_v (ev L xs m d 36 [.ref 2] g r) fun v3 g1 r2 => (some (.inl (some (.int v3)), g1, r2))) := by
  refine (fs_r (n := n + 2) 2 (pc' := 4) (L' := [some (.ref 0)]) (S' := [.ref 2]) rfl).trans ?_
  refine (fs_cv (n := n + 1) (N := nm_m36) (as := [.ref 2]) (rest := []) rfl rfl (Or.inl rfl) rfl rfl rfl rfl rfl).trans (fs_fv fun v3 g1 r2 => ?_)
  exact (fs_ri (n := n + 0) rfl rfl).trans rfl
theorem q35 (L : Nat) (xs : Nat → Int32) (m d : Nat) (g : a2_G) (r : a2_A) : ev L xs (m + 1) (d + 1) 35 [.ref 0] g r = (fn_v (ev L xs (m + 1) d 36 [.ref 2] g r) fun v3 g1 r2 => (some (.inl (some (.int v3)), g1, r2))) := (fs_ev (M := nm_m35) rfl rfl).trans (e35 L xs (m + 1) d m 896 g r)
/-- CobolParser$Tree.deepest()I -/
theorem e36 (L : Nat) (xs : Nat → Int32) (m d k : Nat) (n : Nat) (g : a2_G) (r : a2_A) : bk L xs 36 nm_m36 m d k (n + 3) 0 [some (.ref 2)] [] g r = (some (.inl (some (.int (g 204))), g, r)) := by
  refine (fs_r (n := n + 1) 2 (pc' := 4) (L' := [some (.ref 2)]) (S' := [.int (g 204)]) rfl).trans ?_
  exact (fs_ri (n := n + 0) rfl rfl).trans rfl
theorem q36 (L : Nat) (xs : Nat → Int32) (m d : Nat) (g : a2_G) (r : a2_A) : ev L xs (m + 1) (d + 1) 36 [.ref 2] g r = (some (.inl (some (.int (g 204))), g, r)) := (fs_ev (M := nm_m36) rfl rfl).trans (e36 L xs (m + 1) d m 897 g r)
/-- CobolParser.count(I)I -/
theorem e37 (L : Nat) (xs : Nat → Int32) (m d k : Nat) (n : Nat) (a1 : Int32) (g : a2_G) (r : a2_A) : bk L xs 37 nm_m37 m d k (n + 6) 0 [some (.ref 0), some (.int a1)] [] g r = (if (a1 : Int32).toInt = 0 then (fn_v (ev L xs m d 38 [.ref 1] g r) fun v3 g1 r2 => (some (.inl (some (.int v3)), g1, r2))) else (if (a1 : Int32).toInt = 1 then (fn_v (ev L xs m d 39 [.ref 2] g r) fun v6 g4 r5 => (some (.inl (some (.int v6)), g4, r5))) else (if (a1 : Int32).toInt = 2 then (fn_v (ev L xs m d 40 [.ref 2] g r) fun v9 g7 r8 => (some (.inl (some (.int v9)), g7, r8))) else (some (.inl (some (.int (-1))), g, r))))) := by
  refine (fs_r (n := n + 5) 1 (pc' := 1) (L' := [some (.ref 0), some (.int a1)]) (S' := [.int a1]) rfl).trans ?_
  refine (fs_ts (n := n + 4) (l := [27, 35, 43]) rfl rfl rfl).trans ?_
  refine fs_tc (v' := 1) rfl ?_ (fs_tc (v' := 2) rfl ?_ (fs_tc (v' := 3) rfl ?_ (fs_tn ?_)))
  · refine (fs_J1 (n := n + 4) (t := 28) rfl (by decide)).trans ?_
    refine (fs_r (n := n + 2) 2 (pc' := 32) (L' := [some (.ref 0), some (.int a1)]) (S' := [.ref 1]) rfl).trans ?_
    refine (fs_cv (n := n + 1) (N := nm_m38) (as := [.ref 1]) (rest := []) rfl rfl (Or.inl rfl) rfl rfl rfl rfl rfl).trans (fs_fv fun v3 g1 r2 => ?_)
    exact (fs_ri (n := n + 0) rfl rfl).trans rfl
  · refine (fs_J1 (n := n + 4) (t := 36) rfl (by decide)).trans ?_
    refine (fs_r (n := n + 2) 2 (pc' := 40) (L' := [some (.ref 0), some (.int a1)]) (S' := [.ref 2]) rfl).trans ?_
    refine (fs_cv (n := n + 1) (N := nm_m39) (as := [.ref 2]) (rest := []) rfl rfl (Or.inl rfl) rfl rfl rfl rfl rfl).trans (fs_fv fun v6 g4 r5 => ?_)
    exact (fs_ri (n := n + 0) rfl rfl).trans rfl
  · refine (fs_J1 (n := n + 4) (t := 44) rfl (by decide)).trans ?_
    refine (fs_r (n := n + 2) 2 (pc' := 48) (L' := [some (.ref 0), some (.int a1)]) (S' := [.ref 2]) rfl).trans ?_
    refine (fs_cv (n := n + 1) (N := nm_m40) (as := [.ref 2]) (rest := []) rfl rfl (Or.inl rfl) rfl rfl rfl rfl rfl).trans (fs_fv fun v9 g7 r8 => ?_)
    exact (fs_ri (n := n + 0) rfl rfl).trans rfl
  · refine (fs_J1 (n := n + 4) (t := 52) rfl (by decide)).trans ?_
    refine (fs_r (n := n + 3) 1 (pc' := 53) (L' := [some (.ref 0), some (.int a1)]) (S' := [.int (-1)]) rfl).trans ?_
    exact (fs_ri (n := n + 2) rfl rfl).trans rfl
theorem q37 (L : Nat) (xs : Nat → Int32) (m d : Nat) (a1 : Int32) (g : a2_G) (r : a2_A) : ev L xs (m + 1) (d + 1) 37 [.ref 0, .int a1] g r = (if (a1 : Int32).toInt = 0 then (fn_v (ev L xs (m + 1) d 38 [.ref 1] g r) fun v3 g1 r2 => (some (.inl (some (.int v3)), g1, r2))) else (if (a1 : Int32).toInt = 1 then (fn_v (ev L xs (m + 1) d 39 [.ref 2] g r) fun v6 g4 r5 => (some (.inl (some (.int v6)), g4, r5))) else (if (a1 : Int32).toInt = 2 then (fn_v (ev L xs (m + 1) d 40 [.ref 2] g r) fun v9 g7 r8 => (some (.inl (some (.int v9)), g7, r8))) else (some (.inl (some (.int (-1))), g, r))))) := (fs_ev (M := nm_m37) rfl rfl).trans (e37 L xs (m + 1) d m 894 a1 g r)
/-- CobolParser$Row.wordCount()I -/
theorem e38 (L : Nat) (xs : Nat → Int32) (m d k : Nat) (n : Nat) (g : a2_G) (r : a2_A) : bk L xs 38 nm_m38 m d k (n + 3) 0 [some (.ref 1)] [] g r = (some (.inl (some (.int (g 102))), g, r)) := by
  refine (fs_r (n := n + 1) 2 (pc' := 4) (L' := [some (.ref 1)]) (S' := [.int (g 102)]) rfl).trans ?_
  exact (fs_ri (n := n + 0) rfl rfl).trans rfl
theorem q38 (L : Nat) (xs : Nat → Int32) (m d : Nat) (g : a2_G) (r : a2_A) : ev L xs (m + 1) (d + 1) 38 [.ref 1] g r = (some (.inl (some (.int (g 102))), g, r)) := (fs_ev (M := nm_m38) rfl rfl).trans (e38 L xs (m + 1) d m 897 g r)
/-- CobolParser$Tree.nodeCount()I -/
theorem e39 (L : Nat) (xs : Nat → Int32) (m d k : Nat) (n : Nat) (g : a2_G) (r : a2_A) : bk L xs 39 nm_m39 m d k (n + 3) 0 [some (.ref 2)] [] g r = (some (.inl (some (.int (g 202))), g, r)) := by
  refine (fs_r (n := n + 1) 2 (pc' := 4) (L' := [some (.ref 2)]) (S' := [.int (g 202)]) rfl).trans ?_
  exact (fs_ri (n := n + 0) rfl rfl).trans rfl
theorem q39 (L : Nat) (xs : Nat → Int32) (m d : Nat) (g : a2_G) (r : a2_A) : ev L xs (m + 1) (d + 1) 39 [.ref 2] g r = (some (.inl (some (.int (g 202))), g, r)) := (fs_ev (M := nm_m39) rfl rfl).trans (e39 L xs (m + 1) d m 897 g r)
/-- CobolParser$Tree.unitCount()I -/
theorem e40 (L : Nat) (xs : Nat → Int32) (m d k : Nat) (n : Nat) (g : a2_G) (r : a2_A) : bk L xs 40 nm_m40 m d k (n + 3) 0 [some (.ref 2)] [] g r = (some (.inl (some (.int (g 203))), g, r)) := by
  refine (fs_r (n := n + 1) 2 (pc' := 4) (L' := [some (.ref 2)]) (S' := [.int (g 203)]) rfl).trans ?_
  exact (fs_ri (n := n + 0) rfl rfl).trans rfl
theorem q40 (L : Nat) (xs : Nat → Int32) (m d : Nat) (g : a2_G) (r : a2_A) : ev L xs (m + 1) (d + 1) 40 [.ref 2] g r = (some (.inl (some (.int (g 203))), g, r)) := (fs_ev (M := nm_m40) rfl rfl).trans (e40 L xs (m + 1) d m 897 g r)
/-- CobolParser$Row.start()V -/
theorem e43 (L : Nat) (xs : Nat → Int32) (m d k : Nat) (n : Nat) (g : a2_G) (r : a2_A) : bk L xs 43 nm_m43 m d k (n + 7) 0 [some (.ref 1)] [] g r = (some (.inl none, (upd (upd g 103 0) 107 0), r)) := by
  refine (fs_r (n := n + 5) 2 (pc' := 2) (L' := [some (.ref 1)]) (S' := [.int 0, .ref 1]) rfl).trans ?_
  refine (fs_pf (n := n + 4) (ci := 1) (j := 3) rfl rfl rfl rfl).trans ?_
  refine (fs_r (n := n + 2) 2 (pc' := 7) (L' := [some (.ref 1)]) (S' := [.int 0, .ref 1]) rfl).trans ?_
  refine (fs_pf (n := n + 1) (ci := 1) (j := 7) rfl rfl rfl rfl).trans ?_
  exact (fs_rv (n := n + 0) rfl rfl).trans rfl
theorem q43 (L : Nat) (xs : Nat → Int32) (m d : Nat) (g : a2_G) (r : a2_A) : ev L xs (m + 1) (d + 1) 43 [.ref 1] g r = (some (.inl none, (upd (upd g 103 0) 107 0), r)) := (fs_ev (M := nm_m43) rfl rfl).trans (e43 L xs (m + 1) d m 893 g r)
/-- CobolParser$Tree.start()V -/
theorem e44 (L : Nat) (xs : Nat → Int32) (m d k : Nat) (n : Nat) (g : a2_G) (r : a2_A) : bk L xs 44 nm_m44 m d k (n + 19) 0 [some (.ref 2)] [] g r = (fn_v (ev L xs m d 45 [.ref 2, .int (-1), .int 0, .int (-1)] (upd (upd (upd (upd g 201 0) 202 0) 203 0) 204 0) r) fun v3 g1 r2 => (some (.inl none, g1, r2))) := by
  refine (fs_r (n := n + 17) 2 (pc' := 2) (L' := [some (.ref 2)]) (S' := [.int 0, .ref 2]) rfl).trans ?_
  refine (fs_pf (n := n + 16) (ci := 2) (j := 1) rfl rfl rfl rfl).trans ?_
  refine (fs_r (n := n + 14) 2 (pc' := 7) (L' := [some (.ref 2)]) (S' := [.int 0, .ref 2]) rfl).trans ?_
  refine (fs_pf (n := n + 13) (ci := 2) (j := 2) rfl rfl rfl rfl).trans ?_
  refine (fs_r (n := n + 11) 2 (pc' := 12) (L' := [some (.ref 2)]) (S' := [.int 0, .ref 2]) rfl).trans ?_
  refine (fs_pf (n := n + 10) (ci := 2) (j := 3) rfl rfl rfl rfl).trans ?_
  refine (fs_r (n := n + 8) 2 (pc' := 17) (L' := [some (.ref 2)]) (S' := [.int 0, .ref 2]) rfl).trans ?_
  refine (fs_pf (n := n + 7) (ci := 2) (j := 4) rfl rfl rfl rfl).trans ?_
  refine (fs_r (n := n + 3) 4 (pc' := 24) (L' := [some (.ref 2)]) (S' := [.int (-1), .int 0, .int (-1), .ref 2]) rfl).trans ?_
  refine (fs_cv (n := n + 2) (N := nm_m45) (as := [.ref 2, .int (-1), .int 0, .int (-1)]) (rest := []) rfl rfl (Or.inl rfl) rfl rfl rfl rfl rfl).trans (fs_fv fun v3 g1 r2 => ?_)
  refine (fs_r (n := n + 1) 1 (pc' := 28) (L' := [some (.ref 2)]) (S' := []) rfl).trans ?_
  exact (fs_rv (n := n + 0) rfl rfl).trans rfl
theorem q44 (L : Nat) (xs : Nat → Int32) (m d : Nat) (g : a2_G) (r : a2_A) : ev L xs (m + 1) (d + 1) 44 [.ref 2] g r = (fn_v (ev L xs (m + 1) d 45 [.ref 2, .int (-1), .int 0, .int (-1)] (upd (upd (upd (upd g 201 0) 202 0) 203 0) 204 0) r) fun v3 g1 r2 => (some (.inl none, g1, r2))) := (fs_ev (M := nm_m44) rfl rfl).trans (e44 L xs (m + 1) d m 881 g r)
/-- CobolParser$Tree.make(III)I -/
def B45_43 (L : Nat) (xs : Nat → Int32) (m d k : Nat) (x1 x2 x3 x4 x5 : Int32) (g : a2_G) (r : a2_A) : Option fn_Z := (if am_c2 .ge x5 12 = true then (if am_inr (x4 + 0) (r 200).1 = true then (if am_inr (x4 + 1) (r 200).1 = true then (if am_inr (x4 + 2) (r 200).1 = true then (if am_inr (x4 + 8) (r 200).1 = true then (if am_inr (x4 + 9) (r 200).1 = true then (some (.inl (some (.int (((g 201) + 1) - 1))), (upd g 201 ((g 201) + 1)), (a2_ua (a2_ua (a2_ua (a2_ua (a2_ua r 200 ((r 200).1, (upd (r 200).2 ((x4 + 0) : Int32).toNatClampNeg x1))) 200 ((r 200).1, (upd (upd (r 200).2 ((x4 + 0) : Int32).toNatClampNeg x1) ((x4 + 1) : Int32).toNatClampNeg x2))) 200 ((r 200).1, (upd (upd (upd (r 200).2 ((x4 + 0) : Int32).toNatClampNeg x1) ((x4 + 1) : Int32).toNatClampNeg x2) ((x4 + 2) : Int32).toNatClampNeg x3))) 200 ((r 200).1, (upd (upd (upd (upd (r 200).2 ((x4 + 0) : Int32).toNatClampNeg x1) ((x4 + 1) : Int32).toNatClampNeg x2) ((x4 + 2) : Int32).toNatClampNeg x3) ((x4 + 8) : Int32).toNatClampNeg 0))) 200 ((r 200).1, (upd (upd (upd (upd (upd (r 200).2 ((x4 + 0) : Int32).toNatClampNeg x1) ((x4 + 1) : Int32).toNatClampNeg x2) ((x4 + 2) : Int32).toNatClampNeg x3) ((x4 + 8) : Int32).toNatClampNeg 0) ((x4 + 9) : Int32).toNatClampNeg 0))))) else none) else none) else none) else none) else none) else (if am_inr (x4 + x5) (r 200).1 = true then (lp L xs 45 nm_m45 m d k 43 [some (.ref 2), some (.int x1), some (.int x2), some (.int x3), some (.int x4), some (.int (x5 + 1))] g (a2_ua r 200 ((r 200).1, (upd (r 200).2 ((x4 + x5) : Int32).toNatClampNeg (-1))))) else none))
theorem b45_43 (L : Nat) (xs : Nat → Int32) (m d k : Nat) (n : Nat) (x1 x2 x3 x4 x5 : Int32) (g : a2_G) (r : a2_A) : bk L xs 45 nm_m45 m d k (n + 49) 43 [some (.ref 2), some (.int x1), some (.int x2), some (.int x3), some (.int x4), some (.int x5)] [] g r = B45_43 L xs m d k x1 x2 x3 x4 x5 g r := by
  show _ = ((if am_c2 .ge x5 12 = true then (if am_inr (x4 + 0) (r 200).1 = true then (if am_inr (x4 + 1) (r 200).1 = true then (if am_inr (x4 + 2) (r 200).1 = true then (if am_inr (x4 + 8) (r 200).1 = true then (if am_inr (x4 + 9) (r 200).1 = true then (some (.inl (some (.int (((g 201) + 1) - 1))), (upd g 201 ((g 201) + 1)), (a2_ua (a2_ua (a2_ua (a2_ua (a2_ua r 200 ((r 200).1, (upd (r 200).2 ((x4 + 0) : Int32).toNatClampNeg x1))) 200 ((r 200).1, (upd (upd (r 200).2 ((x4 + 0) : Int32).toNatClampNeg x1) ((x4 + 1) : Int32).toNatClampNeg x2))) 200 ((r 200).1, (upd (upd (upd (r 200).2 ((x4 + 0) : Int32).toNatClampNeg x1) ((x4 + 1) : Int32).toNatClampNeg x2) ((x4 + 2) : Int32).toNatClampNeg x3))) 200 ((r 200).1, (upd (upd (upd (upd (r 200).2 ((x4 + 0) : Int32).toNatClampNeg x1) ((x4 + 1) : Int32).toNatClampNeg x2) ((x4 + 2) : Int32).toNatClampNeg x3) ((x4 + 8) : Int32).toNatClampNeg 0))) 200 ((r 200).1, (upd (upd (upd (upd (upd (r 200).2 ((x4 + 0) : Int32).toNatClampNeg x1) ((x4 + 1) : Int32).toNatClampNeg x2) ((x4 + 2) : Int32).toNatClampNeg x3) ((x4 + 8) : Int32).toNatClampNeg 0) ((x4 + 9) : Int32).toNatClampNeg 0))))) else none) else none) else none) else none) else none) else (if am_inr (x4 + x5) (r 200).1 = true then (lp L xs 45 nm_m45 m d k 43 [some (.ref 2), some (.int x1), some (.int x2), some (.int x3), some (.int x4), some (.int (x5 + 1))] g (a2_ua r 200 ((r 200).1, (upd (r 200).2 ((x4 + x5) : Int32).toNatClampNeg (-1))))) else none)) : Option fn_Z)
  refine (fs_r (n := n + 47) 2 (pc' := 47) (L' := [some (.ref 2), some (.int x1), some (.int x2), some (.int x3), some (.int x4), some (.int x5)]) (S' := [.int 12, .int x5]) rfl).trans ?_
  refine (fs_j (n := n + 46) rfl (t := 67) rfl (by decide)).trans (fs_ite ?_ ?_)
  · skip
    refine (fs_r (n := n + 40) 6 (pc' := 76) (L' := [some (.ref 2), some (.int x1), some (.int x2), some (.int x3), some (.int x4), some (.int x5)]) (S' := [.int x1, .int (x4 + 0), .ref 10200]) rfl).trans ?_
    refine (fs_is (n := n + 39) (k := 200) rfl rfl).trans (fs_ite ?_ rfl)
    refine (fs_r (n := n + 33) 6 (pc' := 86) (L' := [some (.ref 2), some (.int x1), some (.int x2), some (.int x3), some (.int x4), some (.int x5)]) (S' := [.int x2, .int (x4 + 1), .ref 10200]) rfl).trans ?_
    refine (fs_is (n := n + 32) (k := 200) rfl rfl).trans (fs_ite ?_ rfl)
    refine (fs_r (n := n + 26) 6 (pc' := 96) (L' := [some (.ref 2), some (.int x1), some (.int x2), some (.int x3), some (.int x4), some (.int x5)]) (S' := [.int x3, .int (x4 + 2), .ref 10200]) rfl).trans ?_
    refine (fs_is (n := n + 25) (k := 200) rfl rfl).trans (fs_ite ?_ rfl)
    refine (fs_r (n := n + 19) 6 (pc' := 107) (L' := [some (.ref 2), some (.int x1), some (.int x2), some (.int x3), some (.int x4), some (.int x5)]) (S' := [.int 0, .int (x4 + 8), .ref 10200]) rfl).trans ?_
    refine (fs_is (n := n + 18) (k := 200) rfl rfl).trans (fs_ite ?_ rfl)
    refine (fs_r (n := n + 12) 6 (pc' := 118) (L' := [some (.ref 2), some (.int x1), some (.int x2), some (.int x3), some (.int x4), some (.int x5)]) (S' := [.int 0, .int (x4 + 9), .ref 10200]) rfl).trans ?_
    refine (fs_is (n := n + 11) (k := 200) rfl rfl).trans (fs_ite ?_ rfl)
    refine (fs_r (n := n + 6) 5 (pc' := 126) (L' := [some (.ref 2), some (.int x1), some (.int x2), some (.int x3), some (.int x4), some (.int x5)]) (S' := [.int ((g 201) + 1), .ref 2]) rfl).trans ?_
    refine (fs_pf (n := n + 5) (ci := 2) (j := 1) rfl rfl rfl rfl).trans ?_
    refine (fs_r (n := n + 1) 4 (pc' := 135) (L' := [some (.ref 2), some (.int x1), some (.int x2), some (.int x3), some (.int x4), some (.int x5)]) (S' := [.int (((g 201) + 1) - 1)]) rfl).trans ?_
    exact (fs_ri (n := n + 0) rfl rfl).trans rfl
  · skip
    refine (fs_r (n := n + 40) 6 (pc' := 60) (L' := [some (.ref 2), some (.int x1), some (.int x2), some (.int x3), some (.int x4), some (.int x5)]) (S' := [.int (-1), .int (x4 + x5), .ref 10200]) rfl).trans ?_
    refine (fs_is (n := n + 39) (k := 200) rfl rfl).trans (fs_ite ?_ rfl)
    refine (fs_r (n := n + 38) 1 (pc' := 64) (L' := [some (.ref 2), some (.int x1), some (.int x2), some (.int x3), some (.int x4), some (.int (x5 + 1))]) (S' := []) rfl).trans ?_
    exact (fs_gb (n := n + 37) rfl (t := 43) rfl (by decide)).trans rfl
theorem l45_43 (L : Nat) (xs : Nat → Int32) (m d k : Nat) (x1 x2 x3 x4 x5 : Int32) (g : a2_G) (r : a2_A) : lp L xs 45 nm_m45 m d (k + 1) 43 [some (.ref 2), some (.int x1), some (.int x2), some (.int x3), some (.int x4), some (.int x5)] g r = B45_43 L xs m d k x1 x2 x3 x4 x5 g r := fs_lp.trans (b45_43 L xs m d k 851 x1 x2 x3 x4 x5 g r)
def B45_40 (L : Nat) (xs : Nat → Int32) (m d k : Nat) (x1 x2 x3 x4 : Int32) (g : a2_G) (r : a2_A) : Option fn_Z := (B45_43 L xs m d k x1 x2 x3 x4 0 g r)
theorem b45_40 (L : Nat) (xs : Nat → Int32) (m d k : Nat) (n : Nat) (x1 x2 x3 x4 : Int32) (g : a2_G) (r : a2_A) : bk L xs 45 nm_m45 m d k (n + 51) 40 [some (.ref 2), some (.int x1), some (.int x2), some (.int x3), some (.int x4), none] [] g r = B45_40 L xs m d k x1 x2 x3 x4 g r := by
  show _ = ((B45_43 L xs m d k x1 x2 x3 x4 0 g r) : Option fn_Z)
  refine (fs_r (n := n + 49) 2 (pc' := 43) (L' := [some (.ref 2), some (.int x1), some (.int x2), some (.int x3), some (.int x4), some (.int 0)]) (S' := []) rfl).trans ?_
  exact b45_43 L xs m d k (n + 0) x1 x2 x3 x4 0 g r
theorem e45 (L : Nat) (xs : Nat → Int32) (m d k : Nat) (n : Nat) (a1 a2 a3 : Int32) (g : a2_G) (r : a2_A) : bk L xs 45 nm_m45 m d k (n + 72) 0 [some (.ref 2), some (.int a1), some (.int a2), some (.int a3), none, none] [] g r = (if am_c2 .le (((g 201) * 12) + 12) (Int32.ofNat (r 200).1) = true then (B45_40 L xs m d k a1 a2 a3 ((g 201) * 12) g r) else (if ¬ ((2 * (Int32.ofNat (r 200).1)) : Int32) < 0 ∧ ((2 * (Int32.ofNat (r 200).1)) : Int32).toNatClampNeg ≤ 60000000 ∧ ((2 * (Int32.ofNat (r 200).1)) : Int32).toNatClampNeg ≠ (r 200).1 ∧ (r 200).1 ≤ 60000000 then (B45_40 L xs m d k a1 a2 a3 ((g 201) * 12) g (a2_ua r 200 (a2_cp ((2 * (Int32.ofNat (r 200).1)) : Int32).toNatClampNeg (r 200)))) else none)) := by
  refine (fs_r (n := n + 61) 11 (pc' := 19) (L' := [some (.ref 2), some (.int a1), some (.int a2), some (.int a3), some (.int ((g 201) * 12)), none]) (S' := [.int (Int32.ofNat (r 200).1), .int (((g 201) * 12) + 12)]) rfl).trans ?_
  refine (fs_j (n := n + 60) rfl (t := 40) rfl (by decide)).trans (fs_ite ?_ ?_)
  · skip
    exact b45_40 L xs m d k (n + 9) a1 a2 a3 ((g 201) * 12) g r
  · skip
    refine (fs_r (n := n + 52) 8 (pc' := 34) (L' := [some (.ref 2), some (.int a1), some (.int a2), some (.int a3), some (.int ((g 201) * 12)), none]) (S' := [.int (2 * (Int32.ofNat (r 200).1)), .ref 10200, .ref 2]) rfl).trans ?_
    refine (fs_cp (n := n + 51) (q := 200) (ci := 2) (j := 0) rfl rfl rfl rfl rfl rfl).trans (fs_ite ?_ rfl)
    exact b45_40 L xs m d k (n + 0) a1 a2 a3 ((g 201) * 12) g (a2_ua r 200 (a2_cp ((2 * (Int32.ofNat (r 200).1)) : Int32).toNatClampNeg (r 200)))
theorem q45 (L : Nat) (xs : Nat → Int32) (m d : Nat) (a1 a2 a3 : Int32) (g : a2_G) (r : a2_A) : ev L xs (m + 1) (d + 1) 45 [.ref 2, .int a1, .int a2, .int a3] g r = (if am_c2 .le (((g 201) * 12) + 12) (Int32.ofNat (r 200).1) = true then (B45_40 L xs (m + 1) d m a1 a2 a3 ((g 201) * 12) g r) else (if ¬ ((2 * (Int32.ofNat (r 200).1)) : Int32) < 0 ∧ ((2 * (Int32.ofNat (r 200).1)) : Int32).toNatClampNeg ≤ 60000000 ∧ ((2 * (Int32.ofNat (r 200).1)) : Int32).toNatClampNeg ≠ (r 200).1 ∧ (r 200).1 ≤ 60000000 then (B45_40 L xs (m + 1) d m a1 a2 a3 ((g 201) * 12) g (a2_ua r 200 (a2_cp ((2 * (Int32.ofNat (r 200).1)) : Int32).toNatClampNeg (r 200)))) else none)) := (fs_ev (M := nm_m45) rfl rfl).trans (e45 L xs (m + 1) d m 828 a1 a2 a3 g r)
/-- CobolParser$Clauses.start()V -/
theorem e46 (L : Nat) (xs : Nat → Int32) (m d k : Nat) (n : Nat) (g : a2_G) (r : a2_A) : bk L xs 46 nm_m46 m d k (n + 4) 0 [some (.ref 6)] [] g r = (fn_n (ev L xs m d 47 [.ref 8] g r) fun g1 r2 => (some (.inl none, g1, r2))) := by
  refine (fs_r (n := n + 2) 2 (pc' := 4) (L' := [some (.ref 6)]) (S' := [.ref 8]) rfl).trans ?_
  refine (fs_cn (n := n + 1) (N := nm_m47) (as := [.ref 8]) (rest := []) rfl rfl (Or.inl rfl) rfl rfl rfl rfl rfl).trans (fs_fn fun g1 r2 => ?_)
  exact (fs_rv (n := n + 0) rfl rfl).trans rfl
theorem q46 (L : Nat) (xs : Nat → Int32) (m d : Nat) (g : a2_G) (r : a2_A) : ev L xs (m + 1) (d + 1) 46 [.ref 6] g r = (fn_n (ev L xs (m + 1) d 47 [.ref 8] g r) fun g1 r2 => (some (.inl none, g1, r2))) := (fs_ev (M := nm_m46) rfl rfl).trans (e46 L xs (m + 1) d m 896 g r)
/-- CobolParser$Units.start()V -/
theorem e47 (L : Nat) (xs : Nat → Int32) (m d k : Nat) (n : Nat) (g : a2_G) (r : a2_A) : bk L xs 47 nm_m47 m d k (n + 4) 0 [some (.ref 8)] [] g r = (some (.inl none, (upd g 804 0), r)) := by
  refine (fs_r (n := n + 2) 2 (pc' := 2) (L' := [some (.ref 8)]) (S' := [.int 0, .ref 8]) rfl).trans ?_
  refine (fs_pf (n := n + 1) (ci := 8) (j := 4) rfl rfl rfl rfl).trans ?_
  exact (fs_rv (n := n + 0) rfl rfl).trans rfl
theorem q47 (L : Nat) (xs : Nat → Int32) (m d : Nat) (g : a2_G) (r : a2_A) : ev L xs (m + 1) (d + 1) 47 [.ref 8] g r = (some (.inl none, (upd g 804 0), r)) := (fs_ev (M := nm_m47) rfl rfl).trans (e47 L xs (m + 1) d m 896 g r)
/-- CobolParser$Row.goesOn()Z -/
def B48_25 (L : Nat) (xs : Nat → Int32) (m d k : Nat) (x1 : Int32) (g : a2_G) (r : a2_A) : Option fn_Z := (if x1 = 0 ∨ x1 = 1 then some (.inl (some (.int x1)), g, r) else none)
theorem b48_25 (L : Nat) (xs : Nat → Int32) (m d k : Nat) (n : Nat) (x1 : Int32) (g : a2_G) (r : a2_A) : bk L xs 48 nm_m48 m d k (n + 1) 25 [some (.ref 1)] [.int x1] g r = B48_25 L xs m d k x1 g r := by
  show _ = ((if x1 = 0 ∨ x1 = 1 then some (.inl (some (.int x1)), g, r) else none) : Option fn_Z)
  exact (fs_rb (n := n + 0) rfl rfl).trans rfl
def B48_24 (L : Nat) (xs : Nat → Int32) (m d k : Nat) (g : a2_G) (r : a2_A) : Option fn_Z := (B48_25 L xs m d k 0 g r)
theorem b48_24 (L : Nat) (xs : Nat → Int32) (m d k : Nat) (n : Nat) (g : a2_G) (r : a2_A) : bk L xs 48 nm_m48 m d k (n + 2) 24 [some (.ref 1)] [] g r = B48_24 L xs m d k g r := by
  show _ = ((B48_25 L xs m d k 0 g r) : Option fn_Z)
  refine (fs_r (n := n + 1) 1 (pc' := 25) (L' := [some (.ref 1)]) (S' := [.int 0]) rfl).trans ?_
  exact b48_25 L xs m d k (n + 0) 0 g r
theorem e48 (L : Nat) (xs : Nat → Int32) (m d k : Nat) (n : Nat) (g : a2_G) (r : a2_A) : bk L xs 48 nm_m48 m d k (n + 12) 0 [some (.ref 1)] [] g r = (if am_c2 .ge (g 103) (g 102) = true then (B48_24 L xs m d k g r) else (if am_c2 .ge (g 107) 20 = true then (B48_24 L xs m d k g r) else (B48_25 L xs m d k 1 g r))) := by
  refine (fs_r (n := n + 8) 4 (pc' := 8) (L' := [some (.ref 1)]) (S' := [.int (g 102), .int (g 103)]) rfl).trans ?_
  refine (fs_j (n := n + 7) rfl (t := 24) rfl (by decide)).trans (fs_ite ?_ ?_)
  · skip
    exact b48_24 L xs m d k (n + 5) g r
  · skip
    refine (fs_r (n := n + 4) 3 (pc' := 17) (L' := [some (.ref 1)]) (S' := [.int 20, .int (g 107)]) rfl).trans ?_
    refine (fs_j (n := n + 3) rfl (t := 24) rfl (by decide)).trans (fs_ite ?_ ?_)
    · skip
      exact b48_24 L xs m d k (n + 1) g r
    · skip
      refine (fs_r (n := n + 2) 1 (pc' := 21) (L' := [some (.ref 1)]) (S' := [.int 1]) rfl).trans ?_
      refine (fs_go (n := n + 1) rfl (t := 25) rfl (by decide)).trans ?_
      exact b48_25 L xs m d k (n + 0) 1 g r
theorem q48 (L : Nat) (xs : Nat → Int32) (m d : Nat) (g : a2_G) (r : a2_A) : ev L xs (m + 1) (d + 1) 48 [.ref 1] g r = (if am_c2 .ge (g 103) (g 102) = true then (B48_24 L xs (m + 1) d m g r) else (if am_c2 .ge (g 107) 20 = true then (B48_24 L xs (m + 1) d m g r) else (B48_25 L xs (m + 1) d m 1 g r))) := (fs_ev (M := nm_m48) rfl rfl).trans (e48 L xs (m + 1) d m 888 g r)
/-- CobolParser$Clauses.readClause()V -/
def B49_89 (L : Nat) (xs : Nat → Int32) (m d k : Nat) (g : a2_G) (r : a2_A) : Option fn_Z := (some (.inl none, g, r))
theorem b49_89 (L : Nat) (xs : Nat → Int32) (m d k : Nat) (n : Nat) (g : a2_G) (r : a2_A) : bk L xs 49 nm_m49 m d k (n + 1) 89 [some (.ref 6)] [] g r = B49_89 L xs m d k g r := by
  show _ = ((some (.inl none, g, r)) : Option fn_Z)
  exact (fs_rv (n := n + 0) rfl rfl).trans rfl
theorem e49 (L : Nat) (xs : Nat → Int32) (m d k : Nat) (n : Nat) (g : a2_G) (r : a2_A) : bk L xs 49 nm_m49 m d k (n + 24) 0 [some (.ref 6)] [] g r = (fn_v (ev L xs m d 50 [.ref 1, .int 1] g r) fun v3 g1 r2 => (if am_c2 .eq v3 0 = true then (fn_v (ev L xs m d 50 [.ref 1, .int 2] g1 r2) fun v6 g4 r5 => (if am_c2 .eq v6 0 = true then (fn_v (ev L xs m d 85 [.ref 4] g4 r5) fun v9 g7 r8 => (if am_c2 .eq v9 0 = true then (fn_v (ev L xs m d 50 [.ref 1, .int 0] g7 r8) fun v12 g10 r11 => (if am_c2 .eq v12 0 = true then (fn_n (ev L xs m d 56 [.ref 1, .int 1] g10 r11) fun g13 r14 => (B49_89 L xs m d k g13 r14)) else (fn_n (ev L xs m d 124 [.ref 6] g10 r11) fun g15 r16 => (B49_89 L xs m d k g15 r16)))) else (fn_n (ev L xs m d 86 [.ref 6] g7 r8) fun g17 r18 => (B49_89 L xs m d k g17 r18)))) else (fn_n (ev L xs m d 53 [.ref 6, .int 5, .int 7] g4 r5) fun g19 r20 => (fn_n (ev L xs m d 66 [.ref 7] g19 r20) fun g21 r22 => (B49_89 L xs m d k g21 r22))))) else (fn_n (ev L xs m d 51 [.ref 6] g1 r2) fun g23 r24 => (B49_89 L xs m d k g23 r24)))) := by
  refine (fs_r (n := n + 21) 3 (pc' := 5) (L' := [some (.ref 6)]) (S' := [.int 1, .ref 1]) rfl).trans ?_
  refine (fs_cv (n := n + 20) (N := nm_m50) (as := [.ref 1, .int 1]) (rest := []) rfl rfl (Or.inl rfl) rfl rfl rfl rfl rfl).trans (fs_fv fun v3 g1 r2 => ?_)
  refine (fs_i (n := n + 19) rfl (t := 18) rfl (by decide)).trans (fs_ite ?_ ?_)
  · skip
    refine (fs_r (n := n + 16) 3 (pc' := 23) (L' := [some (.ref 6)]) (S' := [.int 2, .ref 1]) rfl).trans ?_
    refine (fs_cv (n := n + 15) (N := nm_m50) (as := [.ref 1, .int 2]) (rest := []) rfl rfl (Or.inl rfl) rfl rfl rfl rfl rfl).trans (fs_fv fun v6 g4 r5 => ?_)
    refine (fs_i (n := n + 14) rfl (t := 46) rfl (by decide)).trans (fs_ite ?_ ?_)
    · skip
      refine (fs_r (n := n + 12) 2 (pc' := 50) (L' := [some (.ref 6)]) (S' := [.ref 4]) rfl).trans ?_
      refine (fs_cv (n := n + 11) (N := nm_m85) (as := [.ref 4]) (rest := []) rfl rfl (Or.inl rfl) rfl rfl rfl rfl rfl).trans (fs_fv fun v9 g7 r8 => ?_)
      refine (fs_i (n := n + 10) rfl (t := 63) rfl (by decide)).trans (fs_ite ?_ ?_)
      · skip
        refine (fs_r (n := n + 7) 3 (pc' := 68) (L' := [some (.ref 6)]) (S' := [.int 0, .ref 1]) rfl).trans ?_
        refine (fs_cv (n := n + 6) (N := nm_m50) (as := [.ref 1, .int 0]) (rest := []) rfl rfl (Or.inl rfl) rfl rfl rfl rfl rfl).trans (fs_fv fun v12 g10 r11 => ?_)
        refine (fs_i (n := n + 5) rfl (t := 81) rfl (by decide)).trans (fs_ite ?_ ?_)
        · skip
          refine (fs_r (n := n + 2) 3 (pc' := 86) (L' := [some (.ref 6)]) (S' := [.int 1, .ref 1]) rfl).trans ?_
          refine (fs_cn (n := n + 1) (N := nm_m56) (as := [.ref 1, .int 1]) (rest := []) rfl rfl (Or.inl rfl) rfl rfl rfl rfl rfl).trans (fs_fn fun g13 r14 => ?_)
          exact b49_89 L xs m d k (n + 0) g13 r14
        · skip
          refine (fs_r (n := n + 4) 1 (pc' := 75) (L' := [some (.ref 6)]) (S' := [.ref 6]) rfl).trans ?_
          refine (fs_cn (n := n + 3) (N := nm_m124) (as := [.ref 6]) (rest := []) rfl rfl (Or.inl rfl) rfl rfl rfl rfl rfl).trans (fs_fn fun g15 r16 => ?_)
          refine (fs_go (n := n + 2) rfl (t := 89) rfl (by decide)).trans ?_
          exact b49_89 L xs m d k (n + 1) g15 r16
      · skip
        refine (fs_r (n := n + 9) 1 (pc' := 57) (L' := [some (.ref 6)]) (S' := [.ref 6]) rfl).trans ?_
        refine (fs_cn (n := n + 8) (N := nm_m86) (as := [.ref 6]) (rest := []) rfl rfl (Or.inl rfl) rfl rfl rfl rfl rfl).trans (fs_fn fun g17 r18 => ?_)
        refine (fs_go (n := n + 7) rfl (t := 89) rfl (by decide)).trans ?_
        exact b49_89 L xs m d k (n + 6) g17 r18
    · skip
      refine (fs_r (n := n + 11) 3 (pc' := 33) (L' := [some (.ref 6)]) (S' := [.int 7, .int 5, .ref 6]) rfl).trans ?_
      refine (fs_cn (n := n + 10) (N := nm_m53) (as := [.ref 6, .int 5, .int 7]) (rest := []) rfl rfl (Or.inl rfl) rfl rfl rfl rfl rfl).trans (fs_fn fun g19 r20 => ?_)
      refine (fs_r (n := n + 8) 2 (pc' := 40) (L' := [some (.ref 6)]) (S' := [.ref 7]) rfl).trans ?_
      refine (fs_cn (n := n + 7) (N := nm_m66) (as := [.ref 7]) (rest := []) rfl rfl (Or.inl rfl) rfl rfl rfl rfl rfl).trans (fs_fn fun g21 r22 => ?_)
      refine (fs_go (n := n + 6) rfl (t := 89) rfl (by decide)).trans ?_
      exact b49_89 L xs m d k (n + 5) g21 r22
  · skip
    refine (fs_r (n := n + 18) 1 (pc' := 12) (L' := [some (.ref 6)]) (S' := [.ref 6]) rfl).trans ?_
    refine (fs_cn (n := n + 17) (N := nm_m51) (as := [.ref 6]) (rest := []) rfl rfl (Or.inl rfl) rfl rfl rfl rfl rfl).trans (fs_fn fun g23 r24 => ?_)
    refine (fs_go (n := n + 16) rfl (t := 89) rfl (by decide)).trans ?_
    exact b49_89 L xs m d k (n + 15) g23 r24
theorem q49 (L : Nat) (xs : Nat → Int32) (m d : Nat) (g : a2_G) (r : a2_A) : ev L xs (m + 1) (d + 1) 49 [.ref 6] g r = (fn_v (ev L xs (m + 1) d 50 [.ref 1, .int 1] g r) fun v3 g1 r2 => (if am_c2 .eq v3 0 = true then (fn_v (ev L xs (m + 1) d 50 [.ref 1, .int 2] g1 r2) fun v6 g4 r5 => (if am_c2 .eq v6 0 = true then (fn_v (ev L xs (m + 1) d 85 [.ref 4] g4 r5) fun v9 g7 r8 => (if am_c2 .eq v9 0 = true then (fn_v (ev L xs (m + 1) d 50 [.ref 1, .int 0] g7 r8) fun v12 g10 r11 => (if am_c2 .eq v12 0 = true then (fn_n (ev L xs (m + 1) d 56 [.ref 1, .int 1] g10 r11) fun g13 r14 => (B49_89 L xs (m + 1) d m g13 r14)) else (fn_n (ev L xs (m + 1) d 124 [.ref 6] g10 r11) fun g15 r16 => (B49_89 L xs (m + 1) d m g15 r16)))) else (fn_n (ev L xs (m + 1) d 86 [.ref 6] g7 r8) fun g17 r18 => (B49_89 L xs (m + 1) d m g17 r18)))) else (fn_n (ev L xs (m + 1) d 53 [.ref 6, .int 5, .int 7] g4 r5) fun g19 r20 => (fn_n (ev L xs (m + 1) d 66 [.ref 7] g19 r20) fun g21 r22 => (B49_89 L xs (m + 1) d m g21 r22))))) else (fn_n (ev L xs (m + 1) d 51 [.ref 6] g1 r2) fun g23 r24 => (B49_89 L xs (m + 1) d m g23 r24)))) := (fs_ev (M := nm_m49) rfl rfl).trans (e49 L xs (m + 1) d m 876 g r)
/-- CobolParser$Row.isKind(I)Z -/
def B50_29 (L : Nat) (xs : Nat → Int32) (m d k : Nat) (x1 x2 : Int32) (g : a2_G) (r : a2_A) : Option fn_Z := (if x2 = 0 ∨ x2 = 1 then some (.inl (some (.int x2)), g, r) else none)
theorem b50_29 (L : Nat) (xs : Nat → Int32) (m d k : Nat) (n : Nat) (x1 x2 : Int32) (g : a2_G) (r : a2_A) : bk L xs 50 nm_m50 m d k (n + 1) 29 [some (.ref 1), some (.int x1)] [.int x2] g r = B50_29 L xs m d k x1 x2 g r := by
  show _ = ((if x2 = 0 ∨ x2 = 1 then some (.inl (some (.int x2)), g, r) else none) : Option fn_Z)
  exact (fs_rb (n := n + 0) rfl rfl).trans rfl
def B50_28 (L : Nat) (xs : Nat → Int32) (m d k : Nat) (x1 : Int32) (g : a2_G) (r : a2_A) : Option fn_Z := (B50_29 L xs m d k x1 0 g r)
theorem b50_28 (L : Nat) (xs : Nat → Int32) (m d k : Nat) (n : Nat) (x1 : Int32) (g : a2_G) (r : a2_A) : bk L xs 50 nm_m50 m d k (n + 2) 28 [some (.ref 1), some (.int x1)] [] g r = B50_28 L xs m d k x1 g r := by
  show _ = ((B50_29 L xs m d k x1 0 g r) : Option fn_Z)
  refine (fs_r (n := n + 1) 1 (pc' := 29) (L' := [some (.ref 1), some (.int x1)]) (S' := [.int 0]) rfl).trans ?_
  exact b50_29 L xs m d k (n + 0) x1 0 g r
theorem e50 (L : Nat) (xs : Nat → Int32) (m d k : Nat) (n : Nat) (a1 : Int32) (g : a2_G) (r : a2_A) : bk L xs 50 nm_m50 m d k (n + 15) 0 [some (.ref 1), some (.int a1)] [] g r = (if am_c2 .ge (g 103) (g 102) = true then (B50_28 L xs m d k a1 g r) else (if am_inr (g 103) (r 100).1 = true then (if am_c2 .ne ((r 100).2 ((g 103) : Int32).toNatClampNeg) a1 = true then (B50_28 L xs m d k a1 g r) else (B50_29 L xs m d k a1 1 g r)) else none)) := by
  refine (fs_r (n := n + 11) 4 (pc' := 8) (L' := [some (.ref 1), some (.int a1)]) (S' := [.int (g 102), .int (g 103)]) rfl).trans ?_
  refine (fs_j (n := n + 10) rfl (t := 28) rfl (by decide)).trans (fs_ite ?_ ?_)
  · skip
    exact b50_28 L xs m d k (n + 8) a1 g r
  · skip
    refine (fs_r (n := n + 6) 4 (pc' := 19) (L' := [some (.ref 1), some (.int a1)]) (S' := [.int (g 103), .ref 10100]) rfl).trans ?_
    refine (fs_il (n := n + 5) (k := 100) rfl rfl).trans (fs_ite ?_ rfl)
    refine (fs_r (n := n + 4) 1 (pc' := 21) (L' := [some (.ref 1), some (.int a1)]) (S' := [.int a1, .int ((r 100).2 ((g 103) : Int32).toNatClampNeg)]) rfl).trans ?_
    refine (fs_j (n := n + 3) rfl (t := 28) rfl (by decide)).trans (fs_ite ?_ ?_)
    · skip
      exact b50_28 L xs m d k (n + 1) a1 g r
    · skip
      refine (fs_r (n := n + 2) 1 (pc' := 25) (L' := [some (.ref 1), some (.int a1)]) (S' := [.int 1]) rfl).trans ?_
      refine (fs_go (n := n + 1) rfl (t := 29) rfl (by decide)).trans ?_
      exact b50_29 L xs m d k (n + 0) a1 1 g r
theorem q50 (L : Nat) (xs : Nat → Int32) (m d : Nat) (a1 : Int32) (g : a2_G) (r : a2_A) : ev L xs (m + 1) (d + 1) 50 [.ref 1, .int a1] g r = (if am_c2 .ge (g 103) (g 102) = true then (B50_28 L xs (m + 1) d m a1 g r) else (if am_inr (g 103) (r 100).1 = true then (if am_c2 .ne ((r 100).2 ((g 103) : Int32).toNatClampNeg) a1 = true then (B50_28 L xs (m + 1) d m a1 g r) else (B50_29 L xs (m + 1) d m a1 1 g r)) else none)) := (fs_ev (M := nm_m50) rfl rfl).trans (e50 L xs (m + 1) d m 885 a1 g r)
/-- CobolParser$Clauses.sectionOrParagraph()V -/
def B51_174 (L : Nat) (xs : Nat → Int32) (m d k : Nat) (x1 x2 x3 : Int32) (g : a2_G) (r : a2_A) : Option fn_Z := (fn_n (ev L xs m d 64 [.ref 6] g r) fun g25 r26 => (some (.inl none, g25, r26)))
theorem b51_174 (L : Nat) (xs : Nat → Int32) (m d k : Nat) (n : Nat) (x1 x2 x3 : Int32) (g : a2_G) (r : a2_A) : bk L xs 51 nm_m51 m d k (n + 3) 174 [some (.ref 6), some (.int x1), some (.int x2), some (.int x3)] [] g r = B51_174 L xs m d k x1 x2 x3 g r := by
  show _ = ((fn_n (ev L xs m d 64 [.ref 6] g r) fun g25 r26 => (some (.inl none, g25, r26))) : Option fn_Z)
  refine (fs_r (n := n + 2) 1 (pc' := 175) (L' := [some (.ref 6), some (.int x1), some (.int x2), some (.int x3)]) (S' := [.ref 6]) rfl).trans ?_
  refine (fs_cn (n := n + 1) (N := nm_m64) (as := [.ref 6]) (rest := []) rfl rfl (Or.inl rfl) rfl rfl rfl rfl rfl).trans (fs_fn fun g25 r26 => ?_)
  exact (fs_rv (n := n + 0) rfl rfl).trans rfl
def B51_165 (L : Nat) (xs : Nat → Int32) (m d k : Nat) (x1 x2 x3 x4 : Int32) (g : a2_G) (r : a2_A) : Option fn_Z := (fn_n (ev L xs m d 63 [.ref 2, .int x4, .int x3] g r) fun g23 r24 => (B51_174 L xs m d k x1 x2 x3 (upd g23 609 x3) r24))
theorem b51_165 (L : Nat) (xs : Nat → Int32) (m d k : Nat) (n : Nat) (x1 x2 x3 x4 : Int32) (g : a2_G) (r : a2_A) : bk L xs 51 nm_m51 m d k (n + 8) 165 [some (.ref 6), some (.int x1), some (.int x2), some (.int x3)] [.int x4, .ref 2] g r = B51_165 L xs m d k x1 x2 x3 x4 g r := by
  show _ = ((fn_n (ev L xs m d 63 [.ref 2, .int x4, .int x3] g r) fun g23 r24 => (B51_174 L xs m d k x1 x2 x3 (upd g23 609 x3) r24)) : Option fn_Z)
  refine (fs_r (n := n + 7) 1 (pc' := 166) (L' := [some (.ref 6), some (.int x1), some (.int x2), some (.int x3)]) (S' := [.int x3, .int x4, .ref 2]) rfl).trans ?_
  refine (fs_cn (n := n + 6) (N := nm_m63) (as := [.ref 2, .int x4, .int x3]) (rest := []) rfl rfl (Or.inl rfl) rfl rfl rfl rfl rfl).trans (fs_fn fun g23 r24 => ?_)
  refine (fs_r (n := n + 4) 2 (pc' := 171) (L' := [some (.ref 6), some (.int x1), some (.int x2), some (.int x3)]) (S' := [.int x3, .ref 6]) rfl).trans ?_
  refine (fs_pf (n := n + 3) (ci := 6) (j := 9) rfl rfl rfl rfl).trans ?_
  exact b51_174 L xs m d k (n + 0) x1 x2 x3 (upd g23 609 x3) r24
def B51_125 (L : Nat) (xs : Nat → Int32) (m d k : Nat) (x1 x2 x3 x4 : Int32) (g : a2_G) (r : a2_A) : Option fn_Z := (fn_n (ev L xs m d 63 [.ref 2, .int x4, .int x3] g r) fun g30 r31 => (B51_174 L xs m d k x1 x2 x3 (upd (upd g30 608 x3) 609 (-1)) r31))
theorem b51_125 (L : Nat) (xs : Nat → Int32) (m d k : Nat) (n : Nat) (x1 x2 x3 x4 : Int32) (g : a2_G) (r : a2_A) : bk L xs 51 nm_m51 m d k (n + 12) 125 [some (.ref 6), some (.int x1), some (.int x2), some (.int x3)] [.int x4, .ref 2] g r = B51_125 L xs m d k x1 x2 x3 x4 g r := by
  show _ = ((fn_n (ev L xs m d 63 [.ref 2, .int x4, .int x3] g r) fun g30 r31 => (B51_174 L xs m d k x1 x2 x3 (upd (upd g30 608 x3) 609 (-1)) r31)) : Option fn_Z)
  refine (fs_r (n := n + 11) 1 (pc' := 126) (L' := [some (.ref 6), some (.int x1), some (.int x2), some (.int x3)]) (S' := [.int x3, .int x4, .ref 2]) rfl).trans ?_
  refine (fs_cn (n := n + 10) (N := nm_m63) (as := [.ref 2, .int x4, .int x3]) (rest := []) rfl rfl (Or.inl rfl) rfl rfl rfl rfl rfl).trans (fs_fn fun g30 r31 => ?_)
  refine (fs_r (n := n + 8) 2 (pc' := 131) (L' := [some (.ref 6), some (.int x1), some (.int x2), some (.int x3)]) (S' := [.int x3, .ref 6]) rfl).trans ?_
  refine (fs_pf (n := n + 7) (ci := 6) (j := 8) rfl rfl rfl rfl).trans ?_
  refine (fs_r (n := n + 5) 2 (pc' := 136) (L' := [some (.ref 6), some (.int x1), some (.int x2), some (.int x3)]) (S' := [.int (-1), .ref 6]) rfl).trans ?_
  refine (fs_pf (n := n + 4) (ci := 6) (j := 9) rfl rfl rfl rfl).trans ?_
  refine (fs_go (n := n + 3) rfl (t := 174) rfl (by decide)).trans ?_
  exact b51_174 L xs m d k (n + 0) x1 x2 x3 (upd (upd g30 608 x3) 609 (-1)) r31
def B51_62 (L : Nat) (xs : Nat → Int32) (m d k : Nat) (x1 x2 x3 : Int32) (g : a2_G) (r : a2_A) : Option fn_Z := (fn_v (ev L xs m d 59 [.ref 1, .int 1] g r) fun v13 g11 r12 => (fn_v (ev L xs m d 45 [.ref 2, .int x3, .int v13, .int x2] g11 r12) fun v16 g14 r15 => (fn_v (ev L xs m d 62 [.ref 1, .int 16] g14 r15) fun v19 g17 r18 => (fn_v (ev L xs m d 59 [.ref 1, .int 4] g17 r18) fun v22 g20 r21 => (if am_c2 .eq x1 0 = true then (if am_c2 .ne (g20 608) (-1) = true then (B51_165 L xs m d k x1 x2 v16 (g20 608) g20 r21) else (B51_165 L xs m d k x1 x2 v16 (g20 606) g20 r21)) else (fn_v (ev L xs m d 54 [.ref 8] g20 r21) fun v29 g27 r28 => (if am_c2 .ne v29 9 = true then (B51_125 L xs m d k x1 x2 v16 (g27 606) g27 r28) else (B51_125 L xs m d k x1 x2 v16 (g27 607) g27 r28))))))))
theorem b51_62 (L : Nat) (xs : Nat → Int32) (m d k : Nat) (n : Nat) (x1 x2 x3 : Int32) (g : a2_G) (r : a2_A) : bk L xs 51 nm_m51 m d k (n + 41) 62 [some (.ref 6), some (.int x1), some (.int x2), none] [.int x3, .ref 2] g r = B51_62 L xs m d k x1 x2 x3 g r := by
  show _ = ((fn_v (ev L xs m d 59 [.ref 1, .int 1] g r) fun v13 g11 r12 => (fn_v (ev L xs m d 45 [.ref 2, .int x3, .int v13, .int x2] g11 r12) fun v16 g14 r15 => (fn_v (ev L xs m d 62 [.ref 1, .int 16] g14 r15) fun v19 g17 r18 => (fn_v (ev L xs m d 59 [.ref 1, .int 4] g17 r18) fun v22 g20 r21 => (if am_c2 .eq x1 0 = true then (if am_c2 .ne (g20 608) (-1) = true then (B51_165 L xs m d k x1 x2 v16 (g20 608) g20 r21) else (B51_165 L xs m d k x1 x2 v16 (g20 606) g20 r21)) else (fn_v (ev L xs m d 54 [.ref 8] g20 r21) fun v29 g27 r28 => (if am_c2 .ne v29 9 = true then (B51_125 L xs m d k x1 x2 v16 (g27 606) g27 r28) else (B51_125 L xs m d k x1 x2 v16 (g27 607) g27 r28)))))))) : Option fn_Z)
  refine (fs_r (n := n + 38) 3 (pc' := 67) (L' := [some (.ref 6), some (.int x1), some (.int x2), none]) (S' := [.int 1, .ref 1, .int x3, .ref 2]) rfl).trans ?_
  refine (fs_cv (n := n + 37) (N := nm_m59) (as := [.ref 1, .int 1]) (rest := [.int x3, .ref 2]) rfl rfl (Or.inl rfl) rfl rfl rfl rfl rfl).trans (fs_fv fun v13 g11 r12 => ?_)
  refine (fs_r (n := n + 36) 1 (pc' := 71) (L' := [some (.ref 6), some (.int x1), some (.int x2), none]) (S' := [.int x2, .int v13, .int x3, .ref 2]) rfl).trans ?_
  refine (fs_cv (n := n + 35) (N := nm_m45) (as := [.ref 2, .int x3, .int v13, .int x2]) (rest := []) rfl rfl (Or.inl rfl) rfl rfl rfl rfl rfl).trans (fs_fv fun v16 g14 r15 => ?_)
  refine (fs_r (n := n + 31) 4 (pc' := 81) (L' := [some (.ref 6), some (.int x1), some (.int x2), some (.int v16)]) (S' := [.int 16, .ref 1]) rfl).trans ?_
  refine (fs_cv (n := n + 30) (N := nm_m62) (as := [.ref 1, .int 16]) (rest := []) rfl rfl (Or.inl rfl) rfl rfl rfl rfl rfl).trans (fs_fv fun v19 g17 r18 => ?_)
  refine (fs_r (n := n + 26) 4 (pc' := 90) (L' := [some (.ref 6), some (.int x1), some (.int x2), some (.int v16)]) (S' := [.int 4, .ref 1]) rfl).trans ?_
  refine (fs_cv (n := n + 25) (N := nm_m59) (as := [.ref 1, .int 4]) (rest := []) rfl rfl (Or.inl rfl) rfl rfl rfl rfl rfl).trans (fs_fv fun v22 g20 r21 => ?_)
  refine (fs_r (n := n + 23) 2 (pc' := 95) (L' := [some (.ref 6), some (.int x1), some (.int x2), some (.int v16)]) (S' := [.int x1]) rfl).trans ?_
  refine (fs_i (n := n + 22) rfl (t := 142) rfl (by decide)).trans (fs_ite ?_ ?_)
  · skip
    refine (fs_r (n := n + 17) 5 (pc' := 151) (L' := [some (.ref 6), some (.int x1), some (.int x2), some (.int v16)]) (S' := [.int (-1), .int (g20 608), .ref 2]) rfl).trans ?_
    refine (fs_j (n := n + 16) rfl (t := 161) rfl (by decide)).trans (fs_ite ?_ ?_)
    · skip
      refine (fs_r (n := n + 14) 2 (pc' := 165) (L' := [some (.ref 6), some (.int x1), some (.int x2), some (.int v16)]) (S' := [.int (g20 608), .ref 2]) rfl).trans ?_
      exact b51_165 L xs m d k (n + 6) x1 x2 v16 (g20 608) g20 r21
    · skip
      refine (fs_r (n := n + 14) 2 (pc' := 158) (L' := [some (.ref 6), some (.int x1), some (.int x2), some (.int v16)]) (S' := [.int (g20 606), .ref 2]) rfl).trans ?_
      refine (fs_go (n := n + 13) rfl (t := 165) rfl (by decide)).trans ?_
      exact b51_165 L xs m d k (n + 5) x1 x2 v16 (g20 606) g20 r21
  · skip
    refine (fs_r (n := n + 18) 4 (pc' := 106) (L' := [some (.ref 6), some (.int x1), some (.int x2), some (.int v16)]) (S' := [.ref 8, .ref 2]) rfl).trans ?_
    refine (fs_cv (n := n + 17) (N := nm_m54) (as := [.ref 8]) (rest := [.ref 2]) rfl rfl (Or.inl rfl) rfl rfl rfl rfl rfl).trans (fs_fv fun v29 g27 r28 => ?_)
    refine (fs_r (n := n + 16) 1 (pc' := 111) (L' := [some (.ref 6), some (.int x1), some (.int x2), some (.int v16)]) (S' := [.int 9, .int v29, .ref 2]) rfl).trans ?_
    refine (fs_j (n := n + 15) rfl (t := 121) rfl (by decide)).trans (fs_ite ?_ ?_)
    · skip
      refine (fs_r (n := n + 13) 2 (pc' := 125) (L' := [some (.ref 6), some (.int x1), some (.int x2), some (.int v16)]) (S' := [.int (g27 606), .ref 2]) rfl).trans ?_
      exact b51_125 L xs m d k (n + 1) x1 x2 v16 (g27 606) g27 r28
    · skip
      refine (fs_r (n := n + 13) 2 (pc' := 118) (L' := [some (.ref 6), some (.int x1), some (.int x2), some (.int v16)]) (S' := [.int (g27 607), .ref 2]) rfl).trans ?_
      refine (fs_go (n := n + 12) rfl (t := 125) rfl (by decide)).trans ?_
      exact b51_125 L xs m d k (n + 0) x1 x2 v16 (g27 607) g27 r28
def B51_36 (L : Nat) (xs : Nat → Int32) (m d k : Nat) (x1 x2 : Int32) (g : a2_G) (r : a2_A) : Option fn_Z := (fn_n (ev L xs m d 55 [.ref 6, .int x2] g r) fun g6 r7 => (fn_v (ev L xs m d 58 [.ref 1] g6 r7) fun v10 g8 r9 => (if am_c2 .eq x1 0 = true then (B51_62 L xs m d k x1 v10 24 g8 r9) else (B51_62 L xs m d k x1 v10 23 g8 r9))))
theorem b51_36 (L : Nat) (xs : Nat → Int32) (m d k : Nat) (n : Nat) (x1 x2 : Int32) (g : a2_G) (r : a2_A) : bk L xs 51 nm_m51 m d k (n + 52) 36 [some (.ref 6), some (.int x1), none, none] [.int x2, .ref 6] g r = B51_36 L xs m d k x1 x2 g r := by
  show _ = ((fn_n (ev L xs m d 55 [.ref 6, .int x2] g r) fun g6 r7 => (fn_v (ev L xs m d 58 [.ref 1] g6 r7) fun v10 g8 r9 => (if am_c2 .eq x1 0 = true then (B51_62 L xs m d k x1 v10 24 g8 r9) else (B51_62 L xs m d k x1 v10 23 g8 r9)))) : Option fn_Z)
  refine (fs_cn (n := n + 51) (N := nm_m55) (as := [.ref 6, .int x2]) (rest := []) rfl rfl (Or.inl rfl) rfl rfl rfl rfl rfl).trans (fs_fn fun g6 r7 => ?_)
  refine (fs_r (n := n + 49) 2 (pc' := 43) (L' := [some (.ref 6), some (.int x1), none, none]) (S' := [.ref 1]) rfl).trans ?_
  refine (fs_cv (n := n + 48) (N := nm_m58) (as := [.ref 1]) (rest := []) rfl rfl (Or.inl rfl) rfl rfl rfl rfl rfl).trans (fs_fv fun v10 g8 r9 => ?_)
  refine (fs_r (n := n + 44) 4 (pc' := 52) (L' := [some (.ref 6), some (.int x1), some (.int v10), none]) (S' := [.int x1, .ref 2]) rfl).trans ?_
  refine (fs_i (n := n + 43) rfl (t := 60) rfl (by decide)).trans (fs_ite ?_ ?_)
  · skip
    refine (fs_r (n := n + 42) 1 (pc' := 62) (L' := [some (.ref 6), some (.int x1), some (.int v10), none]) (S' := [.int 24, .ref 2]) rfl).trans ?_
    exact b51_62 L xs m d k (n + 1) x1 v10 24 g8 r9
  · skip
    refine (fs_r (n := n + 42) 1 (pc' := 57) (L' := [some (.ref 6), some (.int x1), some (.int v10), none]) (S' := [.int 23, .ref 2]) rfl).trans ?_
    refine (fs_go (n := n + 41) rfl (t := 62) rfl (by decide)).trans ?_
    exact b51_62 L xs m d k (n + 0) x1 v10 23 g8 r9
def B51_31 (L : Nat) (xs : Nat → Int32) (m d k : Nat) (x1 : Int32) (g : a2_G) (r : a2_A) : Option fn_Z := (B51_36 L xs m d k x1 1 g r)
theorem b51_31 (L : Nat) (xs : Nat → Int32) (m d k : Nat) (n : Nat) (x1 : Int32) (g : a2_G) (r : a2_A) : bk L xs 51 nm_m51 m d k (n + 54) 31 [some (.ref 6), some (.int x1), none, none] [.ref 6] g r = B51_31 L xs m d k x1 g r := by
  show _ = ((B51_36 L xs m d k x1 1 g r) : Option fn_Z)
  refine (fs_r (n := n + 53) 1 (pc' := 32) (L' := [some (.ref 6), some (.int x1), none, none]) (S' := [.int 1, .ref 6]) rfl).trans ?_
  refine (fs_go (n := n + 52) rfl (t := 36) rfl (by decide)).trans ?_
  exact b51_36 L xs m d k (n + 0) x1 1 g r
theorem e51 (L : Nat) (xs : Nat → Int32) (m d k : Nat) (n : Nat) (g : a2_G) (r : a2_A) : bk L xs 51 nm_m51 m d k (n + 70) 0 [some (.ref 6), none, none, none] [] g r = (fn_v (ev L xs m d 52 [.ref 1, .int 16, .int 1] g r) fun v3 g1 r2 => (fn_n (ev L xs m d 53 [.ref 6, .int 8, .int 11] g1 r2) fun g4 r5 => (if am_c2 .ne v3 0 = true then (B51_31 L xs m d k v3 g4 r5) else (fn_v (ev L xs m d 57 [.ref 6] g4 r5) fun v34 g32 r33 => (if am_c2 .eq v34 0 = true then (B51_36 L xs m d k v3 0 g32 r33) else (B51_31 L xs m d k v3 g32 r33)))))) := by
  refine (fs_r (n := n + 66) 4 (pc' := 7) (L' := [some (.ref 6), none, none, none]) (S' := [.int 1, .int 16, .ref 1]) rfl).trans ?_
  refine (fs_cv (n := n + 65) (N := nm_m52) (as := [.ref 1, .int 16, .int 1]) (rest := []) rfl rfl (Or.inl rfl) rfl rfl rfl rfl rfl).trans (fs_fv fun v3 g1 r2 => ?_)
  refine (fs_r (n := n + 61) 4 (pc' := 16) (L' := [some (.ref 6), some (.int v3), none, none]) (S' := [.int 11, .int 8, .ref 6]) rfl).trans ?_
  refine (fs_cn (n := n + 60) (N := nm_m53) (as := [.ref 6, .int 8, .int 11]) (rest := []) rfl rfl (Or.inl rfl) rfl rfl rfl rfl rfl).trans (fs_fn fun g4 r5 => ?_)
  refine (fs_r (n := n + 58) 2 (pc' := 21) (L' := [some (.ref 6), some (.int v3), none, none]) (S' := [.int v3, .ref 6]) rfl).trans ?_
  refine (fs_i (n := n + 57) rfl (t := 31) rfl (by decide)).trans (fs_ite ?_ ?_)
  · skip
    exact b51_31 L xs m d k (n + 3) v3 g4 r5
  · skip
    refine (fs_r (n := n + 56) 1 (pc' := 25) (L' := [some (.ref 6), some (.int v3), none, none]) (S' := [.ref 6, .ref 6]) rfl).trans ?_
    refine (fs_cv (n := n + 55) (N := nm_m57) (as := [.ref 6]) (rest := [.ref 6]) rfl rfl (Or.inl rfl) rfl rfl rfl rfl rfl).trans (fs_fv fun v34 g32 r33 => ?_)
    refine (fs_i (n := n + 54) rfl (t := 35) rfl (by decide)).trans (fs_ite ?_ ?_)
    · skip
      refine (fs_r (n := n + 53) 1 (pc' := 36) (L' := [some (.ref 6), some (.int v3), none, none]) (S' := [.int 0, .ref 6]) rfl).trans ?_
      exact b51_36 L xs m d k (n + 1) v3 0 g32 r33
    · skip
      exact b51_31 L xs m d k (n + 0) v3 g32 r33
theorem q51 (L : Nat) (xs : Nat → Int32) (m d : Nat) (g : a2_G) (r : a2_A) : ev L xs (m + 1) (d + 1) 51 [.ref 6] g r = (fn_v (ev L xs (m + 1) d 52 [.ref 1, .int 16, .int 1] g r) fun v3 g1 r2 => (fn_n (ev L xs (m + 1) d 53 [.ref 6, .int 8, .int 11] g1 r2) fun g4 r5 => (if am_c2 .ne v3 0 = true then (B51_31 L xs (m + 1) d m v3 g4 r5) else (fn_v (ev L xs (m + 1) d 57 [.ref 6] g4 r5) fun v34 g32 r33 => (if am_c2 .eq v34 0 = true then (B51_36 L xs (m + 1) d m v3 0 g32 r33) else (B51_31 L xs (m + 1) d m v3 g32 r33)))))) := (fs_ev (M := nm_m51) rfl rfl).trans (e51 L xs (m + 1) d m 830 g r)
/-- CobolParser$Row.isReserved(II)Z -/
def B52_43 (L : Nat) (xs : Nat → Int32) (m d k : Nat) (x1 x2 x3 x4 : Int32) (g : a2_G) (r : a2_A) : Option fn_Z := (if x4 = 0 ∨ x4 = 1 then some (.inl (some (.int x4)), g, r) else none)
theorem b52_43 (L : Nat) (xs : Nat → Int32) (m d k : Nat) (n : Nat) (x1 x2 x3 x4 : Int32) (g : a2_G) (r : a2_A) : bk L xs 52 nm_m52 m d k (n + 1) 43 [some (.ref 1), some (.int x1), some (.int x2), some (.int x3)] [.int x4] g r = B52_43 L xs m d k x1 x2 x3 x4 g r := by
  show _ = ((if x4 = 0 ∨ x4 = 1 then some (.inl (some (.int x4)), g, r) else none) : Option fn_Z)
  exact (fs_rb (n := n + 0) rfl rfl).trans rfl
def B52_42 (L : Nat) (xs : Nat → Int32) (m d k : Nat) (x1 x2 x3 : Int32) (g : a2_G) (r : a2_A) : Option fn_Z := (B52_43 L xs m d k x1 x2 x3 0 g r)
theorem b52_42 (L : Nat) (xs : Nat → Int32) (m d k : Nat) (n : Nat) (x1 x2 x3 : Int32) (g : a2_G) (r : a2_A) : bk L xs 52 nm_m52 m d k (n + 2) 42 [some (.ref 1), some (.int x1), some (.int x2), some (.int x3)] [] g r = B52_42 L xs m d k x1 x2 x3 g r := by
  show _ = ((B52_43 L xs m d k x1 x2 x3 0 g r) : Option fn_Z)
  refine (fs_r (n := n + 1) 1 (pc' := 43) (L' := [some (.ref 1), some (.int x1), some (.int x2), some (.int x3)]) (S' := [.int 0]) rfl).trans ?_
  exact b52_43 L xs m d k (n + 0) x1 x2 x3 0 g r
theorem e52 (L : Nat) (xs : Nat → Int32) (m d k : Nat) (n : Nat) (a1 a2 : Int32) (g : a2_G) (r : a2_A) : bk L xs 52 nm_m52 m d k (n + 25) 0 [some (.ref 1), some (.int a1), some (.int a2), none] [] g r = (if am_c2 .lt ((g 103) + a2) 0 = true then (B52_42 L xs m d k a1 a2 ((g 103) + a2) g r) else (if am_c2 .ge ((g 103) + a2) (g 102) = true then (B52_42 L xs m d k a1 a2 ((g 103) + a2) g r) else (if am_inr ((g 103) + a2) (r 100).1 = true then (if am_c2 .ne ((r 100).2 (((g 103) + a2) : Int32).toNatClampNeg) 0 = true then (B52_42 L xs m d k a1 a2 ((g 103) + a2) g r) else (if am_inr ((g 103) + a2) (r 101).1 = true then (if am_c2 .ne ((r 101).2 (((g 103) + a2) : Int32).toNatClampNeg) a1 = true then (B52_42 L xs m d k a1 a2 ((g 103) + a2) g r) else (B52_43 L xs m d k a1 a2 ((g 103) + a2) 1 g r)) else none)) else none))) := by
  refine (fs_r (n := n + 19) 6 (pc' := 8) (L' := [some (.ref 1), some (.int a1), some (.int a2), some (.int ((g 103) + a2))]) (S' := [.int ((g 103) + a2)]) rfl).trans ?_
  refine (fs_i (n := n + 18) rfl (t := 42) rfl (by decide)).trans (fs_ite ?_ ?_)
  · skip
    exact b52_42 L xs m d k (n + 16) a1 a2 ((g 103) + a2) g r
  · skip
    refine (fs_r (n := n + 15) 3 (pc' := 16) (L' := [some (.ref 1), some (.int a1), some (.int a2), some (.int ((g 103) + a2))]) (S' := [.int (g 102), .int ((g 103) + a2)]) rfl).trans ?_
    refine (fs_j (n := n + 14) rfl (t := 42) rfl (by decide)).trans (fs_ite ?_ ?_)
    · skip
      exact b52_42 L xs m d k (n + 12) a1 a2 ((g 103) + a2) g r
    · skip
      refine (fs_r (n := n + 11) 3 (pc' := 24) (L' := [some (.ref 1), some (.int a1), some (.int a2), some (.int ((g 103) + a2))]) (S' := [.int ((g 103) + a2), .ref 10100]) rfl).trans ?_
      refine (fs_il (n := n + 10) (k := 100) rfl rfl).trans (fs_ite ?_ rfl)
      refine (fs_i (n := n + 9) rfl (t := 42) rfl (by decide)).trans (fs_ite ?_ ?_)
      · skip
        exact b52_42 L xs m d k (n + 7) a1 a2 ((g 103) + a2) g r
      · skip
        refine (fs_r (n := n + 6) 3 (pc' := 33) (L' := [some (.ref 1), some (.int a1), some (.int a2), some (.int ((g 103) + a2))]) (S' := [.int ((g 103) + a2), .ref 10101]) rfl).trans ?_
        refine (fs_il (n := n + 5) (k := 101) rfl rfl).trans (fs_ite ?_ rfl)
        refine (fs_r (n := n + 4) 1 (pc' := 35) (L' := [some (.ref 1), some (.int a1), some (.int a2), some (.int ((g 103) + a2))]) (S' := [.int a1, .int ((r 101).2 (((g 103) + a2) : Int32).toNatClampNeg)]) rfl).trans ?_
        refine (fs_j (n := n + 3) rfl (t := 42) rfl (by decide)).trans (fs_ite ?_ ?_)
        · skip
          exact b52_42 L xs m d k (n + 1) a1 a2 ((g 103) + a2) g r
        · skip
          refine (fs_r (n := n + 2) 1 (pc' := 39) (L' := [some (.ref 1), some (.int a1), some (.int a2), some (.int ((g 103) + a2))]) (S' := [.int 1]) rfl).trans ?_
          refine (fs_go (n := n + 1) rfl (t := 43) rfl (by decide)).trans ?_
          exact b52_43 L xs m d k (n + 0) a1 a2 ((g 103) + a2) 1 g r
theorem q52 (L : Nat) (xs : Nat → Int32) (m d : Nat) (a1 a2 : Int32) (g : a2_G) (r : a2_A) : ev L xs (m + 1) (d + 1) 52 [.ref 1, .int a1, .int a2] g r = (if am_c2 .lt ((g 103) + a2) 0 = true then (B52_42 L xs (m + 1) d m a1 a2 ((g 103) + a2) g r) else (if am_c2 .ge ((g 103) + a2) (g 102) = true then (B52_42 L xs (m + 1) d m a1 a2 ((g 103) + a2) g r) else (if am_inr ((g 103) + a2) (r 100).1 = true then (if am_c2 .ne ((r 100).2 (((g 103) + a2) : Int32).toNatClampNeg) 0 = true then (B52_42 L xs (m + 1) d m a1 a2 ((g 103) + a2) g r) else (if am_inr ((g 103) + a2) (r 101).1 = true then (if am_c2 .ne ((r 101).2 (((g 103) + a2) : Int32).toNatClampNeg) a1 = true then (B52_42 L xs (m + 1) d m a1 a2 ((g 103) + a2) g r) else (B52_43 L xs (m + 1) d m a1 a2 ((g 103) + a2) 1 g r)) else none)) else none))) := (fs_ev (M := nm_m52) rfl rfl).trans (e52 L xs (m + 1) d m 875 a1 a2 g r)
/-- CobolParser$Clauses.requireState(II)V -/
def B53_28 (L : Nat) (xs : Nat → Int32) (m d k : Nat) (x1 x2 x3 : Int32) (g : a2_G) (r : a2_A) : Option fn_Z := (fn_n (ev L xs m d 55 [.ref 6, .int x3] g r) fun g4 r5 => (some (.inl none, g4, r5)))
theorem b53_28 (L : Nat) (xs : Nat → Int32) (m d k : Nat) (n : Nat) (x1 x2 x3 : Int32) (g : a2_G) (r : a2_A) : bk L xs 53 nm_m53 m d k (n + 2) 28 [some (.ref 6), some (.int x1), some (.int x2)] [.int x3, .ref 6] g r = B53_28 L xs m d k x1 x2 x3 g r := by
  show _ = ((fn_n (ev L xs m d 55 [.ref 6, .int x3] g r) fun g4 r5 => (some (.inl none, g4, r5))) : Option fn_Z)
  refine (fs_cn (n := n + 1) (N := nm_m55) (as := [.ref 6, .int x3]) (rest := []) rfl rfl (Or.inl rfl) rfl rfl rfl rfl rfl).trans (fs_fn fun g4 r5 => ?_)
  exact (fs_rv (n := n + 0) rfl rfl).trans rfl
def B53_27 (L : Nat) (xs : Nat → Int32) (m d k : Nat) (x1 x2 : Int32) (g : a2_G) (r : a2_A) : Option fn_Z := (B53_28 L xs m d k x1 x2 0 g r)
theorem b53_27 (L : Nat) (xs : Nat → Int32) (m d k : Nat) (n : Nat) (x1 x2 : Int32) (g : a2_G) (r : a2_A) : bk L xs 53 nm_m53 m d k (n + 3) 27 [some (.ref 6), some (.int x1), some (.int x2)] [.ref 6] g r = B53_27 L xs m d k x1 x2 g r := by
  show _ = ((B53_28 L xs m d k x1 x2 0 g r) : Option fn_Z)
  refine (fs_r (n := n + 2) 1 (pc' := 28) (L' := [some (.ref 6), some (.int x1), some (.int x2)]) (S' := [.int 0, .ref 6]) rfl).trans ?_
  exact b53_28 L xs m d k (n + 0) x1 x2 0 g r
theorem e53 (L : Nat) (xs : Nat → Int32) (m d k : Nat) (n : Nat) (a1 a2 : Int32) (g : a2_G) (r : a2_A) : bk L xs 53 nm_m53 m d k (n + 15) 0 [some (.ref 6), some (.int a1), some (.int a2)] [] g r = (fn_v (ev L xs m d 54 [.ref 8] g r) fun v3 g1 r2 => (if am_c2 .lt v3 a1 = true then (B53_27 L xs m d k a1 a2 g1 r2) else (fn_v (ev L xs m d 54 [.ref 8] g1 r2) fun v8 g6 r7 => (if am_c2 .gt v8 a2 = true then (B53_27 L xs m d k a1 a2 g6 r7) else (B53_28 L xs m d k a1 a2 1 g6 r7))))) := by
  refine (fs_r (n := n + 12) 3 (pc' := 5) (L' := [some (.ref 6), some (.int a1), some (.int a2)]) (S' := [.ref 8, .ref 6]) rfl).trans ?_
  refine (fs_cv (n := n + 11) (N := nm_m54) (as := [.ref 8]) (rest := [.ref 6]) rfl rfl (Or.inl rfl) rfl rfl rfl rfl rfl).trans (fs_fv fun v3 g1 r2 => ?_)
  refine (fs_r (n := n + 10) 1 (pc' := 9) (L' := [some (.ref 6), some (.int a1), some (.int a2)]) (S' := [.int a1, .int v3, .ref 6]) rfl).trans ?_
  refine (fs_j (n := n + 9) rfl (t := 27) rfl (by decide)).trans (fs_ite ?_ ?_)
  · skip
    exact b53_27 L xs m d k (n + 6) a1 a2 g1 r2
  · skip
    refine (fs_r (n := n + 7) 2 (pc' := 16) (L' := [some (.ref 6), some (.int a1), some (.int a2)]) (S' := [.ref 8, .ref 6]) rfl).trans ?_
    refine (fs_cv (n := n + 6) (N := nm_m54) (as := [.ref 8]) (rest := [.ref 6]) rfl rfl (Or.inl rfl) rfl rfl rfl rfl rfl).trans (fs_fv fun v8 g6 r7 => ?_)
    refine (fs_r (n := n + 5) 1 (pc' := 20) (L' := [some (.ref 6), some (.int a1), some (.int a2)]) (S' := [.int a2, .int v8, .ref 6]) rfl).trans ?_
    refine (fs_j (n := n + 4) rfl (t := 27) rfl (by decide)).trans (fs_ite ?_ ?_)
    · skip
      exact b53_27 L xs m d k (n + 1) a1 a2 g6 r7
    · skip
      refine (fs_r (n := n + 3) 1 (pc' := 24) (L' := [some (.ref 6), some (.int a1), some (.int a2)]) (S' := [.int 1, .ref 6]) rfl).trans ?_
      refine (fs_go (n := n + 2) rfl (t := 28) rfl (by decide)).trans ?_
      exact b53_28 L xs m d k (n + 0) a1 a2 1 g6 r7
theorem q53 (L : Nat) (xs : Nat → Int32) (m d : Nat) (a1 a2 : Int32) (g : a2_G) (r : a2_A) : ev L xs (m + 1) (d + 1) 53 [.ref 6, .int a1, .int a2] g r = (fn_v (ev L xs (m + 1) d 54 [.ref 8] g r) fun v3 g1 r2 => (if am_c2 .lt v3 a1 = true then (B53_27 L xs (m + 1) d m a1 a2 g1 r2) else (fn_v (ev L xs (m + 1) d 54 [.ref 8] g1 r2) fun v8 g6 r7 => (if am_c2 .gt v8 a2 = true then (B53_27 L xs (m + 1) d m a1 a2 g6 r7) else (B53_28 L xs (m + 1) d m a1 a2 1 g6 r7))))) := (fs_ev (M := nm_m53) rfl rfl).trans (e53 L xs (m + 1) d m 885 a1 a2 g r)
/-- CobolParser$Units.state()I -/
def B54_22 (L : Nat) (xs : Nat → Int32) (m d k : Nat) (x1 : Int32) (g : a2_G) (r : a2_A) : Option fn_Z := (some (.inl (some (.int x1)), g, r))
theorem b54_22 (L : Nat) (xs : Nat → Int32) (m d k : Nat) (n : Nat) (x1 : Int32) (g : a2_G) (r : a2_A) : bk L xs 54 nm_m54 m d k (n + 1) 22 [some (.ref 8)] [.int x1] g r = B54_22 L xs m d k x1 g r := by
  show _ = ((some (.inl (some (.int x1)), g, r)) : Option fn_Z)
  exact (fs_ri (n := n + 0) rfl rfl).trans rfl
theorem e54 (L : Nat) (xs : Nat → Int32) (m d k : Nat) (n : Nat) (g : a2_G) (r : a2_A) : bk L xs 54 nm_m54 m d k (n + 12) 0 [some (.ref 8)] [] g r = (if am_c2 .le (g 804) 0 = true then (B54_22 L xs m d k (-1) g r) else (if am_inr ((g 804) - 1) (r 800).1 = true then (B54_22 L xs m d k ((r 800).2 (((g 804) - 1) : Int32).toNatClampNeg) g r) else none)) := by
  refine (fs_r (n := n + 10) 2 (pc' := 4) (L' := [some (.ref 8)]) (S' := [.int (g 804)]) rfl).trans ?_
  refine (fs_i (n := n + 9) rfl (t := 21) rfl (by decide)).trans (fs_ite ?_ ?_)
  · skip
    refine (fs_r (n := n + 8) 1 (pc' := 22) (L' := [some (.ref 8)]) (S' := [.int (-1)]) rfl).trans ?_
    exact b54_22 L xs m d k (n + 7) (-1) g r
  · skip
    refine (fs_r (n := n + 3) 6 (pc' := 17) (L' := [some (.ref 8)]) (S' := [.int ((g 804) - 1), .ref 10800]) rfl).trans ?_
    refine (fs_il (n := n + 2) (k := 800) rfl rfl).trans (fs_ite ?_ rfl)
    refine (fs_go (n := n + 1) rfl (t := 22) rfl (by decide)).trans ?_
    exact b54_22 L xs m d k (n + 0) ((r 800).2 (((g 804) - 1) : Int32).toNatClampNeg) g r
theorem q54 (L : Nat) (xs : Nat → Int32) (m d : Nat) (g : a2_G) (r : a2_A) : ev L xs (m + 1) (d + 1) 54 [.ref 8] g r = (if am_c2 .le (g 804) 0 = true then (B54_22 L xs (m + 1) d m (-1) g r) else (if am_inr ((g 804) - 1) (r 800).1 = true then (B54_22 L xs (m + 1) d m ((r 800).2 (((g 804) - 1) : Int32).toNatClampNeg) g r) else none)) := (fs_ev (M := nm_m54) rfl rfl).trans (e54 L xs (m + 1) d m 888 g r)
/-- CobolParser$Clauses.requireThat(Z)V -/
def B55_12 (L : Nat) (xs : Nat → Int32) (m d k : Nat) (x1 : Int32) (g : a2_G) (r : a2_A) : Option fn_Z := (some (.inl none, g, r))
theorem b55_12 (L : Nat) (xs : Nat → Int32) (m d k : Nat) (n : Nat) (x1 : Int32) (g : a2_G) (r : a2_A) : bk L xs 55 nm_m55 m d k (n + 1) 12 [some (.ref 6), some (.int x1)] [] g r = B55_12 L xs m d k x1 g r := by
  show _ = ((some (.inl none, g, r)) : Option fn_Z)
  exact (fs_rv (n := n + 0) rfl rfl).trans rfl
theorem e55 (L : Nat) (xs : Nat → Int32) (m d k : Nat) (n : Nat) (a1 : Int32) (g : a2_G) (r : a2_A) : bk L xs 55 nm_m55 m d k (n + 7) 0 [some (.ref 6), some (.int a1)] [] g r = (if am_c2 .ne a1 0 = true then (B55_12 L xs m d k a1 g r) else (fn_n (ev L xs m d 56 [.ref 1, .int 1] g r) fun g1 r2 => (B55_12 L xs m d k a1 g1 r2))) := by
  refine (fs_r (n := n + 6) 1 (pc' := 1) (L' := [some (.ref 6), some (.int a1)]) (S' := [.int a1]) rfl).trans ?_
  refine (fs_i (n := n + 5) rfl (t := 12) rfl (by decide)).trans (fs_ite ?_ ?_)
  · skip
    exact b55_12 L xs m d k (n + 4) a1 g r
  · skip
    refine (fs_r (n := n + 2) 3 (pc' := 9) (L' := [some (.ref 6), some (.int a1)]) (S' := [.int 1, .ref 1]) rfl).trans ?_
    refine (fs_cn (n := n + 1) (N := nm_m56) (as := [.ref 1, .int 1]) (rest := []) rfl rfl (Or.inl rfl) rfl rfl rfl rfl rfl).trans (fs_fn fun g1 r2 => ?_)
    exact b55_12 L xs m d k (n + 0) a1 g1 r2
theorem q55 (L : Nat) (xs : Nat → Int32) (m d : Nat) (a1 : Int32) (g : a2_G) (r : a2_A) : ev L xs (m + 1) (d + 1) 55 [.ref 6, .int a1] g r = (if am_c2 .ne a1 0 = true then (B55_12 L xs (m + 1) d m a1 g r) else (fn_n (ev L xs (m + 1) d 56 [.ref 1, .int 1] g r) fun g1 r2 => (B55_12 L xs (m + 1) d m a1 g1 r2))) := (fs_ev (M := nm_m55) rfl rfl).trans (e55 L xs (m + 1) d m 893 a1 g r)
/-- CobolParser$Row.refuse(I)V -/
theorem e56 (L : Nat) (xs : Nat → Int32) (m d k : Nat) (n : Nat) (a1 : Int32) (g : a2_G) (r : a2_A) : bk L xs 56 nm_m56 m d k (n + 4) 0 [some (.ref 1), some (.int a1)] [] g r = (some (.inr 10, (upd g 104 a1), r)) := by
  refine (fs_r (n := n + 2) 2 (pc' := 2) (L' := [some (.ref 1), some (.int a1)]) (S' := [.int a1, .ref 1]) rfl).trans ?_
  refine (fs_pf (n := n + 1) (ci := 1) (j := 4) rfl rfl rfl rfl).trans ?_
  exact (fs_th (n := n + 0) rfl rfl (Nat.le_of_ble_eq_true rfl)).trans rfl
theorem q56 (L : Nat) (xs : Nat → Int32) (m d : Nat) (a1 : Int32) (g : a2_G) (r : a2_A) : ev L xs (m + 1) (d + 1) 56 [.ref 1, .int a1] g r = (some (.inr 10, (upd g 104 a1), r)) := (fs_ev (M := nm_m56) rfl rfl).trans (e56 L xs (m + 1) d m 896 a1 g r)
/-- CobolParser$Clauses.mayHoldSentences()Z -/
def B57_25 (L : Nat) (xs : Nat → Int32) (m d k : Nat) (x1 : Int32) (g : a2_G) (r : a2_A) : Option fn_Z := (if x1 = 0 ∨ x1 = 1 then some (.inl (some (.int x1)), g, r) else none)
theorem b57_25 (L : Nat) (xs : Nat → Int32) (m d k : Nat) (n : Nat) (x1 : Int32) (g : a2_G) (r : a2_A) : bk L xs 57 nm_m57 m d k (n + 1) 25 [some (.ref 6)] [.int x1] g r = B57_25 L xs m d k x1 g r := by
  show _ = ((if x1 = 0 ∨ x1 = 1 then some (.inl (some (.int x1)), g, r) else none) : Option fn_Z)
  exact (fs_rb (n := n + 0) rfl rfl).trans rfl
def B57_20 (L : Nat) (xs : Nat → Int32) (m d k : Nat) (g : a2_G) (r : a2_A) : Option fn_Z := (B57_25 L xs m d k 1 g r)
theorem b57_20 (L : Nat) (xs : Nat → Int32) (m d k : Nat) (n : Nat) (g : a2_G) (r : a2_A) : bk L xs 57 nm_m57 m d k (n + 3) 20 [some (.ref 6)] [] g r = B57_20 L xs m d k g r := by
  show _ = ((B57_25 L xs m d k 1 g r) : Option fn_Z)
  refine (fs_r (n := n + 2) 1 (pc' := 21) (L' := [some (.ref 6)]) (S' := [.int 1]) rfl).trans ?_
  refine (fs_go (n := n + 1) rfl (t := 25) rfl (by decide)).trans ?_
  exact b57_25 L xs m d k (n + 0) 1 g r
theorem e57 (L : Nat) (xs : Nat → Int32) (m d k : Nat) (n : Nat) (g : a2_G) (r : a2_A) : bk L xs 57 nm_m57 m d k (n + 12) 0 [some (.ref 6)] [] g r = (fn_v (ev L xs m d 54 [.ref 8] g r) fun v3 g1 r2 => (if am_c2 .ne v3 9 = true then (B57_20 L xs m d k g1 r2) else (if am_c2 .eq (g1 608) (-1) = true then (B57_25 L xs m d k 0 g1 r2) else (B57_20 L xs m d k g1 r2)))) := by
  refine (fs_r (n := n + 10) 2 (pc' := 4) (L' := [some (.ref 6)]) (S' := [.ref 8]) rfl).trans ?_
  refine (fs_cv (n := n + 9) (N := nm_m54) (as := [.ref 8]) (rest := []) rfl rfl (Or.inl rfl) rfl rfl rfl rfl rfl).trans (fs_fv fun v3 g1 r2 => ?_)
  refine (fs_r (n := n + 8) 1 (pc' := 9) (L' := [some (.ref 6)]) (S' := [.int 9, .int v3]) rfl).trans ?_
  refine (fs_j (n := n + 7) rfl (t := 20) rfl (by decide)).trans (fs_ite ?_ ?_)
  · skip
    exact b57_20 L xs m d k (n + 4) g1 r2
  · skip
    refine (fs_r (n := n + 4) 3 (pc' := 17) (L' := [some (.ref 6)]) (S' := [.int (-1), .int (g1 608)]) rfl).trans ?_
    refine (fs_j (n := n + 3) rfl (t := 24) rfl (by decide)).trans (fs_ite ?_ ?_)
    · skip
      refine (fs_r (n := n + 2) 1 (pc' := 25) (L' := [some (.ref 6)]) (S' := [.int 0]) rfl).trans ?_
      exact b57_25 L xs m d k (n + 1) 0 g1 r2
    · skip
      exact b57_20 L xs m d k (n + 0) g1 r2
theorem q57 (L : Nat) (xs : Nat → Int32) (m d : Nat) (g : a2_G) (r : a2_A) : ev L xs (m + 1) (d + 1) 57 [.ref 6] g r = (fn_v (ev L xs (m + 1) d 54 [.ref 8] g r) fun v3 g1 r2 => (if am_c2 .ne v3 9 = true then (B57_20 L xs (m + 1) d m g1 r2) else (if am_c2 .eq (g1 608) (-1) = true then (B57_25 L xs (m + 1) d m 0 g1 r2) else (B57_20 L xs (m + 1) d m g1 r2)))) := (fs_ev (M := nm_m57) rfl rfl).trans (e57 L xs (m + 1) d m 888 g r)
/-- CobolParser$Row.place()I -/
theorem e58 (L : Nat) (xs : Nat → Int32) (m d k : Nat) (n : Nat) (g : a2_G) (r : a2_A) : bk L xs 58 nm_m58 m d k (n + 3) 0 [some (.ref 1)] [] g r = (some (.inl (some (.int (g 103))), g, r)) := by
  refine (fs_r (n := n + 1) 2 (pc' := 4) (L' := [some (.ref 1)]) (S' := [.int (g 103)]) rfl).trans ?_
  exact (fs_ri (n := n + 0) rfl rfl).trans rfl
theorem q58 (L : Nat) (xs : Nat → Int32) (m d : Nat) (g : a2_G) (r : a2_A) : ev L xs (m + 1) (d + 1) 58 [.ref 1] g r = (some (.inl (some (.int (g 103))), g, r)) := (fs_ev (M := nm_m58) rfl rfl).trans (e58 L xs (m + 1) d m 897 g r)
/-- CobolParser$Row.requireKind(I)I -/
def B59_13 (L : Nat) (xs : Nat → Int32) (m d k : Nat) (x1 : Int32) (g : a2_G) (r : a2_A) : Option fn_Z := (fn_v (ev L xs m d 60 [.ref 1] g r) fun v6 g4 r5 => (fn_n (ev L xs m d 61 [.ref 1] g4 r5) fun g7 r8 => (some (.inl (some (.int v6)), g7, r8))))
theorem b59_13 (L : Nat) (xs : Nat → Int32) (m d k : Nat) (n : Nat) (x1 : Int32) (g : a2_G) (r : a2_A) : bk L xs 59 nm_m59 m d k (n + 7) 13 [some (.ref 1), some (.int x1), none] [] g r = B59_13 L xs m d k x1 g r := by
  show _ = ((fn_v (ev L xs m d 60 [.ref 1] g r) fun v6 g4 r5 => (fn_n (ev L xs m d 61 [.ref 1] g4 r5) fun g7 r8 => (some (.inl (some (.int v6)), g7, r8)))) : Option fn_Z)
  refine (fs_r (n := n + 6) 1 (pc' := 14) (L' := [some (.ref 1), some (.int x1), none]) (S' := [.ref 1]) rfl).trans ?_
  refine (fs_cv (n := n + 5) (N := nm_m60) (as := [.ref 1]) (rest := []) rfl rfl (Or.inl rfl) rfl rfl rfl rfl rfl).trans (fs_fv fun v6 g4 r5 => ?_)
  refine (fs_r (n := n + 3) 2 (pc' := 19) (L' := [some (.ref 1), some (.int x1), some (.int v6)]) (S' := [.ref 1]) rfl).trans ?_
  refine (fs_cn (n := n + 2) (N := nm_m61) (as := [.ref 1]) (rest := []) rfl rfl (Or.inl rfl) rfl rfl rfl rfl rfl).trans (fs_fn fun g7 r8 => ?_)
  refine (fs_r (n := n + 1) 1 (pc' := 23) (L' := [some (.ref 1), some (.int x1), some (.int v6)]) (S' := [.int v6]) rfl).trans ?_
  exact (fs_ri (n := n + 0) rfl rfl).trans rfl
theorem e59 (L : Nat) (xs : Nat → Int32) (m d k : Nat) (n : Nat) (a1 : Int32) (g : a2_G) (r : a2_A) : bk L xs 59 nm_m59 m d k (n + 14) 0 [some (.ref 1), some (.int a1), none] [] g r = (fn_v (ev L xs m d 50 [.ref 1, .int a1] g r) fun v3 g1 r2 => (if am_c2 .ne v3 0 = true then (B59_13 L xs m d k a1 g1 r2) else (fn_n (ev L xs m d 56 [.ref 1, .int 1] g1 r2) fun g9 r10 => (B59_13 L xs m d k a1 g9 r10)))) := by
  refine (fs_r (n := n + 12) 2 (pc' := 2) (L' := [some (.ref 1), some (.int a1), none]) (S' := [.int a1, .ref 1]) rfl).trans ?_
  refine (fs_cv (n := n + 11) (N := nm_m50) (as := [.ref 1, .int a1]) (rest := []) rfl rfl (Or.inl rfl) rfl rfl rfl rfl rfl).trans (fs_fv fun v3 g1 r2 => ?_)
  refine (fs_i (n := n + 10) rfl (t := 13) rfl (by decide)).trans (fs_ite ?_ ?_)
  · skip
    exact b59_13 L xs m d k (n + 3) a1 g1 r2
  · skip
    refine (fs_r (n := n + 8) 2 (pc' := 10) (L' := [some (.ref 1), some (.int a1), none]) (S' := [.int 1, .ref 1]) rfl).trans ?_
    refine (fs_cn (n := n + 7) (N := nm_m56) (as := [.ref 1, .int 1]) (rest := []) rfl rfl (Or.inl rfl) rfl rfl rfl rfl rfl).trans (fs_fn fun g9 r10 => ?_)
    exact b59_13 L xs m d k (n + 0) a1 g9 r10
theorem q59 (L : Nat) (xs : Nat → Int32) (m d : Nat) (a1 : Int32) (g : a2_G) (r : a2_A) : ev L xs (m + 1) (d + 1) 59 [.ref 1, .int a1] g r = (fn_v (ev L xs (m + 1) d 50 [.ref 1, .int a1] g r) fun v3 g1 r2 => (if am_c2 .ne v3 0 = true then (B59_13 L xs (m + 1) d m a1 g1 r2) else (fn_n (ev L xs (m + 1) d 56 [.ref 1, .int 1] g1 r2) fun g9 r10 => (B59_13 L xs (m + 1) d m a1 g9 r10)))) := (fs_ev (M := nm_m59) rfl rfl).trans (e59 L xs (m + 1) d m 886 a1 g r)
/-- CobolParser$Row.value()I -/
def B60_24 (L : Nat) (xs : Nat → Int32) (m d k : Nat) (x1 : Int32) (g : a2_G) (r : a2_A) : Option fn_Z := (some (.inl (some (.int x1)), g, r))
theorem b60_24 (L : Nat) (xs : Nat → Int32) (m d k : Nat) (n : Nat) (x1 : Int32) (g : a2_G) (r : a2_A) : bk L xs 60 nm_m60 m d k (n + 1) 24 [some (.ref 1)] [.int x1] g r = B60_24 L xs m d k x1 g r := by
  show _ = ((some (.inl (some (.int x1)), g, r)) : Option fn_Z)
  exact (fs_ri (n := n + 0) rfl rfl).trans rfl
theorem e60 (L : Nat) (xs : Nat → Int32) (m d k : Nat) (n : Nat) (g : a2_G) (r : a2_A) : bk L xs 60 nm_m60 m d k (n + 12) 0 [some (.ref 1)] [] g r = (if am_c2 .ge (g 103) (g 102) = true then (B60_24 L xs m d k (-1) g r) else (if am_inr (g 103) (r 101).1 = true then (B60_24 L xs m d k ((r 101).2 ((g 103) : Int32).toNatClampNeg) g r) else none)) := by
  refine (fs_r (n := n + 8) 4 (pc' := 8) (L' := [some (.ref 1)]) (S' := [.int (g 102), .int (g 103)]) rfl).trans ?_
  refine (fs_j (n := n + 7) rfl (t := 23) rfl (by decide)).trans (fs_ite ?_ ?_)
  · skip
    refine (fs_r (n := n + 6) 1 (pc' := 24) (L' := [some (.ref 1)]) (S' := [.int (-1)]) rfl).trans ?_
    exact b60_24 L xs m d k (n + 5) (-1) g r
  · skip
    refine (fs_r (n := n + 3) 4 (pc' := 19) (L' := [some (.ref 1)]) (S' := [.int (g 103), .ref 10101]) rfl).trans ?_
    refine (fs_il (n := n + 2) (k := 101) rfl rfl).trans (fs_ite ?_ rfl)
    refine (fs_go (n := n + 1) rfl (t := 24) rfl (by decide)).trans ?_
    exact b60_24 L xs m d k (n + 0) ((r 101).2 ((g 103) : Int32).toNatClampNeg) g r
theorem q60 (L : Nat) (xs : Nat → Int32) (m d : Nat) (g : a2_G) (r : a2_A) : ev L xs (m + 1) (d + 1) 60 [.ref 1] g r = (if am_c2 .ge (g 103) (g 102) = true then (B60_24 L xs (m + 1) d m (-1) g r) else (if am_inr (g 103) (r 101).1 = true then (B60_24 L xs (m + 1) d m ((r 101).2 ((g 103) : Int32).toNatClampNeg) g r) else none)) := (fs_ev (M := nm_m60) rfl rfl).trans (e60 L xs (m + 1) d m 888 g r)
/-- CobolParser$Row.advance()V -/
def B61_21 (L : Nat) (xs : Nat → Int32) (m d k : Nat) (g : a2_G) (r : a2_A) : Option fn_Z := (some (.inl none, g, r))
theorem b61_21 (L : Nat) (xs : Nat → Int32) (m d k : Nat) (n : Nat) (g : a2_G) (r : a2_A) : bk L xs 61 nm_m61 m d k (n + 1) 21 [some (.ref 1)] [] g r = B61_21 L xs m d k g r := by
  show _ = ((some (.inl none, g, r)) : Option fn_Z)
  exact (fs_rv (n := n + 0) rfl rfl).trans rfl
theorem e61 (L : Nat) (xs : Nat → Int32) (m d k : Nat) (n : Nat) (g : a2_G) (r : a2_A) : bk L xs 61 nm_m61 m d k (n + 12) 0 [some (.ref 1)] [] g r = (if am_c2 .ge (g 103) (g 102) = true then (B61_21 L xs m d k g r) else (B61_21 L xs m d k (upd g 103 ((g 103) + 1)) r)) := by
  refine (fs_r (n := n + 8) 4 (pc' := 8) (L' := [some (.ref 1)]) (S' := [.int (g 102), .int (g 103)]) rfl).trans ?_
  refine (fs_j (n := n + 7) rfl (t := 21) rfl (by decide)).trans (fs_ite ?_ ?_)
  · skip
    exact b61_21 L xs m d k (n + 6) g r
  · skip
    refine (fs_r (n := n + 2) 5 (pc' := 18) (L' := [some (.ref 1)]) (S' := [.int ((g 103) + 1), .ref 1]) rfl).trans ?_
    refine (fs_pf (n := n + 1) (ci := 1) (j := 3) rfl rfl rfl rfl).trans ?_
    exact b61_21 L xs m d k (n + 0) (upd g 103 ((g 103) + 1)) r
theorem q61 (L : Nat) (xs : Nat → Int32) (m d : Nat) (g : a2_G) (r : a2_A) : ev L xs (m + 1) (d + 1) 61 [.ref 1] g r = (if am_c2 .ge (g 103) (g 102) = true then (B61_21 L xs (m + 1) d m g r) else (B61_21 L xs (m + 1) d m (upd g 103 ((g 103) + 1)) r)) := (fs_ev (M := nm_m61) rfl rfl).trans (e61 L xs (m + 1) d m 888 g r)
/-- CobolParser$Row.skip(I)Z -/
def B62_56 (L : Nat) (xs : Nat → Int32) (m d k : Nat) (x1 x2 : Int32) (g : a2_G) (r : a2_A) : Option fn_Z := (if x2 = 0 ∨ x2 = 1 then some (.inl (some (.int x2)), g, r) else none)
theorem b62_56 (L : Nat) (xs : Nat → Int32) (m d k : Nat) (n : Nat) (x1 x2 : Int32) (g : a2_G) (r : a2_A) : bk L xs 62 nm_m62 m d k (n + 2) 56 [some (.ref 1), some (.int x1), some (.int x2)] [] g r = B62_56 L xs m d k x1 x2 g r := by
  show _ = ((if x2 = 0 ∨ x2 = 1 then some (.inl (some (.int x2)), g, r) else none) : Option fn_Z)
  refine (fs_r (n := n + 1) 1 (pc' := 57) (L' := [some (.ref 1), some (.int x1), some (.int x2)]) (S' := [.int x2]) rfl).trans ?_
  exact (fs_rb (n := n + 0) rfl rfl).trans rfl
def B62_41 (L : Nat) (xs : Nat → Int32) (m d k : Nat) (x1 x2 : Int32) (g : a2_G) (r : a2_A) : Option fn_Z := (if am_c2 .eq x2 0 = true then (B62_56 L xs m d k x1 x2 g r) else (B62_56 L xs m d k x1 x2 (upd g 103 ((g 103) + 1)) r))
theorem b62_41 (L : Nat) (xs : Nat → Int32) (m d k : Nat) (n : Nat) (x1 x2 : Int32) (g : a2_G) (r : a2_A) : bk L xs 62 nm_m62 m d k (n + 11) 41 [some (.ref 1), some (.int x1), none] [.int x2] g r = B62_41 L xs m d k x1 x2 g r := by
  show _ = ((if am_c2 .eq x2 0 = true then (B62_56 L xs m d k x1 x2 g r) else (B62_56 L xs m d k x1 x2 (upd g 103 ((g 103) + 1)) r)) : Option fn_Z)
  refine (fs_r (n := n + 9) 2 (pc' := 43) (L' := [some (.ref 1), some (.int x1), some (.int x2)]) (S' := [.int x2]) rfl).trans ?_
  refine (fs_i (n := n + 8) rfl (t := 56) rfl (by decide)).trans (fs_ite ?_ ?_)
  · skip
    exact b62_56 L xs m d k (n + 6) x1 x2 g r
  · skip
    refine (fs_r (n := n + 3) 5 (pc' := 53) (L' := [some (.ref 1), some (.int x1), some (.int x2)]) (S' := [.int ((g 103) + 1), .ref 1]) rfl).trans ?_
    refine (fs_pf (n := n + 2) (ci := 1) (j := 3) rfl rfl rfl rfl).trans ?_
    exact b62_56 L xs m d k (n + 0) x1 x2 (upd g 103 ((g 103) + 1)) r
def B62_40 (L : Nat) (xs : Nat → Int32) (m d k : Nat) (x1 : Int32) (g : a2_G) (r : a2_A) : Option fn_Z := (B62_41 L xs m d k x1 0 g r)
theorem b62_40 (L : Nat) (xs : Nat → Int32) (m d k : Nat) (n : Nat) (x1 : Int32) (g : a2_G) (r : a2_A) : bk L xs 62 nm_m62 m d k (n + 12) 40 [some (.ref 1), some (.int x1), none] [] g r = B62_40 L xs m d k x1 g r := by
  show _ = ((B62_41 L xs m d k x1 0 g r) : Option fn_Z)
  refine (fs_r (n := n + 11) 1 (pc' := 41) (L' := [some (.ref 1), some (.int x1), none]) (S' := [.int 0]) rfl).trans ?_
  exact b62_41 L xs m d k (n + 0) x1 0 g r
theorem e62 (L : Nat) (xs : Nat → Int32) (m d k : Nat) (n : Nat) (a1 : Int32) (g : a2_G) (r : a2_A) : bk L xs 62 nm_m62 m d k (n + 31) 0 [some (.ref 1), some (.int a1), none] [] g r = (if am_c2 .ge (g 103) (g 102) = true then (B62_40 L xs m d k a1 g r) else (if am_inr (g 103) (r 100).1 = true then (if am_c2 .ne ((r 100).2 ((g 103) : Int32).toNatClampNeg) 0 = true then (B62_40 L xs m d k a1 g r) else (if am_inr (g 103) (r 101).1 = true then (if am_c2 .ne ((r 101).2 ((g 103) : Int32).toNatClampNeg) a1 = true then (B62_40 L xs m d k a1 g r) else (B62_41 L xs m d k a1 1 g r)) else none)) else none)) := by
  refine (fs_r (n := n + 27) 4 (pc' := 8) (L' := [some (.ref 1), some (.int a1), none]) (S' := [.int (g 102), .int (g 103)]) rfl).trans ?_
  refine (fs_j (n := n + 26) rfl (t := 40) rfl (by decide)).trans (fs_ite ?_ ?_)
  · skip
    exact b62_40 L xs m d k (n + 14) a1 g r
  · skip
    refine (fs_r (n := n + 22) 4 (pc' := 19) (L' := [some (.ref 1), some (.int a1), none]) (S' := [.int (g 103), .ref 10100]) rfl).trans ?_
    refine (fs_il (n := n + 21) (k := 100) rfl rfl).trans (fs_ite ?_ rfl)
    refine (fs_i (n := n + 20) rfl (t := 40) rfl (by decide)).trans (fs_ite ?_ ?_)
    · skip
      exact b62_40 L xs m d k (n + 8) a1 g r
    · skip
      refine (fs_r (n := n + 16) 4 (pc' := 31) (L' := [some (.ref 1), some (.int a1), none]) (S' := [.int (g 103), .ref 10101]) rfl).trans ?_
      refine (fs_il (n := n + 15) (k := 101) rfl rfl).trans (fs_ite ?_ rfl)
      refine (fs_r (n := n + 14) 1 (pc' := 33) (L' := [some (.ref 1), some (.int a1), none]) (S' := [.int a1, .int ((r 101).2 ((g 103) : Int32).toNatClampNeg)]) rfl).trans ?_
      refine (fs_j (n := n + 13) rfl (t := 40) rfl (by decide)).trans (fs_ite ?_ ?_)
      · skip
        exact b62_40 L xs m d k (n + 1) a1 g r
      · skip
        refine (fs_r (n := n + 12) 1 (pc' := 37) (L' := [some (.ref 1), some (.int a1), none]) (S' := [.int 1]) rfl).trans ?_
        refine (fs_go (n := n + 11) rfl (t := 41) rfl (by decide)).trans ?_
        exact b62_41 L xs m d k (n + 0) a1 1 g r
theorem q62 (L : Nat) (xs : Nat → Int32) (m d : Nat) (a1 : Int32) (g : a2_G) (r : a2_A) : ev L xs (m + 1) (d + 1) 62 [.ref 1, .int a1] g r = (if am_c2 .ge (g 103) (g 102) = true then (B62_40 L xs (m + 1) d m a1 g r) else (if am_inr (g 103) (r 100).1 = true then (if am_c2 .ne ((r 100).2 ((g 103) : Int32).toNatClampNeg) 0 = true then (B62_40 L xs (m + 1) d m a1 g r) else (if am_inr (g 103) (r 101).1 = true then (if am_c2 .ne ((r 101).2 ((g 103) : Int32).toNatClampNeg) a1 = true then (B62_40 L xs (m + 1) d m a1 g r) else (B62_41 L xs (m + 1) d m a1 1 g r)) else none)) else none)) := (fs_ev (M := nm_m62) rfl rfl).trans (e62 L xs (m + 1) d m 869 a1 g r)
/-- CobolParser$Tree.append(II)V -/
def B63_24 (L : Nat) (xs : Nat → Int32) (m d k : Nat) (x1 x2 : Int32) (g : a2_G) (r : a2_A) : Option fn_Z := (some (.inl none, g, r))
theorem b63_24 (L : Nat) (xs : Nat → Int32) (m d k : Nat) (n : Nat) (x1 x2 : Int32) (g : a2_G) (r : a2_A) : bk L xs 63 nm_m63 m d k (n + 1) 24 [some (.ref 2), some (.int x1), some (.int x2), none, none] [] g r = B63_24 L xs m d k x1 x2 g r := by
  show _ = ((some (.inl none, g, r)) : Option fn_Z)
  exact (fs_rv (n := n + 0) rfl rfl).trans rfl
def B63_81 (L : Nat) (xs : Nat → Int32) (m d k : Nat) (x1 x2 x3 x4 : Int32) (g : a2_G) (r : a2_A) : Option fn_Z := (if am_inr (x3 + 6) (r 200).1 = true then (if am_inr (x3 + 8) (r 200).1 = true then (if am_inr (x3 + 8) (r 200).1 = true then (if am_inr ((x2 * 12) + 4) (r 200).1 = true then (some (.inl none, g, (a2_ua (a2_ua (a2_ua r 200 ((r 200).1, (upd (r 200).2 ((x3 + 6) : Int32).toNatClampNeg x2))) 200 ((r 200).1, (upd (upd (r 200).2 ((x3 + 6) : Int32).toNatClampNeg x2) ((x3 + 8) : Int32).toNatClampNeg (((upd (r 200).2 ((x3 + 6) : Int32).toNatClampNeg x2) ((x3 + 8) : Int32).toNatClampNeg) + 1)))) 200 ((r 200).1, (upd (upd (upd (r 200).2 ((x3 + 6) : Int32).toNatClampNeg x2) ((x3 + 8) : Int32).toNatClampNeg (((upd (r 200).2 ((x3 + 6) : Int32).toNatClampNeg x2) ((x3 + 8) : Int32).toNatClampNeg) + 1)) (((x2 * 12) + 4) : Int32).toNatClampNeg x1))))) else none) else none) else none) else none)
theorem b63_81 (L : Nat) (xs : Nat → Int32) (m d k : Nat) (n : Nat) (x1 x2 x3 x4 : Int32) (g : a2_G) (r : a2_A) : bk L xs 63 nm_m63 m d k (n + 27) 81 [some (.ref 2), some (.int x1), some (.int x2), some (.int x3), some (.int x4)] [] g r = B63_81 L xs m d k x1 x2 x3 x4 g r := by
  show _ = ((if am_inr (x3 + 6) (r 200).1 = true then (if am_inr (x3 + 8) (r 200).1 = true then (if am_inr (x3 + 8) (r 200).1 = true then (if am_inr ((x2 * 12) + 4) (r 200).1 = true then (some (.inl none, g, (a2_ua (a2_ua (a2_ua r 200 ((r 200).1, (upd (r 200).2 ((x3 + 6) : Int32).toNatClampNeg x2))) 200 ((r 200).1, (upd (upd (r 200).2 ((x3 + 6) : Int32).toNatClampNeg x2) ((x3 + 8) : Int32).toNatClampNeg (((upd (r 200).2 ((x3 + 6) : Int32).toNatClampNeg x2) ((x3 + 8) : Int32).toNatClampNeg) + 1)))) 200 ((r 200).1, (upd (upd (upd (r 200).2 ((x3 + 6) : Int32).toNatClampNeg x2) ((x3 + 8) : Int32).toNatClampNeg (((upd (r 200).2 ((x3 + 6) : Int32).toNatClampNeg x2) ((x3 + 8) : Int32).toNatClampNeg) + 1)) (((x2 * 12) + 4) : Int32).toNatClampNeg x1))))) else none) else none) else none) else none) : Option fn_Z)
  refine (fs_r (n := n + 21) 6 (pc' := 90) (L' := [some (.ref 2), some (.int x1), some (.int x2), some (.int x3), some (.int x4)]) (S' := [.int x2, .int (x3 + 6), .ref 10200]) rfl).trans ?_
  refine (fs_is (n := n + 20) (k := 200) rfl rfl).trans (fs_ite ?_ rfl)
  refine (fs_r (n := n + 14) 6 (pc' := 100) (L' := [some (.ref 2), some (.int x1), some (.int x2), some (.int x3), some (.int x4)]) (S' := [.int (x3 + 8), .ref 10200, .int (x3 + 8), .ref 10200]) rfl).trans ?_
  refine (fs_il (n := n + 13) (k := 200) rfl rfl).trans (fs_ite ?_ rfl)
  refine (fs_r (n := n + 11) 2 (pc' := 103) (L' := [some (.ref 2), some (.int x1), some (.int x2), some (.int x3), some (.int x4)]) (S' := [.int (((upd (r 200).2 ((x3 + 6) : Int32).toNatClampNeg x2) ((x3 + 8) : Int32).toNatClampNeg) + 1), .int (x3 + 8), .ref 10200]) rfl).trans ?_
  refine (fs_is (n := n + 10) (k := 200) rfl rfl).trans (fs_ite ?_ rfl)
  refine (fs_r (n := n + 2) 8 (pc' := 115) (L' := [some (.ref 2), some (.int x1), some (.int x2), some (.int x3), some (.int x4)]) (S' := [.int x1, .int ((x2 * 12) + 4), .ref 10200]) rfl).trans ?_
  refine (fs_is (n := n + 1) (k := 200) rfl rfl).trans (fs_ite ?_ rfl)
  exact (fs_rv (n := n + 0) rfl rfl).trans rfl
def B63_72 (L : Nat) (xs : Nat → Int32) (m d k : Nat) (x1 x2 x3 x4 : Int32) (g : a2_G) (r : a2_A) : Option fn_Z := (if am_inr (x3 + 5) (r 200).1 = true then (B63_81 L xs m d k x1 x2 x3 x4 g (a2_ua r 200 ((r 200).1, (upd (r 200).2 ((x3 + 5) : Int32).toNatClampNeg x2)))) else none)
theorem b63_72 (L : Nat) (xs : Nat → Int32) (m d k : Nat) (n : Nat) (x1 x2 x3 x4 : Int32) (g : a2_G) (r : a2_A) : bk L xs 63 nm_m63 m d k (n + 34) 72 [some (.ref 2), some (.int x1), some (.int x2), some (.int x3), some (.int x4)] [] g r = B63_72 L xs m d k x1 x2 x3 x4 g r := by
  show _ = ((if am_inr (x3 + 5) (r 200).1 = true then (B63_81 L xs m d k x1 x2 x3 x4 g (a2_ua r 200 ((r 200).1, (upd (r 200).2 ((x3 + 5) : Int32).toNatClampNeg x2)))) else none) : Option fn_Z)
  refine (fs_r (n := n + 28) 6 (pc' := 80) (L' := [some (.ref 2), some (.int x1), some (.int x2), some (.int x3), some (.int x4)]) (S' := [.int x2, .int (x3 + 5), .ref 10200]) rfl).trans ?_
  refine (fs_is (n := n + 27) (k := 200) rfl rfl).trans (fs_ite ?_ rfl)
  exact b63_81 L xs m d k (n + 0) x1 x2 x3 x4 g (a2_ua r 200 ((r 200).1, (upd (r 200).2 ((x3 + 5) : Int32).toNatClampNeg x2)))
theorem e63 (L : Nat) (xs : Nat → Int32) (m d k : Nat) (n : Nat) (a1 a2 : Int32) (g : a2_G) (r : a2_A) : bk L xs 63 nm_m63 m d k (n + 66) 0 [some (.ref 2), some (.int a1), some (.int a2), none, none] [] g r = (if am_c2 .lt a1 0 = true then (B63_24 L xs m d k a1 a2 g r) else (if am_c2 .ge a1 (g 201) = true then (B63_24 L xs m d k a1 a2 g r) else (if am_c2 .lt a2 0 = true then (B63_24 L xs m d k a1 a2 g r) else (if am_c2 .lt a2 (g 201) = true then (if am_inr ((a1 * 12) + 6) (r 200).1 = true then (if am_c2 .lt ((r 200).2 (((a1 * 12) + 6) : Int32).toNatClampNeg) 0 = true then (B63_72 L xs m d k a1 a2 (a1 * 12) ((r 200).2 (((a1 * 12) + 6) : Int32).toNatClampNeg) g r) else (if am_c2 .ge ((r 200).2 (((a1 * 12) + 6) : Int32).toNatClampNeg) (g 201) = true then (B63_72 L xs m d k a1 a2 (a1 * 12) ((r 200).2 (((a1 * 12) + 6) : Int32).toNatClampNeg) g r) else (if am_inr ((((r 200).2 (((a1 * 12) + 6) : Int32).toNatClampNeg) * 12) + 7) (r 200).1 = true then (B63_81 L xs m d k a1 a2 (a1 * 12) ((r 200).2 (((a1 * 12) + 6) : Int32).toNatClampNeg) g (a2_ua r 200 ((r 200).1, (upd (r 200).2 (((((r 200).2 (((a1 * 12) + 6) : Int32).toNatClampNeg) * 12) + 7) : Int32).toNatClampNeg a2)))) else none))) else none) else (B63_24 L xs m d k a1 a2 g r))))) := by
  refine (fs_r (n := n + 65) 1 (pc' := 1) (L' := [some (.ref 2), some (.int a1), some (.int a2), none, none]) (S' := [.int a1]) rfl).trans ?_
  refine (fs_i (n := n + 64) rfl (t := 24) rfl (by decide)).trans (fs_ite ?_ ?_)
  · skip
    exact b63_24 L xs m d k (n + 63) a1 a2 g r
  · skip
    refine (fs_r (n := n + 61) 3 (pc' := 9) (L' := [some (.ref 2), some (.int a1), some (.int a2), none, none]) (S' := [.int (g 201), .int a1]) rfl).trans ?_
    refine (fs_j (n := n + 60) rfl (t := 24) rfl (by decide)).trans (fs_ite ?_ ?_)
    · skip
      exact b63_24 L xs m d k (n + 59) a1 a2 g r
    · skip
      refine (fs_r (n := n + 59) 1 (pc' := 13) (L' := [some (.ref 2), some (.int a1), some (.int a2), none, none]) (S' := [.int a2]) rfl).trans ?_
      refine (fs_i (n := n + 58) rfl (t := 24) rfl (by decide)).trans (fs_ite ?_ ?_)
      · skip
        exact b63_24 L xs m d k (n + 57) a1 a2 g r
      · skip
        refine (fs_r (n := n + 55) 3 (pc' := 21) (L' := [some (.ref 2), some (.int a1), some (.int a2), none, none]) (S' := [.int (g 201), .int a2]) rfl).trans ?_
        refine (fs_j (n := n + 54) rfl (t := 25) rfl (by decide)).trans (fs_ite ?_ ?_)
        · skip
          refine (fs_r (n := n + 45) 9 (pc' := 38) (L' := [some (.ref 2), some (.int a1), some (.int a2), some (.int (a1 * 12)), none]) (S' := [.int ((a1 * 12) + 6), .ref 10200]) rfl).trans ?_
          refine (fs_il (n := n + 44) (k := 200) rfl rfl).trans (fs_ite ?_ rfl)
          refine (fs_r (n := n + 42) 2 (pc' := 43) (L' := [some (.ref 2), some (.int a1), some (.int a2), some (.int (a1 * 12)), some (.int ((r 200).2 (((a1 * 12) + 6) : Int32).toNatClampNeg))]) (S' := [.int ((r 200).2 (((a1 * 12) + 6) : Int32).toNatClampNeg)]) rfl).trans ?_
          refine (fs_i (n := n + 41) rfl (t := 72) rfl (by decide)).trans (fs_ite ?_ ?_)
          · skip
            exact b63_72 L xs m d k (n + 7) a1 a2 (a1 * 12) ((r 200).2 (((a1 * 12) + 6) : Int32).toNatClampNeg) g r
          · skip
            refine (fs_r (n := n + 38) 3 (pc' := 52) (L' := [some (.ref 2), some (.int a1), some (.int a2), some (.int (a1 * 12)), some (.int ((r 200).2 (((a1 * 12) + 6) : Int32).toNatClampNeg))]) (S' := [.int (g 201), .int ((r 200).2 (((a1 * 12) + 6) : Int32).toNatClampNeg)]) rfl).trans ?_
            refine (fs_j (n := n + 37) rfl (t := 72) rfl (by decide)).trans (fs_ite ?_ ?_)
            · skip
              exact b63_72 L xs m d k (n + 3) a1 a2 (a1 * 12) ((r 200).2 (((a1 * 12) + 6) : Int32).toNatClampNeg) g r
            · skip
              refine (fs_r (n := n + 29) 8 (pc' := 68) (L' := [some (.ref 2), some (.int a1), some (.int a2), some (.int (a1 * 12)), some (.int ((r 200).2 (((a1 * 12) + 6) : Int32).toNatClampNeg))]) (S' := [.int a2, .int ((((r 200).2 (((a1 * 12) + 6) : Int32).toNatClampNeg) * 12) + 7), .ref 10200]) rfl).trans ?_
              refine (fs_is (n := n + 28) (k := 200) rfl rfl).trans (fs_ite ?_ rfl)
              refine (fs_go (n := n + 27) rfl (t := 81) rfl (by decide)).trans ?_
              exact b63_81 L xs m d k (n + 0) a1 a2 (a1 * 12) ((r 200).2 (((a1 * 12) + 6) : Int32).toNatClampNeg) g (a2_ua r 200 ((r 200).1, (upd (r 200).2 (((((r 200).2 (((a1 * 12) + 6) : Int32).toNatClampNeg) * 12) + 7) : Int32).toNatClampNeg a2)))
        · skip
          exact b63_24 L xs m d k (n + 53) a1 a2 g r
theorem q63 (L : Nat) (xs : Nat → Int32) (m d : Nat) (a1 a2 : Int32) (g : a2_G) (r : a2_A) : ev L xs (m + 1) (d + 1) 63 [.ref 2, .int a1, .int a2] g r = (if am_c2 .lt a1 0 = true then (B63_24 L xs (m + 1) d m a1 a2 g r) else (if am_c2 .ge a1 (g 201) = true then (B63_24 L xs (m + 1) d m a1 a2 g r) else (if am_c2 .lt a2 0 = true then (B63_24 L xs (m + 1) d m a1 a2 g r) else (if am_c2 .lt a2 (g 201) = true then (if am_inr ((a1 * 12) + 6) (r 200).1 = true then (if am_c2 .lt ((r 200).2 (((a1 * 12) + 6) : Int32).toNatClampNeg) 0 = true then (B63_72 L xs (m + 1) d m a1 a2 (a1 * 12) ((r 200).2 (((a1 * 12) + 6) : Int32).toNatClampNeg) g r) else (if am_c2 .ge ((r 200).2 (((a1 * 12) + 6) : Int32).toNatClampNeg) (g 201) = true then (B63_72 L xs (m + 1) d m a1 a2 (a1 * 12) ((r 200).2 (((a1 * 12) + 6) : Int32).toNatClampNeg) g r) else (if am_inr ((((r 200).2 (((a1 * 12) + 6) : Int32).toNatClampNeg) * 12) + 7) (r 200).1 = true then (B63_81 L xs (m + 1) d m a1 a2 (a1 * 12) ((r 200).2 (((a1 * 12) + 6) : Int32).toNatClampNeg) g (a2_ua r 200 ((r 200).1, (upd (r 200).2 (((((r 200).2 (((a1 * 12) + 6) : Int32).toNatClampNeg) * 12) + 7) : Int32).toNatClampNeg a2)))) else none))) else none) else (B63_24 L xs (m + 1) d m a1 a2 g r))))) := (fs_ev (M := nm_m63) rfl rfl).trans (e63 L xs (m + 1) d m 834 a1 a2 g r)
/-- CobolParser$Clauses.enterBody()V -/
def B64_21 (L : Nat) (xs : Nat → Int32) (m d k : Nat) (g : a2_G) (r : a2_A) : Option fn_Z := (some (.inl none, g, r))
theorem b64_21 (L : Nat) (xs : Nat → Int32) (m d k : Nat) (n : Nat) (g : a2_G) (r : a2_A) : bk L xs 64 nm_m64 m d k (n + 1) 21 [some (.ref 6)] [] g r = B64_21 L xs m d k g r := by
  show _ = ((some (.inl none, g, r)) : Option fn_Z)
  exact (fs_rv (n := n + 0) rfl rfl).trans rfl
theorem e64 (L : Nat) (xs : Nat → Int32) (m d k : Nat) (n : Nat) (g : a2_G) (r : a2_A) : bk L xs 64 nm_m64 m d k (n + 10) 0 [some (.ref 6)] [] g r = (fn_v (ev L xs m d 54 [.ref 8] g r) fun v3 g1 r2 => (if am_c2 .eq v3 9 = true then (B64_21 L xs m d k g1 r2) else (fn_n (ev L xs m d 65 [.ref 8, .int 11] g1 r2) fun g4 r5 => (B64_21 L xs m d k g4 r5)))) := by
  refine (fs_r (n := n + 8) 2 (pc' := 4) (L' := [some (.ref 6)]) (S' := [.ref 8]) rfl).trans ?_
  refine (fs_cv (n := n + 7) (N := nm_m54) (as := [.ref 8]) (rest := []) rfl rfl (Or.inl rfl) rfl rfl rfl rfl rfl).trans (fs_fv fun v3 g1 r2 => ?_)
  refine (fs_r (n := n + 6) 1 (pc' := 9) (L' := [some (.ref 6)]) (S' := [.int 9, .int v3]) rfl).trans ?_
  refine (fs_j (n := n + 5) rfl (t := 21) rfl (by decide)).trans (fs_ite ?_ ?_)
  · skip
    exact b64_21 L xs m d k (n + 4) g1 r2
  · skip
    refine (fs_r (n := n + 2) 3 (pc' := 18) (L' := [some (.ref 6)]) (S' := [.int 11, .ref 8]) rfl).trans ?_
    refine (fs_cn (n := n + 1) (N := nm_m65) (as := [.ref 8, .int 11]) (rest := []) rfl rfl (Or.inl rfl) rfl rfl rfl rfl rfl).trans (fs_fn fun g4 r5 => ?_)
    exact b64_21 L xs m d k (n + 0) g4 r5
theorem q64 (L : Nat) (xs : Nat → Int32) (m d : Nat) (g : a2_G) (r : a2_A) : ev L xs (m + 1) (d + 1) 64 [.ref 6] g r = (fn_v (ev L xs (m + 1) d 54 [.ref 8] g r) fun v3 g1 r2 => (if am_c2 .eq v3 9 = true then (B64_21 L xs (m + 1) d m g1 r2) else (fn_n (ev L xs (m + 1) d 65 [.ref 8, .int 11] g1 r2) fun g4 r5 => (B64_21 L xs (m + 1) d m g4 r5)))) := (fs_ev (M := nm_m64) rfl rfl).trans (e64 L xs (m + 1) d m 890 g r)
/-- CobolParser$Units.setState(I)V -/
def B65_19 (L : Nat) (xs : Nat → Int32) (m d k : Nat) (x1 : Int32) (g : a2_G) (r : a2_A) : Option fn_Z := (some (.inl none, g, r))
theorem b65_19 (L : Nat) (xs : Nat → Int32) (m d k : Nat) (n : Nat) (x1 : Int32) (g : a2_G) (r : a2_A) : bk L xs 65 nm_m65 m d k (n + 1) 19 [some (.ref 8), some (.int x1)] [] g r = B65_19 L xs m d k x1 g r := by
  show _ = ((some (.inl none, g, r)) : Option fn_Z)
  exact (fs_rv (n := n + 0) rfl rfl).trans rfl
theorem e65 (L : Nat) (xs : Nat → Int32) (m d k : Nat) (n : Nat) (a1 : Int32) (g : a2_G) (r : a2_A) : bk L xs 65 nm_m65 m d k (n + 12) 0 [some (.ref 8), some (.int a1)] [] g r = (if am_c2 .le (g 804) 0 = true then (B65_19 L xs m d k a1 g r) else (if am_inr ((g 804) - 1) (r 800).1 = true then (B65_19 L xs m d k a1 g (a2_ua r 800 ((r 800).1, (upd (r 800).2 (((g 804) - 1) : Int32).toNatClampNeg a1)))) else none)) := by
  refine (fs_r (n := n + 10) 2 (pc' := 4) (L' := [some (.ref 8), some (.int a1)]) (S' := [.int (g 804)]) rfl).trans ?_
  refine (fs_i (n := n + 9) rfl (t := 19) rfl (by decide)).trans (fs_ite ?_ ?_)
  · skip
    exact b65_19 L xs m d k (n + 8) a1 g r
  · skip
    refine (fs_r (n := n + 2) 7 (pc' := 18) (L' := [some (.ref 8), some (.int a1)]) (S' := [.int a1, .int ((g 804) - 1), .ref 10800]) rfl).trans ?_
    refine (fs_is (n := n + 1) (k := 800) rfl rfl).trans (fs_ite ?_ rfl)
    exact b65_19 L xs m d k (n + 0) a1 g (a2_ua r 800 ((r 800).1, (upd (r 800).2 (((g 804) - 1) : Int32).toNatClampNeg a1)))
theorem q65 (L : Nat) (xs : Nat → Int32) (m d : Nat) (a1 : Int32) (g : a2_G) (r : a2_A) : ev L xs (m + 1) (d + 1) 65 [.ref 8, .int a1] g r = (if am_c2 .le (g 804) 0 = true then (B65_19 L xs (m + 1) d m a1 g r) else (if am_inr ((g 804) - 1) (r 800).1 = true then (B65_19 L xs (m + 1) d m a1 g (a2_ua r 800 ((r 800).1, (upd (r 800).2 (((g 804) - 1) : Int32).toNatClampNeg a1)))) else none)) := (fs_ev (M := nm_m65) rfl rfl).trans (e65 L xs (m + 1) d m 888 a1 g r)
/-- CobolParser$Items.readItem()V -/
def B66_104 (L : Nat) (xs : Nat → Int32) (m d k : Nat) (x1 x2 x3 x4 : Int32) (g : a2_G) (r : a2_A) : Option fn_Z := (fn_v (ev L xs m d 59 [.ref 1, .int 4] g r) fun v22 g20 r21 => (fn_n (ev L xs m d 84 [.ref 7, .int x3, .int x1, .int x2] g20 r21) fun g23 r24 => (some (.inl none, g23, r24))))
theorem b66_104 (L : Nat) (xs : Nat → Int32) (m d k : Nat) (n : Nat) (x1 x2 x3 x4 : Int32) (g : a2_G) (r : a2_A) : bk L xs 66 nm_m66 m d k (n + 11) 104 [some (.ref 7), some (.int x1), some (.int x2), some (.int x3), some (.int x4)] [] g r = B66_104 L xs m d k x1 x2 x3 x4 g r := by
  show _ = ((fn_v (ev L xs m d 59 [.ref 1, .int 4] g r) fun v22 g20 r21 => (fn_n (ev L xs m d 84 [.ref 7, .int x3, .int x1, .int x2] g20 r21) fun g23 r24 => (some (.inl none, g23, r24)))) : Option fn_Z)
  refine (fs_r (n := n + 8) 3 (pc' := 109) (L' := [some (.ref 7), some (.int x1), some (.int x2), some (.int x3), some (.int x4)]) (S' := [.int 4, .ref 1]) rfl).trans ?_
  refine (fs_cv (n := n + 7) (N := nm_m59) (as := [.ref 1, .int 4]) (rest := []) rfl rfl (Or.inl rfl) rfl rfl rfl rfl rfl).trans (fs_fv fun v22 g20 r21 => ?_)
  refine (fs_r (n := n + 2) 5 (pc' := 117) (L' := [some (.ref 7), some (.int x1), some (.int x2), some (.int x3), some (.int x4)]) (S' := [.int x2, .int x1, .int x3, .ref 7]) rfl).trans ?_
  refine (fs_cn (n := n + 1) (N := nm_m84) (as := [.ref 7, .int x3, .int x1, .int x2]) (rest := []) rfl rfl (Or.inl rfl) rfl rfl rfl rfl rfl).trans (fs_fn fun g23 r24 => ?_)
  exact (fs_rv (n := n + 0) rfl rfl).trans rfl
def B66_74 (L : Nat) (xs : Nat → Int32) (m d k : Nat) (x1 x2 x3 x4 : Int32) (g : a2_G) (r : a2_A) : Option fn_Z := (if am_c2 .ge x4 1500 = true then (B66_104 L xs m d k x1 x2 x3 x4 g r) else (fn_v (ev L xs m d 50 [.ref 1, .int 4] g r) fun v27 g25 r26 => (if am_c2 .ne v27 0 = true then (B66_104 L xs m d k x1 x2 x3 x4 g25 r26) else (fn_n (ev L xs m d 70 [.ref 7, .int x3] g25 r26) fun g28 r29 => (lp L xs 66 nm_m66 m d k 74 [some (.ref 7), some (.int x1), some (.int x2), some (.int x3), some (.int (x4 + 1))] g28 r29)))))
theorem b66_74 (L : Nat) (xs : Nat → Int32) (m d k : Nat) (n : Nat) (x1 x2 x3 x4 : Int32) (g : a2_G) (r : a2_A) : bk L xs 66 nm_m66 m d k (n + 19) 74 [some (.ref 7), some (.int x1), some (.int x2), some (.int x3), some (.int x4)] [] g r = B66_74 L xs m d k x1 x2 x3 x4 g r := by
  show _ = ((if am_c2 .ge x4 1500 = true then (B66_104 L xs m d k x1 x2 x3 x4 g r) else (fn_v (ev L xs m d 50 [.ref 1, .int 4] g r) fun v27 g25 r26 => (if am_c2 .ne v27 0 = true then (B66_104 L xs m d k x1 x2 x3 x4 g25 r26) else (fn_n (ev L xs m d 70 [.ref 7, .int x3] g25 r26) fun g28 r29 => (lp L xs 66 nm_m66 m d k 74 [some (.ref 7), some (.int x1), some (.int x2), some (.int x3), some (.int (x4 + 1))] g28 r29))))) : Option fn_Z)
  refine (fs_r (n := n + 17) 2 (pc' := 79) (L' := [some (.ref 7), some (.int x1), some (.int x2), some (.int x3), some (.int x4)]) (S' := [.int 1500, .int x4]) rfl).trans ?_
  refine (fs_j (n := n + 16) rfl (t := 104) rfl (by decide)).trans (fs_ite ?_ ?_)
  · skip
    exact b66_104 L xs m d k (n + 5) x1 x2 x3 x4 g r
  · skip
    refine (fs_r (n := n + 13) 3 (pc' := 87) (L' := [some (.ref 7), some (.int x1), some (.int x2), some (.int x3), some (.int x4)]) (S' := [.int 4, .ref 1]) rfl).trans ?_
    refine (fs_cv (n := n + 12) (N := nm_m50) (as := [.ref 1, .int 4]) (rest := []) rfl rfl (Or.inl rfl) rfl rfl rfl rfl rfl).trans (fs_fv fun v27 g25 r26 => ?_)
    refine (fs_i (n := n + 11) rfl (t := 104) rfl (by decide)).trans (fs_ite ?_ ?_)
    · skip
      exact b66_104 L xs m d k (n + 0) x1 x2 x3 x4 g25 r26
    · skip
      refine (fs_r (n := n + 9) 2 (pc' := 95) (L' := [some (.ref 7), some (.int x1), some (.int x2), some (.int x3), some (.int x4)]) (S' := [.int x3, .ref 7]) rfl).trans ?_
      refine (fs_cn (n := n + 8) (N := nm_m70) (as := [.ref 7, .int x3]) (rest := []) rfl rfl (Or.inl rfl) rfl rfl rfl rfl rfl).trans (fs_fn fun g28 r29 => ?_)
      refine (fs_r (n := n + 7) 1 (pc' := 101) (L' := [some (.ref 7), some (.int x1), some (.int x2), some (.int x3), some (.int (x4 + 1))]) (S' := []) rfl).trans ?_
      exact (fs_gb (n := n + 6) rfl (t := 74) rfl (by decide)).trans rfl
theorem l66_74 (L : Nat) (xs : Nat → Int32) (m d k : Nat) (x1 x2 x3 x4 : Int32) (g : a2_G) (r : a2_A) : lp L xs 66 nm_m66 m d (k + 1) 74 [some (.ref 7), some (.int x1), some (.int x2), some (.int x3), some (.int x4)] g r = B66_74 L xs m d k x1 x2 x3 x4 g r := fs_lp.trans (b66_74 L xs m d k 881 x1 x2 x3 x4 g r)
def B66_27 (L : Nat) (xs : Nat → Int32) (m d k : Nat) (x1 x2 : Int32) (g : a2_G) (r : a2_A) : Option fn_Z := (fn_v (ev L xs m d 58 [.ref 1] g r) fun v9 g7 r8 => (fn_v (ev L xs m d 45 [.ref 2, .int 12, .int 0, .int v9] g7 r8) fun v12 g10 r11 => (fn_n (ev L xs m d 61 [.ref 1] g10 r11) fun g13 r14 => (fn_v (ev L xs m d 68 [.ref 7] g13 r14) fun v17 g15 r16 => (fn_n (ev L xs m d 69 [.ref 2, .int v12, .int 1, .int ((1000 * x1) + v17)] g15 r16) fun g18 r19 => (B66_74 L xs m d k x1 x2 v12 0 g18 r19))))))
theorem b66_27 (L : Nat) (xs : Nat → Int32) (m d k : Nat) (n : Nat) (x1 x2 : Int32) (g : a2_G) (r : a2_A) : bk L xs 66 nm_m66 m d k (n + 44) 27 [some (.ref 7), some (.int x1), some (.int x2), none, none] [] g r = B66_27 L xs m d k x1 x2 g r := by
  show _ = ((fn_v (ev L xs m d 58 [.ref 1] g r) fun v9 g7 r8 => (fn_v (ev L xs m d 45 [.ref 2, .int 12, .int 0, .int v9] g7 r8) fun v12 g10 r11 => (fn_n (ev L xs m d 61 [.ref 1] g10 r11) fun g13 r14 => (fn_v (ev L xs m d 68 [.ref 7] g13 r14) fun v17 g15 r16 => (fn_n (ev L xs m d 69 [.ref 2, .int v12, .int 1, .int ((1000 * x1) + v17)] g15 r16) fun g18 r19 => (B66_74 L xs m d k x1 x2 v12 0 g18 r19)))))) : Option fn_Z)
  refine (fs_r (n := n + 38) 6 (pc' := 38) (L' := [some (.ref 7), some (.int x1), some (.int x2), none, none]) (S' := [.ref 1, .int 0, .int 12, .ref 2]) rfl).trans ?_
  refine (fs_cv (n := n + 37) (N := nm_m58) (as := [.ref 1]) (rest := [.int 0, .int 12, .ref 2]) rfl rfl (Or.inl rfl) rfl rfl rfl rfl rfl).trans (fs_fv fun v9 g7 r8 => ?_)
  refine (fs_cv (n := n + 36) (N := nm_m45) (as := [.ref 2, .int 12, .int 0, .int v9]) (rest := []) rfl rfl (Or.inl rfl) rfl rfl rfl rfl rfl).trans (fs_fv fun v12 g10 r11 => ?_)
  refine (fs_r (n := n + 33) 3 (pc' := 49) (L' := [some (.ref 7), some (.int x1), some (.int x2), some (.int v12), none]) (S' := [.ref 1]) rfl).trans ?_
  refine (fs_cn (n := n + 32) (N := nm_m61) (as := [.ref 1]) (rest := []) rfl rfl (Or.inl rfl) rfl rfl rfl rfl rfl).trans (fs_fn fun g13 r14 => ?_)
  refine (fs_r (n := n + 24) 8 (pc' := 64) (L' := [some (.ref 7), some (.int x1), some (.int x2), some (.int v12), none]) (S' := [.ref 7, .int (1000 * x1), .int 1, .int v12, .ref 2]) rfl).trans ?_
  refine (fs_cv (n := n + 23) (N := nm_m68) (as := [.ref 7]) (rest := [.int (1000 * x1), .int 1, .int v12, .ref 2]) rfl rfl (Or.inl rfl) rfl rfl rfl rfl rfl).trans (fs_fv fun v17 g15 r16 => ?_)
  refine (fs_r (n := n + 22) 1 (pc' := 68) (L' := [some (.ref 7), some (.int x1), some (.int x2), some (.int v12), none]) (S' := [.int ((1000 * x1) + v17), .int 1, .int v12, .ref 2]) rfl).trans ?_
  refine (fs_cn (n := n + 21) (N := nm_m69) (as := [.ref 2, .int v12, .int 1, .int ((1000 * x1) + v17)]) (rest := []) rfl rfl (Or.inl rfl) rfl rfl rfl rfl rfl).trans (fs_fn fun g18 r19 => ?_)
  refine (fs_r (n := n + 19) 2 (pc' := 74) (L' := [some (.ref 7), some (.int x1), some (.int x2), some (.int v12), some (.int 0)]) (S' := []) rfl).trans ?_
  exact b66_74 L xs m d k (n + 0) x1 x2 v12 0 g18 r19
theorem e66 (L : Nat) (xs : Nat → Int32) (m d k : Nat) (n : Nat) (g : a2_G) (r : a2_A) : bk L xs 66 nm_m66 m d k (n + 59) 0 [some (.ref 7), none, none, none, none] [] g r = (fn_v (ev L xs m d 60 [.ref 1] g r) fun v3 g1 r2 => (fn_v (ev L xs m d 67 [.ref 7, .int v3] g1 r2) fun v6 g4 r5 => (if am_c2 .ne v6 (-1) = true then (B66_27 L xs m d k v3 v6 g4 r5) else (fn_n (ev L xs m d 56 [.ref 1, .int 1] g4 r5) fun g30 r31 => (B66_27 L xs m d k v3 v6 g30 r31))))) := by
  refine (fs_r (n := n + 57) 2 (pc' := 4) (L' := [some (.ref 7), none, none, none, none]) (S' := [.ref 1]) rfl).trans ?_
  refine (fs_cv (n := n + 56) (N := nm_m60) (as := [.ref 1]) (rest := []) rfl rfl (Or.inl rfl) rfl rfl rfl rfl rfl).trans (fs_fv fun v3 g1 r2 => ?_)
  refine (fs_r (n := n + 53) 3 (pc' := 10) (L' := [some (.ref 7), some (.int v3), none, none, none]) (S' := [.int v3, .ref 7]) rfl).trans ?_
  refine (fs_cv (n := n + 52) (N := nm_m67) (as := [.ref 7, .int v3]) (rest := []) rfl rfl (Or.inl rfl) rfl rfl rfl rfl rfl).trans (fs_fv fun v6 g4 r5 => ?_)
  refine (fs_r (n := n + 49) 3 (pc' := 16) (L' := [some (.ref 7), some (.int v3), some (.int v6), none, none]) (S' := [.int (-1), .int v6]) rfl).trans ?_
  refine (fs_j (n := n + 48) rfl (t := 27) rfl (by decide)).trans (fs_ite ?_ ?_)
  · skip
    exact b66_27 L xs m d k (n + 4) v3 v6 g4 r5
  · skip
    refine (fs_r (n := n + 45) 3 (pc' := 24) (L' := [some (.ref 7), some (.int v3), some (.int v6), none, none]) (S' := [.int 1, .ref 1]) rfl).trans ?_
    refine (fs_cn (n := n + 44) (N := nm_m56) (as := [.ref 1, .int 1]) (rest := []) rfl rfl (Or.inl rfl) rfl rfl rfl rfl rfl).trans (fs_fn fun g30 r31 => ?_)
    exact b66_27 L xs m d k (n + 0) v3 v6 g30 r31
theorem q66 (L : Nat) (xs : Nat → Int32) (m d : Nat) (g : a2_G) (r : a2_A) : ev L xs (m + 1) (d + 1) 66 [.ref 7] g r = (fn_v (ev L xs (m + 1) d 60 [.ref 1] g r) fun v3 g1 r2 => (fn_v (ev L xs (m + 1) d 67 [.ref 7, .int v3] g1 r2) fun v6 g4 r5 => (if am_c2 .ne v6 (-1) = true then (B66_27 L xs (m + 1) d m v3 v6 g4 r5) else (fn_n (ev L xs (m + 1) d 56 [.ref 1, .int 1] g4 r5) fun g30 r31 => (B66_27 L xs (m + 1) d m v3 v6 g30 r31))))) := (fs_ev (M := nm_m66) rfl rfl).trans (e66 L xs (m + 1) d m 841 g r)
/-- CobolParser$Items.keptOpen(I)I -/
def B67_11 (L : Nat) (xs : Nat → Int32) (m d k : Nat) (x1 : Int32) (g : a2_G) (r : a2_A) : Option fn_Z := (some (.inl (some (.int 0)), g, r))
theorem b67_11 (L : Nat) (xs : Nat → Int32) (m d k : Nat) (n : Nat) (x1 : Int32) (g : a2_G) (r : a2_A) : bk L xs 67 nm_m67 m d k (n + 2) 11 [some (.ref 7), some (.int x1), none] [] g r = B67_11 L xs m d k x1 g r := by
  show _ = ((some (.inl (some (.int 0)), g, r)) : Option fn_Z)
  refine (fs_r (n := n + 1) 1 (pc' := 12) (L' := [some (.ref 7), some (.int x1), none]) (S' := [.int 0]) rfl).trans ?_
  exact (fs_ri (n := n + 0) rfl rfl).trans rfl
def B67_46 (L : Nat) (xs : Nat → Int32) (m d k : Nat) (x1 : Int32) (g : a2_G) (r : a2_A) : Option fn_Z := (some (.inl (some (.int (-1))), g, r))
theorem b67_46 (L : Nat) (xs : Nat → Int32) (m d k : Nat) (n : Nat) (x1 : Int32) (g : a2_G) (r : a2_A) : bk L xs 67 nm_m67 m d k (n + 2) 46 [some (.ref 7), some (.int x1), none] [] g r = B67_46 L xs m d k x1 g r := by
  show _ = ((some (.inl (some (.int (-1))), g, r)) : Option fn_Z)
  refine (fs_r (n := n + 1) 1 (pc' := 47) (L' := [some (.ref 7), some (.int x1), none]) (S' := [.int (-1)]) rfl).trans ?_
  exact (fs_ri (n := n + 0) rfl rfl).trans rfl
def B67_83 (L : Nat) (xs : Nat → Int32) (m d k : Nat) (x1 x2 : Int32) (g : a2_G) (r : a2_A) : Option fn_Z := (some (.inl (some (.int (-1))), g, r))
theorem b67_83 (L : Nat) (xs : Nat → Int32) (m d k : Nat) (n : Nat) (x1 x2 : Int32) (g : a2_G) (r : a2_A) : bk L xs 67 nm_m67 m d k (n + 2) 83 [some (.ref 7), some (.int x1), some (.int x2)] [] g r = B67_83 L xs m d k x1 x2 g r := by
  show _ = ((some (.inl (some (.int (-1))), g, r)) : Option fn_Z)
  refine (fs_r (n := n + 1) 1 (pc' := 84) (L' := [some (.ref 7), some (.int x1), some (.int x2)]) (S' := [.int (-1)]) rfl).trans ?_
  exact (fs_ri (n := n + 0) rfl rfl).trans rfl
def B67_53 (L : Nat) (xs : Nat → Int32) (m d k : Nat) (x1 x2 : Int32) (g : a2_G) (r : a2_A) : Option fn_Z := (if am_c2 .le x2 0 = true then (B67_83 L xs m d k x1 x2 g r) else (if am_c2 .gt x2 49 = true then (B67_83 L xs m d k x1 x2 g r) else (if am_inr (x2 - 1) (r 703).1 = true then (if am_c2 .ge ((r 703).2 ((x2 - 1) : Int32).toNatClampNeg) x1 = true then (lp L xs 67 nm_m67 m d k 53 [some (.ref 7), some (.int x1), some (.int (x2 + (-1)))] g r) else (some (.inl (some (.int x2)), g, r))) else none)))
theorem b67_53 (L : Nat) (xs : Nat → Int32) (m d k : Nat) (n : Nat) (x1 x2 : Int32) (g : a2_G) (r : a2_A) : bk L xs 67 nm_m67 m d k (n + 15) 53 [some (.ref 7), some (.int x1), some (.int x2)] [] g r = B67_53 L xs m d k x1 x2 g r := by
  show _ = ((if am_c2 .le x2 0 = true then (B67_83 L xs m d k x1 x2 g r) else (if am_c2 .gt x2 49 = true then (B67_83 L xs m d k x1 x2 g r) else (if am_inr (x2 - 1) (r 703).1 = true then (if am_c2 .ge ((r 703).2 ((x2 - 1) : Int32).toNatClampNeg) x1 = true then (lp L xs 67 nm_m67 m d k 53 [some (.ref 7), some (.int x1), some (.int (x2 + (-1)))] g r) else (some (.inl (some (.int x2)), g, r))) else none))) : Option fn_Z)
  refine (fs_r (n := n + 14) 1 (pc' := 54) (L' := [some (.ref 7), some (.int x1), some (.int x2)]) (S' := [.int x2]) rfl).trans ?_
  refine (fs_i (n := n + 13) rfl (t := 83) rfl (by decide)).trans (fs_ite ?_ ?_)
  · skip
    exact b67_83 L xs m d k (n + 11) x1 x2 g r
  · skip
    refine (fs_r (n := n + 11) 2 (pc' := 60) (L' := [some (.ref 7), some (.int x1), some (.int x2)]) (S' := [.int 49, .int x2]) rfl).trans ?_
    refine (fs_j (n := n + 10) rfl (t := 83) rfl (by decide)).trans (fs_ite ?_ ?_)
    · skip
      exact b67_83 L xs m d k (n + 8) x1 x2 g r
    · skip
      refine (fs_r (n := n + 5) 5 (pc' := 70) (L' := [some (.ref 7), some (.int x1), some (.int x2)]) (S' := [.int (x2 - 1), .ref 10703]) rfl).trans ?_
      refine (fs_il (n := n + 4) (k := 703) rfl rfl).trans (fs_ite ?_ rfl)
      refine (fs_r (n := n + 3) 1 (pc' := 72) (L' := [some (.ref 7), some (.int x1), some (.int x2)]) (S' := [.int x1, .int ((r 703).2 ((x2 - 1) : Int32).toNatClampNeg)]) rfl).trans ?_
      refine (fs_j (n := n + 2) rfl (t := 77) rfl (by decide)).trans (fs_ite ?_ ?_)
      · skip
        refine (fs_r (n := n + 1) 1 (pc' := 80) (L' := [some (.ref 7), some (.int x1), some (.int (x2 + (-1)))]) (S' := []) rfl).trans ?_
        exact (fs_gb (n := n + 0) rfl (t := 53) rfl (by decide)).trans rfl
      · skip
        refine (fs_r (n := n + 1) 1 (pc' := 76) (L' := [some (.ref 7), some (.int x1), some (.int x2)]) (S' := [.int x2]) rfl).trans ?_
        exact (fs_ri (n := n + 0) rfl rfl).trans rfl
theorem l67_53 (L : Nat) (xs : Nat → Int32) (m d k : Nat) (x1 x2 : Int32) (g : a2_G) (r : a2_A) : lp L xs 67 nm_m67 m d (k + 1) 53 [some (.ref 7), some (.int x1), some (.int x2)] g r = B67_53 L xs m d k x1 x2 g r := fs_lp.trans (b67_53 L xs m d k 885 x1 x2 g r)
def B67_34 (L : Nat) (xs : Nat → Int32) (m d k : Nat) (x1 x2 : Int32) (g : a2_G) (r : a2_A) : Option fn_Z := (some (.inl (some (.int x2)), g, r))
theorem b67_34 (L : Nat) (xs : Nat → Int32) (m d k : Nat) (n : Nat) (x1 x2 : Int32) (g : a2_G) (r : a2_A) : bk L xs 67 nm_m67 m d k (n + 1) 34 [some (.ref 7), some (.int x1), none] [.int x2] g r = B67_34 L xs m d k x1 x2 g r := by
  show _ = ((some (.inl (some (.int x2)), g, r)) : Option fn_Z)
  exact (fs_ri (n := n + 0) rfl rfl).trans rfl
theorem e67 (L : Nat) (xs : Nat → Int32) (m d k : Nat) (n : Nat) (a1 : Int32) (g : a2_G) (r : a2_A) : bk L xs 67 nm_m67 m d k (n + 33) 0 [some (.ref 7), some (.int a1), none] [] g r = (if am_c2 .eq a1 1 = true then (B67_11 L xs m d k a1 g r) else (if am_c2 .ne a1 77 = true then (if am_c2 .ne a1 88 = true then (if am_c2 .lt a1 1 = true then (B67_46 L xs m d k a1 g r) else (if am_c2 .le a1 49 = true then (B67_53 L xs m d k a1 (g 705) g r) else (B67_46 L xs m d k a1 g r))) else (if am_c2 .le (g 705) 0 = true then (B67_34 L xs m d k a1 (-1) g r) else (B67_34 L xs m d k a1 (g 705) g r))) else (B67_11 L xs m d k a1 g r))) := by
  refine (fs_r (n := n + 31) 2 (pc' := 2) (L' := [some (.ref 7), some (.int a1), none]) (S' := [.int 1, .int a1]) rfl).trans ?_
  refine (fs_j (n := n + 30) rfl (t := 11) rfl (by decide)).trans (fs_ite ?_ ?_)
  · skip
    exact b67_11 L xs m d k (n + 28) a1 g r
  · skip
    refine (fs_r (n := n + 28) 2 (pc' := 8) (L' := [some (.ref 7), some (.int a1), none]) (S' := [.int 77, .int a1]) rfl).trans ?_
    refine (fs_j (n := n + 27) rfl (t := 13) rfl (by decide)).trans (fs_ite ?_ ?_)
    · skip
      refine (fs_r (n := n + 25) 2 (pc' := 16) (L' := [some (.ref 7), some (.int a1), none]) (S' := [.int 88, .int a1]) rfl).trans ?_
      refine (fs_j (n := n + 24) rfl (t := 35) rfl (by decide)).trans (fs_ite ?_ ?_)
      · skip
        refine (fs_r (n := n + 22) 2 (pc' := 37) (L' := [some (.ref 7), some (.int a1), none]) (S' := [.int 1, .int a1]) rfl).trans ?_
        refine (fs_j (n := n + 21) rfl (t := 46) rfl (by decide)).trans (fs_ite ?_ ?_)
        · skip
          exact b67_46 L xs m d k (n + 19) a1 g r
        · skip
          refine (fs_r (n := n + 19) 2 (pc' := 43) (L' := [some (.ref 7), some (.int a1), none]) (S' := [.int 49, .int a1]) rfl).trans ?_
          refine (fs_j (n := n + 18) rfl (t := 48) rfl (by decide)).trans (fs_ite ?_ ?_)
          · skip
            refine (fs_r (n := n + 15) 3 (pc' := 53) (L' := [some (.ref 7), some (.int a1), some (.int (g 705))]) (S' := []) rfl).trans ?_
            exact b67_53 L xs m d k (n + 0) a1 (g 705) g r
          · skip
            exact b67_46 L xs m d k (n + 16) a1 g r
      · skip
        refine (fs_r (n := n + 22) 2 (pc' := 23) (L' := [some (.ref 7), some (.int a1), none]) (S' := [.int (g 705)]) rfl).trans ?_
        refine (fs_i (n := n + 21) rfl (t := 33) rfl (by decide)).trans (fs_ite ?_ ?_)
        · skip
          refine (fs_r (n := n + 20) 1 (pc' := 34) (L' := [some (.ref 7), some (.int a1), none]) (S' := [.int (-1)]) rfl).trans ?_
          exact b67_34 L xs m d k (n + 19) a1 (-1) g r
        · skip
          refine (fs_r (n := n + 19) 2 (pc' := 30) (L' := [some (.ref 7), some (.int a1), none]) (S' := [.int (g 705)]) rfl).trans ?_
          refine (fs_go (n := n + 18) rfl (t := 34) rfl (by decide)).trans ?_
          exact b67_34 L xs m d k (n + 17) a1 (g 705) g r
    · skip
      exact b67_11 L xs m d k (n + 25) a1 g r
theorem q67 (L : Nat) (xs : Nat → Int32) (m d : Nat) (a1 : Int32) (g : a2_G) (r : a2_A) : ev L xs (m + 1) (d + 1) 67 [.ref 7, .int a1] g r = (if am_c2 .eq a1 1 = true then (B67_11 L xs (m + 1) d m a1 g r) else (if am_c2 .ne a1 77 = true then (if am_c2 .ne a1 88 = true then (if am_c2 .lt a1 1 = true then (B67_46 L xs (m + 1) d m a1 g r) else (if am_c2 .le a1 49 = true then (B67_53 L xs (m + 1) d m a1 (g 705) g r) else (B67_46 L xs (m + 1) d m a1 g r))) else (if am_c2 .le (g 705) 0 = true then (B67_34 L xs (m + 1) d m a1 (-1) g r) else (B67_34 L xs (m + 1) d m a1 (g 705) g r))) else (B67_11 L xs (m + 1) d m a1 g r))) := (fs_ev (M := nm_m67) rfl rfl).trans (e67 L xs (m + 1) d m 867 a1 g r)
/-- CobolParser$Items.nameOrFiller()I -/
theorem e68 (L : Nat) (xs : Nat → Int32) (m d k : Nat) (n : Nat) (g : a2_G) (r : a2_A) : bk L xs 68 nm_m68 m d k (n + 12) 0 [some (.ref 7)] [] g r = (fn_v (ev L xs m d 50 [.ref 1, .int 1] g r) fun v3 g1 r2 => (if am_c2 .eq v3 0 = true then (fn_v (ev L xs m d 62 [.ref 1, .int 18] g1 r2) fun v6 g4 r5 => (some (.inl (some (.int 0)), g4, r5))) else (fn_v (ev L xs m d 59 [.ref 1, .int 1] g1 r2) fun v9 g7 r8 => (some (.inl (some (.int (v9 + 1))), g7, r8))))) := by
  refine (fs_r (n := n + 9) 3 (pc' := 5) (L' := [some (.ref 7)]) (S' := [.int 1, .ref 1]) rfl).trans ?_
  refine (fs_cv (n := n + 8) (N := nm_m50) (as := [.ref 1, .int 1]) (rest := []) rfl rfl (Or.inl rfl) rfl rfl rfl rfl rfl).trans (fs_fv fun v3 g1 r2 => ?_)
  refine (fs_i (n := n + 7) rfl (t := 22) rfl (by decide)).trans (fs_ite ?_ ?_)
  · skip
    refine (fs_r (n := n + 4) 3 (pc' := 28) (L' := [some (.ref 7)]) (S' := [.int 18, .ref 1]) rfl).trans ?_
    refine (fs_cv (n := n + 3) (N := nm_m62) (as := [.ref 1, .int 18]) (rest := []) rfl rfl (Or.inl rfl) rfl rfl rfl rfl rfl).trans (fs_fv fun v6 g4 r5 => ?_)
    refine (fs_r (n := n + 1) 2 (pc' := 33) (L' := [some (.ref 7)]) (S' := [.int 0]) rfl).trans ?_
    exact (fs_ri (n := n + 0) rfl rfl).trans rfl
  · skip
    refine (fs_r (n := n + 4) 3 (pc' := 16) (L' := [some (.ref 7)]) (S' := [.int 1, .ref 1]) rfl).trans ?_
    refine (fs_cv (n := n + 3) (N := nm_m59) (as := [.ref 1, .int 1]) (rest := []) rfl rfl (Or.inl rfl) rfl rfl rfl rfl rfl).trans (fs_fv fun v9 g7 r8 => ?_)
    refine (fs_r (n := n + 1) 2 (pc' := 21) (L' := [some (.ref 7)]) (S' := [.int (v9 + 1)]) rfl).trans ?_
    exact (fs_ri (n := n + 0) rfl rfl).trans rfl
theorem q68 (L : Nat) (xs : Nat → Int32) (m d : Nat) (g : a2_G) (r : a2_A) : ev L xs (m + 1) (d + 1) 68 [.ref 7] g r = (fn_v (ev L xs (m + 1) d 50 [.ref 1, .int 1] g r) fun v3 g1 r2 => (if am_c2 .eq v3 0 = true then (fn_v (ev L xs (m + 1) d 62 [.ref 1, .int 18] g1 r2) fun v6 g4 r5 => (some (.inl (some (.int 0)), g4, r5))) else (fn_v (ev L xs (m + 1) d 59 [.ref 1, .int 1] g1 r2) fun v9 g7 r8 => (some (.inl (some (.int (v9 + 1))), g7, r8))))) := (fs_ev (M := nm_m68) rfl rfl).trans (e68 L xs (m + 1) d m 888 g r)
/-- CobolParser$Tree.set(III)V -/
def B69_34 (L : Nat) (xs : Nat → Int32) (m d k : Nat) (x1 x2 x3 : Int32) (g : a2_G) (r : a2_A) : Option fn_Z := (some (.inl none, g, r))
theorem b69_34 (L : Nat) (xs : Nat → Int32) (m d k : Nat) (n : Nat) (x1 x2 x3 : Int32) (g : a2_G) (r : a2_A) : bk L xs 69 nm_m69 m d k (n + 1) 34 [some (.ref 2), some (.int x1), some (.int x2), some (.int x3)] [] g r = B69_34 L xs m d k x1 x2 x3 g r := by
  show _ = ((some (.inl none, g, r)) : Option fn_Z)
  exact (fs_rv (n := n + 0) rfl rfl).trans rfl
theorem e69 (L : Nat) (xs : Nat → Int32) (m d k : Nat) (n : Nat) (a1 a2 a3 : Int32) (g : a2_G) (r : a2_A) : bk L xs 69 nm_m69 m d k (n + 21) 0 [some (.ref 2), some (.int a1), some (.int a2), some (.int a3)] [] g r = (if am_c2 .lt a1 0 = true then (B69_34 L xs m d k a1 a2 a3 g r) else (if am_c2 .ge a1 (g 201) = true then (B69_34 L xs m d k a1 a2 a3 g r) else (if am_c2 .lt a2 0 = true then (B69_34 L xs m d k a1 a2 a3 g r) else (if am_c2 .ge a2 12 = true then (B69_34 L xs m d k a1 a2 a3 g r) else (if am_inr ((a1 * 12) + a2) (r 200).1 = true then (B69_34 L xs m d k a1 a2 a3 g (a2_ua r 200 ((r 200).1, (upd (r 200).2 (((a1 * 12) + a2) : Int32).toNatClampNeg a3)))) else none))))) := by
  refine (fs_r (n := n + 20) 1 (pc' := 1) (L' := [some (.ref 2), some (.int a1), some (.int a2), some (.int a3)]) (S' := [.int a1]) rfl).trans ?_
  refine (fs_i (n := n + 19) rfl (t := 34) rfl (by decide)).trans (fs_ite ?_ ?_)
  · skip
    exact b69_34 L xs m d k (n + 18) a1 a2 a3 g r
  · skip
    refine (fs_r (n := n + 16) 3 (pc' := 9) (L' := [some (.ref 2), some (.int a1), some (.int a2), some (.int a3)]) (S' := [.int (g 201), .int a1]) rfl).trans ?_
    refine (fs_j (n := n + 15) rfl (t := 34) rfl (by decide)).trans (fs_ite ?_ ?_)
    · skip
      exact b69_34 L xs m d k (n + 14) a1 a2 a3 g r
    · skip
      refine (fs_r (n := n + 14) 1 (pc' := 13) (L' := [some (.ref 2), some (.int a1), some (.int a2), some (.int a3)]) (S' := [.int a2]) rfl).trans ?_
      refine (fs_i (n := n + 13) rfl (t := 34) rfl (by decide)).trans (fs_ite ?_ ?_)
      · skip
        exact b69_34 L xs m d k (n + 12) a1 a2 a3 g r
      · skip
        refine (fs_r (n := n + 11) 2 (pc' := 19) (L' := [some (.ref 2), some (.int a1), some (.int a2), some (.int a3)]) (S' := [.int 12, .int a2]) rfl).trans ?_
        refine (fs_j (n := n + 10) rfl (t := 34) rfl (by decide)).trans (fs_ite ?_ ?_)
        · skip
          exact b69_34 L xs m d k (n + 9) a1 a2 a3 g r
        · skip
          refine (fs_r (n := n + 2) 8 (pc' := 33) (L' := [some (.ref 2), some (.int a1), some (.int a2), some (.int a3)]) (S' := [.int a3, .int ((a1 * 12) + a2), .ref 10200]) rfl).trans ?_
          refine (fs_is (n := n + 1) (k := 200) rfl rfl).trans (fs_ite ?_ rfl)
          exact b69_34 L xs m d k (n + 0) a1 a2 a3 g (a2_ua r 200 ((r 200).1, (upd (r 200).2 (((a1 * 12) + a2) : Int32).toNatClampNeg a3)))
theorem q69 (L : Nat) (xs : Nat → Int32) (m d : Nat) (a1 a2 a3 : Int32) (g : a2_G) (r : a2_A) : ev L xs (m + 1) (d + 1) 69 [.ref 2, .int a1, .int a2, .int a3] g r = (if am_c2 .lt a1 0 = true then (B69_34 L xs (m + 1) d m a1 a2 a3 g r) else (if am_c2 .ge a1 (g 201) = true then (B69_34 L xs (m + 1) d m a1 a2 a3 g r) else (if am_c2 .lt a2 0 = true then (B69_34 L xs (m + 1) d m a1 a2 a3 g r) else (if am_c2 .ge a2 12 = true then (B69_34 L xs (m + 1) d m a1 a2 a3 g r) else (if am_inr ((a1 * 12) + a2) (r 200).1 = true then (B69_34 L xs (m + 1) d m a1 a2 a3 g (a2_ua r 200 ((r 200).1, (upd (r 200).2 (((a1 * 12) + a2) : Int32).toNatClampNeg a3)))) else none))))) := (fs_ev (M := nm_m69) rfl rfl).trans (e69 L xs (m + 1) d m 879 a1 a2 a3 g r)
/-- CobolParser$Items.itemClause(I)V -/
def B70_124 (L : Nat) (xs : Nat → Int32) (m d k : Nat) (x1 : Int32) (g : a2_G) (r : a2_A) : Option fn_Z := (some (.inl none, g, r))
theorem b70_124 (L : Nat) (xs : Nat → Int32) (m d k : Nat) (n : Nat) (x1 : Int32) (g : a2_G) (r : a2_A) : bk L xs 70 nm_m70 m d k (n + 1) 124 [some (.ref 7), some (.int x1)] [] g r = B70_124 L xs m d k x1 g r := by
  show _ = ((some (.inl none, g, r)) : Option fn_Z)
  exact (fs_rv (n := n + 0) rfl rfl).trans rfl
def B70_116 (L : Nat) (xs : Nat → Int32) (m d k : Nat) (x1 : Int32) (g : a2_G) (r : a2_A) : Option fn_Z := (fn_n (ev L xs m d 56 [.ref 1, .int 1] g r) fun g11 r12 => (B70_124 L xs m d k x1 g11 r12))
theorem b70_116 (L : Nat) (xs : Nat → Int32) (m d k : Nat) (n : Nat) (x1 : Int32) (g : a2_G) (r : a2_A) : bk L xs 70 nm_m70 m d k (n + 5) 116 [some (.ref 7), some (.int x1)] [] g r = B70_116 L xs m d k x1 g r := by
  show _ = ((fn_n (ev L xs m d 56 [.ref 1, .int 1] g r) fun g11 r12 => (B70_124 L xs m d k x1 g11 r12)) : Option fn_Z)
  refine (fs_r (n := n + 2) 3 (pc' := 121) (L' := [some (.ref 7), some (.int x1)]) (S' := [.int 1, .ref 1]) rfl).trans ?_
  refine (fs_cn (n := n + 1) (N := nm_m56) (as := [.ref 1, .int 1]) (rest := []) rfl rfl (Or.inl rfl) rfl rfl rfl rfl rfl).trans (fs_fn fun g11 r12 => ?_)
  exact b70_124 L xs m d k (n + 0) x1 g11 r12
def B70_19 (L : Nat) (xs : Nat → Int32) (m d k : Nat) (x1 : Int32) (g : a2_G) (r : a2_A) : Option fn_Z := (fn_v (ev L xs m d 60 [.ref 1] g r) fun v6 g4 r5 => (if (v6 : Int32).toInt = 19 then (fn_n (ev L xs m d 71 [.ref 7, .int x1] g4 r5) fun g7 r8 => (B70_124 L xs m d k x1 g7 r8)) else (if (v6 : Int32).toInt = 20 then (fn_n (ev L xs m d 73 [.ref 7, .int x1] g4 r5) fun g9 r10 => (B70_124 L xs m d k x1 g9 r10)) else (if (v6 : Int32).toInt = 21 then (B70_116 L xs m d k x1 g4 r5) else (if (v6 : Int32).toInt = 22 then (fn_n (ev L xs m d 78 [.ref 7, .int x1] g4 r5) fun g13 r14 => (B70_124 L xs m d k x1 g13 r14)) else (if (v6 : Int32).toInt = 23 then (B70_116 L xs m d k x1 g4 r5) else (if (v6 : Int32).toInt = 24 then (B70_116 L xs m d k x1 g4 r5) else (if (v6 : Int32).toInt = 25 then (B70_116 L xs m d k x1 g4 r5) else (if (v6 : Int32).toInt = 26 then (fn_n (ev L xs m d 81 [.ref 7, .int x1] g4 r5) fun g15 r16 => (B70_124 L xs m d k x1 g15 r16)) else (if (v6 : Int32).toInt = 27 then (fn_n (ev L xs m d 82 [.ref 7, .int x1] g4 r5) fun g17 r18 => (B70_124 L xs m d k x1 g17 r18)) else (B70_116 L xs m d k x1 g4 r5)))))))))))
theorem b70_19 (L : Nat) (xs : Nat → Int32) (m d k : Nat) (n : Nat) (x1 : Int32) (g : a2_G) (r : a2_A) : bk L xs 70 nm_m70 m d k (n + 9) 19 [some (.ref 7), some (.int x1)] [] g r = B70_19 L xs m d k x1 g r := by
  show _ = ((fn_v (ev L xs m d 60 [.ref 1] g r) fun v6 g4 r5 => (if (v6 : Int32).toInt = 19 then (fn_n (ev L xs m d 71 [.ref 7, .int x1] g4 r5) fun g7 r8 => (B70_124 L xs m d k x1 g7 r8)) else (if (v6 : Int32).toInt = 20 then (fn_n (ev L xs m d 73 [.ref 7, .int x1] g4 r5) fun g9 r10 => (B70_124 L xs m d k x1 g9 r10)) else (if (v6 : Int32).toInt = 21 then (B70_116 L xs m d k x1 g4 r5) else (if (v6 : Int32).toInt = 22 then (fn_n (ev L xs m d 78 [.ref 7, .int x1] g4 r5) fun g13 r14 => (B70_124 L xs m d k x1 g13 r14)) else (if (v6 : Int32).toInt = 23 then (B70_116 L xs m d k x1 g4 r5) else (if (v6 : Int32).toInt = 24 then (B70_116 L xs m d k x1 g4 r5) else (if (v6 : Int32).toInt = 25 then (B70_116 L xs m d k x1 g4 r5) else (if (v6 : Int32).toInt = 26 then (fn_n (ev L xs m d 81 [.ref 7, .int x1] g4 r5) fun g15 r16 => (B70_124 L xs m d k x1 g15 r16)) else (if (v6 : Int32).toInt = 27 then (fn_n (ev L xs m d 82 [.ref 7, .int x1] g4 r5) fun g17 r18 => (B70_124 L xs m d k x1 g17 r18)) else (B70_116 L xs m d k x1 g4 r5))))))))))) : Option fn_Z)
  refine (fs_r (n := n + 7) 2 (pc' := 23) (L' := [some (.ref 7), some (.int x1)]) (S' := [.ref 1]) rfl).trans ?_
  refine (fs_cv (n := n + 6) (N := nm_m60) (as := [.ref 1]) (rest := []) rfl rfl (Or.inl rfl) rfl rfl rfl rfl rfl).trans (fs_fv fun v6 g4 r5 => ?_)
  refine (fs_ts (n := n + 5) (l := [50, 58, 90, 66, 90, 90, 90, 74, 82]) rfl rfl rfl).trans ?_
  refine fs_tc (v' := 20) rfl ?_ (fs_tc (v' := 21) rfl ?_ (fs_tc (v' := 22) rfl ?_ (fs_tc (v' := 23) rfl ?_ (fs_tc (v' := 24) rfl ?_ (fs_tc (v' := 25) rfl ?_ (fs_tc (v' := 26) rfl ?_ (fs_tc (v' := 27) rfl ?_ (fs_tc (v' := 28) rfl ?_ (fs_tn ?_)))))))))
  · refine (fs_J1 (n := n + 5) (t := 76) rfl (by decide)).trans ?_
    refine (fs_r (n := n + 3) 2 (pc' := 78) (L' := [some (.ref 7), some (.int x1)]) (S' := [.int x1, .ref 7]) rfl).trans ?_
    refine (fs_cn (n := n + 2) (N := nm_m71) (as := [.ref 7, .int x1]) (rest := []) rfl rfl (Or.inl rfl) rfl rfl rfl rfl rfl).trans (fs_fn fun g7 r8 => ?_)
    refine (fs_go (n := n + 1) rfl (t := 124) rfl (by decide)).trans ?_
    exact b70_124 L xs m d k (n + 0) x1 g7 r8
  · refine (fs_J1 (n := n + 5) (t := 84) rfl (by decide)).trans ?_
    refine (fs_r (n := n + 3) 2 (pc' := 86) (L' := [some (.ref 7), some (.int x1)]) (S' := [.int x1, .ref 7]) rfl).trans ?_
    refine (fs_cn (n := n + 2) (N := nm_m73) (as := [.ref 7, .int x1]) (rest := []) rfl rfl (Or.inl rfl) rfl rfl rfl rfl rfl).trans (fs_fn fun g9 r10 => ?_)
    refine (fs_go (n := n + 1) rfl (t := 124) rfl (by decide)).trans ?_
    exact b70_124 L xs m d k (n + 0) x1 g9 r10
  · refine (fs_J1 (n := n + 5) (t := 116) rfl (by decide)).trans ?_
    exact b70_116 L xs m d k (n + 0) x1 g4 r5
  · refine (fs_J1 (n := n + 5) (t := 92) rfl (by decide)).trans ?_
    refine (fs_r (n := n + 3) 2 (pc' := 94) (L' := [some (.ref 7), some (.int x1)]) (S' := [.int x1, .ref 7]) rfl).trans ?_
    refine (fs_cn (n := n + 2) (N := nm_m78) (as := [.ref 7, .int x1]) (rest := []) rfl rfl (Or.inl rfl) rfl rfl rfl rfl rfl).trans (fs_fn fun g13 r14 => ?_)
    refine (fs_go (n := n + 1) rfl (t := 124) rfl (by decide)).trans ?_
    exact b70_124 L xs m d k (n + 0) x1 g13 r14
  · refine (fs_J1 (n := n + 5) (t := 116) rfl (by decide)).trans ?_
    exact b70_116 L xs m d k (n + 0) x1 g4 r5
  · refine (fs_J1 (n := n + 5) (t := 116) rfl (by decide)).trans ?_
    exact b70_116 L xs m d k (n + 0) x1 g4 r5
  · refine (fs_J1 (n := n + 5) (t := 116) rfl (by decide)).trans ?_
    exact b70_116 L xs m d k (n + 0) x1 g4 r5
  · refine (fs_J1 (n := n + 5) (t := 100) rfl (by decide)).trans ?_
    refine (fs_r (n := n + 3) 2 (pc' := 102) (L' := [some (.ref 7), some (.int x1)]) (S' := [.int x1, .ref 7]) rfl).trans ?_
    refine (fs_cn (n := n + 2) (N := nm_m81) (as := [.ref 7, .int x1]) (rest := []) rfl rfl (Or.inl rfl) rfl rfl rfl rfl rfl).trans (fs_fn fun g15 r16 => ?_)
    refine (fs_go (n := n + 1) rfl (t := 124) rfl (by decide)).trans ?_
    exact b70_124 L xs m d k (n + 0) x1 g15 r16
  · refine (fs_J1 (n := n + 5) (t := 108) rfl (by decide)).trans ?_
    refine (fs_r (n := n + 3) 2 (pc' := 110) (L' := [some (.ref 7), some (.int x1)]) (S' := [.int x1, .ref 7]) rfl).trans ?_
    refine (fs_cn (n := n + 2) (N := nm_m82) (as := [.ref 7, .int x1]) (rest := []) rfl rfl (Or.inl rfl) rfl rfl rfl rfl rfl).trans (fs_fn fun g17 r18 => ?_)
    refine (fs_go (n := n + 1) rfl (t := 124) rfl (by decide)).trans ?_
    exact b70_124 L xs m d k (n + 0) x1 g17 r18
  · refine (fs_J1 (n := n + 5) (t := 116) rfl (by decide)).trans ?_
    exact b70_116 L xs m d k (n + 0) x1 g4 r5
theorem e70 (L : Nat) (xs : Nat → Int32) (m d k : Nat) (n : Nat) (a1 : Int32) (g : a2_G) (r : a2_A) : bk L xs 70 nm_m70 m d k (n + 18) 0 [some (.ref 7), some (.int a1)] [] g r = (fn_v (ev L xs m d 50 [.ref 1, .int 0] g r) fun v3 g1 r2 => (if am_c2 .ne v3 0 = true then (B70_19 L xs m d k a1 g1 r2) else (fn_n (ev L xs m d 56 [.ref 1, .int 1] g1 r2) fun g19 r20 => (B70_19 L xs m d k a1 g19 r20)))) := by
  refine (fs_r (n := n + 15) 3 (pc' := 5) (L' := [some (.ref 7), some (.int a1)]) (S' := [.int 0, .ref 1]) rfl).trans ?_
  refine (fs_cv (n := n + 14) (N := nm_m50) (as := [.ref 1, .int 0]) (rest := []) rfl rfl (Or.inl rfl) rfl rfl rfl rfl rfl).trans (fs_fv fun v3 g1 r2 => ?_)
  refine (fs_i (n := n + 13) rfl (t := 19) rfl (by decide)).trans (fs_ite ?_ ?_)
  · skip
    exact b70_19 L xs m d k (n + 4) a1 g1 r2
  · skip
    refine (fs_r (n := n + 10) 3 (pc' := 16) (L' := [some (.ref 7), some (.int a1)]) (S' := [.int 1, .ref 1]) rfl).trans ?_
    refine (fs_cn (n := n + 9) (N := nm_m56) (as := [.ref 1, .int 1]) (rest := []) rfl rfl (Or.inl rfl) rfl rfl rfl rfl rfl).trans (fs_fn fun g19 r20 => ?_)
    exact b70_19 L xs m d k (n + 0) a1 g19 r20
theorem q70 (L : Nat) (xs : Nat → Int32) (m d : Nat) (a1 : Int32) (g : a2_G) (r : a2_A) : ev L xs (m + 1) (d + 1) 70 [.ref 7, .int a1] g r = (fn_v (ev L xs (m + 1) d 50 [.ref 1, .int 0] g r) fun v3 g1 r2 => (if am_c2 .ne v3 0 = true then (B70_19 L xs (m + 1) d m a1 g1 r2) else (fn_n (ev L xs (m + 1) d 56 [.ref 1, .int 1] g1 r2) fun g19 r20 => (B70_19 L xs (m + 1) d m a1 g19 r20)))) := (fs_ev (M := nm_m70) rfl rfl).trans (e70 L xs (m + 1) d m 882 a1 g r)
/-- CobolParser$Items.picture(I)V -/
theorem e71 (L : Nat) (xs : Nat → Int32) (m d k : Nat) (n : Nat) (a1 : Int32) (g : a2_G) (r : a2_A) : bk L xs 71 nm_m71 m d k (n + 20) 0 [some (.ref 7), some (.int a1), none] [] g r = (fn_v (ev L xs m d 72 [.ref 7, .int a1, .int 13] g r) fun v3 g1 r2 => (fn_v (ev L xs m d 62 [.ref 1, .int 67] g1 r2) fun v6 g4 r5 => (fn_v (ev L xs m d 59 [.ref 1, .int 3] g4 r5) fun v9 g7 r8 => (fn_n (ev L xs m d 69 [.ref 2, .int v3, .int 1, .int v9] g7 r8) fun g10 r11 => (some (.inl none, g10, r11)))))) := by
  refine (fs_r (n := n + 17) 3 (pc' := 4) (L' := [some (.ref 7), some (.int a1), none]) (S' := [.int 13, .int a1, .ref 7]) rfl).trans ?_
  refine (fs_cv (n := n + 16) (N := nm_m72) (as := [.ref 7, .int a1, .int 13]) (rest := []) rfl rfl (Or.inl rfl) rfl rfl rfl rfl rfl).trans (fs_fv fun v3 g1 r2 => ?_)
  refine (fs_r (n := n + 12) 4 (pc' := 14) (L' := [some (.ref 7), some (.int a1), some (.int v3)]) (S' := [.int 67, .ref 1]) rfl).trans ?_
  refine (fs_cv (n := n + 11) (N := nm_m62) (as := [.ref 1, .int 67]) (rest := []) rfl rfl (Or.inl rfl) rfl rfl rfl rfl rfl).trans (fs_fv fun v6 g4 r5 => ?_)
  refine (fs_r (n := n + 3) 8 (pc' := 29) (L' := [some (.ref 7), some (.int a1), some (.int v3)]) (S' := [.int 3, .ref 1, .int 1, .int v3, .ref 2]) rfl).trans ?_
  refine (fs_cv (n := n + 2) (N := nm_m59) (as := [.ref 1, .int 3]) (rest := [.int 1, .int v3, .ref 2]) rfl rfl (Or.inl rfl) rfl rfl rfl rfl rfl).trans (fs_fv fun v9 g7 r8 => ?_)
  refine (fs_cn (n := n + 1) (N := nm_m69) (as := [.ref 2, .int v3, .int 1, .int v9]) (rest := []) rfl rfl (Or.inl rfl) rfl rfl rfl rfl rfl).trans (fs_fn fun g10 r11 => ?_)
  exact (fs_rv (n := n + 0) rfl rfl).trans rfl
theorem q71 (L : Nat) (xs : Nat → Int32) (m d : Nat) (a1 : Int32) (g : a2_G) (r : a2_A) : ev L xs (m + 1) (d + 1) 71 [.ref 7, .int a1] g r = (fn_v (ev L xs (m + 1) d 72 [.ref 7, .int a1, .int 13] g r) fun v3 g1 r2 => (fn_v (ev L xs (m + 1) d 62 [.ref 1, .int 67] g1 r2) fun v6 g4 r5 => (fn_v (ev L xs (m + 1) d 59 [.ref 1, .int 3] g4 r5) fun v9 g7 r8 => (fn_n (ev L xs (m + 1) d 69 [.ref 2, .int v3, .int 1, .int v9] g7 r8) fun g10 r11 => (some (.inl none, g10, r11)))))) := (fs_ev (M := nm_m71) rfl rfl).trans (e71 L xs (m + 1) d m 880 a1 g r)
