/-! The equations of the methods, by wip/whole/gensh2.py -/
/-- a loop's further turns; a method's rest -/
abbrev lp (L : Nat) (xs : Nat → Int32) (j : Nat) (M : am_M) (m d k : Nat) : Nat → am_L → a2_G → a2_A → Option fn_Z := fn_l (sh_tb L xs j) nm_Y nm_RG 13 nm_ms sh_oc (sh_tw j) (ev L xs m d) M 900 k
abbrev bk (L : Nat) (xs : Nat → Int32) (j : Nat) (M : am_M) (m d k : Nat) : Nat → Nat → am_L → List Value → a2_G → a2_A → Option fn_Z := fn_b (sh_tb L xs j) nm_Y nm_RG 13 nm_ms sh_oc (sh_tw j) (ev L xs m d) M (lp L xs j M m d k)
/-- CobolParser.isWord(II)Z -/
def B10_55 (L : Nat) (xs : Nat → Int32) (m d k : Nat) (x1 x2 x3 : Int32) (g : a2_G) (r : a2_A) : Option fn_Z := (if x3 = 0 ∨ x3 = 1 then some (.inl (some (.int x3)), g, r) else none)
theorem b10_55 (L : Nat) (xs : Nat → Int32) (m d k : Nat) (n : Nat) (x1 x2 x3 : Int32) (g : a2_G) (r : a2_A) : bk L xs 10 nm_m10 m d k (n + 1) 55 [some (.int x1), some (.int x2)] [.int x3] g r = B10_55 L xs m d k x1 x2 x3 g r := by
  show _ = ((if x3 = 0 ∨ x3 = 1 then some (.inl (some (.int x3)), g, r) else none) : Option fn_Z)
  exact (fs_rb (n := n + 0) rfl rfl).trans rfl
def B10_54 (L : Nat) (xs : Nat → Int32) (m d k : Nat) (x1 x2 : Int32) (g : a2_G) (r : a2_A) : Option fn_Z := (B10_55 L xs m d k x1 x2 0 g r)
theorem b10_54 (L : Nat) (xs : Nat → Int32) (m d k : Nat) (n : Nat) (x1 x2 : Int32) (g : a2_G) (r : a2_A) : bk L xs 10 nm_m10 m d k (n + 2) 54 [some (.int x1), some (.int x2)] [] g r = B10_54 L xs m d k x1 x2 g r := by
  show _ = ((B10_55 L xs m d k x1 x2 0 g r) : Option fn_Z)
  refine (fs_r (n := n + 1) 1 (pc' := 55) (L' := [some (.int x1), some (.int x2)]) (S' := [.int 0]) rfl).trans ?_
  exact b10_55 L xs m d k (n + 0) x1 x2 0 g r
def B10_71 (L : Nat) (xs : Nat → Int32) (m d k : Nat) (x1 x2 x3 : Int32) (g : a2_G) (r : a2_A) : Option fn_Z := (if x3 = 0 ∨ x3 = 1 then some (.inl (some (.int x3)), g, r) else none)
theorem b10_71 (L : Nat) (xs : Nat → Int32) (m d k : Nat) (n : Nat) (x1 x2 x3 : Int32) (g : a2_G) (r : a2_A) : bk L xs 10 nm_m10 m d k (n + 1) 71 [some (.int x1), some (.int x2)] [.int x3] g r = B10_71 L xs m d k x1 x2 x3 g r := by
  show _ = ((if x3 = 0 ∨ x3 = 1 then some (.inl (some (.int x3)), g, r) else none) : Option fn_Z)
  exact (fs_rb (n := n + 0) rfl rfl).trans rfl
def B10_70 (L : Nat) (xs : Nat → Int32) (m d k : Nat) (x1 x2 : Int32) (g : a2_G) (r : a2_A) : Option fn_Z := (B10_71 L xs m d k x1 x2 0 g r)
theorem b10_70 (L : Nat) (xs : Nat → Int32) (m d k : Nat) (n : Nat) (x1 x2 : Int32) (g : a2_G) (r : a2_A) : bk L xs 10 nm_m10 m d k (n + 2) 70 [some (.int x1), some (.int x2)] [] g r = B10_70 L xs m d k x1 x2 g r := by
  show _ = ((B10_71 L xs m d k x1 x2 0 g r) : Option fn_Z)
  refine (fs_r (n := n + 1) 1 (pc' := 71) (L' := [some (.int x1), some (.int x2)]) (S' := [.int 0]) rfl).trans ?_
  exact b10_71 L xs m d k (n + 0) x1 x2 0 g r
def B10_56 (L : Nat) (xs : Nat → Int32) (m d k : Nat) (x1 x2 : Int32) (g : a2_G) (r : a2_A) : Option fn_Z := (if am_c2 .lt x2 0 = true then (B10_70 L xs m d k x1 x2 g r) else (if am_c2 .gt x2 99 = true then (B10_70 L xs m d k x1 x2 g r) else (B10_71 L xs m d k x1 x2 1 g r)))
theorem b10_56 (L : Nat) (xs : Nat → Int32) (m d k : Nat) (n : Nat) (x1 x2 : Int32) (g : a2_G) (r : a2_A) : bk L xs 10 nm_m10 m d k (n + 8) 56 [some (.int x1), some (.int x2)] [] g r = B10_56 L xs m d k x1 x2 g r := by
  show _ = ((if am_c2 .lt x2 0 = true then (B10_70 L xs m d k x1 x2 g r) else (if am_c2 .gt x2 99 = true then (B10_70 L xs m d k x1 x2 g r) else (B10_71 L xs m d k x1 x2 1 g r))) : Option fn_Z)
  refine (fs_r (n := n + 7) 1 (pc' := 57) (L' := [some (.int x1), some (.int x2)]) (S' := [.int x2]) rfl).trans ?_
  refine (fs_i (n := n + 6) rfl (t := 70) rfl (by decide)).trans (fs_ite ?_ ?_)
  · skip
    exact b10_70 L xs m d k (n + 4) x1 x2 g r
  · skip
    refine (fs_r (n := n + 4) 2 (pc' := 63) (L' := [some (.int x1), some (.int x2)]) (S' := [.int 99, .int x2]) rfl).trans ?_
    refine (fs_j (n := n + 3) rfl (t := 70) rfl (by decide)).trans (fs_ite ?_ ?_)
    · skip
      exact b10_70 L xs m d k (n + 1) x1 x2 g r
    · skip
      refine (fs_r (n := n + 2) 1 (pc' := 67) (L' := [some (.int x1), some (.int x2)]) (S' := [.int 1]) rfl).trans ?_
      refine (fs_go (n := n + 1) rfl (t := 71) rfl (by decide)).trans ?_
      exact b10_71 L xs m d k (n + 0) x1 x2 1 g r
def B10_87 (L : Nat) (xs : Nat → Int32) (m d k : Nat) (x1 x2 x3 : Int32) (g : a2_G) (r : a2_A) : Option fn_Z := (if x3 = 0 ∨ x3 = 1 then some (.inl (some (.int x3)), g, r) else none)
theorem b10_87 (L : Nat) (xs : Nat → Int32) (m d k : Nat) (n : Nat) (x1 x2 x3 : Int32) (g : a2_G) (r : a2_A) : bk L xs 10 nm_m10 m d k (n + 1) 87 [some (.int x1), some (.int x2)] [.int x3] g r = B10_87 L xs m d k x1 x2 x3 g r := by
  show _ = ((if x3 = 0 ∨ x3 = 1 then some (.inl (some (.int x3)), g, r) else none) : Option fn_Z)
  exact (fs_rb (n := n + 0) rfl rfl).trans rfl
def B10_86 (L : Nat) (xs : Nat → Int32) (m d k : Nat) (x1 x2 : Int32) (g : a2_G) (r : a2_A) : Option fn_Z := (B10_87 L xs m d k x1 x2 0 g r)
theorem b10_86 (L : Nat) (xs : Nat → Int32) (m d k : Nat) (n : Nat) (x1 x2 : Int32) (g : a2_G) (r : a2_A) : bk L xs 10 nm_m10 m d k (n + 2) 86 [some (.int x1), some (.int x2)] [] g r = B10_86 L xs m d k x1 x2 g r := by
  show _ = ((B10_87 L xs m d k x1 x2 0 g r) : Option fn_Z)
  refine (fs_r (n := n + 1) 1 (pc' := 87) (L' := [some (.int x1), some (.int x2)]) (S' := [.int 0]) rfl).trans ?_
  exact b10_87 L xs m d k (n + 0) x1 x2 0 g r
def B10_105 (L : Nat) (xs : Nat → Int32) (m d k : Nat) (x1 x2 x3 : Int32) (g : a2_G) (r : a2_A) : Option fn_Z := (if x3 = 0 ∨ x3 = 1 then some (.inl (some (.int x3)), g, r) else none)
theorem b10_105 (L : Nat) (xs : Nat → Int32) (m d k : Nat) (n : Nat) (x1 x2 x3 : Int32) (g : a2_G) (r : a2_A) : bk L xs 10 nm_m10 m d k (n + 1) 105 [some (.int x1), some (.int x2)] [.int x3] g r = B10_105 L xs m d k x1 x2 x3 g r := by
  show _ = ((if x3 = 0 ∨ x3 = 1 then some (.inl (some (.int x3)), g, r) else none) : Option fn_Z)
  exact (fs_rb (n := n + 0) rfl rfl).trans rfl
def B10_104 (L : Nat) (xs : Nat → Int32) (m d k : Nat) (x1 x2 : Int32) (g : a2_G) (r : a2_A) : Option fn_Z := (B10_105 L xs m d k x1 x2 0 g r)
theorem b10_104 (L : Nat) (xs : Nat → Int32) (m d k : Nat) (n : Nat) (x1 x2 : Int32) (g : a2_G) (r : a2_A) : bk L xs 10 nm_m10 m d k (n + 2) 104 [some (.int x1), some (.int x2)] [] g r = B10_104 L xs m d k x1 x2 g r := by
  show _ = ((B10_105 L xs m d k x1 x2 0 g r) : Option fn_Z)
  refine (fs_r (n := n + 1) 1 (pc' := 105) (L' := [some (.int x1), some (.int x2)]) (S' := [.int 0]) rfl).trans ?_
  exact b10_105 L xs m d k (n + 0) x1 x2 0 g r
theorem e10 (L : Nat) (xs : Nat → Int32) (m d k : Nat) (n : Nat) (a1 a2 : Int32) (g : a2_G) (r : a2_A) : bk L xs 10 nm_m10 m d k (n + 10) 0 [some (.int a1), some (.int a2)] [] g r = (if (a1 : Int32).toInt = 0 then (if am_c2 .lt a2 0 = true then (B10_54 L xs m d k a1 a2 g r) else (if am_c2 .gt a2 78 = true then (B10_54 L xs m d k a1 a2 g r) else (B10_55 L xs m d k a1 a2 1 g r))) else (if (a1 : Int32).toInt = 1 then (B10_56 L xs m d k a1 a2 g r) else (if (a1 : Int32).toInt = 2 then (if am_c2 .lt a2 0 = true then (B10_86 L xs m d k a1 a2 g r) else (if am_c2 .gt a2 99999 = true then (B10_86 L xs m d k a1 a2 g r) else (B10_87 L xs m d k a1 a2 1 g r))) else (if (a1 : Int32).toInt = 3 then (B10_56 L xs m d k a1 a2 g r) else (if (a1 : Int32).toInt = 4 then (some (.inl (some (.int 1)), g, r)) else (if (a1 : Int32).toInt = 5 then (if am_c2 .lt a2 0 = true then (B10_104 L xs m d k a1 a2 g r) else (if am_c2 .gt a2 8 = true then (B10_104 L xs m d k a1 a2 g r) else (B10_105 L xs m d k a1 a2 1 g r))) else (some (.inl (some (.int 0)), g, r)))))))) := by
  refine (fs_r (n := n + 9) 1 (pc' := 1) (L' := [some (.int a1), some (.int a2)]) (S' := [.int a1]) rfl).trans ?_
  refine (fs_ts (n := n + 8) (l := [39, 55, 71, 55, 87, 89]) rfl rfl rfl).trans ?_
  refine fs_tc (v' := 1) rfl ?_ (fs_tc (v' := 2) rfl ?_ (fs_tc (v' := 3) rfl ?_ (fs_tc (v' := 4) rfl ?_ (fs_tc (v' := 5) rfl ?_ (fs_tc (v' := 6) rfl ?_ (fs_tn ?_))))))
  · refine (fs_J1 (n := n + 8) (t := 40) rfl (by decide)).trans ?_
    refine (fs_r (n := n + 7) 1 (pc' := 41) (L' := [some (.int a1), some (.int a2)]) (S' := [.int a2]) rfl).trans ?_
    refine (fs_i (n := n + 6) rfl (t := 54) rfl (by decide)).trans (fs_ite ?_ ?_)
    · skip
      exact b10_54 L xs m d k (n + 4) a1 a2 g r
    · skip
      refine (fs_r (n := n + 4) 2 (pc' := 47) (L' := [some (.int a1), some (.int a2)]) (S' := [.int 78, .int a2]) rfl).trans ?_
      refine (fs_j (n := n + 3) rfl (t := 54) rfl (by decide)).trans (fs_ite ?_ ?_)
      · skip
        exact b10_54 L xs m d k (n + 1) a1 a2 g r
      · skip
        refine (fs_r (n := n + 2) 1 (pc' := 51) (L' := [some (.int a1), some (.int a2)]) (S' := [.int 1]) rfl).trans ?_
        refine (fs_go (n := n + 1) rfl (t := 55) rfl (by decide)).trans ?_
        exact b10_55 L xs m d k (n + 0) a1 a2 1 g r
  · refine (fs_J1 (n := n + 8) (t := 56) rfl (by decide)).trans ?_
    exact b10_56 L xs m d k (n + 0) a1 a2 g r
  · refine (fs_J1 (n := n + 8) (t := 72) rfl (by decide)).trans ?_
    refine (fs_r (n := n + 7) 1 (pc' := 73) (L' := [some (.int a1), some (.int a2)]) (S' := [.int a2]) rfl).trans ?_
    refine (fs_i (n := n + 6) rfl (t := 86) rfl (by decide)).trans (fs_ite ?_ ?_)
    · skip
      exact b10_86 L xs m d k (n + 4) a1 a2 g r
    · skip
      refine (fs_r (n := n + 4) 2 (pc' := 79) (L' := [some (.int a1), some (.int a2)]) (S' := [.int 99999, .int a2]) rfl).trans ?_
      refine (fs_j (n := n + 3) rfl (t := 86) rfl (by decide)).trans (fs_ite ?_ ?_)
      · skip
        exact b10_86 L xs m d k (n + 1) a1 a2 g r
      · skip
        refine (fs_r (n := n + 2) 1 (pc' := 83) (L' := [some (.int a1), some (.int a2)]) (S' := [.int 1]) rfl).trans ?_
        refine (fs_go (n := n + 1) rfl (t := 87) rfl (by decide)).trans ?_
        exact b10_87 L xs m d k (n + 0) a1 a2 1 g r
  · refine (fs_J1 (n := n + 8) (t := 56) rfl (by decide)).trans ?_
    exact b10_56 L xs m d k (n + 0) a1 a2 g r
  · refine (fs_J1 (n := n + 8) (t := 88) rfl (by decide)).trans ?_
    refine (fs_r (n := n + 7) 1 (pc' := 89) (L' := [some (.int a1), some (.int a2)]) (S' := [.int 1]) rfl).trans ?_
    exact (fs_rb (n := n + 6) rfl rfl).trans ((if_pos (by decide)).trans rfl)
  · refine (fs_J1 (n := n + 8) (t := 90) rfl (by decide)).trans ?_
    refine (fs_r (n := n + 7) 1 (pc' := 91) (L' := [some (.int a1), some (.int a2)]) (S' := [.int a2]) rfl).trans ?_
    refine (fs_i (n := n + 6) rfl (t := 104) rfl (by decide)).trans (fs_ite ?_ ?_)
    · skip
      exact b10_104 L xs m d k (n + 4) a1 a2 g r
    · skip
      refine (fs_r (n := n + 4) 2 (pc' := 97) (L' := [some (.int a1), some (.int a2)]) (S' := [.int 8, .int a2]) rfl).trans ?_
      refine (fs_j (n := n + 3) rfl (t := 104) rfl (by decide)).trans (fs_ite ?_ ?_)
      · skip
        exact b10_104 L xs m d k (n + 1) a1 a2 g r
      · skip
        refine (fs_r (n := n + 2) 1 (pc' := 101) (L' := [some (.int a1), some (.int a2)]) (S' := [.int 1]) rfl).trans ?_
        refine (fs_go (n := n + 1) rfl (t := 105) rfl (by decide)).trans ?_
        exact b10_105 L xs m d k (n + 0) a1 a2 1 g r
  · refine (fs_J1 (n := n + 8) (t := 106) rfl (by decide)).trans ?_
    refine (fs_r (n := n + 7) 1 (pc' := 107) (L' := [some (.int a1), some (.int a2)]) (S' := [.int 0]) rfl).trans ?_
    exact (fs_rb (n := n + 6) rfl rfl).trans ((if_pos (by decide)).trans rfl)
theorem q10 (L : Nat) (xs : Nat → Int32) (m d : Nat) (a1 a2 : Int32) (g : a2_G) (r : a2_A) : ev L xs (m + 1) (d + 1) 10 [.int a1, .int a2] g r = (if (a1 : Int32).toInt = 0 then (if am_c2 .lt a2 0 = true then (B10_54 L xs (m + 1) d m a1 a2 g r) else (if am_c2 .gt a2 78 = true then (B10_54 L xs (m + 1) d m a1 a2 g r) else (B10_55 L xs (m + 1) d m a1 a2 1 g r))) else (if (a1 : Int32).toInt = 1 then (B10_56 L xs (m + 1) d m a1 a2 g r) else (if (a1 : Int32).toInt = 2 then (if am_c2 .lt a2 0 = true then (B10_86 L xs (m + 1) d m a1 a2 g r) else (if am_c2 .gt a2 99999 = true then (B10_86 L xs (m + 1) d m a1 a2 g r) else (B10_87 L xs (m + 1) d m a1 a2 1 g r))) else (if (a1 : Int32).toInt = 3 then (B10_56 L xs (m + 1) d m a1 a2 g r) else (if (a1 : Int32).toInt = 4 then (some (.inl (some (.int 1)), g, r)) else (if (a1 : Int32).toInt = 5 then (if am_c2 .lt a2 0 = true then (B10_104 L xs (m + 1) d m a1 a2 g r) else (if am_c2 .gt a2 8 = true then (B10_104 L xs (m + 1) d m a1 a2 g r) else (B10_105 L xs (m + 1) d m a1 a2 1 g r))) else (some (.inl (some (.int 0)), g, r)))))))) := (fs_ev (M := nm_m10) rfl rfl).trans (e10 L xs (m + 1) d m 890 a1 a2 g r)
/-- CobolParser$Tree.childOf(II)I -/
def B25_21 (L : Nat) (xs : Nat → Int32) (m d k : Nat) (x1 x2 x3 : Int32) (g : a2_G) (r : a2_A) : Option fn_Z := (some (.inl (some (.int (-1))), g, r))
theorem b25_21 (L : Nat) (xs : Nat → Int32) (m d k : Nat) (n : Nat) (x1 x2 x3 : Int32) (g : a2_G) (r : a2_A) : bk L xs 25 nm_m25 m d k (n + 2) 21 [some (.ref 2), some (.int x1), some (.int x2), some (.int x3), none, none] [] g r = B25_21 L xs m d k x1 x2 x3 g r := by
  show _ = ((some (.inl (some (.int (-1))), g, r)) : Option fn_Z)
  refine (fs_r (n := n + 1) 1 (pc' := 22) (L' := [some (.ref 2), some (.int x1), some (.int x2), some (.int x3), none, none]) (S' := [.int (-1)]) rfl).trans ?_
  exact (fs_ri (n := n + 0) rfl rfl).trans rfl
def B25_34 (L : Nat) (xs : Nat → Int32) (m d k : Nat) (x1 x2 x3 x4 x5 : Int32) (g : a2_G) (r : a2_A) : Option fn_Z := (if am_c2 .ge x5 x2 = true then (fn_v (ev L xs m d 22 [.ref 2, .int x4] g r) fun v12 g10 r11 => (some (.inl (some (.int v12)), g10, r11))) else (fn_v (ev L xs m d 17 [.ref 2, .int x4, .int 7] g r) fun v15 g13 r14 => (lp L xs 25 nm_m25 m d k 34 [some (.ref 2), some (.int x1), some (.int x2), some (.int x3), some (.int v15), some (.int (x5 + 1))] g13 r14)))
theorem b25_34 (L : Nat) (xs : Nat → Int32) (m d k : Nat) (n : Nat) (x1 x2 x3 x4 x5 : Int32) (g : a2_G) (r : a2_A) : bk L xs 25 nm_m25 m d k (n + 10) 34 [some (.ref 2), some (.int x1), some (.int x2), some (.int x3), some (.int x4), some (.int x5)] [] g r = B25_34 L xs m d k x1 x2 x3 x4 x5 g r := by
  show _ = ((if am_c2 .ge x5 x2 = true then (fn_v (ev L xs m d 22 [.ref 2, .int x4] g r) fun v12 g10 r11 => (some (.inl (some (.int v12)), g10, r11))) else (fn_v (ev L xs m d 17 [.ref 2, .int x4, .int 7] g r) fun v15 g13 r14 => (lp L xs 25 nm_m25 m d k 34 [some (.ref 2), some (.int x1), some (.int x2), some (.int x3), some (.int v15), some (.int (x5 + 1))] g13 r14))) : Option fn_Z)
  refine (fs_r (n := n + 8) 2 (pc' := 37) (L' := [some (.ref 2), some (.int x1), some (.int x2), some (.int x3), some (.int x4), some (.int x5)]) (S' := [.int x2, .int x5]) rfl).trans ?_
  refine (fs_j (n := n + 7) rfl (t := 56) rfl (by decide)).trans (fs_ite ?_ ?_)
  · skip
    refine (fs_r (n := n + 5) 2 (pc' := 59) (L' := [some (.ref 2), some (.int x1), some (.int x2), some (.int x3), some (.int x4), some (.int x5)]) (S' := [.int x4, .ref 2]) rfl).trans ?_
    refine (fs_cv (n := n + 4) (N := nm_m22) (as := [.ref 2, .int x4]) (rest := []) rfl rfl (Or.inl rfl) rfl rfl rfl rfl rfl).trans (fs_fv fun v12 g10 r11 => ?_)
    exact (fs_ri (n := n + 3) rfl rfl).trans rfl
  · skip
    refine (fs_r (n := n + 4) 3 (pc' := 45) (L' := [some (.ref 2), some (.int x1), some (.int x2), some (.int x3), some (.int x4), some (.int x5)]) (S' := [.int 7, .int x4, .ref 2]) rfl).trans ?_
    refine (fs_cv (n := n + 3) (N := nm_m17) (as := [.ref 2, .int x4, .int 7]) (rest := []) rfl rfl (Or.inl rfl) rfl rfl rfl rfl rfl).trans (fs_fv fun v15 g13 r14 => ?_)
    refine (fs_r (n := n + 1) 2 (pc' := 53) (L' := [some (.ref 2), some (.int x1), some (.int x2), some (.int x3), some (.int v15), some (.int (x5 + 1))]) (S' := []) rfl).trans ?_
    exact (fs_gb (n := n + 0) rfl (t := 34) rfl (by decide)).trans rfl
theorem l25_34 (L : Nat) (xs : Nat → Int32) (m d k : Nat) (x1 x2 x3 x4 x5 : Int32) (g : a2_G) (r : a2_A) : lp L xs 25 nm_m25 m d (k + 1) 34 [some (.ref 2), some (.int x1), some (.int x2), some (.int x3), some (.int x4), some (.int x5)] g r = B25_34 L xs m d k x1 x2 x3 x4 x5 g r := fs_lp.trans (b25_34 L xs m d k 890 x1 x2 x3 x4 x5 g r)
theorem e25 (L : Nat) (xs : Nat → Int32) (m d k : Nat) (n : Nat) (a1 a2 : Int32) (g : a2_G) (r : a2_A) : bk L xs 25 nm_m25 m d k (n + 29) 0 [some (.ref 2), some (.int a1), some (.int a2), none, none, none] [] g r = (fn_v (ev L xs m d 16 [.ref 2, .int a1] g r) fun v3 g1 r2 => (if am_c2 .lt a2 0 = true then (B25_21 L xs m d k a1 a2 v3 g1 r2) else (fn_v (ev L xs m d 17 [.ref 2, .int v3, .int 8] g1 r2) fun v6 g4 r5 => (if am_c2 .lt a2 v6 = true then (fn_v (ev L xs m d 17 [.ref 2, .int v3, .int 5] g4 r5) fun v9 g7 r8 => (B25_34 L xs m d k a1 a2 v3 v9 0 g7 r8)) else (B25_21 L xs m d k a1 a2 v3 g4 r5))))) := by
  refine (fs_r (n := n + 27) 2 (pc' := 2) (L' := [some (.ref 2), some (.int a1), some (.int a2), none, none, none]) (S' := [.int a1, .ref 2]) rfl).trans ?_
  refine (fs_cv (n := n + 26) (N := nm_m16) (as := [.ref 2, .int a1]) (rest := []) rfl rfl (Or.inl rfl) rfl rfl rfl rfl rfl).trans (fs_fv fun v3 g1 r2 => ?_)
  refine (fs_r (n := n + 24) 2 (pc' := 7) (L' := [some (.ref 2), some (.int a1), some (.int a2), some (.int v3), none, none]) (S' := [.int a2]) rfl).trans ?_
  refine (fs_i (n := n + 23) rfl (t := 21) rfl (by decide)).trans (fs_ite ?_ ?_)
  · skip
    exact b25_21 L xs m d k (n + 21) a1 a2 v3 g1 r2
  · skip
    refine (fs_r (n := n + 19) 4 (pc' := 15) (L' := [some (.ref 2), some (.int a1), some (.int a2), some (.int v3), none, none]) (S' := [.int 8, .int v3, .ref 2, .int a2]) rfl).trans ?_
    refine (fs_cv (n := n + 18) (N := nm_m17) (as := [.ref 2, .int v3, .int 8]) (rest := [.int a2]) rfl rfl (Or.inl rfl) rfl rfl rfl rfl rfl).trans (fs_fv fun v6 g4 r5 => ?_)
    refine (fs_j (n := n + 17) rfl (t := 23) rfl (by decide)).trans (fs_ite ?_ ?_)
    · skip
      refine (fs_r (n := n + 14) 3 (pc' := 26) (L' := [some (.ref 2), some (.int a1), some (.int a2), some (.int v3), none, none]) (S' := [.int 5, .int v3, .ref 2]) rfl).trans ?_
      refine (fs_cv (n := n + 13) (N := nm_m17) (as := [.ref 2, .int v3, .int 5]) (rest := []) rfl rfl (Or.inl rfl) rfl rfl rfl rfl rfl).trans (fs_fv fun v9 g7 r8 => ?_)
      refine (fs_r (n := n + 10) 3 (pc' := 34) (L' := [some (.ref 2), some (.int a1), some (.int a2), some (.int v3), some (.int v9), some (.int 0)]) (S' := []) rfl).trans ?_
      exact b25_34 L xs m d k (n + 0) a1 a2 v3 v9 0 g7 r8
    · skip
      exact b25_21 L xs m d k (n + 15) a1 a2 v3 g4 r5
theorem q25 (L : Nat) (xs : Nat → Int32) (m d : Nat) (a1 a2 : Int32) (g : a2_G) (r : a2_A) : ev L xs (m + 1) (d + 1) 25 [.ref 2, .int a1, .int a2] g r = (fn_v (ev L xs (m + 1) d 16 [.ref 2, .int a1] g r) fun v3 g1 r2 => (if am_c2 .lt a2 0 = true then (B25_21 L xs (m + 1) d m a1 a2 v3 g1 r2) else (fn_v (ev L xs (m + 1) d 17 [.ref 2, .int v3, .int 8] g1 r2) fun v6 g4 r5 => (if am_c2 .lt a2 v6 = true then (fn_v (ev L xs (m + 1) d 17 [.ref 2, .int v3, .int 5] g4 r5) fun v9 g7 r8 => (B25_34 L xs (m + 1) d m a1 a2 v3 v9 0 g7 r8)) else (B25_21 L xs (m + 1) d m a1 a2 v3 g4 r5))))) := (fs_ev (M := nm_m25) rfl rfl).trans (e25 L xs (m + 1) d m 871 a1 a2 g r)
/-- CobolParserModel.in(III)Z -/
def B159_15 (L : Nat) (xs : Nat → Int32) (m d k : Nat) (x1 x2 x3 x4 : Int32) (g : a2_G) (r : a2_A) : Option fn_Z := (if x4 = 0 ∨ x4 = 1 then some (.inl (some (.int x4)), g, r) else none)
theorem b159_15 (L : Nat) (xs : Nat → Int32) (m d k : Nat) (n : Nat) (x1 x2 x3 x4 : Int32) (g : a2_G) (r : a2_A) : bk L xs 159 nm_m159 m d k (n + 1) 15 [some (.int x1), some (.int x2), some (.int x3)] [.int x4] g r = B159_15 L xs m d k x1 x2 x3 x4 g r := by
  show _ = ((if x4 = 0 ∨ x4 = 1 then some (.inl (some (.int x4)), g, r) else none) : Option fn_Z)
  exact (fs_rb (n := n + 0) rfl rfl).trans rfl
def B159_14 (L : Nat) (xs : Nat → Int32) (m d k : Nat) (x1 x2 x3 : Int32) (g : a2_G) (r : a2_A) : Option fn_Z := (B159_15 L xs m d k x1 x2 x3 0 g r)
theorem b159_14 (L : Nat) (xs : Nat → Int32) (m d k : Nat) (n : Nat) (x1 x2 x3 : Int32) (g : a2_G) (r : a2_A) : bk L xs 159 nm_m159 m d k (n + 2) 14 [some (.int x1), some (.int x2), some (.int x3)] [] g r = B159_14 L xs m d k x1 x2 x3 g r := by
  show _ = ((B159_15 L xs m d k x1 x2 x3 0 g r) : Option fn_Z)
  refine (fs_r (n := n + 1) 1 (pc' := 15) (L' := [some (.int x1), some (.int x2), some (.int x3)]) (S' := [.int 0]) rfl).trans ?_
  exact b159_15 L xs m d k (n + 0) x1 x2 x3 0 g r
theorem e159 (L : Nat) (xs : Nat → Int32) (m d k : Nat) (n : Nat) (a1 a2 a3 : Int32) (g : a2_G) (r : a2_A) : bk L xs 159 nm_m159 m d k (n + 9) 0 [some (.int a1), some (.int a2), some (.int a3)] [] g r = (if am_c2 .lt a1 a2 = true then (B159_14 L xs m d k a1 a2 a3 g r) else (if am_c2 .gt a1 a3 = true then (B159_14 L xs m d k a1 a2 a3 g r) else (B159_15 L xs m d k a1 a2 a3 1 g r))) := by
  refine (fs_r (n := n + 7) 2 (pc' := 2) (L' := [some (.int a1), some (.int a2), some (.int a3)]) (S' := [.int a2, .int a1]) rfl).trans ?_
  refine (fs_j (n := n + 6) rfl (t := 14) rfl (by decide)).trans (fs_ite ?_ ?_)
  · skip
    exact b159_14 L xs m d k (n + 4) a1 a2 a3 g r
  · skip
    refine (fs_r (n := n + 4) 2 (pc' := 7) (L' := [some (.int a1), some (.int a2), some (.int a3)]) (S' := [.int a3, .int a1]) rfl).trans ?_
    refine (fs_j (n := n + 3) rfl (t := 14) rfl (by decide)).trans (fs_ite ?_ ?_)
    · skip
      exact b159_14 L xs m d k (n + 1) a1 a2 a3 g r
    · skip
      refine (fs_r (n := n + 2) 1 (pc' := 11) (L' := [some (.int a1), some (.int a2), some (.int a3)]) (S' := [.int 1]) rfl).trans ?_
      refine (fs_go (n := n + 1) rfl (t := 15) rfl (by decide)).trans ?_
      exact b159_15 L xs m d k (n + 0) a1 a2 a3 1 g r
theorem q159 (L : Nat) (xs : Nat → Int32) (m d : Nat) (a1 a2 a3 : Int32) (g : a2_G) (r : a2_A) : ev L xs (m + 1) (d + 1) 159 [.int a1, .int a2, .int a3] g r = (if am_c2 .lt a1 a2 = true then (B159_14 L xs (m + 1) d m a1 a2 a3 g r) else (if am_c2 .gt a1 a3 = true then (B159_14 L xs (m + 1) d m a1 a2 a3 g r) else (B159_15 L xs (m + 1) d m a1 a2 a3 1 g r))) := (fs_ev (M := nm_m159) rfl rfl).trans (e159 L xs (m + 1) d m 891 a1 a2 a3 g r)
/-- CobolParserModel.isKind(II)Z -/
def B167_23 (L : Nat) (xs : Nat → Int32) (m d k : Nat) (x1 x2 x3 : Int32) (g : a2_G) (r : a2_A) : Option fn_Z := (if x3 = 0 ∨ x3 = 1 then some (.inl (some (.int x3)), g, r) else none)
theorem b167_23 (L : Nat) (xs : Nat → Int32) (m d k : Nat) (n : Nat) (x1 x2 x3 : Int32) (g : a2_G) (r : a2_A) : bk L xs 167 nm_m167 m d k (n + 1) 23 [some (.ref 9), some (.int x1), some (.int x2)] [.int x3] g r = B167_23 L xs m d k x1 x2 x3 g r := by
  show _ = ((if x3 = 0 ∨ x3 = 1 then some (.inl (some (.int x3)), g, r) else none) : Option fn_Z)
  exact (fs_rb (n := n + 0) rfl rfl).trans rfl
def B167_22 (L : Nat) (xs : Nat → Int32) (m d k : Nat) (x1 x2 : Int32) (g : a2_G) (r : a2_A) : Option fn_Z := (B167_23 L xs m d k x1 x2 0 g r)
theorem b167_22 (L : Nat) (xs : Nat → Int32) (m d k : Nat) (n : Nat) (x1 x2 : Int32) (g : a2_G) (r : a2_A) : bk L xs 167 nm_m167 m d k (n + 2) 22 [some (.ref 9), some (.int x1), some (.int x2)] [] g r = B167_22 L xs m d k x1 x2 g r := by
  show _ = ((B167_23 L xs m d k x1 x2 0 g r) : Option fn_Z)
  refine (fs_r (n := n + 1) 1 (pc' := 23) (L' := [some (.ref 9), some (.int x1), some (.int x2)]) (S' := [.int 0]) rfl).trans ?_
  exact b167_23 L xs m d k (n + 0) x1 x2 0 g r
theorem e167 (L : Nat) (xs : Nat → Int32) (m d k : Nat) (n : Nat) (a1 a2 : Int32) (g : a2_G) (r : a2_A) : bk L xs 167 nm_m167 m d k (n + 13) 0 [some (.ref 9), some (.int a1), some (.int a2)] [] g r = (if am_c2 .ge a1 (g 904) = true then (B167_22 L xs m d k a1 a2 g r) else (if am_inr a1 (r 902).1 = true then (if am_c2 .ne ((r 902).2 (a1 : Int32).toNatClampNeg) a2 = true then (B167_22 L xs m d k a1 a2 g r) else (B167_23 L xs m d k a1 a2 1 g r)) else none)) := by
  refine (fs_r (n := n + 10) 3 (pc' := 5) (L' := [some (.ref 9), some (.int a1), some (.int a2)]) (S' := [.int (g 904), .int a1]) rfl).trans ?_
  refine (fs_j (n := n + 9) rfl (t := 22) rfl (by decide)).trans (fs_ite ?_ ?_)
  · skip
    exact b167_22 L xs m d k (n + 7) a1 a2 g r
  · skip
    refine (fs_r (n := n + 6) 3 (pc' := 13) (L' := [some (.ref 9), some (.int a1), some (.int a2)]) (S' := [.int a1, .ref 10902]) rfl).trans ?_
    refine (fs_il (n := n + 5) (k := 902) rfl rfl).trans (fs_ite ?_ rfl)
    refine (fs_r (n := n + 4) 1 (pc' := 15) (L' := [some (.ref 9), some (.int a1), some (.int a2)]) (S' := [.int a2, .int ((r 902).2 (a1 : Int32).toNatClampNeg)]) rfl).trans ?_
    refine (fs_j (n := n + 3) rfl (t := 22) rfl (by decide)).trans (fs_ite ?_ ?_)
    · skip
      exact b167_22 L xs m d k (n + 1) a1 a2 g r
    · skip
      refine (fs_r (n := n + 2) 1 (pc' := 19) (L' := [some (.ref 9), some (.int a1), some (.int a2)]) (S' := [.int 1]) rfl).trans ?_
      refine (fs_go (n := n + 1) rfl (t := 23) rfl (by decide)).trans ?_
      exact b167_23 L xs m d k (n + 0) a1 a2 1 g r
theorem q167 (L : Nat) (xs : Nat → Int32) (m d : Nat) (a1 a2 : Int32) (g : a2_G) (r : a2_A) : ev L xs (m + 1) (d + 1) 167 [.ref 9, .int a1, .int a2] g r = (if am_c2 .ge a1 (g 904) = true then (B167_22 L xs (m + 1) d m a1 a2 g r) else (if am_inr a1 (r 902).1 = true then (if am_c2 .ne ((r 902).2 (a1 : Int32).toNatClampNeg) a2 = true then (B167_22 L xs (m + 1) d m a1 a2 g r) else (B167_23 L xs (m + 1) d m a1 a2 1 g r)) else none)) := (fs_ev (M := nm_m167) rfl rfl).trans (e167 L xs (m + 1) d m 887 a1 a2 g r)
/-- CobolParserModel.isWord(II)Z -/
def B168_24 (L : Nat) (xs : Nat → Int32) (m d k : Nat) (x1 x2 x3 : Int32) (g : a2_G) (r : a2_A) : Option fn_Z := (if x3 = 0 ∨ x3 = 1 then some (.inl (some (.int x3)), g, r) else none)
theorem b168_24 (L : Nat) (xs : Nat → Int32) (m d k : Nat) (n : Nat) (x1 x2 x3 : Int32) (g : a2_G) (r : a2_A) : bk L xs 168 nm_m168 m d k (n + 1) 24 [some (.ref 9), some (.int x1), some (.int x2)] [.int x3] g r = B168_24 L xs m d k x1 x2 x3 g r := by
  show _ = ((if x3 = 0 ∨ x3 = 1 then some (.inl (some (.int x3)), g, r) else none) : Option fn_Z)
  exact (fs_rb (n := n + 0) rfl rfl).trans rfl
def B168_23 (L : Nat) (xs : Nat → Int32) (m d k : Nat) (x1 x2 : Int32) (g : a2_G) (r : a2_A) : Option fn_Z := (B168_24 L xs m d k x1 x2 0 g r)
theorem b168_23 (L : Nat) (xs : Nat → Int32) (m d k : Nat) (n : Nat) (x1 x2 : Int32) (g : a2_G) (r : a2_A) : bk L xs 168 nm_m168 m d k (n + 2) 23 [some (.ref 9), some (.int x1), some (.int x2)] [] g r = B168_23 L xs m d k x1 x2 g r := by
  show _ = ((B168_24 L xs m d k x1 x2 0 g r) : Option fn_Z)
  refine (fs_r (n := n + 1) 1 (pc' := 24) (L' := [some (.ref 9), some (.int x1), some (.int x2)]) (S' := [.int 0]) rfl).trans ?_
  exact b168_24 L xs m d k (n + 0) x1 x2 0 g r
theorem e168 (L : Nat) (xs : Nat → Int32) (m d k : Nat) (n : Nat) (a1 a2 : Int32) (g : a2_G) (r : a2_A) : bk L xs 168 nm_m168 m d k (n + 14) 0 [some (.ref 9), some (.int a1), some (.int a2)] [] g r = (fn_v (ev L xs m d 167 [.ref 9, .int a1, .int 0] g r) fun v3 g1 r2 => (if am_c2 .eq v3 0 = true then (B168_23 L xs m d k a1 a2 g1 r2) else (if am_inr a1 (r2 903).1 = true then (if am_c2 .ne ((r2 903).2 (a1 : Int32).toNatClampNeg) a2 = true then (B168_23 L xs m d k a1 a2 g1 r2) else (B168_24 L xs m d k a1 a2 1 g1 r2)) else none))) := by
  refine (fs_r (n := n + 11) 3 (pc' := 3) (L' := [some (.ref 9), some (.int a1), some (.int a2)]) (S' := [.int 0, .int a1, .ref 9]) rfl).trans ?_
  refine (fs_cv (n := n + 10) (N := nm_m167) (as := [.ref 9, .int a1, .int 0]) (rest := []) rfl rfl (Or.inl rfl) rfl rfl rfl rfl rfl).trans (fs_fv fun v3 g1 r2 => ?_)
  refine (fs_i (n := n + 9) rfl (t := 23) rfl (by decide)).trans (fs_ite ?_ ?_)
  · skip
    exact b168_23 L xs m d k (n + 7) a1 a2 g1 r2
  · skip
    refine (fs_r (n := n + 6) 3 (pc' := 14) (L' := [some (.ref 9), some (.int a1), some (.int a2)]) (S' := [.int a1, .ref 10903]) rfl).trans ?_
    refine (fs_il (n := n + 5) (k := 903) rfl rfl).trans (fs_ite ?_ rfl)
    refine (fs_r (n := n + 4) 1 (pc' := 16) (L' := [some (.ref 9), some (.int a1), some (.int a2)]) (S' := [.int a2, .int ((r2 903).2 (a1 : Int32).toNatClampNeg)]) rfl).trans ?_
    refine (fs_j (n := n + 3) rfl (t := 23) rfl (by decide)).trans (fs_ite ?_ ?_)
    · skip
      exact b168_23 L xs m d k (n + 1) a1 a2 g1 r2
    · skip
      refine (fs_r (n := n + 2) 1 (pc' := 20) (L' := [some (.ref 9), some (.int a1), some (.int a2)]) (S' := [.int 1]) rfl).trans ?_
      refine (fs_go (n := n + 1) rfl (t := 24) rfl (by decide)).trans ?_
      exact b168_24 L xs m d k (n + 0) a1 a2 1 g1 r2
theorem q168 (L : Nat) (xs : Nat → Int32) (m d : Nat) (a1 a2 : Int32) (g : a2_G) (r : a2_A) : ev L xs (m + 1) (d + 1) 168 [.ref 9, .int a1, .int a2] g r = (fn_v (ev L xs (m + 1) d 167 [.ref 9, .int a1, .int 0] g r) fun v3 g1 r2 => (if am_c2 .eq v3 0 = true then (B168_23 L xs (m + 1) d m a1 a2 g1 r2) else (if am_inr a1 (r2 903).1 = true then (if am_c2 .ne ((r2 903).2 (a1 : Int32).toNatClampNeg) a2 = true then (B168_23 L xs (m + 1) d m a1 a2 g1 r2) else (B168_24 L xs (m + 1) d m a1 a2 1 g1 r2)) else none))) := (fs_ev (M := nm_m168) rfl rfl).trans (e168 L xs (m + 1) d m 886 a1 a2 g r)
/-- CobolParserModel.meets(I)Z -/
def B170_19 (L : Nat) (xs : Nat → Int32) (m d k : Nat) (x1 : Int32) (g : a2_G) (r : a2_A) : Option fn_Z := (some (.inl (some (.int 0)), g, r))
theorem b170_19 (L : Nat) (xs : Nat → Int32) (m d k : Nat) (n : Nat) (x1 : Int32) (g : a2_G) (r : a2_A) : bk L xs 170 nm_m170 m d k (n + 2) 19 [some (.ref 9), some (.int x1)] [] g r = B170_19 L xs m d k x1 g r := by
  show _ = ((some (.inl (some (.int 0)), g, r)) : Option fn_Z)
  refine (fs_r (n := n + 1) 1 (pc' := 20) (L' := [some (.ref 9), some (.int x1)]) (S' := [.int 0]) rfl).trans ?_
  exact (fs_rb (n := n + 0) rfl rfl).trans ((if_pos (by decide)).trans rfl)
theorem e170 (L : Nat) (xs : Nat → Int32) (m d k : Nat) (n : Nat) (a1 : Int32) (g : a2_G) (r : a2_A) : bk L xs 170 nm_m170 m d k (n + 17) 0 [some (.ref 9), some (.int a1)] [] g r = (if am_c2 .ne (g 943) 0 = true then (B170_19 L xs m d k a1 g r) else (fn_v (ev L xs m d 168 [.ref 9, .int (g 941), .int a1] g r) fun v3 g1 r2 => (if am_c2 .ne v3 0 = true then (some (.inl (some (.int 1)), (upd g1 941 ((g1 941) + 1)), r2)) else (B170_19 L xs m d k a1 g1 r2)))) := by
  refine (fs_r (n := n + 15) 2 (pc' := 4) (L' := [some (.ref 9), some (.int a1)]) (S' := [.int (g 943)]) rfl).trans ?_
  refine (fs_i (n := n + 14) rfl (t := 19) rfl (by decide)).trans (fs_ite ?_ ?_)
  · skip
    exact b170_19 L xs m d k (n + 12) a1 g r
  · skip
    refine (fs_r (n := n + 10) 4 (pc' := 13) (L' := [some (.ref 9), some (.int a1)]) (S' := [.int a1, .int (g 941), .ref 9]) rfl).trans ?_
    refine (fs_cv (n := n + 9) (N := nm_m168) (as := [.ref 9, .int (g 941), .int a1]) (rest := []) rfl rfl (Or.inl rfl) rfl rfl rfl rfl rfl).trans (fs_fv fun v3 g1 r2 => ?_)
    refine (fs_i (n := n + 8) rfl (t := 21) rfl (by decide)).trans (fs_ite ?_ ?_)
    · skip
      refine (fs_r (n := n + 3) 5 (pc' := 28) (L' := [some (.ref 9), some (.int a1)]) (S' := [.int ((g1 941) + 1), .ref 9]) rfl).trans ?_
      refine (fs_pf (n := n + 2) (ci := 9) (j := 41) rfl rfl rfl rfl).trans ?_
      refine (fs_r (n := n + 1) 1 (pc' := 32) (L' := [some (.ref 9), some (.int a1)]) (S' := [.int 1]) rfl).trans ?_
      exact (fs_rb (n := n + 0) rfl rfl).trans ((if_pos (by decide)).trans rfl)
    · skip
      exact b170_19 L xs m d k (n + 6) a1 g1 r2
theorem q170 (L : Nat) (xs : Nat → Int32) (m d : Nat) (a1 : Int32) (g : a2_G) (r : a2_A) : ev L xs (m + 1) (d + 1) 170 [.ref 9, .int a1] g r = (if am_c2 .ne (g 943) 0 = true then (B170_19 L xs (m + 1) d m a1 g r) else (fn_v (ev L xs (m + 1) d 168 [.ref 9, .int (g 941), .int a1] g r) fun v3 g1 r2 => (if am_c2 .ne v3 0 = true then (some (.inl (some (.int 1)), (upd g1 941 ((g1 941) + 1)), r2)) else (B170_19 L xs (m + 1) d m a1 g1 r2)))) := (fs_ev (M := nm_m170) rfl rfl).trans (e170 L xs (m + 1) d m 883 a1 g r)
