set_option maxRecDepth 100000 in
set_option maxHeartbeats 4000000 in
/-- the law up to its loop: both objects are made -/
theorem p1_pre (L : Nat) (xs : Nat → Int32) {r : am_O × am_H} (k : am_Go (nm_F L xs) nm_cls nm_ms (am_Ev (nm_F L xs) nm_cls nm_ms 14) nm_law r (none, (23, [some (.retAddr 0), some (.ref 0), some (.ref 20), some (.ref 60), some (.int 0), none, none], [], p1_h23))) : am_Go (nm_F L xs) nm_cls nm_ms (am_Ev (nm_F L xs) nm_cls nm_ms 14) nm_law r (none, 0, am_ent nm_law [.retAddr 0], [], []) := by
  refine am_rg (p1_a0 _ _) 2 (b := (4, [some (.retAddr 0), none, none, none, none, none, none], [.ref 0, .ref 0], p1_h0)) rfl ?_
  refine am_cn (N := nm_m0) (as := [.ref 0]) (rest := [.ref 0]) (h' := p1_h15) rfl (am_ks p1_c0 (by decide)) (by decide) rfl rfl rfl (fun h => absurd h (by decide)) (fun _ => ⟨_, _, rfl⟩) (Nat.le_of_ble_eq_true rfl) ?_ ?_
  · refine am_em (d := 13) nm_m0 rfl rfl (Nat.le_of_ble_eq_true rfl) rfl ?_
    refine am_rg (p1_a1 _ _) 1 (b := (1, [some (.ref 0), none, none], [.ref 0], p1_h0)) rfl ?_
    refine am_ob rfl (am_ks p1_c1 (by decide)) (Nat.le_of_ble_eq_true rfl) ?_
    refine am_rg (p1_a1 _ _) 3 (b := (9, [some (.ref 0), none, none], [.ref 1, .ref 1, .ref 0], p1_h1)) rfl ?_
    refine am_cn (N := nm_m1) (as := [.ref 1]) (rest := [.ref 1, .ref 0]) (h' := p1_h2) rfl (am_ks p1_c2 (by decide)) (by decide) rfl rfl rfl (fun h => absurd h (by decide)) (fun _ => ⟨_, _, rfl⟩) (Nat.le_of_ble_eq_true rfl) ?_ ?_
    · refine am_em (d := 12) nm_m1 rfl rfl (Nat.le_of_ble_eq_true rfl) rfl ?_
      refine am_rg (p1_a2 _ _) 1 (b := (1, [some (.ref 1)], [.ref 1], p1_h1)) rfl ?_
      refine am_ob rfl (am_ks p1_c3 (by decide)) (Nat.le_of_ble_eq_true rfl) ?_
      refine am_rg (p1_a2 _ _) 28 (b := (56, [some (.ref 1)], [], p1_h2)) rfl ?_
      exact am_rv rfl rfl
    refine am_rg (p1_a1 _ _) 4 (b := (20, [some (.ref 0), none, none], [.ref 6, .ref 6, .ref 0], p1_h3)) rfl ?_
    refine am_cn (N := nm_m2) (as := [.ref 6]) (rest := [.ref 6, .ref 0]) (h' := p1_h4) rfl (am_ks p1_c4 (by decide)) (by decide) rfl rfl rfl (fun h => absurd h (by decide)) (fun _ => ⟨_, _, rfl⟩) (Nat.le_of_ble_eq_true rfl) ?_ ?_
    · refine am_em (d := 12) nm_m2 rfl rfl (Nat.le_of_ble_eq_true rfl) rfl ?_
      refine am_rg (p1_a3 _ _) 1 (b := (1, [some (.ref 6)], [.ref 6], p1_h3)) rfl ?_
      refine am_ob rfl (am_ks p1_c5 (by decide)) (Nat.le_of_ble_eq_true rfl) ?_
      refine am_rg (p1_a3 _ _) 16 (b := (33, [some (.ref 6)], [], p1_h4)) rfl ?_
      exact am_rv rfl rfl
    refine am_rg (p1_a1 _ _) 7 (b := (38, [some (.ref 0), none, none], [.ref 6, .ref 1, .ref 8, .ref 8], p1_h5)) rfl ?_
    refine am_cn (N := nm_m3) (as := [.ref 8, .ref 1, .ref 6]) (rest := [.ref 8]) (h' := p1_h6) rfl (am_ks p1_c6 (by decide)) (by decide) rfl rfl rfl (fun h => absurd h (by decide)) (fun _ => ⟨_, _, rfl⟩) (Nat.le_of_ble_eq_true rfl) ?_ ?_
    · refine am_em (d := 12) nm_m3 rfl rfl (Nat.le_of_ble_eq_true rfl) rfl ?_
      refine am_rg (p1_a4 _ _) 1 (b := (1, [some (.ref 8), some (.ref 1), some (.ref 6)], [.ref 8], p1_h5)) rfl ?_
      refine am_ob rfl (am_ks p1_c7 (by decide)) (Nat.le_of_ble_eq_true rfl) ?_
      refine am_rg (p1_a4 _ _) 6 (b := (14, [some (.ref 8), some (.ref 1), some (.ref 6)], [], p1_h6)) rfl ?_
      exact am_rv rfl rfl
    refine am_rg (p1_a1 _ _) 15 (b := (68, [some (.ref 0), some (.ref 8), none], [.ref 8, .ref 6, .ref 1, .ref 10, .ref 10, .ref 8, .ref 6, .ref 1, .ref 9, .ref 9], p1_h7)) rfl ?_
    refine am_cn (N := nm_m4) (as := [.ref 10, .ref 1, .ref 6, .ref 8]) (rest := [.ref 10, .ref 8, .ref 6, .ref 1, .ref 9, .ref 9]) (h' := p1_h8) rfl (am_ks p1_c8 (by decide)) (by decide) rfl rfl rfl (fun h => absurd h (by decide)) (fun _ => ⟨_, _, rfl⟩) (Nat.le_of_ble_eq_true rfl) ?_ ?_
    · refine am_em (d := 12) nm_m4 rfl rfl (Nat.le_of_ble_eq_true rfl) rfl ?_
      refine am_rg (p1_a5 _ _) 1 (b := (1, [some (.ref 10), some (.ref 1), some (.ref 6), some (.ref 8)], [.ref 10], p1_h7)) rfl ?_
      refine am_ob rfl (am_ks p1_c9 (by decide)) (Nat.le_of_ble_eq_true rfl) ?_
      refine am_rg (p1_a5 _ _) 15 (b := (29, [some (.ref 10), some (.ref 1), some (.ref 6), some (.ref 8)], [], p1_h8)) rfl ?_
      exact am_rv rfl rfl
    refine am_cn (N := nm_m5) (as := [.ref 9, .ref 1, .ref 6, .ref 8, .ref 10]) (rest := [.ref 9]) (h' := p1_h9) rfl (am_ks p1_c10 (by decide)) (by decide) rfl rfl rfl (fun h => absurd h (by decide)) (fun _ => ⟨_, _, rfl⟩) (Nat.le_of_ble_eq_true rfl) ?_ ?_
    · refine am_em (d := 12) nm_m5 rfl rfl (Nat.le_of_ble_eq_true rfl) rfl ?_
      refine am_rg (p1_a6 _ _) 1 (b := (1, [some (.ref 9), some (.ref 1), some (.ref 6), some (.ref 8), some (.ref 10)], [.ref 9], p1_h8)) rfl ?_
      refine am_ob rfl (am_ks p1_c11 (by decide)) (Nat.le_of_ble_eq_true rfl) ?_
      refine am_rg (p1_a6 _ _) 12 (b := (25, [some (.ref 9), some (.ref 1), some (.ref 6), some (.ref 8), some (.ref 10)], [], p1_h9)) rfl ?_
      exact am_rv rfl rfl
    refine am_rg (p1_a1 _ _) 17 (b := (103, [some (.ref 0), some (.ref 8), some (.ref 9)], [.ref 8, .ref 6, .ref 1, .ref 12, .ref 12, .ref 9, .ref 8, .ref 6, .ref 1, .ref 11, .ref 11, .ref 0], p1_h10)) rfl ?_
    refine am_cn (N := nm_m6) (as := [.ref 12, .ref 1, .ref 6, .ref 8]) (rest := [.ref 12, .ref 9, .ref 8, .ref 6, .ref 1, .ref 11, .ref 11, .ref 0]) (h' := p1_h11) rfl (am_ks p1_c12 (by decide)) (by decide) rfl rfl rfl (fun h => absurd h (by decide)) (fun _ => ⟨_, _, rfl⟩) (Nat.le_of_ble_eq_true rfl) ?_ ?_
    · refine am_em (d := 12) nm_m6 rfl rfl (Nat.le_of_ble_eq_true rfl) rfl ?_
      refine am_rg (p1_a7 _ _) 1 (b := (1, [some (.ref 12), some (.ref 1), some (.ref 6), some (.ref 8)], [.ref 12], p1_h10)) rfl ?_
      refine am_ob rfl (am_ks p1_c13 (by decide)) (Nat.le_of_ble_eq_true rfl) ?_
      refine am_rg (p1_a7 _ _) 23 (b := (45, [some (.ref 12), some (.ref 1), some (.ref 6), some (.ref 8)], [], p1_h11)) rfl ?_
      exact am_rv rfl rfl
    refine am_cn (N := nm_m7) (as := [.ref 11, .ref 1, .ref 6, .ref 8, .ref 9, .ref 12]) (rest := [.ref 11, .ref 0]) (h' := p1_h14) rfl (am_ks p1_c14 (by decide)) (by decide) rfl rfl rfl (fun h => absurd h (by decide)) (fun _ => ⟨_, _, rfl⟩) (Nat.le_of_ble_eq_true rfl) ?_ ?_
    · refine am_em (d := 12) nm_m7 rfl rfl (Nat.le_of_ble_eq_true rfl) rfl ?_
      refine am_rg (p1_a8 _ _) 1 (b := (1, [some (.ref 11), some (.ref 1), some (.ref 6), some (.ref 8), some (.ref 9), some (.ref 12)], [.ref 11], p1_h11)) rfl ?_
      refine am_ob rfl (am_ks p1_c15 (by decide)) (Nat.le_of_ble_eq_true rfl) ?_
      refine am_rg (p1_a8 _ _) 3 (b := (9, [some (.ref 11), some (.ref 1), some (.ref 6), some (.ref 8), some (.ref 9), some (.ref 12)], [.ref 15, .ref 15, .ref 11], p1_h12)) rfl ?_
      refine am_cn (N := nm_m8) (as := [.ref 15]) (rest := [.ref 15, .ref 11]) (h' := p1_h13) rfl (am_ks p1_c16 (by decide)) (by decide) rfl rfl rfl (fun h => absurd h (by decide)) (fun _ => ⟨_, _, rfl⟩) (Nat.le_of_ble_eq_true rfl) ?_ ?_
      · refine am_em (d := 11) nm_m8 rfl rfl (Nat.le_of_ble_eq_true rfl) rfl ?_
        refine am_rg (p1_a9 _ _) 1 (b := (1, [some (.ref 15)], [.ref 15], p1_h12)) rfl ?_
        refine am_ob rfl (am_ks p1_c17 (by decide)) (Nat.le_of_ble_eq_true rfl) ?_
        refine am_rg (p1_a9 _ _) 19 (b := (41, [some (.ref 15)], [], p1_h13)) rfl ?_
        exact am_rv rfl rfl
      refine am_rg (p1_a8 _ _) 28 (b := (62, [some (.ref 11), some (.ref 1), some (.ref 6), some (.ref 8), some (.ref 9), some (.ref 12)], [], p1_h14)) rfl ?_
      exact am_rv rfl rfl
    refine am_rg (p1_a1 _ _) 1 (b := (112, [some (.ref 0), some (.ref 8), some (.ref 9)], [], p1_h15)) rfl ?_
    exact am_rv rfl rfl
  refine am_rg (p1_a0 _ _) 3 (b := (12, [some (.retAddr 0), some (.ref 0), none, none, none, none, none], [.ref 20, .ref 20], p1_h16)) rfl ?_
  refine am_cn (N := nm_m156) (as := [.ref 20]) (rest := [.ref 20]) (h' := p1_h22) rfl (am_ks p1_c18 (by decide)) (by decide) rfl rfl rfl (fun h => absurd h (by decide)) (fun _ => ⟨_, _, rfl⟩) (Nat.le_of_ble_eq_true rfl) ?_ ?_
  · refine am_em (d := 13) nm_m156 rfl rfl (Nat.le_of_ble_eq_true rfl) rfl ?_
    refine am_rg (p1_a10 _ _) 1 (b := (1, [some (.ref 20)], [.ref 20], p1_h16)) rfl ?_
    refine am_ob rfl (am_ks p1_c19 (by decide)) (Nat.le_of_ble_eq_true rfl) ?_
    refine am_rg (p1_a10 _ _) 30 (b := (69, [some (.ref 20)], [.int 8000, .ref 20], p1_h17)) rfl ?_
    refine am_rg (p1_a10 _ _) 30 (b := (137, [some (.ref 20)], [], p1_h18)) rfl ?_
    refine am_rg (p1_a10 _ _) 30 (b := (199, [some (.ref 20)], [.int 11, .ref 20], p1_h19)) rfl ?_
    refine am_rg (p1_a10 _ _) 30 (b := (263, [some (.ref 20)], [], p1_h20)) rfl ?_
    refine am_rg (p1_a10 _ _) 30 (b := (322, [some (.ref 20)], [.int 64, .ref 20], p1_h21)) rfl ?_
    refine am_rg (p1_a10 _ _) 6 (b := (335, [some (.ref 20)], [], p1_h22)) rfl ?_
    exact am_rv rfl rfl
  refine am_rg (p1_a0 _ _) 6 (b := (23, [some (.retAddr 0), some (.ref 0), some (.ref 20), some (.ref 60), some (.int 0), none, none], [], p1_h23)) rfl ?_
  exact k
set_option maxRecDepth 100000 in
theorem p1_s0 (xs : Nat → Int32) : ∃ hf : am_H, am_Go (nm_F 0 xs) nm_cls nm_ms (am_Ev (nm_F 0 xs) nm_cls nm_ms 14) nm_law (.inl (some (.int 1)), hf) (none, (23, [some (.retAddr 0), some (.ref 0), some (.ref 20), some (.ref 60), some (.int 0), none, none], [], p1_h23)) ∧ hf.length ≤ 600002 ∧ am_sz hf ≤ 7302232 := by
  refine ⟨p1_h23, ?_, Nat.le_of_ble_eq_true rfl, Nat.le_of_ble_eq_true rfl⟩
  refine am_rg (p1_a0 _ _) 3 (b := (27, [some (.retAddr 0), some (.ref 0), some (.ref 20), some (.ref 60), some (.int 0), none, none], [.int 0, .int 0], p1_h23)) rfl ?_
  refine am_rg (p1_a0 _ _) 4 (b := (375, [some (.retAddr 0), some (.ref 0), some (.ref 20), some (.ref 60), some (.int 0), none, none], [.int 1], p1_h23)) rfl ?_
  exact am_ri rfl rfl rfl
set_option maxRecDepth 100000 in
theorem p1_s1 (xs : Nat → Int32) : ∃ hf : am_H, am_Go (nm_F 1 xs) nm_cls nm_ms (am_Ev (nm_F 1 xs) nm_cls nm_ms 14) nm_law (.inl (some (.int 1)), hf) (none, (23, [some (.retAddr 0), some (.ref 0), some (.ref 20), some (.ref 60), some (.int 0), none, none], [], p1_h23)) ∧ hf.length ≤ 600002 ∧ am_sz hf ≤ 7302232 := by
  refine ⟨p1_h23, ?_, Nat.le_of_ble_eq_true rfl, Nat.le_of_ble_eq_true rfl⟩
  refine am_rg (p1_a0 _ _) 3 (b := (27, [some (.retAddr 0), some (.ref 0), some (.ref 20), some (.ref 60), some (.int 0), none, none], [.int 1, .int 0], p1_h23)) rfl ?_
  refine am_rg (p1_a0 _ _) 4 (b := (375, [some (.retAddr 0), some (.ref 0), some (.ref 20), some (.ref 60), some (.int 0), none, none], [.int 1], p1_h23)) rfl ?_
  exact am_ri rfl rfl rfl
set_option maxRecDepth 100000 in
theorem p1_s2 (xs : Nat → Int32) : ∃ hf : am_H, am_Go (nm_F 2 xs) nm_cls nm_ms (am_Ev (nm_F 2 xs) nm_cls nm_ms 14) nm_law (.inl (some (.int 1)), hf) (none, (23, [some (.retAddr 0), some (.ref 0), some (.ref 20), some (.ref 60), some (.int 0), none, none], [], p1_h23)) ∧ hf.length ≤ 600002 ∧ am_sz hf ≤ 7302232 := by
  refine ⟨p1_h23, ?_, Nat.le_of_ble_eq_true rfl, Nat.le_of_ble_eq_true rfl⟩
  refine am_rg (p1_a0 _ _) 3 (b := (27, [some (.retAddr 0), some (.ref 0), some (.ref 20), some (.ref 60), some (.int 0), none, none], [.int 2, .int 0], p1_h23)) rfl ?_
  refine am_rg (p1_a0 _ _) 4 (b := (375, [some (.retAddr 0), some (.ref 0), some (.ref 20), some (.ref 60), some (.int 0), none, none], [.int 1], p1_h23)) rfl ?_
  exact am_ri rfl rfl rfl
set_option maxRecDepth 100000 in
set_option maxHeartbeats 4000000 in
theorem p1_o0 (xs : Nat → Int32) (a1 a2 : Int32) (h1 : xs 1 = a1) (h2 : xs 2 = a2) (h0 : xs 0 &&& 15 = 0) : ∃ hf : am_H, am_Go (nm_F 3 xs) nm_cls nm_ms (am_Ev (nm_F 3 xs) nm_cls nm_ms 14) nm_law (.inl (some (.int 1)), hf) (none, (23, [some (.retAddr 0), some (.ref 0), some (.ref 20), some (.ref 60), some (.int 0), none, none], [], p1_h23)) ∧ hf.length ≤ 600002 ∧ am_sz hf ≤ 7302232 := by
  have d1 : a1.toInt < 0 ∨ 6 ≤ a1.toInt ∨ a1.toInt = 0 ∨ a1.toInt = 1 ∨ a1.toInt = 2 ∨ a1.toInt = 3 ∨ a1.toInt = 4 ∨ a1.toInt = 5 := by omega
  rcases d1 with d1 | d1 | d1 | d1 | d1 | d1 | d1 | d1
  · skip
    refine ⟨p1_h23, ?_, Nat.le_of_ble_eq_true rfl, Nat.le_of_ble_eq_true rfl⟩
    refine am_rg (p1_a0 _ _) 3 (b := (27, [some (.retAddr 0), some (.ref 0), some (.ref 20), some (.ref 60), some (.int 0), none, none], [.int 3, .int 0], p1_h23)) rfl ?_
    refine am_rg (p1_a0 _ _) 5 (b := (35, [some (.retAddr 0), some (.ref 0), some (.ref 20), some (.ref 60), some (.int 0), none, none], [.int 0, .retAddr 0], p1_h23)) rfl ?_
    refine am_sl rfl rfl rfl ?_
    refine am_rg (p1_a0 _ _) 1 (b := (38, [some (.retAddr 0), some (.ref 0), some (.ref 20), some (.ref 60), some (.int 0), none, none], [.int 15, .int (xs 0)], p1_h23)) rfl ?_
    refine am_an rfl h0 ?_
    refine am_rg (p1_a0 _ _) 6 (b := (94, [some (.retAddr 0), some (.ref 0), some (.ref 20), some (.ref 60), some (.int 0), none, none], [.int 1, .retAddr 0, .ref 0], p1_h23)) rfl ?_
    refine am_sl rfl rfl h1 ?_
    refine am_rg (p1_a0 _ _) 4 (b := (100, [some (.retAddr 0), some (.ref 0), some (.ref 20), some (.ref 60), some (.int 0), none, none], [.int 2, .retAddr 0, .int a1, .ref 0], p1_h23)) rfl ?_
    refine am_sl rfl rfl h2 ?_
    refine am_cv (N := nm_m9) (as := [.ref 0, .int a1, .int a2]) (rest := []) (v := .int (-4)) (h' := p1_h23) rfl (am_kv p1_c20 (by decide)) (by decide) rfl rfl rfl (fun _ => ⟨_, _, _, _, _, rfl, rfl, rfl, rfl⟩) (fun h => absurd h (by decide)) (Nat.le_of_ble_eq_true rfl) ?_ ?_
    · refine am_em (d := 13) nm_m9 rfl rfl (Nat.le_of_ble_eq_true rfl) rfl ?_
      refine am_rg (p1_a1 _ _) 2 (b := (2, [some (.ref 0), some (.int a1), some (.int a2)], [.int a2, .int a1], p1_h23)) rfl ?_
      refine am_cv (N := nm_m10) (as := [.int a1, .int a2]) (rest := []) (v := .int 0) (h' := p1_h23) rfl (am_kt p1_c21 (by decide)) (by decide) rfl rfl rfl (fun h => absurd h (by decide)) (fun h => absurd h (by decide)) (Nat.le_of_ble_eq_true rfl) ?_ ?_
      · refine am_em (d := 12) nm_m10 rfl rfl (Nat.le_of_ble_eq_true rfl) rfl ?_
        refine am_rg (p1_a1 _ _) 1 (b := (1, [some (.int a1), some (.int a2)], [.int a1], p1_h23)) rfl ?_
        refine am_td rfl (t := 106) rfl (by omega) ?_
        refine am_rg (p1_a1 _ _) 1 (b := (107, [some (.int a1), some (.int a2)], [.int 0], p1_h23)) rfl ?_
        exact am_ri rfl rfl rfl
      refine am_rg (p1_a1 _ _) 2 (b := (10, [some (.ref 0), some (.int a1), some (.int a2)], [.int (-4)], p1_h23)) rfl ?_
      exact am_ri rfl rfl rfl
    refine am_rg (p1_a0 _ _) 5 (b := (110, [some (.retAddr 0), some (.ref 0), some (.ref 20), some (.ref 60), some (.int 0), none, none], [.int 1, .retAddr 0, .ref 20, .int (-4)], p1_h23)) rfl ?_
    refine am_sl rfl rfl h1 ?_
    refine am_rg (p1_a0 _ _) 4 (b := (116, [some (.retAddr 0), some (.ref 0), some (.ref 20), some (.ref 60), some (.int 0), none, none], [.int 2, .retAddr 0, .int a1, .ref 20, .int (-4)], p1_h23)) rfl ?_
    refine am_sl rfl rfl h2 ?_
    refine am_cv (N := nm_m158) (as := [.ref 20, .int a1, .int a2]) (rest := [.int (-4)]) (v := .int (-4)) (h' := p1_h23) rfl (am_kv p1_c22 (by decide)) (by decide) rfl rfl rfl (fun _ => ⟨_, _, _, _, _, rfl, rfl, rfl, rfl⟩) (fun h => absurd h (by decide)) (Nat.le_of_ble_eq_true rfl) ?_ ?_
    · refine am_em (d := 13) nm_m158 rfl rfl (Nat.le_of_ble_eq_true rfl) rfl ?_
      refine am_rg (p1_a10 _ _) 6 (b := (8, [some (.ref 20), some (.int a1), some (.int a2), none], [.int 5, .int 0, .int a1], p1_h23)) rfl ?_
      refine am_cv (N := nm_m159) (as := [.int a1, .int 0, .int 5]) (rest := []) (v := .int 0) (h' := p1_h23) rfl (am_kt p1_c23 (by decide)) (by decide) rfl rfl rfl (fun h => absurd h (by decide)) (fun h => absurd h (by decide)) (Nat.le_of_ble_eq_true rfl) ?_ ?_
      · refine am_em (d := 12) nm_m159 rfl rfl (Nat.le_of_ble_eq_true rfl) rfl ?_
        refine am_rg (p1_a10 _ _) 2 (b := (2, [some (.int a1), some (.int 0), some (.int 5)], [.int 0, .int a1], p1_h23)) rfl ?_
        refine am_j1 rfl (t := 14) rfl (am_cT (b := 0) rfl (by show (a1.toInt < 0); omega)) ?_
        refine am_rg (p1_a10 _ _) 1 (b := (15, [some (.int a1), some (.int 0), some (.int 5)], [.int 0], p1_h23)) rfl ?_
        exact am_ri rfl rfl rfl
      refine am_rg (p1_a10 _ _) 2 (b := (16, [some (.ref 20), some (.int a1), some (.int a2), none], [.int (-4)], p1_h23)) rfl ?_
      exact am_ri rfl rfl rfl
    refine am_rg (p1_a0 _ _) 6 (b := (27, [some (.retAddr 0), some (.ref 0), some (.ref 20), some (.ref 60), some (.int 3), none, none], [.int 3, .int 3], p1_h23)) rfl ?_
    refine am_rg (p1_a0 _ _) 4 (b := (375, [some (.retAddr 0), some (.ref 0), some (.ref 20), some (.ref 60), some (.int 3), none, none], [.int 1], p1_h23)) rfl ?_
    exact am_ri rfl rfl rfl
  · skip
    refine ⟨p1_h23, ?_, Nat.le_of_ble_eq_true rfl, Nat.le_of_ble_eq_true rfl⟩
    refine am_rg (p1_a0 _ _) 3 (b := (27, [some (.retAddr 0), some (.ref 0), some (.ref 20), some (.ref 60), some (.int 0), none, none], [.int 3, .int 0], p1_h23)) rfl ?_
    refine am_rg (p1_a0 _ _) 5 (b := (35, [some (.retAddr 0), some (.ref 0), some (.ref 20), some (.ref 60), some (.int 0), none, none], [.int 0, .retAddr 0], p1_h23)) rfl ?_
    refine am_sl rfl rfl rfl ?_
    refine am_rg (p1_a0 _ _) 1 (b := (38, [some (.retAddr 0), some (.ref 0), some (.ref 20), some (.ref 60), some (.int 0), none, none], [.int 15, .int (xs 0)], p1_h23)) rfl ?_
    refine am_an rfl h0 ?_
    refine am_rg (p1_a0 _ _) 6 (b := (94, [some (.retAddr 0), some (.ref 0), some (.ref 20), some (.ref 60), some (.int 0), none, none], [.int 1, .retAddr 0, .ref 0], p1_h23)) rfl ?_
    refine am_sl rfl rfl h1 ?_
    refine am_rg (p1_a0 _ _) 4 (b := (100, [some (.retAddr 0), some (.ref 0), some (.ref 20), some (.ref 60), some (.int 0), none, none], [.int 2, .retAddr 0, .int a1, .ref 0], p1_h23)) rfl ?_
    refine am_sl rfl rfl h2 ?_
    refine am_cv (N := nm_m9) (as := [.ref 0, .int a1, .int a2]) (rest := []) (v := .int (-4)) (h' := p1_h23) rfl (am_kv p1_c20 (by decide)) (by decide) rfl rfl rfl (fun _ => ⟨_, _, _, _, _, rfl, rfl, rfl, rfl⟩) (fun h => absurd h (by decide)) (Nat.le_of_ble_eq_true rfl) ?_ ?_
    · refine am_em (d := 13) nm_m9 rfl rfl (Nat.le_of_ble_eq_true rfl) rfl ?_
      refine am_rg (p1_a1 _ _) 2 (b := (2, [some (.ref 0), some (.int a1), some (.int a2)], [.int a2, .int a1], p1_h23)) rfl ?_
      refine am_cv (N := nm_m10) (as := [.int a1, .int a2]) (rest := []) (v := .int 0) (h' := p1_h23) rfl (am_kt p1_c21 (by decide)) (by decide) rfl rfl rfl (fun h => absurd h (by decide)) (fun h => absurd h (by decide)) (Nat.le_of_ble_eq_true rfl) ?_ ?_
      · refine am_em (d := 12) nm_m10 rfl rfl (Nat.le_of_ble_eq_true rfl) rfl ?_
        refine am_rg (p1_a1 _ _) 1 (b := (1, [some (.int a1), some (.int a2)], [.int a1], p1_h23)) rfl ?_
        refine am_td rfl (t := 106) rfl (by omega) ?_
        refine am_rg (p1_a1 _ _) 1 (b := (107, [some (.int a1), some (.int a2)], [.int 0], p1_h23)) rfl ?_
        exact am_ri rfl rfl rfl
      refine am_rg (p1_a1 _ _) 2 (b := (10, [some (.ref 0), some (.int a1), some (.int a2)], [.int (-4)], p1_h23)) rfl ?_
      exact am_ri rfl rfl rfl
    refine am_rg (p1_a0 _ _) 5 (b := (110, [some (.retAddr 0), some (.ref 0), some (.ref 20), some (.ref 60), some (.int 0), none, none], [.int 1, .retAddr 0, .ref 20, .int (-4)], p1_h23)) rfl ?_
    refine am_sl rfl rfl h1 ?_
    refine am_rg (p1_a0 _ _) 4 (b := (116, [some (.retAddr 0), some (.ref 0), some (.ref 20), some (.ref 60), some (.int 0), none, none], [.int 2, .retAddr 0, .int a1, .ref 20, .int (-4)], p1_h23)) rfl ?_
    refine am_sl rfl rfl h2 ?_
    refine am_cv (N := nm_m158) (as := [.ref 20, .int a1, .int a2]) (rest := [.int (-4)]) (v := .int (-4)) (h' := p1_h23) rfl (am_kv p1_c22 (by decide)) (by decide) rfl rfl rfl (fun _ => ⟨_, _, _, _, _, rfl, rfl, rfl, rfl⟩) (fun h => absurd h (by decide)) (Nat.le_of_ble_eq_true rfl) ?_ ?_
    · refine am_em (d := 13) nm_m158 rfl rfl (Nat.le_of_ble_eq_true rfl) rfl ?_
      refine am_rg (p1_a10 _ _) 6 (b := (8, [some (.ref 20), some (.int a1), some (.int a2), none], [.int 5, .int 0, .int a1], p1_h23)) rfl ?_
      refine am_cv (N := nm_m159) (as := [.int a1, .int 0, .int 5]) (rest := []) (v := .int 0) (h' := p1_h23) rfl (am_kt p1_c23 (by decide)) (by decide) rfl rfl rfl (fun h => absurd h (by decide)) (fun h => absurd h (by decide)) (Nat.le_of_ble_eq_true rfl) ?_ ?_
      · refine am_em (d := 12) nm_m159 rfl rfl (Nat.le_of_ble_eq_true rfl) rfl ?_
        refine am_rg (p1_a10 _ _) 2 (b := (2, [some (.int a1), some (.int 0), some (.int 5)], [.int 0, .int a1], p1_h23)) rfl ?_
        refine am_j0 rfl (t := 14) rfl (am_cF (b := 0) rfl (by show ¬ (a1.toInt < 0); omega)) ?_
        refine am_rg (p1_a10 _ _) 2 (b := (7, [some (.int a1), some (.int 0), some (.int 5)], [.int 5, .int a1], p1_h23)) rfl ?_
        refine am_j1 rfl (t := 14) rfl (am_cT (b := 5) rfl (by show (a1.toInt > 5); omega)) ?_
        refine am_rg (p1_a10 _ _) 1 (b := (15, [some (.int a1), some (.int 0), some (.int 5)], [.int 0], p1_h23)) rfl ?_
        exact am_ri rfl rfl rfl
      refine am_rg (p1_a10 _ _) 2 (b := (16, [some (.ref 20), some (.int a1), some (.int a2), none], [.int (-4)], p1_h23)) rfl ?_
      exact am_ri rfl rfl rfl
    refine am_rg (p1_a0 _ _) 6 (b := (27, [some (.retAddr 0), some (.ref 0), some (.ref 20), some (.ref 60), some (.int 3), none, none], [.int 3, .int 3], p1_h23)) rfl ?_
    refine am_rg (p1_a0 _ _) 4 (b := (375, [some (.retAddr 0), some (.ref 0), some (.ref 20), some (.ref 60), some (.int 3), none, none], [.int 1], p1_h23)) rfl ?_
    exact am_ri rfl rfl rfl
  · obtain rfl : a1 = 0 := am_inj d1 rfl
    have d2 : a2.toInt < 0 ∨ 0 ≤ a2.toInt := by omega
    rcases d2 with d2 | d2
    · skip
      refine ⟨p1_h23, ?_, Nat.le_of_ble_eq_true rfl, Nat.le_of_ble_eq_true rfl⟩
      refine am_rg (p1_a0 _ _) 3 (b := (27, [some (.retAddr 0), some (.ref 0), some (.ref 20), some (.ref 60), some (.int 0), none, none], [.int 3, .int 0], p1_h23)) rfl ?_
      refine am_rg (p1_a0 _ _) 5 (b := (35, [some (.retAddr 0), some (.ref 0), some (.ref 20), some (.ref 60), some (.int 0), none, none], [.int 0, .retAddr 0], p1_h23)) rfl ?_
      refine am_sl rfl rfl rfl ?_
      refine am_rg (p1_a0 _ _) 1 (b := (38, [some (.retAddr 0), some (.ref 0), some (.ref 20), some (.ref 60), some (.int 0), none, none], [.int 15, .int (xs 0)], p1_h23)) rfl ?_
      refine am_an rfl h0 ?_
      refine am_rg (p1_a0 _ _) 6 (b := (94, [some (.retAddr 0), some (.ref 0), some (.ref 20), some (.ref 60), some (.int 0), none, none], [.int 1, .retAddr 0, .ref 0], p1_h23)) rfl ?_
      refine am_sl rfl rfl h1 ?_
      refine am_rg (p1_a0 _ _) 4 (b := (100, [some (.retAddr 0), some (.ref 0), some (.ref 20), some (.ref 60), some (.int 0), none, none], [.int 2, .retAddr 0, .int 0, .ref 0], p1_h23)) rfl ?_
      refine am_sl rfl rfl h2 ?_
      refine am_cv (N := nm_m9) (as := [.ref 0, .int 0, .int a2]) (rest := []) (v := .int (-4)) (h' := p1_h23) rfl (am_kv p1_c20 (by decide)) (by decide) rfl rfl rfl (fun _ => ⟨_, _, _, _, _, rfl, rfl, rfl, rfl⟩) (fun h => absurd h (by decide)) (Nat.le_of_ble_eq_true rfl) ?_ ?_
      · refine am_em (d := 13) nm_m9 rfl rfl (Nat.le_of_ble_eq_true rfl) rfl ?_
        refine am_rg (p1_a1 _ _) 2 (b := (2, [some (.ref 0), some (.int 0), some (.int a2)], [.int a2, .int 0], p1_h23)) rfl ?_
        refine am_cv (N := nm_m10) (as := [.int 0, .int a2]) (rest := []) (v := .int 0) (h' := p1_h23) rfl (am_kt p1_c21 (by decide)) (by decide) rfl rfl rfl (fun h => absurd h (by decide)) (fun h => absurd h (by decide)) (Nat.le_of_ble_eq_true rfl) ?_ ?_
        · refine am_em (d := 12) nm_m10 rfl rfl (Nat.le_of_ble_eq_true rfl) rfl ?_
          refine am_rg (p1_a1 _ _) 3 (b := (41, [some (.int 0), some (.int a2)], [.int a2], p1_h23)) rfl ?_
          refine am_i1 rfl (t := 54) rfl (am_cT (b := 0) rfl (by show (a2.toInt < 0); omega)) ?_
          refine am_rg (p1_a1 _ _) 1 (b := (55, [some (.int 0), some (.int a2)], [.int 0], p1_h23)) rfl ?_
          exact am_ri rfl rfl rfl
        refine am_rg (p1_a1 _ _) 2 (b := (10, [some (.ref 0), some (.int 0), some (.int a2)], [.int (-4)], p1_h23)) rfl ?_
        exact am_ri rfl rfl rfl
      refine am_rg (p1_a0 _ _) 5 (b := (110, [some (.retAddr 0), some (.ref 0), some (.ref 20), some (.ref 60), some (.int 0), none, none], [.int 1, .retAddr 0, .ref 20, .int (-4)], p1_h23)) rfl ?_
      refine am_sl rfl rfl h1 ?_
      refine am_rg (p1_a0 _ _) 4 (b := (116, [some (.retAddr 0), some (.ref 0), some (.ref 20), some (.ref 60), some (.int 0), none, none], [.int 2, .retAddr 0, .int 0, .ref 20, .int (-4)], p1_h23)) rfl ?_
      refine am_sl rfl rfl h2 ?_
      refine am_cv (N := nm_m158) (as := [.ref 20, .int 0, .int a2]) (rest := [.int (-4)]) (v := .int (-4)) (h' := p1_h23) rfl (am_kv p1_c22 (by decide)) (by decide) rfl rfl rfl (fun _ => ⟨_, _, _, _, _, rfl, rfl, rfl, rfl⟩) (fun h => absurd h (by decide)) (Nat.le_of_ble_eq_true rfl) ?_ ?_
      · refine am_em (d := 13) nm_m158 rfl rfl (Nat.le_of_ble_eq_true rfl) rfl ?_
        refine am_rg (p1_a10 _ _) 6 (b := (8, [some (.ref 20), some (.int 0), some (.int a2), none], [.int 5, .int 0, .int 0], p1_h23)) rfl ?_
        refine am_cv (N := nm_m159) (as := [.int 0, .int 0, .int 5]) (rest := []) (v := .int 1) (h' := p1_h23) rfl (am_kt p1_c23 (by decide)) (by decide) rfl rfl rfl (fun h => absurd h (by decide)) (fun h => absurd h (by decide)) (Nat.le_of_ble_eq_true rfl) ?_ ?_
        · refine am_em (d := 12) nm_m159 rfl rfl (Nat.le_of_ble_eq_true rfl) rfl ?_
          refine am_rg (p1_a10 _ _) 8 (b := (15, [some (.int 0), some (.int 0), some (.int 5)], [.int 1], p1_h23)) rfl ?_
          exact am_ri rfl rfl rfl
        refine am_rg (p1_a10 _ _) 12 (b := (57, [some (.ref 20), some (.int 0), some (.int a2), some (.int 78)], [.int 78, .int 0, .int a2], p1_h23)) rfl ?_
        refine am_cv (N := nm_m159) (as := [.int a2, .int 0, .int 78]) (rest := []) (v := .int 0) (h' := p1_h23) rfl (am_kt p1_c23 (by decide)) (by decide) rfl rfl rfl (fun h => absurd h (by decide)) (fun h => absurd h (by decide)) (Nat.le_of_ble_eq_true rfl) ?_ ?_
        · refine am_em (d := 12) nm_m159 rfl rfl (Nat.le_of_ble_eq_true rfl) rfl ?_
          refine am_rg (p1_a10 _ _) 2 (b := (2, [some (.int a2), some (.int 0), some (.int 78)], [.int 0, .int a2], p1_h23)) rfl ?_
          refine am_j1 rfl (t := 14) rfl (am_cT (b := 0) rfl (by show (a2.toInt < 0); omega)) ?_
          refine am_rg (p1_a10 _ _) 1 (b := (15, [some (.int a2), some (.int 0), some (.int 78)], [.int 0], p1_h23)) rfl ?_
          exact am_ri rfl rfl rfl
        refine am_rg (p1_a10 _ _) 2 (b := (65, [some (.ref 20), some (.int 0), some (.int a2), some (.int 78)], [.int (-4)], p1_h23)) rfl ?_
        exact am_ri rfl rfl rfl
      refine am_rg (p1_a0 _ _) 6 (b := (27, [some (.retAddr 0), some (.ref 0), some (.ref 20), some (.ref 60), some (.int 3), none, none], [.int 3, .int 3], p1_h23)) rfl ?_
      refine am_rg (p1_a0 _ _) 4 (b := (375, [some (.retAddr 0), some (.ref 0), some (.ref 20), some (.ref 60), some (.int 3), none, none], [.int 1], p1_h23)) rfl ?_
      exact am_ri rfl rfl rfl
    · skip
      have d3 : a2.toInt < 79 ∨ 79 ≤ a2.toInt := by omega
      rcases d3 with d3 | d3
      · skip
        refine ⟨(p1_y28 a2), ?_, Nat.le_of_ble_eq_true rfl, (by simp [am_sz, am_es, p1_y28])⟩
        refine am_rg (p1_a0 _ _) 3 (b := (27, [some (.retAddr 0), some (.ref 0), some (.ref 20), some (.ref 60), some (.int 0), none, none], [.int 3, .int 0], p1_h23)) rfl ?_
        refine am_rg (p1_a0 _ _) 5 (b := (35, [some (.retAddr 0), some (.ref 0), some (.ref 20), some (.ref 60), some (.int 0), none, none], [.int 0, .retAddr 0], p1_h23)) rfl ?_
        refine am_sl rfl rfl rfl ?_
        refine am_rg (p1_a0 _ _) 1 (b := (38, [some (.retAddr 0), some (.ref 0), some (.ref 20), some (.ref 60), some (.int 0), none, none], [.int 15, .int (xs 0)], p1_h23)) rfl ?_
        refine am_an rfl h0 ?_
        refine am_rg (p1_a0 _ _) 6 (b := (94, [some (.retAddr 0), some (.ref 0), some (.ref 20), some (.ref 60), some (.int 0), none, none], [.int 1, .retAddr 0, .ref 0], p1_h23)) rfl ?_
        refine am_sl rfl rfl h1 ?_
        refine am_rg (p1_a0 _ _) 4 (b := (100, [some (.retAddr 0), some (.ref 0), some (.ref 20), some (.ref 60), some (.int 0), none, none], [.int 2, .retAddr 0, .int 0, .ref 0], p1_h23)) rfl ?_
        refine am_sl rfl rfl h2 ?_
        refine am_cv (N := nm_m9) (as := [.ref 0, .int 0, .int a2]) (rest := []) (v := .int 1) (h' := (p1_y25 a2)) rfl (am_kv p1_c20 (by decide)) (by decide) rfl rfl rfl (fun _ => ⟨_, _, _, _, _, rfl, rfl, rfl, rfl⟩) (fun h => absurd h (by decide)) (Nat.le_of_ble_eq_true rfl) ?_ ?_
        · refine am_em (d := 13) nm_m9 rfl rfl (Nat.le_of_ble_eq_true rfl) rfl ?_
          refine am_rg (p1_a1 _ _) 2 (b := (2, [some (.ref 0), some (.int 0), some (.int a2)], [.int a2, .int 0], p1_h23)) rfl ?_
          refine am_cv (N := nm_m10) (as := [.int 0, .int a2]) (rest := []) (v := .int 1) (h' := p1_h23) rfl (am_kt p1_c21 (by decide)) (by decide) rfl rfl rfl (fun h => absurd h (by decide)) (fun h => absurd h (by decide)) (Nat.le_of_ble_eq_true rfl) ?_ ?_
          · refine am_em (d := 12) nm_m10 rfl rfl (Nat.le_of_ble_eq_true rfl) rfl ?_
            refine am_rg (p1_a1 _ _) 3 (b := (41, [some (.int 0), some (.int a2)], [.int a2], p1_h23)) rfl ?_
            refine am_i0 rfl (t := 54) rfl (am_cF (b := 0) rfl (by show ¬ (a2.toInt < 0); omega)) ?_
            refine am_rg (p1_a1 _ _) 2 (b := (47, [some (.int 0), some (.int a2)], [.int 78, .int a2], p1_h23)) rfl ?_
            refine am_j0 rfl (t := 54) rfl (am_cF (b := 78) rfl (by show ¬ (a2.toInt > 78); omega)) ?_
            refine am_rg (p1_a1 _ _) 2 (b := (55, [some (.int 0), some (.int a2)], [.int 1], p1_h23)) rfl ?_
            exact am_ri rfl rfl rfl
          refine am_rg (p1_a1 _ _) 3 (b := (15, [some (.ref 0), some (.int 0), some (.int a2)], [.ref 1], p1_h23)) rfl ?_
          refine am_cv (N := nm_m11) (as := [.ref 1]) (rest := []) (v := .int 0) (h' := p1_h23) rfl (am_kv p1_c24 (by decide)) (by decide) rfl rfl rfl (fun _ => ⟨_, _, _, _, _, rfl, rfl, rfl, rfl⟩) (fun h => absurd h (by decide)) (Nat.le_of_ble_eq_true rfl) ?_ ?_
          · refine am_em (d := 12) nm_m11 rfl rfl (Nat.le_of_ble_eq_true rfl) rfl ?_
            refine am_rg (p1_a2 _ _) 5 (b := (15, [some (.ref 1)], [.int 0], p1_h23)) rfl ?_
            exact am_ri rfl rfl rfl
          refine am_rg (p1_a1 _ _) 5 (b := (31, [some (.ref 0), some (.int 0), some (.int a2)], [.int a2, .int 0, .ref 1], p1_h23)) rfl ?_
          refine am_cv (N := nm_m12) (as := [.ref 1, .int 0, .int a2]) (rest := []) (v := .int 1) (h' := (p1_y25 a2)) rfl (am_kv p1_c25 (by decide)) (by decide) rfl rfl rfl (fun _ => ⟨_, _, _, _, _, rfl, rfl, rfl, rfl⟩) (fun h => absurd h (by decide)) (Nat.le_of_ble_eq_true rfl) ?_ ?_
          · refine am_em (d := 12) nm_m12 rfl rfl (Nat.le_of_ble_eq_true rfl) rfl ?_
            refine am_rg (p1_a2 _ _) 5 (b := (9, [some (.ref 1), some (.int 0), some (.int a2)], [.int 64, .int 0], p1_h23)) rfl ?_
            refine am_rg (p1_a2 _ _) 13 (b := (66, [some (.ref 1), some (.int 0), some (.int a2)], [], (p1_y24 a2))) rfl ?_
            refine am_rg (p1_a2 _ _) 6 (b := (76, [some (.ref 1), some (.int 0), some (.int a2)], [], (p1_y25 a2))) rfl ?_
            refine am_rg (p1_a2 _ _) 2 (b := (80, [some (.ref 1), some (.int 0), some (.int a2)], [.int 1], (p1_y25 a2))) rfl ?_
            exact am_ri rfl rfl rfl
          exact am_ri rfl rfl rfl
        refine am_rg (p1_a0 _ _) 5 (b := (110, [some (.retAddr 0), some (.ref 0), some (.ref 20), some (.ref 60), some (.int 0), none, none], [.int 1, .retAddr 0, .ref 20, .int 1], (p1_y25 a2))) rfl ?_
        refine am_sl rfl rfl h1 ?_
        refine am_rg (p1_a0 _ _) 4 (b := (116, [some (.retAddr 0), some (.ref 0), some (.ref 20), some (.ref 60), some (.int 0), none, none], [.int 2, .retAddr 0, .int 0, .ref 20, .int 1], (p1_y25 a2))) rfl ?_
        refine am_sl rfl rfl h2 ?_
        refine am_cv (N := nm_m158) (as := [.ref 20, .int 0, .int a2]) (rest := [.int 1]) (v := .int 1) (h' := (p1_y28 a2)) rfl (am_kv p1_c22 (by decide)) (by decide) rfl rfl rfl (fun _ => ⟨_, _, _, _, _, rfl, rfl, rfl, rfl⟩) (fun h => absurd h (by decide)) (Nat.le_of_ble_eq_true rfl) ?_ ?_
        · refine am_em (d := 13) nm_m158 rfl rfl (Nat.le_of_ble_eq_true rfl) rfl ?_
          refine am_rg (p1_a10 _ _) 3 (b := (5, [some (.ref 20), some (.int 0), some (.int a2), none], [], (p1_y25 a2))) rfl ?_
          refine am_rg (p1_a10 _ _) 3 (b := (8, [some (.ref 20), some (.int 0), some (.int a2), none], [.int 5, .int 0, .int 0], (p1_y25 a2))) rfl ?_
          refine am_cv (N := nm_m159) (as := [.int 0, .int 0, .int 5]) (rest := []) (v := .int 1) (h' := (p1_y25 a2)) rfl (am_kt p1_c23 (by decide)) (by decide) rfl rfl rfl (fun h => absurd h (by decide)) (fun h => absurd h (by decide)) (Nat.le_of_ble_eq_true rfl) ?_ ?_
          · refine am_em (d := 12) nm_m159 rfl rfl (Nat.le_of_ble_eq_true rfl) rfl ?_
            refine am_rg (p1_a10 _ _) 8 (b := (15, [some (.int 0), some (.int 0), some (.int 5)], [.int 1], (p1_y25 a2))) rfl ?_
            exact am_ri rfl rfl rfl
          refine am_rg (p1_a10 _ _) 12 (b := (57, [some (.ref 20), some (.int 0), some (.int a2), some (.int 78)], [.int 78, .int 0, .int a2], (p1_y25 a2))) rfl ?_
          refine am_cv (N := nm_m159) (as := [.int a2, .int 0, .int 78]) (rest := []) (v := .int 1) (h' := (p1_y25 a2)) rfl (am_kt p1_c23 (by decide)) (by decide) rfl rfl rfl (fun h => absurd h (by decide)) (fun h => absurd h (by decide)) (Nat.le_of_ble_eq_true rfl) ?_ ?_
          · refine am_em (d := 12) nm_m159 rfl rfl (Nat.le_of_ble_eq_true rfl) rfl ?_
            refine am_rg (p1_a10 _ _) 2 (b := (2, [some (.int a2), some (.int 0), some (.int 78)], [.int 0, .int a2], (p1_y25 a2))) rfl ?_
            refine am_j0 rfl (t := 14) rfl (am_cF (b := 0) rfl (by show ¬ (a2.toInt < 0); omega)) ?_
            refine am_rg (p1_a10 _ _) 2 (b := (7, [some (.int a2), some (.int 0), some (.int 78)], [.int 78, .int a2], (p1_y25 a2))) rfl ?_
            refine am_j0 rfl (t := 14) rfl (am_cF (b := 78) rfl (by show ¬ (a2.toInt > 78); omega)) ?_
            refine am_rg (p1_a10 _ _) 2 (b := (15, [some (.int a2), some (.int 0), some (.int 78)], [.int 1], (p1_y25 a2))) rfl ?_
            exact am_ri rfl rfl rfl
          refine am_rg (p1_a10 _ _) 11 (b := (88, [some (.ref 20), some (.int 0), some (.int a2), some (.int 78)], [], (p1_y26 a2))) rfl ?_
          refine am_rg (p1_a10 _ _) 6 (b := (98, [some (.ref 20), some (.int 0), some (.int a2), some (.int 78)], [], (p1_y27 a2))) rfl ?_
          refine am_rg (p1_a10 _ _) 6 (b := (108, [some (.ref 20), some (.int 0), some (.int a2), some (.int 78)], [], (p1_y28 a2))) rfl ?_
          refine am_rg (p1_a10 _ _) 2 (b := (112, [some (.ref 20), some (.int 0), some (.int a2), some (.int 78)], [.int 1], (p1_y28 a2))) rfl ?_
          exact am_ri rfl rfl rfl
        refine am_rg (p1_a0 _ _) 6 (b := (27, [some (.retAddr 0), some (.ref 0), some (.ref 20), some (.ref 60), some (.int 3), none, none], [.int 3, .int 3], (p1_y28 a2))) rfl ?_
        refine am_rg (p1_a0 _ _) 4 (b := (375, [some (.retAddr 0), some (.ref 0), some (.ref 20), some (.ref 60), some (.int 3), none, none], [.int 1], (p1_y28 a2))) rfl ?_
        exact am_ri rfl rfl rfl
      · skip
        refine ⟨p1_h23, ?_, Nat.le_of_ble_eq_true rfl, Nat.le_of_ble_eq_true rfl⟩
        refine am_rg (p1_a0 _ _) 3 (b := (27, [some (.retAddr 0), some (.ref 0), some (.ref 20), some (.ref 60), some (.int 0), none, none], [.int 3, .int 0], p1_h23)) rfl ?_
        refine am_rg (p1_a0 _ _) 5 (b := (35, [some (.retAddr 0), some (.ref 0), some (.ref 20), some (.ref 60), some (.int 0), none, none], [.int 0, .retAddr 0], p1_h23)) rfl ?_
        refine am_sl rfl rfl rfl ?_
        refine am_rg (p1_a0 _ _) 1 (b := (38, [some (.retAddr 0), some (.ref 0), some (.ref 20), some (.ref 60), some (.int 0), none, none], [.int 15, .int (xs 0)], p1_h23)) rfl ?_
        refine am_an rfl h0 ?_
        refine am_rg (p1_a0 _ _) 6 (b := (94, [some (.retAddr 0), some (.ref 0), some (.ref 20), some (.ref 60), some (.int 0), none, none], [.int 1, .retAddr 0, .ref 0], p1_h23)) rfl ?_
        refine am_sl rfl rfl h1 ?_
        refine am_rg (p1_a0 _ _) 4 (b := (100, [some (.retAddr 0), some (.ref 0), some (.ref 20), some (.ref 60), some (.int 0), none, none], [.int 2, .retAddr 0, .int 0, .ref 0], p1_h23)) rfl ?_
        refine am_sl rfl rfl h2 ?_
        refine am_cv (N := nm_m9) (as := [.ref 0, .int 0, .int a2]) (rest := []) (v := .int (-4)) (h' := p1_h23) rfl (am_kv p1_c20 (by decide)) (by decide) rfl rfl rfl (fun _ => ⟨_, _, _, _, _, rfl, rfl, rfl, rfl⟩) (fun h => absurd h (by decide)) (Nat.le_of_ble_eq_true rfl) ?_ ?_
        · refine am_em (d := 13) nm_m9 rfl rfl (Nat.le_of_ble_eq_true rfl) rfl ?_
          refine am_rg (p1_a1 _ _) 2 (b := (2, [some (.ref 0), some (.int 0), some (.int a2)], [.int a2, .int 0], p1_h23)) rfl ?_
          refine am_cv (N := nm_m10) (as := [.int 0, .int a2]) (rest := []) (v := .int 0) (h' := p1_h23) rfl (am_kt p1_c21 (by decide)) (by decide) rfl rfl rfl (fun h => absurd h (by decide)) (fun h => absurd h (by decide)) (Nat.le_of_ble_eq_true rfl) ?_ ?_
          · refine am_em (d := 12) nm_m10 rfl rfl (Nat.le_of_ble_eq_true rfl) rfl ?_
            refine am_rg (p1_a1 _ _) 3 (b := (41, [some (.int 0), some (.int a2)], [.int a2], p1_h23)) rfl ?_
            refine am_i0 rfl (t := 54) rfl (am_cF (b := 0) rfl (by show ¬ (a2.toInt < 0); omega)) ?_
            refine am_rg (p1_a1 _ _) 2 (b := (47, [some (.int 0), some (.int a2)], [.int 78, .int a2], p1_h23)) rfl ?_
            refine am_j1 rfl (t := 54) rfl (am_cT (b := 78) rfl (by show (a2.toInt > 78); omega)) ?_
            refine am_rg (p1_a1 _ _) 1 (b := (55, [some (.int 0), some (.int a2)], [.int 0], p1_h23)) rfl ?_
            exact am_ri rfl rfl rfl
          refine am_rg (p1_a1 _ _) 2 (b := (10, [some (.ref 0), some (.int 0), some (.int a2)], [.int (-4)], p1_h23)) rfl ?_
          exact am_ri rfl rfl rfl
        refine am_rg (p1_a0 _ _) 5 (b := (110, [some (.retAddr 0), some (.ref 0), some (.ref 20), some (.ref 60), some (.int 0), none, none], [.int 1, .retAddr 0, .ref 20, .int (-4)], p1_h23)) rfl ?_
        refine am_sl rfl rfl h1 ?_
        refine am_rg (p1_a0 _ _) 4 (b := (116, [some (.retAddr 0), some (.ref 0), some (.ref 20), some (.ref 60), some (.int 0), none, none], [.int 2, .retAddr 0, .int 0, .ref 20, .int (-4)], p1_h23)) rfl ?_
        refine am_sl rfl rfl h2 ?_
        refine am_cv (N := nm_m158) (as := [.ref 20, .int 0, .int a2]) (rest := [.int (-4)]) (v := .int (-4)) (h' := p1_h23) rfl (am_kv p1_c22 (by decide)) (by decide) rfl rfl rfl (fun _ => ⟨_, _, _, _, _, rfl, rfl, rfl, rfl⟩) (fun h => absurd h (by decide)) (Nat.le_of_ble_eq_true rfl) ?_ ?_
        · refine am_em (d := 13) nm_m158 rfl rfl (Nat.le_of_ble_eq_true rfl) rfl ?_
          refine am_rg (p1_a10 _ _) 6 (b := (8, [some (.ref 20), some (.int 0), some (.int a2), none], [.int 5, .int 0, .int 0], p1_h23)) rfl ?_
          refine am_cv (N := nm_m159) (as := [.int 0, .int 0, .int 5]) (rest := []) (v := .int 1) (h' := p1_h23) rfl (am_kt p1_c23 (by decide)) (by decide) rfl rfl rfl (fun h => absurd h (by decide)) (fun h => absurd h (by decide)) (Nat.le_of_ble_eq_true rfl) ?_ ?_
          · refine am_em (d := 12) nm_m159 rfl rfl (Nat.le_of_ble_eq_true rfl) rfl ?_
            refine am_rg (p1_a10 _ _) 8 (b := (15, [some (.int 0), some (.int 0), some (.int 5)], [.int 1], p1_h23)) rfl ?_
            exact am_ri rfl rfl rfl
          refine am_rg (p1_a10 _ _) 12 (b := (57, [some (.ref 20), some (.int 0), some (.int a2), some (.int 78)], [.int 78, .int 0, .int a2], p1_h23)) rfl ?_
          refine am_cv (N := nm_m159) (as := [.int a2, .int 0, .int 78]) (rest := []) (v := .int 0) (h' := p1_h23) rfl (am_kt p1_c23 (by decide)) (by decide) rfl rfl rfl (fun h => absurd h (by decide)) (fun h => absurd h (by decide)) (Nat.le_of_ble_eq_true rfl) ?_ ?_
          · refine am_em (d := 12) nm_m159 rfl rfl (Nat.le_of_ble_eq_true rfl) rfl ?_
            refine am_rg (p1_a10 _ _) 2 (b := (2, [some (.int a2), some (.int 0), some (.int 78)], [.int 0, .int a2], p1_h23)) rfl ?_
            refine am_j0 rfl (t := 14) rfl (am_cF (b := 0) rfl (by show ¬ (a2.toInt < 0); omega)) ?_
            refine am_rg (p1_a10 _ _) 2 (b := (7, [some (.int a2), some (.int 0), some (.int 78)], [.int 78, .int a2], p1_h23)) rfl ?_
            refine am_j1 rfl (t := 14) rfl (am_cT (b := 78) rfl (by show (a2.toInt > 78); omega)) ?_
            refine am_rg (p1_a10 _ _) 1 (b := (15, [some (.int a2), some (.int 0), some (.int 78)], [.int 0], p1_h23)) rfl ?_
            exact am_ri rfl rfl rfl
          refine am_rg (p1_a10 _ _) 2 (b := (65, [some (.ref 20), some (.int 0), some (.int a2), some (.int 78)], [.int (-4)], p1_h23)) rfl ?_
          exact am_ri rfl rfl rfl
        refine am_rg (p1_a0 _ _) 6 (b := (27, [some (.retAddr 0), some (.ref 0), some (.ref 20), some (.ref 60), some (.int 3), none, none], [.int 3, .int 3], p1_h23)) rfl ?_
        refine am_rg (p1_a0 _ _) 4 (b := (375, [some (.retAddr 0), some (.ref 0), some (.ref 20), some (.ref 60), some (.int 3), none, none], [.int 1], p1_h23)) rfl ?_
        exact am_ri rfl rfl rfl
  · obtain rfl : a1 = 1 := am_inj d1 rfl
    have d2 : a2.toInt < 0 ∨ 0 ≤ a2.toInt := by omega
    rcases d2 with d2 | d2
    · skip
      refine ⟨p1_h23, ?_, Nat.le_of_ble_eq_true rfl, Nat.le_of_ble_eq_true rfl⟩
      refine am_rg (p1_a0 _ _) 3 (b := (27, [some (.retAddr 0), some (.ref 0), some (.ref 20), some (.ref 60), some (.int 0), none, none], [.int 3, .int 0], p1_h23)) rfl ?_
      refine am_rg (p1_a0 _ _) 5 (b := (35, [some (.retAddr 0), some (.ref 0), some (.ref 20), some (.ref 60), some (.int 0), none, none], [.int 0, .retAddr 0], p1_h23)) rfl ?_
      refine am_sl rfl rfl rfl ?_
      refine am_rg (p1_a0 _ _) 1 (b := (38, [some (.retAddr 0), some (.ref 0), some (.ref 20), some (.ref 60), some (.int 0), none, none], [.int 15, .int (xs 0)], p1_h23)) rfl ?_
      refine am_an rfl h0 ?_
      refine am_rg (p1_a0 _ _) 6 (b := (94, [some (.retAddr 0), some (.ref 0), some (.ref 20), some (.ref 60), some (.int 0), none, none], [.int 1, .retAddr 0, .ref 0], p1_h23)) rfl ?_
      refine am_sl rfl rfl h1 ?_
      refine am_rg (p1_a0 _ _) 4 (b := (100, [some (.retAddr 0), some (.ref 0), some (.ref 20), some (.ref 60), some (.int 0), none, none], [.int 2, .retAddr 0, .int 1, .ref 0], p1_h23)) rfl ?_
      refine am_sl rfl rfl h2 ?_
      refine am_cv (N := nm_m9) (as := [.ref 0, .int 1, .int a2]) (rest := []) (v := .int (-4)) (h' := p1_h23) rfl (am_kv p1_c20 (by decide)) (by decide) rfl rfl rfl (fun _ => ⟨_, _, _, _, _, rfl, rfl, rfl, rfl⟩) (fun h => absurd h (by decide)) (Nat.le_of_ble_eq_true rfl) ?_ ?_
      · refine am_em (d := 13) nm_m9 rfl rfl (Nat.le_of_ble_eq_true rfl) rfl ?_
        refine am_rg (p1_a1 _ _) 2 (b := (2, [some (.ref 0), some (.int 1), some (.int a2)], [.int a2, .int 1], p1_h23)) rfl ?_
        refine am_cv (N := nm_m10) (as := [.int 1, .int a2]) (rest := []) (v := .int 0) (h' := p1_h23) rfl (am_kt p1_c21 (by decide)) (by decide) rfl rfl rfl (fun h => absurd h (by decide)) (fun h => absurd h (by decide)) (Nat.le_of_ble_eq_true rfl) ?_ ?_
        · refine am_em (d := 12) nm_m10 rfl rfl (Nat.le_of_ble_eq_true rfl) rfl ?_
          refine am_rg (p1_a1 _ _) 3 (b := (57, [some (.int 1), some (.int a2)], [.int a2], p1_h23)) rfl ?_
          refine am_i1 rfl (t := 70) rfl (am_cT (b := 0) rfl (by show (a2.toInt < 0); omega)) ?_
          refine am_rg (p1_a1 _ _) 1 (b := (71, [some (.int 1), some (.int a2)], [.int 0], p1_h23)) rfl ?_
          exact am_ri rfl rfl rfl
        refine am_rg (p1_a1 _ _) 2 (b := (10, [some (.ref 0), some (.int 1), some (.int a2)], [.int (-4)], p1_h23)) rfl ?_
        exact am_ri rfl rfl rfl
      refine am_rg (p1_a0 _ _) 5 (b := (110, [some (.retAddr 0), some (.ref 0), some (.ref 20), some (.ref 60), some (.int 0), none, none], [.int 1, .retAddr 0, .ref 20, .int (-4)], p1_h23)) rfl ?_
      refine am_sl rfl rfl h1 ?_
      refine am_rg (p1_a0 _ _) 4 (b := (116, [some (.retAddr 0), some (.ref 0), some (.ref 20), some (.ref 60), some (.int 0), none, none], [.int 2, .retAddr 0, .int 1, .ref 20, .int (-4)], p1_h23)) rfl ?_
      refine am_sl rfl rfl h2 ?_
      refine am_cv (N := nm_m158) (as := [.ref 20, .int 1, .int a2]) (rest := [.int (-4)]) (v := .int (-4)) (h' := p1_h23) rfl (am_kv p1_c22 (by decide)) (by decide) rfl rfl rfl (fun _ => ⟨_, _, _, _, _, rfl, rfl, rfl, rfl⟩) (fun h => absurd h (by decide)) (Nat.le_of_ble_eq_true rfl) ?_ ?_
      · refine am_em (d := 13) nm_m158 rfl rfl (Nat.le_of_ble_eq_true rfl) rfl ?_
        refine am_rg (p1_a10 _ _) 6 (b := (8, [some (.ref 20), some (.int 1), some (.int a2), none], [.int 5, .int 0, .int 1], p1_h23)) rfl ?_
        refine am_cv (N := nm_m159) (as := [.int 1, .int 0, .int 5]) (rest := []) (v := .int 1) (h' := p1_h23) rfl (am_kt p1_c23 (by decide)) (by decide) rfl rfl rfl (fun h => absurd h (by decide)) (fun h => absurd h (by decide)) (Nat.le_of_ble_eq_true rfl) ?_ ?_
        · refine am_em (d := 12) nm_m159 rfl rfl (Nat.le_of_ble_eq_true rfl) rfl ?_
          refine am_rg (p1_a10 _ _) 8 (b := (15, [some (.int 1), some (.int 0), some (.int 5)], [.int 1], p1_h23)) rfl ?_
          exact am_ri rfl rfl rfl
        refine am_rg (p1_a10 _ _) 17 (b := (57, [some (.ref 20), some (.int 1), some (.int a2), some (.int 99)], [.int 99, .int 0, .int a2], p1_h23)) rfl ?_
        refine am_cv (N := nm_m159) (as := [.int a2, .int 0, .int 99]) (rest := []) (v := .int 0) (h' := p1_h23) rfl (am_kt p1_c23 (by decide)) (by decide) rfl rfl rfl (fun h => absurd h (by decide)) (fun h => absurd h (by decide)) (Nat.le_of_ble_eq_true rfl) ?_ ?_
        · refine am_em (d := 12) nm_m159 rfl rfl (Nat.le_of_ble_eq_true rfl) rfl ?_
          refine am_rg (p1_a10 _ _) 2 (b := (2, [some (.int a2), some (.int 0), some (.int 99)], [.int 0, .int a2], p1_h23)) rfl ?_
          refine am_j1 rfl (t := 14) rfl (am_cT (b := 0) rfl (by show (a2.toInt < 0); omega)) ?_
          refine am_rg (p1_a10 _ _) 1 (b := (15, [some (.int a2), some (.int 0), some (.int 99)], [.int 0], p1_h23)) rfl ?_
          exact am_ri rfl rfl rfl
        refine am_rg (p1_a10 _ _) 2 (b := (65, [some (.ref 20), some (.int 1), some (.int a2), some (.int 99)], [.int (-4)], p1_h23)) rfl ?_
        exact am_ri rfl rfl rfl
      refine am_rg (p1_a0 _ _) 6 (b := (27, [some (.retAddr 0), some (.ref 0), some (.ref 20), some (.ref 60), some (.int 3), none, none], [.int 3, .int 3], p1_h23)) rfl ?_
      refine am_rg (p1_a0 _ _) 4 (b := (375, [some (.retAddr 0), some (.ref 0), some (.ref 20), some (.ref 60), some (.int 3), none, none], [.int 1], p1_h23)) rfl ?_
      exact am_ri rfl rfl rfl
    · skip
      have d3 : a2.toInt < 100 ∨ 100 ≤ a2.toInt := by omega
      rcases d3 with d3 | d3
      · skip
        refine ⟨(p1_y33 a2), ?_, Nat.le_of_ble_eq_true rfl, (by simp [am_sz, am_es, p1_y33])⟩
        refine am_rg (p1_a0 _ _) 3 (b := (27, [some (.retAddr 0), some (.ref 0), some (.ref 20), some (.ref 60), some (.int 0), none, none], [.int 3, .int 0], p1_h23)) rfl ?_
        refine am_rg (p1_a0 _ _) 5 (b := (35, [some (.retAddr 0), some (.ref 0), some (.ref 20), some (.ref 60), some (.int 0), none, none], [.int 0, .retAddr 0], p1_h23)) rfl ?_
        refine am_sl rfl rfl rfl ?_
        refine am_rg (p1_a0 _ _) 1 (b := (38, [some (.retAddr 0), some (.ref 0), some (.ref 20), some (.ref 60), some (.int 0), none, none], [.int 15, .int (xs 0)], p1_h23)) rfl ?_
        refine am_an rfl h0 ?_
        refine am_rg (p1_a0 _ _) 6 (b := (94, [some (.retAddr 0), some (.ref 0), some (.ref 20), some (.ref 60), some (.int 0), none, none], [.int 1, .retAddr 0, .ref 0], p1_h23)) rfl ?_
        refine am_sl rfl rfl h1 ?_
        refine am_rg (p1_a0 _ _) 4 (b := (100, [some (.retAddr 0), some (.ref 0), some (.ref 20), some (.ref 60), some (.int 0), none, none], [.int 2, .retAddr 0, .int 1, .ref 0], p1_h23)) rfl ?_
        refine am_sl rfl rfl h2 ?_
        refine am_cv (N := nm_m9) (as := [.ref 0, .int 1, .int a2]) (rest := []) (v := .int 1) (h' := (p1_y30 a2)) rfl (am_kv p1_c20 (by decide)) (by decide) rfl rfl rfl (fun _ => ⟨_, _, _, _, _, rfl, rfl, rfl, rfl⟩) (fun h => absurd h (by decide)) (Nat.le_of_ble_eq_true rfl) ?_ ?_
        · refine am_em (d := 13) nm_m9 rfl rfl (Nat.le_of_ble_eq_true rfl) rfl ?_
          refine am_rg (p1_a1 _ _) 2 (b := (2, [some (.ref 0), some (.int 1), some (.int a2)], [.int a2, .int 1], p1_h23)) rfl ?_
          refine am_cv (N := nm_m10) (as := [.int 1, .int a2]) (rest := []) (v := .int 1) (h' := p1_h23) rfl (am_kt p1_c21 (by decide)) (by decide) rfl rfl rfl (fun h => absurd h (by decide)) (fun h => absurd h (by decide)) (Nat.le_of_ble_eq_true rfl) ?_ ?_
          · refine am_em (d := 12) nm_m10 rfl rfl (Nat.le_of_ble_eq_true rfl) rfl ?_
            refine am_rg (p1_a1 _ _) 3 (b := (57, [some (.int 1), some (.int a2)], [.int a2], p1_h23)) rfl ?_
            refine am_i0 rfl (t := 70) rfl (am_cF (b := 0) rfl (by show ¬ (a2.toInt < 0); omega)) ?_
            refine am_rg (p1_a1 _ _) 2 (b := (63, [some (.int 1), some (.int a2)], [.int 99, .int a2], p1_h23)) rfl ?_
            refine am_j0 rfl (t := 70) rfl (am_cF (b := 99) rfl (by show ¬ (a2.toInt > 99); omega)) ?_
            refine am_rg (p1_a1 _ _) 2 (b := (71, [some (.int 1), some (.int a2)], [.int 1], p1_h23)) rfl ?_
            exact am_ri rfl rfl rfl
          refine am_rg (p1_a1 _ _) 3 (b := (15, [some (.ref 0), some (.int 1), some (.int a2)], [.ref 1], p1_h23)) rfl ?_
          refine am_cv (N := nm_m11) (as := [.ref 1]) (rest := []) (v := .int 0) (h' := p1_h23) rfl (am_kv p1_c24 (by decide)) (by decide) rfl rfl rfl (fun _ => ⟨_, _, _, _, _, rfl, rfl, rfl, rfl⟩) (fun h => absurd h (by decide)) (Nat.le_of_ble_eq_true rfl) ?_ ?_
          · refine am_em (d := 12) nm_m11 rfl rfl (Nat.le_of_ble_eq_true rfl) rfl ?_
            refine am_rg (p1_a2 _ _) 5 (b := (15, [some (.ref 1)], [.int 0], p1_h23)) rfl ?_
            exact am_ri rfl rfl rfl
          refine am_rg (p1_a1 _ _) 5 (b := (31, [some (.ref 0), some (.int 1), some (.int a2)], [.int a2, .int 1, .ref 1], p1_h23)) rfl ?_
          refine am_cv (N := nm_m12) (as := [.ref 1, .int 1, .int a2]) (rest := []) (v := .int 1) (h' := (p1_y30 a2)) rfl (am_kv p1_c25 (by decide)) (by decide) rfl rfl rfl (fun _ => ⟨_, _, _, _, _, rfl, rfl, rfl, rfl⟩) (fun h => absurd h (by decide)) (Nat.le_of_ble_eq_true rfl) ?_ ?_
          · refine am_em (d := 12) nm_m12 rfl rfl (Nat.le_of_ble_eq_true rfl) rfl ?_
            refine am_rg (p1_a2 _ _) 5 (b := (9, [some (.ref 1), some (.int 1), some (.int a2)], [.int 64, .int 0], p1_h23)) rfl ?_
            refine am_rg (p1_a2 _ _) 13 (b := (66, [some (.ref 1), some (.int 1), some (.int a2)], [], (p1_y29 a2))) rfl ?_
            refine am_rg (p1_a2 _ _) 6 (b := (76, [some (.ref 1), some (.int 1), some (.int a2)], [], (p1_y30 a2))) rfl ?_
            refine am_rg (p1_a2 _ _) 2 (b := (80, [some (.ref 1), some (.int 1), some (.int a2)], [.int 1], (p1_y30 a2))) rfl ?_
            exact am_ri rfl rfl rfl
          exact am_ri rfl rfl rfl
        refine am_rg (p1_a0 _ _) 5 (b := (110, [some (.retAddr 0), some (.ref 0), some (.ref 20), some (.ref 60), some (.int 0), none, none], [.int 1, .retAddr 0, .ref 20, .int 1], (p1_y30 a2))) rfl ?_
        refine am_sl rfl rfl h1 ?_
        refine am_rg (p1_a0 _ _) 4 (b := (116, [some (.retAddr 0), some (.ref 0), some (.ref 20), some (.ref 60), some (.int 0), none, none], [.int 2, .retAddr 0, .int 1, .ref 20, .int 1], (p1_y30 a2))) rfl ?_
        refine am_sl rfl rfl h2 ?_
        refine am_cv (N := nm_m158) (as := [.ref 20, .int 1, .int a2]) (rest := [.int 1]) (v := .int 1) (h' := (p1_y33 a2)) rfl (am_kv p1_c22 (by decide)) (by decide) rfl rfl rfl (fun _ => ⟨_, _, _, _, _, rfl, rfl, rfl, rfl⟩) (fun h => absurd h (by decide)) (Nat.le_of_ble_eq_true rfl) ?_ ?_
        · refine am_em (d := 13) nm_m158 rfl rfl (Nat.le_of_ble_eq_true rfl) rfl ?_
          refine am_rg (p1_a10 _ _) 3 (b := (5, [some (.ref 20), some (.int 1), some (.int a2), none], [], (p1_y30 a2))) rfl ?_
          refine am_rg (p1_a10 _ _) 3 (b := (8, [some (.ref 20), some (.int 1), some (.int a2), none], [.int 5, .int 0, .int 1], (p1_y30 a2))) rfl ?_
          refine am_cv (N := nm_m159) (as := [.int 1, .int 0, .int 5]) (rest := []) (v := .int 1) (h' := (p1_y30 a2)) rfl (am_kt p1_c23 (by decide)) (by decide) rfl rfl rfl (fun h => absurd h (by decide)) (fun h => absurd h (by decide)) (Nat.le_of_ble_eq_true rfl) ?_ ?_
          · refine am_em (d := 12) nm_m159 rfl rfl (Nat.le_of_ble_eq_true rfl) rfl ?_
            refine am_rg (p1_a10 _ _) 8 (b := (15, [some (.int 1), some (.int 0), some (.int 5)], [.int 1], (p1_y30 a2))) rfl ?_
            exact am_ri rfl rfl rfl
          refine am_rg (p1_a10 _ _) 17 (b := (57, [some (.ref 20), some (.int 1), some (.int a2), some (.int 99)], [.int 99, .int 0, .int a2], (p1_y30 a2))) rfl ?_
          refine am_cv (N := nm_m159) (as := [.int a2, .int 0, .int 99]) (rest := []) (v := .int 1) (h' := (p1_y30 a2)) rfl (am_kt p1_c23 (by decide)) (by decide) rfl rfl rfl (fun h => absurd h (by decide)) (fun h => absurd h (by decide)) (Nat.le_of_ble_eq_true rfl) ?_ ?_
          · refine am_em (d := 12) nm_m159 rfl rfl (Nat.le_of_ble_eq_true rfl) rfl ?_
            refine am_rg (p1_a10 _ _) 2 (b := (2, [some (.int a2), some (.int 0), some (.int 99)], [.int 0, .int a2], (p1_y30 a2))) rfl ?_
            refine am_j0 rfl (t := 14) rfl (am_cF (b := 0) rfl (by show ¬ (a2.toInt < 0); omega)) ?_
            refine am_rg (p1_a10 _ _) 2 (b := (7, [some (.int a2), some (.int 0), some (.int 99)], [.int 99, .int a2], (p1_y30 a2))) rfl ?_
            refine am_j0 rfl (t := 14) rfl (am_cF (b := 99) rfl (by show ¬ (a2.toInt > 99); omega)) ?_
            refine am_rg (p1_a10 _ _) 2 (b := (15, [some (.int a2), some (.int 0), some (.int 99)], [.int 1], (p1_y30 a2))) rfl ?_
            exact am_ri rfl rfl rfl
          refine am_rg (p1_a10 _ _) 11 (b := (88, [some (.ref 20), some (.int 1), some (.int a2), some (.int 99)], [], (p1_y31 a2))) rfl ?_
          refine am_rg (p1_a10 _ _) 6 (b := (98, [some (.ref 20), some (.int 1), some (.int a2), some (.int 99)], [], (p1_y32 a2))) rfl ?_
          refine am_rg (p1_a10 _ _) 6 (b := (108, [some (.ref 20), some (.int 1), some (.int a2), some (.int 99)], [], (p1_y33 a2))) rfl ?_
          refine am_rg (p1_a10 _ _) 2 (b := (112, [some (.ref 20), some (.int 1), some (.int a2), some (.int 99)], [.int 1], (p1_y33 a2))) rfl ?_
          exact am_ri rfl rfl rfl
        refine am_rg (p1_a0 _ _) 6 (b := (27, [some (.retAddr 0), some (.ref 0), some (.ref 20), some (.ref 60), some (.int 3), none, none], [.int 3, .int 3], (p1_y33 a2))) rfl ?_
        refine am_rg (p1_a0 _ _) 4 (b := (375, [some (.retAddr 0), some (.ref 0), some (.ref 20), some (.ref 60), some (.int 3), none, none], [.int 1], (p1_y33 a2))) rfl ?_
        exact am_ri rfl rfl rfl
      · skip
        refine ⟨p1_h23, ?_, Nat.le_of_ble_eq_true rfl, Nat.le_of_ble_eq_true rfl⟩
        refine am_rg (p1_a0 _ _) 3 (b := (27, [some (.retAddr 0), some (.ref 0), some (.ref 20), some (.ref 60), some (.int 0), none, none], [.int 3, .int 0], p1_h23)) rfl ?_
        refine am_rg (p1_a0 _ _) 5 (b := (35, [some (.retAddr 0), some (.ref 0), some (.ref 20), some (.ref 60), some (.int 0), none, none], [.int 0, .retAddr 0], p1_h23)) rfl ?_
        refine am_sl rfl rfl rfl ?_
        refine am_rg (p1_a0 _ _) 1 (b := (38, [some (.retAddr 0), some (.ref 0), some (.ref 20), some (.ref 60), some (.int 0), none, none], [.int 15, .int (xs 0)], p1_h23)) rfl ?_
        refine am_an rfl h0 ?_
        refine am_rg (p1_a0 _ _) 6 (b := (94, [some (.retAddr 0), some (.ref 0), some (.ref 20), some (.ref 60), some (.int 0), none, none], [.int 1, .retAddr 0, .ref 0], p1_h23)) rfl ?_
        refine am_sl rfl rfl h1 ?_
        refine am_rg (p1_a0 _ _) 4 (b := (100, [some (.retAddr 0), some (.ref 0), some (.ref 20), some (.ref 60), some (.int 0), none, none], [.int 2, .retAddr 0, .int 1, .ref 0], p1_h23)) rfl ?_
        refine am_sl rfl rfl h2 ?_
        refine am_cv (N := nm_m9) (as := [.ref 0, .int 1, .int a2]) (rest := []) (v := .int (-4)) (h' := p1_h23) rfl (am_kv p1_c20 (by decide)) (by decide) rfl rfl rfl (fun _ => ⟨_, _, _, _, _, rfl, rfl, rfl, rfl⟩) (fun h => absurd h (by decide)) (Nat.le_of_ble_eq_true rfl) ?_ ?_
        · refine am_em (d := 13) nm_m9 rfl rfl (Nat.le_of_ble_eq_true rfl) rfl ?_
          refine am_rg (p1_a1 _ _) 2 (b := (2, [some (.ref 0), some (.int 1), some (.int a2)], [.int a2, .int 1], p1_h23)) rfl ?_
          refine am_cv (N := nm_m10) (as := [.int 1, .int a2]) (rest := []) (v := .int 0) (h' := p1_h23) rfl (am_kt p1_c21 (by decide)) (by decide) rfl rfl rfl (fun h => absurd h (by decide)) (fun h => absurd h (by decide)) (Nat.le_of_ble_eq_true rfl) ?_ ?_
          · refine am_em (d := 12) nm_m10 rfl rfl (Nat.le_of_ble_eq_true rfl) rfl ?_
            refine am_rg (p1_a1 _ _) 3 (b := (57, [some (.int 1), some (.int a2)], [.int a2], p1_h23)) rfl ?_
            refine am_i0 rfl (t := 70) rfl (am_cF (b := 0) rfl (by show ¬ (a2.toInt < 0); omega)) ?_
            refine am_rg (p1_a1 _ _) 2 (b := (63, [some (.int 1), some (.int a2)], [.int 99, .int a2], p1_h23)) rfl ?_
            refine am_j1 rfl (t := 70) rfl (am_cT (b := 99) rfl (by show (a2.toInt > 99); omega)) ?_
            refine am_rg (p1_a1 _ _) 1 (b := (71, [some (.int 1), some (.int a2)], [.int 0], p1_h23)) rfl ?_
            exact am_ri rfl rfl rfl
          refine am_rg (p1_a1 _ _) 2 (b := (10, [some (.ref 0), some (.int 1), some (.int a2)], [.int (-4)], p1_h23)) rfl ?_
          exact am_ri rfl rfl rfl
        refine am_rg (p1_a0 _ _) 5 (b := (110, [some (.retAddr 0), some (.ref 0), some (.ref 20), some (.ref 60), some (.int 0), none, none], [.int 1, .retAddr 0, .ref 20, .int (-4)], p1_h23)) rfl ?_
        refine am_sl rfl rfl h1 ?_
        refine am_rg (p1_a0 _ _) 4 (b := (116, [some (.retAddr 0), some (.ref 0), some (.ref 20), some (.ref 60), some (.int 0), none, none], [.int 2, .retAddr 0, .int 1, .ref 20, .int (-4)], p1_h23)) rfl ?_
        refine am_sl rfl rfl h2 ?_
        refine am_cv (N := nm_m158) (as := [.ref 20, .int 1, .int a2]) (rest := [.int (-4)]) (v := .int (-4)) (h' := p1_h23) rfl (am_kv p1_c22 (by decide)) (by decide) rfl rfl rfl (fun _ => ⟨_, _, _, _, _, rfl, rfl, rfl, rfl⟩) (fun h => absurd h (by decide)) (Nat.le_of_ble_eq_true rfl) ?_ ?_
        · refine am_em (d := 13) nm_m158 rfl rfl (Nat.le_of_ble_eq_true rfl) rfl ?_
          refine am_rg (p1_a10 _ _) 6 (b := (8, [some (.ref 20), some (.int 1), some (.int a2), none], [.int 5, .int 0, .int 1], p1_h23)) rfl ?_
          refine am_cv (N := nm_m159) (as := [.int 1, .int 0, .int 5]) (rest := []) (v := .int 1) (h' := p1_h23) rfl (am_kt p1_c23 (by decide)) (by decide) rfl rfl rfl (fun h => absurd h (by decide)) (fun h => absurd h (by decide)) (Nat.le_of_ble_eq_true rfl) ?_ ?_
          · refine am_em (d := 12) nm_m159 rfl rfl (Nat.le_of_ble_eq_true rfl) rfl ?_
            refine am_rg (p1_a10 _ _) 8 (b := (15, [some (.int 1), some (.int 0), some (.int 5)], [.int 1], p1_h23)) rfl ?_
            exact am_ri rfl rfl rfl
          refine am_rg (p1_a10 _ _) 17 (b := (57, [some (.ref 20), some (.int 1), some (.int a2), some (.int 99)], [.int 99, .int 0, .int a2], p1_h23)) rfl ?_
          refine am_cv (N := nm_m159) (as := [.int a2, .int 0, .int 99]) (rest := []) (v := .int 0) (h' := p1_h23) rfl (am_kt p1_c23 (by decide)) (by decide) rfl rfl rfl (fun h => absurd h (by decide)) (fun h => absurd h (by decide)) (Nat.le_of_ble_eq_true rfl) ?_ ?_
          · refine am_em (d := 12) nm_m159 rfl rfl (Nat.le_of_ble_eq_true rfl) rfl ?_
            refine am_rg (p1_a10 _ _) 2 (b := (2, [some (.int a2), some (.int 0), some (.int 99)], [.int 0, .int a2], p1_h23)) rfl ?_
            refine am_j0 rfl (t := 14) rfl (am_cF (b := 0) rfl (by show ¬ (a2.toInt < 0); omega)) ?_
            refine am_rg (p1_a10 _ _) 2 (b := (7, [some (.int a2), some (.int 0), some (.int 99)], [.int 99, .int a2], p1_h23)) rfl ?_
            refine am_j1 rfl (t := 14) rfl (am_cT (b := 99) rfl (by show (a2.toInt > 99); omega)) ?_
            refine am_rg (p1_a10 _ _) 1 (b := (15, [some (.int a2), some (.int 0), some (.int 99)], [.int 0], p1_h23)) rfl ?_
            exact am_ri rfl rfl rfl
          refine am_rg (p1_a10 _ _) 2 (b := (65, [some (.ref 20), some (.int 1), some (.int a2), some (.int 99)], [.int (-4)], p1_h23)) rfl ?_
          exact am_ri rfl rfl rfl
        refine am_rg (p1_a0 _ _) 6 (b := (27, [some (.retAddr 0), some (.ref 0), some (.ref 20), some (.ref 60), some (.int 3), none, none], [.int 3, .int 3], p1_h23)) rfl ?_
        refine am_rg (p1_a0 _ _) 4 (b := (375, [some (.retAddr 0), some (.ref 0), some (.ref 20), some (.ref 60), some (.int 3), none, none], [.int 1], p1_h23)) rfl ?_
        exact am_ri rfl rfl rfl
  · obtain rfl : a1 = 2 := am_inj d1 rfl
    have d2 : a2.toInt < 0 ∨ 0 ≤ a2.toInt := by omega
    rcases d2 with d2 | d2
    · skip
      refine ⟨p1_h23, ?_, Nat.le_of_ble_eq_true rfl, Nat.le_of_ble_eq_true rfl⟩
      refine am_rg (p1_a0 _ _) 3 (b := (27, [some (.retAddr 0), some (.ref 0), some (.ref 20), some (.ref 60), some (.int 0), none, none], [.int 3, .int 0], p1_h23)) rfl ?_
      refine am_rg (p1_a0 _ _) 5 (b := (35, [some (.retAddr 0), some (.ref 0), some (.ref 20), some (.ref 60), some (.int 0), none, none], [.int 0, .retAddr 0], p1_h23)) rfl ?_
      refine am_sl rfl rfl rfl ?_
      refine am_rg (p1_a0 _ _) 1 (b := (38, [some (.retAddr 0), some (.ref 0), some (.ref 20), some (.ref 60), some (.int 0), none, none], [.int 15, .int (xs 0)], p1_h23)) rfl ?_
      refine am_an rfl h0 ?_
      refine am_rg (p1_a0 _ _) 6 (b := (94, [some (.retAddr 0), some (.ref 0), some (.ref 20), some (.ref 60), some (.int 0), none, none], [.int 1, .retAddr 0, .ref 0], p1_h23)) rfl ?_
      refine am_sl rfl rfl h1 ?_
      refine am_rg (p1_a0 _ _) 4 (b := (100, [some (.retAddr 0), some (.ref 0), some (.ref 20), some (.ref 60), some (.int 0), none, none], [.int 2, .retAddr 0, .int 2, .ref 0], p1_h23)) rfl ?_
      refine am_sl rfl rfl h2 ?_
      refine am_cv (N := nm_m9) (as := [.ref 0, .int 2, .int a2]) (rest := []) (v := .int (-4)) (h' := p1_h23) rfl (am_kv p1_c20 (by decide)) (by decide) rfl rfl rfl (fun _ => ⟨_, _, _, _, _, rfl, rfl, rfl, rfl⟩) (fun h => absurd h (by decide)) (Nat.le_of_ble_eq_true rfl) ?_ ?_
      · refine am_em (d := 13) nm_m9 rfl rfl (Nat.le_of_ble_eq_true rfl) rfl ?_
        refine am_rg (p1_a1 _ _) 2 (b := (2, [some (.ref 0), some (.int 2), some (.int a2)], [.int a2, .int 2], p1_h23)) rfl ?_
        refine am_cv (N := nm_m10) (as := [.int 2, .int a2]) (rest := []) (v := .int 0) (h' := p1_h23) rfl (am_kt p1_c21 (by decide)) (by decide) rfl rfl rfl (fun h => absurd h (by decide)) (fun h => absurd h (by decide)) (Nat.le_of_ble_eq_true rfl) ?_ ?_
        · refine am_em (d := 12) nm_m10 rfl rfl (Nat.le_of_ble_eq_true rfl) rfl ?_
          refine am_rg (p1_a1 _ _) 3 (b := (73, [some (.int 2), some (.int a2)], [.int a2], p1_h23)) rfl ?_
          refine am_i1 rfl (t := 86) rfl (am_cT (b := 0) rfl (by show (a2.toInt < 0); omega)) ?_
          refine am_rg (p1_a1 _ _) 1 (b := (87, [some (.int 2), some (.int a2)], [.int 0], p1_h23)) rfl ?_
          exact am_ri rfl rfl rfl
        refine am_rg (p1_a1 _ _) 2 (b := (10, [some (.ref 0), some (.int 2), some (.int a2)], [.int (-4)], p1_h23)) rfl ?_
        exact am_ri rfl rfl rfl
      refine am_rg (p1_a0 _ _) 5 (b := (110, [some (.retAddr 0), some (.ref 0), some (.ref 20), some (.ref 60), some (.int 0), none, none], [.int 1, .retAddr 0, .ref 20, .int (-4)], p1_h23)) rfl ?_
      refine am_sl rfl rfl h1 ?_
      refine am_rg (p1_a0 _ _) 4 (b := (116, [some (.retAddr 0), some (.ref 0), some (.ref 20), some (.ref 60), some (.int 0), none, none], [.int 2, .retAddr 0, .int 2, .ref 20, .int (-4)], p1_h23)) rfl ?_
      refine am_sl rfl rfl h2 ?_
      refine am_cv (N := nm_m158) (as := [.ref 20, .int 2, .int a2]) (rest := [.int (-4)]) (v := .int (-4)) (h' := p1_h23) rfl (am_kv p1_c22 (by decide)) (by decide) rfl rfl rfl (fun _ => ⟨_, _, _, _, _, rfl, rfl, rfl, rfl⟩) (fun h => absurd h (by decide)) (Nat.le_of_ble_eq_true rfl) ?_ ?_
      · refine am_em (d := 13) nm_m158 rfl rfl (Nat.le_of_ble_eq_true rfl) rfl ?_
        refine am_rg (p1_a10 _ _) 6 (b := (8, [some (.ref 20), some (.int 2), some (.int a2), none], [.int 5, .int 0, .int 2], p1_h23)) rfl ?_
        refine am_cv (N := nm_m159) (as := [.int 2, .int 0, .int 5]) (rest := []) (v := .int 1) (h' := p1_h23) rfl (am_kt p1_c23 (by decide)) (by decide) rfl rfl rfl (fun h => absurd h (by decide)) (fun h => absurd h (by decide)) (Nat.le_of_ble_eq_true rfl) ?_ ?_
        · refine am_em (d := 12) nm_m159 rfl rfl (Nat.le_of_ble_eq_true rfl) rfl ?_
          refine am_rg (p1_a10 _ _) 8 (b := (15, [some (.int 2), some (.int 0), some (.int 5)], [.int 1], p1_h23)) rfl ?_
          exact am_ri rfl rfl rfl
        refine am_rg (p1_a10 _ _) 15 (b := (57, [some (.ref 20), some (.int 2), some (.int a2), some (.int 99999)], [.int 99999, .int 0, .int a2], p1_h23)) rfl ?_
        refine am_cv (N := nm_m159) (as := [.int a2, .int 0, .int 99999]) (rest := []) (v := .int 0) (h' := p1_h23) rfl (am_kt p1_c23 (by decide)) (by decide) rfl rfl rfl (fun h => absurd h (by decide)) (fun h => absurd h (by decide)) (Nat.le_of_ble_eq_true rfl) ?_ ?_
        · refine am_em (d := 12) nm_m159 rfl rfl (Nat.le_of_ble_eq_true rfl) rfl ?_
          refine am_rg (p1_a10 _ _) 2 (b := (2, [some (.int a2), some (.int 0), some (.int 99999)], [.int 0, .int a2], p1_h23)) rfl ?_
          refine am_j1 rfl (t := 14) rfl (am_cT (b := 0) rfl (by show (a2.toInt < 0); omega)) ?_
          refine am_rg (p1_a10 _ _) 1 (b := (15, [some (.int a2), some (.int 0), some (.int 99999)], [.int 0], p1_h23)) rfl ?_
          exact am_ri rfl rfl rfl
        refine am_rg (p1_a10 _ _) 2 (b := (65, [some (.ref 20), some (.int 2), some (.int a2), some (.int 99999)], [.int (-4)], p1_h23)) rfl ?_
        exact am_ri rfl rfl rfl
      refine am_rg (p1_a0 _ _) 6 (b := (27, [some (.retAddr 0), some (.ref 0), some (.ref 20), some (.ref 60), some (.int 3), none, none], [.int 3, .int 3], p1_h23)) rfl ?_
      refine am_rg (p1_a0 _ _) 4 (b := (375, [some (.retAddr 0), some (.ref 0), some (.ref 20), some (.ref 60), some (.int 3), none, none], [.int 1], p1_h23)) rfl ?_
      exact am_ri rfl rfl rfl
    · skip
      have d3 : a2.toInt < 100000 ∨ 100000 ≤ a2.toInt := by omega
      rcases d3 with d3 | d3
      · skip
        refine ⟨(p1_y38 a2), ?_, Nat.le_of_ble_eq_true rfl, (by simp [am_sz, am_es, p1_y38])⟩
        refine am_rg (p1_a0 _ _) 3 (b := (27, [some (.retAddr 0), some (.ref 0), some (.ref 20), some (.ref 60), some (.int 0), none, none], [.int 3, .int 0], p1_h23)) rfl ?_
        refine am_rg (p1_a0 _ _) 5 (b := (35, [some (.retAddr 0), some (.ref 0), some (.ref 20), some (.ref 60), some (.int 0), none, none], [.int 0, .retAddr 0], p1_h23)) rfl ?_
        refine am_sl rfl rfl rfl ?_
        refine am_rg (p1_a0 _ _) 1 (b := (38, [some (.retAddr 0), some (.ref 0), some (.ref 20), some (.ref 60), some (.int 0), none, none], [.int 15, .int (xs 0)], p1_h23)) rfl ?_
        refine am_an rfl h0 ?_
        refine am_rg (p1_a0 _ _) 6 (b := (94, [some (.retAddr 0), some (.ref 0), some (.ref 20), some (.ref 60), some (.int 0), none, none], [.int 1, .retAddr 0, .ref 0], p1_h23)) rfl ?_
        refine am_sl rfl rfl h1 ?_
        refine am_rg (p1_a0 _ _) 4 (b := (100, [some (.retAddr 0), some (.ref 0), some (.ref 20), some (.ref 60), some (.int 0), none, none], [.int 2, .retAddr 0, .int 2, .ref 0], p1_h23)) rfl ?_
        refine am_sl rfl rfl h2 ?_
        refine am_cv (N := nm_m9) (as := [.ref 0, .int 2, .int a2]) (rest := []) (v := .int 1) (h' := (p1_y35 a2)) rfl (am_kv p1_c20 (by decide)) (by decide) rfl rfl rfl (fun _ => ⟨_, _, _, _, _, rfl, rfl, rfl, rfl⟩) (fun h => absurd h (by decide)) (Nat.le_of_ble_eq_true rfl) ?_ ?_
        · refine am_em (d := 13) nm_m9 rfl rfl (Nat.le_of_ble_eq_true rfl) rfl ?_
          refine am_rg (p1_a1 _ _) 2 (b := (2, [some (.ref 0), some (.int 2), some (.int a2)], [.int a2, .int 2], p1_h23)) rfl ?_
          refine am_cv (N := nm_m10) (as := [.int 2, .int a2]) (rest := []) (v := .int 1) (h' := p1_h23) rfl (am_kt p1_c21 (by decide)) (by decide) rfl rfl rfl (fun h => absurd h (by decide)) (fun h => absurd h (by decide)) (Nat.le_of_ble_eq_true rfl) ?_ ?_
          · refine am_em (d := 12) nm_m10 rfl rfl (Nat.le_of_ble_eq_true rfl) rfl ?_
            refine am_rg (p1_a1 _ _) 3 (b := (73, [some (.int 2), some (.int a2)], [.int a2], p1_h23)) rfl ?_
            refine am_i0 rfl (t := 86) rfl (am_cF (b := 0) rfl (by show ¬ (a2.toInt < 0); omega)) ?_
            refine am_rg (p1_a1 _ _) 2 (b := (79, [some (.int 2), some (.int a2)], [.int 99999, .int a2], p1_h23)) rfl ?_
            refine am_j0 rfl (t := 86) rfl (am_cF (b := 99999) rfl (by show ¬ (a2.toInt > 99999); omega)) ?_
            refine am_rg (p1_a1 _ _) 2 (b := (87, [some (.int 2), some (.int a2)], [.int 1], p1_h23)) rfl ?_
            exact am_ri rfl rfl rfl
          refine am_rg (p1_a1 _ _) 3 (b := (15, [some (.ref 0), some (.int 2), some (.int a2)], [.ref 1], p1_h23)) rfl ?_
          refine am_cv (N := nm_m11) (as := [.ref 1]) (rest := []) (v := .int 0) (h' := p1_h23) rfl (am_kv p1_c24 (by decide)) (by decide) rfl rfl rfl (fun _ => ⟨_, _, _, _, _, rfl, rfl, rfl, rfl⟩) (fun h => absurd h (by decide)) (Nat.le_of_ble_eq_true rfl) ?_ ?_
          · refine am_em (d := 12) nm_m11 rfl rfl (Nat.le_of_ble_eq_true rfl) rfl ?_
            refine am_rg (p1_a2 _ _) 5 (b := (15, [some (.ref 1)], [.int 0], p1_h23)) rfl ?_
            exact am_ri rfl rfl rfl
          refine am_rg (p1_a1 _ _) 5 (b := (31, [some (.ref 0), some (.int 2), some (.int a2)], [.int a2, .int 2, .ref 1], p1_h23)) rfl ?_
          refine am_cv (N := nm_m12) (as := [.ref 1, .int 2, .int a2]) (rest := []) (v := .int 1) (h' := (p1_y35 a2)) rfl (am_kv p1_c25 (by decide)) (by decide) rfl rfl rfl (fun _ => ⟨_, _, _, _, _, rfl, rfl, rfl, rfl⟩) (fun h => absurd h (by decide)) (Nat.le_of_ble_eq_true rfl) ?_ ?_
          · refine am_em (d := 12) nm_m12 rfl rfl (Nat.le_of_ble_eq_true rfl) rfl ?_
            refine am_rg (p1_a2 _ _) 5 (b := (9, [some (.ref 1), some (.int 2), some (.int a2)], [.int 64, .int 0], p1_h23)) rfl ?_
            refine am_rg (p1_a2 _ _) 13 (b := (66, [some (.ref 1), some (.int 2), some (.int a2)], [], (p1_y34 a2))) rfl ?_
            refine am_rg (p1_a2 _ _) 6 (b := (76, [some (.ref 1), some (.int 2), some (.int a2)], [], (p1_y35 a2))) rfl ?_
            refine am_rg (p1_a2 _ _) 2 (b := (80, [some (.ref 1), some (.int 2), some (.int a2)], [.int 1], (p1_y35 a2))) rfl ?_
            exact am_ri rfl rfl rfl
          exact am_ri rfl rfl rfl
        refine am_rg (p1_a0 _ _) 5 (b := (110, [some (.retAddr 0), some (.ref 0), some (.ref 20), some (.ref 60), some (.int 0), none, none], [.int 1, .retAddr 0, .ref 20, .int 1], (p1_y35 a2))) rfl ?_
        refine am_sl rfl rfl h1 ?_
        refine am_rg (p1_a0 _ _) 4 (b := (116, [some (.retAddr 0), some (.ref 0), some (.ref 20), some (.ref 60), some (.int 0), none, none], [.int 2, .retAddr 0, .int 2, .ref 20, .int 1], (p1_y35 a2))) rfl ?_
        refine am_sl rfl rfl h2 ?_
        refine am_cv (N := nm_m158) (as := [.ref 20, .int 2, .int a2]) (rest := [.int 1]) (v := .int 1) (h' := (p1_y38 a2)) rfl (am_kv p1_c22 (by decide)) (by decide) rfl rfl rfl (fun _ => ⟨_, _, _, _, _, rfl, rfl, rfl, rfl⟩) (fun h => absurd h (by decide)) (Nat.le_of_ble_eq_true rfl) ?_ ?_
        · refine am_em (d := 13) nm_m158 rfl rfl (Nat.le_of_ble_eq_true rfl) rfl ?_
          refine am_rg (p1_a10 _ _) 3 (b := (5, [some (.ref 20), some (.int 2), some (.int a2), none], [], (p1_y35 a2))) rfl ?_
          refine am_rg (p1_a10 _ _) 3 (b := (8, [some (.ref 20), some (.int 2), some (.int a2), none], [.int 5, .int 0, .int 2], (p1_y35 a2))) rfl ?_
          refine am_cv (N := nm_m159) (as := [.int 2, .int 0, .int 5]) (rest := []) (v := .int 1) (h' := (p1_y35 a2)) rfl (am_kt p1_c23 (by decide)) (by decide) rfl rfl rfl (fun h => absurd h (by decide)) (fun h => absurd h (by decide)) (Nat.le_of_ble_eq_true rfl) ?_ ?_
          · refine am_em (d := 12) nm_m159 rfl rfl (Nat.le_of_ble_eq_true rfl) rfl ?_
            refine am_rg (p1_a10 _ _) 8 (b := (15, [some (.int 2), some (.int 0), some (.int 5)], [.int 1], (p1_y35 a2))) rfl ?_
            exact am_ri rfl rfl rfl
          refine am_rg (p1_a10 _ _) 15 (b := (57, [some (.ref 20), some (.int 2), some (.int a2), some (.int 99999)], [.int 99999, .int 0, .int a2], (p1_y35 a2))) rfl ?_
          refine am_cv (N := nm_m159) (as := [.int a2, .int 0, .int 99999]) (rest := []) (v := .int 1) (h' := (p1_y35 a2)) rfl (am_kt p1_c23 (by decide)) (by decide) rfl rfl rfl (fun h => absurd h (by decide)) (fun h => absurd h (by decide)) (Nat.le_of_ble_eq_true rfl) ?_ ?_
          · refine am_em (d := 12) nm_m159 rfl rfl (Nat.le_of_ble_eq_true rfl) rfl ?_
            refine am_rg (p1_a10 _ _) 2 (b := (2, [some (.int a2), some (.int 0), some (.int 99999)], [.int 0, .int a2], (p1_y35 a2))) rfl ?_
            refine am_j0 rfl (t := 14) rfl (am_cF (b := 0) rfl (by show ¬ (a2.toInt < 0); omega)) ?_
            refine am_rg (p1_a10 _ _) 2 (b := (7, [some (.int a2), some (.int 0), some (.int 99999)], [.int 99999, .int a2], (p1_y35 a2))) rfl ?_
            refine am_j0 rfl (t := 14) rfl (am_cF (b := 99999) rfl (by show ¬ (a2.toInt > 99999); omega)) ?_
            refine am_rg (p1_a10 _ _) 2 (b := (15, [some (.int a2), some (.int 0), some (.int 99999)], [.int 1], (p1_y35 a2))) rfl ?_
            exact am_ri rfl rfl rfl
          refine am_rg (p1_a10 _ _) 11 (b := (88, [some (.ref 20), some (.int 2), some (.int a2), some (.int 99999)], [], (p1_y36 a2))) rfl ?_
          refine am_rg (p1_a10 _ _) 6 (b := (98, [some (.ref 20), some (.int 2), some (.int a2), some (.int 99999)], [], (p1_y37 a2))) rfl ?_
          refine am_rg (p1_a10 _ _) 6 (b := (108, [some (.ref 20), some (.int 2), some (.int a2), some (.int 99999)], [], (p1_y38 a2))) rfl ?_
          refine am_rg (p1_a10 _ _) 2 (b := (112, [some (.ref 20), some (.int 2), some (.int a2), some (.int 99999)], [.int 1], (p1_y38 a2))) rfl ?_
          exact am_ri rfl rfl rfl
        refine am_rg (p1_a0 _ _) 6 (b := (27, [some (.retAddr 0), some (.ref 0), some (.ref 20), some (.ref 60), some (.int 3), none, none], [.int 3, .int 3], (p1_y38 a2))) rfl ?_
        refine am_rg (p1_a0 _ _) 4 (b := (375, [some (.retAddr 0), some (.ref 0), some (.ref 20), some (.ref 60), some (.int 3), none, none], [.int 1], (p1_y38 a2))) rfl ?_
        exact am_ri rfl rfl rfl
      · skip
        refine ⟨p1_h23, ?_, Nat.le_of_ble_eq_true rfl, Nat.le_of_ble_eq_true rfl⟩
        refine am_rg (p1_a0 _ _) 3 (b := (27, [some (.retAddr 0), some (.ref 0), some (.ref 20), some (.ref 60), some (.int 0), none, none], [.int 3, .int 0], p1_h23)) rfl ?_
        refine am_rg (p1_a0 _ _) 5 (b := (35, [some (.retAddr 0), some (.ref 0), some (.ref 20), some (.ref 60), some (.int 0), none, none], [.int 0, .retAddr 0], p1_h23)) rfl ?_
        refine am_sl rfl rfl rfl ?_
        refine am_rg (p1_a0 _ _) 1 (b := (38, [some (.retAddr 0), some (.ref 0), some (.ref 20), some (.ref 60), some (.int 0), none, none], [.int 15, .int (xs 0)], p1_h23)) rfl ?_
        refine am_an rfl h0 ?_
        refine am_rg (p1_a0 _ _) 6 (b := (94, [some (.retAddr 0), some (.ref 0), some (.ref 20), some (.ref 60), some (.int 0), none, none], [.int 1, .retAddr 0, .ref 0], p1_h23)) rfl ?_
        refine am_sl rfl rfl h1 ?_
        refine am_rg (p1_a0 _ _) 4 (b := (100, [some (.retAddr 0), some (.ref 0), some (.ref 20), some (.ref 60), some (.int 0), none, none], [.int 2, .retAddr 0, .int 2, .ref 0], p1_h23)) rfl ?_
        refine am_sl rfl rfl h2 ?_
        refine am_cv (N := nm_m9) (as := [.ref 0, .int 2, .int a2]) (rest := []) (v := .int (-4)) (h' := p1_h23) rfl (am_kv p1_c20 (by decide)) (by decide) rfl rfl rfl (fun _ => ⟨_, _, _, _, _, rfl, rfl, rfl, rfl⟩) (fun h => absurd h (by decide)) (Nat.le_of_ble_eq_true rfl) ?_ ?_
        · refine am_em (d := 13) nm_m9 rfl rfl (Nat.le_of_ble_eq_true rfl) rfl ?_
          refine am_rg (p1_a1 _ _) 2 (b := (2, [some (.ref 0), some (.int 2), some (.int a2)], [.int a2, .int 2], p1_h23)) rfl ?_
          refine am_cv (N := nm_m10) (as := [.int 2, .int a2]) (rest := []) (v := .int 0) (h' := p1_h23) rfl (am_kt p1_c21 (by decide)) (by decide) rfl rfl rfl (fun h => absurd h (by decide)) (fun h => absurd h (by decide)) (Nat.le_of_ble_eq_true rfl) ?_ ?_
          · refine am_em (d := 12) nm_m10 rfl rfl (Nat.le_of_ble_eq_true rfl) rfl ?_
            refine am_rg (p1_a1 _ _) 3 (b := (73, [some (.int 2), some (.int a2)], [.int a2], p1_h23)) rfl ?_
            refine am_i0 rfl (t := 86) rfl (am_cF (b := 0) rfl (by show ¬ (a2.toInt < 0); omega)) ?_
            refine am_rg (p1_a1 _ _) 2 (b := (79, [some (.int 2), some (.int a2)], [.int 99999, .int a2], p1_h23)) rfl ?_
            refine am_j1 rfl (t := 86) rfl (am_cT (b := 99999) rfl (by show (a2.toInt > 99999); omega)) ?_
            refine am_rg (p1_a1 _ _) 1 (b := (87, [some (.int 2), some (.int a2)], [.int 0], p1_h23)) rfl ?_
            exact am_ri rfl rfl rfl
          refine am_rg (p1_a1 _ _) 2 (b := (10, [some (.ref 0), some (.int 2), some (.int a2)], [.int (-4)], p1_h23)) rfl ?_
          exact am_ri rfl rfl rfl
        refine am_rg (p1_a0 _ _) 5 (b := (110, [some (.retAddr 0), some (.ref 0), some (.ref 20), some (.ref 60), some (.int 0), none, none], [.int 1, .retAddr 0, .ref 20, .int (-4)], p1_h23)) rfl ?_
        refine am_sl rfl rfl h1 ?_
        refine am_rg (p1_a0 _ _) 4 (b := (116, [some (.retAddr 0), some (.ref 0), some (.ref 20), some (.ref 60), some (.int 0), none, none], [.int 2, .retAddr 0, .int 2, .ref 20, .int (-4)], p1_h23)) rfl ?_
        refine am_sl rfl rfl h2 ?_
        refine am_cv (N := nm_m158) (as := [.ref 20, .int 2, .int a2]) (rest := [.int (-4)]) (v := .int (-4)) (h' := p1_h23) rfl (am_kv p1_c22 (by decide)) (by decide) rfl rfl rfl (fun _ => ⟨_, _, _, _, _, rfl, rfl, rfl, rfl⟩) (fun h => absurd h (by decide)) (Nat.le_of_ble_eq_true rfl) ?_ ?_
        · refine am_em (d := 13) nm_m158 rfl rfl (Nat.le_of_ble_eq_true rfl) rfl ?_
          refine am_rg (p1_a10 _ _) 6 (b := (8, [some (.ref 20), some (.int 2), some (.int a2), none], [.int 5, .int 0, .int 2], p1_h23)) rfl ?_
          refine am_cv (N := nm_m159) (as := [.int 2, .int 0, .int 5]) (rest := []) (v := .int 1) (h' := p1_h23) rfl (am_kt p1_c23 (by decide)) (by decide) rfl rfl rfl (fun h => absurd h (by decide)) (fun h => absurd h (by decide)) (Nat.le_of_ble_eq_true rfl) ?_ ?_
          · refine am_em (d := 12) nm_m159 rfl rfl (Nat.le_of_ble_eq_true rfl) rfl ?_
            refine am_rg (p1_a10 _ _) 8 (b := (15, [some (.int 2), some (.int 0), some (.int 5)], [.int 1], p1_h23)) rfl ?_
            exact am_ri rfl rfl rfl
          refine am_rg (p1_a10 _ _) 15 (b := (57, [some (.ref 20), some (.int 2), some (.int a2), some (.int 99999)], [.int 99999, .int 0, .int a2], p1_h23)) rfl ?_
          refine am_cv (N := nm_m159) (as := [.int a2, .int 0, .int 99999]) (rest := []) (v := .int 0) (h' := p1_h23) rfl (am_kt p1_c23 (by decide)) (by decide) rfl rfl rfl (fun h => absurd h (by decide)) (fun h => absurd h (by decide)) (Nat.le_of_ble_eq_true rfl) ?_ ?_
          · refine am_em (d := 12) nm_m159 rfl rfl (Nat.le_of_ble_eq_true rfl) rfl ?_
            refine am_rg (p1_a10 _ _) 2 (b := (2, [some (.int a2), some (.int 0), some (.int 99999)], [.int 0, .int a2], p1_h23)) rfl ?_
            refine am_j0 rfl (t := 14) rfl (am_cF (b := 0) rfl (by show ¬ (a2.toInt < 0); omega)) ?_
            refine am_rg (p1_a10 _ _) 2 (b := (7, [some (.int a2), some (.int 0), some (.int 99999)], [.int 99999, .int a2], p1_h23)) rfl ?_
            refine am_j1 rfl (t := 14) rfl (am_cT (b := 99999) rfl (by show (a2.toInt > 99999); omega)) ?_
            refine am_rg (p1_a10 _ _) 1 (b := (15, [some (.int a2), some (.int 0), some (.int 99999)], [.int 0], p1_h23)) rfl ?_
            exact am_ri rfl rfl rfl
          refine am_rg (p1_a10 _ _) 2 (b := (65, [some (.ref 20), some (.int 2), some (.int a2), some (.int 99999)], [.int (-4)], p1_h23)) rfl ?_
          exact am_ri rfl rfl rfl
        refine am_rg (p1_a0 _ _) 6 (b := (27, [some (.retAddr 0), some (.ref 0), some (.ref 20), some (.ref 60), some (.int 3), none, none], [.int 3, .int 3], p1_h23)) rfl ?_
        refine am_rg (p1_a0 _ _) 4 (b := (375, [some (.retAddr 0), some (.ref 0), some (.ref 20), some (.ref 60), some (.int 3), none, none], [.int 1], p1_h23)) rfl ?_
        exact am_ri rfl rfl rfl
  · obtain rfl : a1 = 3 := am_inj d1 rfl
    have d2 : a2.toInt < 0 ∨ 0 ≤ a2.toInt := by omega
    rcases d2 with d2 | d2
    · skip
      refine ⟨p1_h23, ?_, Nat.le_of_ble_eq_true rfl, Nat.le_of_ble_eq_true rfl⟩
      refine am_rg (p1_a0 _ _) 3 (b := (27, [some (.retAddr 0), some (.ref 0), some (.ref 20), some (.ref 60), some (.int 0), none, none], [.int 3, .int 0], p1_h23)) rfl ?_
      refine am_rg (p1_a0 _ _) 5 (b := (35, [some (.retAddr 0), some (.ref 0), some (.ref 20), some (.ref 60), some (.int 0), none, none], [.int 0, .retAddr 0], p1_h23)) rfl ?_
      refine am_sl rfl rfl rfl ?_
      refine am_rg (p1_a0 _ _) 1 (b := (38, [some (.retAddr 0), some (.ref 0), some (.ref 20), some (.ref 60), some (.int 0), none, none], [.int 15, .int (xs 0)], p1_h23)) rfl ?_
      refine am_an rfl h0 ?_
      refine am_rg (p1_a0 _ _) 6 (b := (94, [some (.retAddr 0), some (.ref 0), some (.ref 20), some (.ref 60), some (.int 0), none, none], [.int 1, .retAddr 0, .ref 0], p1_h23)) rfl ?_
      refine am_sl rfl rfl h1 ?_
      refine am_rg (p1_a0 _ _) 4 (b := (100, [some (.retAddr 0), some (.ref 0), some (.ref 20), some (.ref 60), some (.int 0), none, none], [.int 2, .retAddr 0, .int 3, .ref 0], p1_h23)) rfl ?_
      refine am_sl rfl rfl h2 ?_
      refine am_cv (N := nm_m9) (as := [.ref 0, .int 3, .int a2]) (rest := []) (v := .int (-4)) (h' := p1_h23) rfl (am_kv p1_c20 (by decide)) (by decide) rfl rfl rfl (fun _ => ⟨_, _, _, _, _, rfl, rfl, rfl, rfl⟩) (fun h => absurd h (by decide)) (Nat.le_of_ble_eq_true rfl) ?_ ?_
      · refine am_em (d := 13) nm_m9 rfl rfl (Nat.le_of_ble_eq_true rfl) rfl ?_
        refine am_rg (p1_a1 _ _) 2 (b := (2, [some (.ref 0), some (.int 3), some (.int a2)], [.int a2, .int 3], p1_h23)) rfl ?_
        refine am_cv (N := nm_m10) (as := [.int 3, .int a2]) (rest := []) (v := .int 0) (h' := p1_h23) rfl (am_kt p1_c21 (by decide)) (by decide) rfl rfl rfl (fun h => absurd h (by decide)) (fun h => absurd h (by decide)) (Nat.le_of_ble_eq_true rfl) ?_ ?_
        · refine am_em (d := 12) nm_m10 rfl rfl (Nat.le_of_ble_eq_true rfl) rfl ?_
          refine am_rg (p1_a1 _ _) 3 (b := (57, [some (.int 3), some (.int a2)], [.int a2], p1_h23)) rfl ?_
          refine am_i1 rfl (t := 70) rfl (am_cT (b := 0) rfl (by show (a2.toInt < 0); omega)) ?_
          refine am_rg (p1_a1 _ _) 1 (b := (71, [some (.int 3), some (.int a2)], [.int 0], p1_h23)) rfl ?_
          exact am_ri rfl rfl rfl
        refine am_rg (p1_a1 _ _) 2 (b := (10, [some (.ref 0), some (.int 3), some (.int a2)], [.int (-4)], p1_h23)) rfl ?_
        exact am_ri rfl rfl rfl
      refine am_rg (p1_a0 _ _) 5 (b := (110, [some (.retAddr 0), some (.ref 0), some (.ref 20), some (.ref 60), some (.int 0), none, none], [.int 1, .retAddr 0, .ref 20, .int (-4)], p1_h23)) rfl ?_
      refine am_sl rfl rfl h1 ?_
      refine am_rg (p1_a0 _ _) 4 (b := (116, [some (.retAddr 0), some (.ref 0), some (.ref 20), some (.ref 60), some (.int 0), none, none], [.int 2, .retAddr 0, .int 3, .ref 20, .int (-4)], p1_h23)) rfl ?_
      refine am_sl rfl rfl h2 ?_
      refine am_cv (N := nm_m158) (as := [.ref 20, .int 3, .int a2]) (rest := [.int (-4)]) (v := .int (-4)) (h' := p1_h23) rfl (am_kv p1_c22 (by decide)) (by decide) rfl rfl rfl (fun _ => ⟨_, _, _, _, _, rfl, rfl, rfl, rfl⟩) (fun h => absurd h (by decide)) (Nat.le_of_ble_eq_true rfl) ?_ ?_
      · refine am_em (d := 13) nm_m158 rfl rfl (Nat.le_of_ble_eq_true rfl) rfl ?_
        refine am_rg (p1_a10 _ _) 6 (b := (8, [some (.ref 20), some (.int 3), some (.int a2), none], [.int 5, .int 0, .int 3], p1_h23)) rfl ?_
        refine am_cv (N := nm_m159) (as := [.int 3, .int 0, .int 5]) (rest := []) (v := .int 1) (h' := p1_h23) rfl (am_kt p1_c23 (by decide)) (by decide) rfl rfl rfl (fun h => absurd h (by decide)) (fun h => absurd h (by decide)) (Nat.le_of_ble_eq_true rfl) ?_ ?_
        · refine am_em (d := 12) nm_m159 rfl rfl (Nat.le_of_ble_eq_true rfl) rfl ?_
          refine am_rg (p1_a10 _ _) 8 (b := (15, [some (.int 3), some (.int 0), some (.int 5)], [.int 1], p1_h23)) rfl ?_
          exact am_ri rfl rfl rfl
        refine am_rg (p1_a10 _ _) 17 (b := (57, [some (.ref 20), some (.int 3), some (.int a2), some (.int 99)], [.int 99, .int 0, .int a2], p1_h23)) rfl ?_
        refine am_cv (N := nm_m159) (as := [.int a2, .int 0, .int 99]) (rest := []) (v := .int 0) (h' := p1_h23) rfl (am_kt p1_c23 (by decide)) (by decide) rfl rfl rfl (fun h => absurd h (by decide)) (fun h => absurd h (by decide)) (Nat.le_of_ble_eq_true rfl) ?_ ?_
        · refine am_em (d := 12) nm_m159 rfl rfl (Nat.le_of_ble_eq_true rfl) rfl ?_
          refine am_rg (p1_a10 _ _) 2 (b := (2, [some (.int a2), some (.int 0), some (.int 99)], [.int 0, .int a2], p1_h23)) rfl ?_
          refine am_j1 rfl (t := 14) rfl (am_cT (b := 0) rfl (by show (a2.toInt < 0); omega)) ?_
          refine am_rg (p1_a10 _ _) 1 (b := (15, [some (.int a2), some (.int 0), some (.int 99)], [.int 0], p1_h23)) rfl ?_
          exact am_ri rfl rfl rfl
        refine am_rg (p1_a10 _ _) 2 (b := (65, [some (.ref 20), some (.int 3), some (.int a2), some (.int 99)], [.int (-4)], p1_h23)) rfl ?_
        exact am_ri rfl rfl rfl
      refine am_rg (p1_a0 _ _) 6 (b := (27, [some (.retAddr 0), some (.ref 0), some (.ref 20), some (.ref 60), some (.int 3), none, none], [.int 3, .int 3], p1_h23)) rfl ?_
      refine am_rg (p1_a0 _ _) 4 (b := (375, [some (.retAddr 0), some (.ref 0), some (.ref 20), some (.ref 60), some (.int 3), none, none], [.int 1], p1_h23)) rfl ?_
      exact am_ri rfl rfl rfl
    · skip
      have d3 : a2.toInt < 100 ∨ 100 ≤ a2.toInt := by omega
      rcases d3 with d3 | d3
      · skip
        refine ⟨(p1_y43 a2), ?_, Nat.le_of_ble_eq_true rfl, (by simp [am_sz, am_es, p1_y43])⟩
        refine am_rg (p1_a0 _ _) 3 (b := (27, [some (.retAddr 0), some (.ref 0), some (.ref 20), some (.ref 60), some (.int 0), none, none], [.int 3, .int 0], p1_h23)) rfl ?_
        refine am_rg (p1_a0 _ _) 5 (b := (35, [some (.retAddr 0), some (.ref 0), some (.ref 20), some (.ref 60), some (.int 0), none, none], [.int 0, .retAddr 0], p1_h23)) rfl ?_
        refine am_sl rfl rfl rfl ?_
        refine am_rg (p1_a0 _ _) 1 (b := (38, [some (.retAddr 0), some (.ref 0), some (.ref 20), some (.ref 60), some (.int 0), none, none], [.int 15, .int (xs 0)], p1_h23)) rfl ?_
        refine am_an rfl h0 ?_
        refine am_rg (p1_a0 _ _) 6 (b := (94, [some (.retAddr 0), some (.ref 0), some (.ref 20), some (.ref 60), some (.int 0), none, none], [.int 1, .retAddr 0, .ref 0], p1_h23)) rfl ?_
        refine am_sl rfl rfl h1 ?_
        refine am_rg (p1_a0 _ _) 4 (b := (100, [some (.retAddr 0), some (.ref 0), some (.ref 20), some (.ref 60), some (.int 0), none, none], [.int 2, .retAddr 0, .int 3, .ref 0], p1_h23)) rfl ?_
        refine am_sl rfl rfl h2 ?_
        refine am_cv (N := nm_m9) (as := [.ref 0, .int 3, .int a2]) (rest := []) (v := .int 1) (h' := (p1_y40 a2)) rfl (am_kv p1_c20 (by decide)) (by decide) rfl rfl rfl (fun _ => ⟨_, _, _, _, _, rfl, rfl, rfl, rfl⟩) (fun h => absurd h (by decide)) (Nat.le_of_ble_eq_true rfl) ?_ ?_
        · refine am_em (d := 13) nm_m9 rfl rfl (Nat.le_of_ble_eq_true rfl) rfl ?_
          refine am_rg (p1_a1 _ _) 2 (b := (2, [some (.ref 0), some (.int 3), some (.int a2)], [.int a2, .int 3], p1_h23)) rfl ?_
          refine am_cv (N := nm_m10) (as := [.int 3, .int a2]) (rest := []) (v := .int 1) (h' := p1_h23) rfl (am_kt p1_c21 (by decide)) (by decide) rfl rfl rfl (fun h => absurd h (by decide)) (fun h => absurd h (by decide)) (Nat.le_of_ble_eq_true rfl) ?_ ?_
          · refine am_em (d := 12) nm_m10 rfl rfl (Nat.le_of_ble_eq_true rfl) rfl ?_
            refine am_rg (p1_a1 _ _) 3 (b := (57, [some (.int 3), some (.int a2)], [.int a2], p1_h23)) rfl ?_
            refine am_i0 rfl (t := 70) rfl (am_cF (b := 0) rfl (by show ¬ (a2.toInt < 0); omega)) ?_
            refine am_rg (p1_a1 _ _) 2 (b := (63, [some (.int 3), some (.int a2)], [.int 99, .int a2], p1_h23)) rfl ?_
            refine am_j0 rfl (t := 70) rfl (am_cF (b := 99) rfl (by show ¬ (a2.toInt > 99); omega)) ?_
            refine am_rg (p1_a1 _ _) 2 (b := (71, [some (.int 3), some (.int a2)], [.int 1], p1_h23)) rfl ?_
            exact am_ri rfl rfl rfl
          refine am_rg (p1_a1 _ _) 3 (b := (15, [some (.ref 0), some (.int 3), some (.int a2)], [.ref 1], p1_h23)) rfl ?_
          refine am_cv (N := nm_m11) (as := [.ref 1]) (rest := []) (v := .int 0) (h' := p1_h23) rfl (am_kv p1_c24 (by decide)) (by decide) rfl rfl rfl (fun _ => ⟨_, _, _, _, _, rfl, rfl, rfl, rfl⟩) (fun h => absurd h (by decide)) (Nat.le_of_ble_eq_true rfl) ?_ ?_
          · refine am_em (d := 12) nm_m11 rfl rfl (Nat.le_of_ble_eq_true rfl) rfl ?_
            refine am_rg (p1_a2 _ _) 5 (b := (15, [some (.ref 1)], [.int 0], p1_h23)) rfl ?_
            exact am_ri rfl rfl rfl
          refine am_rg (p1_a1 _ _) 5 (b := (31, [some (.ref 0), some (.int 3), some (.int a2)], [.int a2, .int 3, .ref 1], p1_h23)) rfl ?_
          refine am_cv (N := nm_m12) (as := [.ref 1, .int 3, .int a2]) (rest := []) (v := .int 1) (h' := (p1_y40 a2)) rfl (am_kv p1_c25 (by decide)) (by decide) rfl rfl rfl (fun _ => ⟨_, _, _, _, _, rfl, rfl, rfl, rfl⟩) (fun h => absurd h (by decide)) (Nat.le_of_ble_eq_true rfl) ?_ ?_
          · refine am_em (d := 12) nm_m12 rfl rfl (Nat.le_of_ble_eq_true rfl) rfl ?_
            refine am_rg (p1_a2 _ _) 5 (b := (9, [some (.ref 1), some (.int 3), some (.int a2)], [.int 64, .int 0], p1_h23)) rfl ?_
            refine am_rg (p1_a2 _ _) 13 (b := (66, [some (.ref 1), some (.int 3), some (.int a2)], [], (p1_y39 a2))) rfl ?_
            refine am_rg (p1_a2 _ _) 6 (b := (76, [some (.ref 1), some (.int 3), some (.int a2)], [], (p1_y40 a2))) rfl ?_
            refine am_rg (p1_a2 _ _) 2 (b := (80, [some (.ref 1), some (.int 3), some (.int a2)], [.int 1], (p1_y40 a2))) rfl ?_
            exact am_ri rfl rfl rfl
          exact am_ri rfl rfl rfl
        refine am_rg (p1_a0 _ _) 5 (b := (110, [some (.retAddr 0), some (.ref 0), some (.ref 20), some (.ref 60), some (.int 0), none, none], [.int 1, .retAddr 0, .ref 20, .int 1], (p1_y40 a2))) rfl ?_
        refine am_sl rfl rfl h1 ?_
        refine am_rg (p1_a0 _ _) 4 (b := (116, [some (.retAddr 0), some (.ref 0), some (.ref 20), some (.ref 60), some (.int 0), none, none], [.int 2, .retAddr 0, .int 3, .ref 20, .int 1], (p1_y40 a2))) rfl ?_
        refine am_sl rfl rfl h2 ?_
        refine am_cv (N := nm_m158) (as := [.ref 20, .int 3, .int a2]) (rest := [.int 1]) (v := .int 1) (h' := (p1_y43 a2)) rfl (am_kv p1_c22 (by decide)) (by decide) rfl rfl rfl (fun _ => ⟨_, _, _, _, _, rfl, rfl, rfl, rfl⟩) (fun h => absurd h (by decide)) (Nat.le_of_ble_eq_true rfl) ?_ ?_
        · refine am_em (d := 13) nm_m158 rfl rfl (Nat.le_of_ble_eq_true rfl) rfl ?_
          refine am_rg (p1_a10 _ _) 3 (b := (5, [some (.ref 20), some (.int 3), some (.int a2), none], [], (p1_y40 a2))) rfl ?_
          refine am_rg (p1_a10 _ _) 3 (b := (8, [some (.ref 20), some (.int 3), some (.int a2), none], [.int 5, .int 0, .int 3], (p1_y40 a2))) rfl ?_
          refine am_cv (N := nm_m159) (as := [.int 3, .int 0, .int 5]) (rest := []) (v := .int 1) (h' := (p1_y40 a2)) rfl (am_kt p1_c23 (by decide)) (by decide) rfl rfl rfl (fun h => absurd h (by decide)) (fun h => absurd h (by decide)) (Nat.le_of_ble_eq_true rfl) ?_ ?_
          · refine am_em (d := 12) nm_m159 rfl rfl (Nat.le_of_ble_eq_true rfl) rfl ?_
            refine am_rg (p1_a10 _ _) 8 (b := (15, [some (.int 3), some (.int 0), some (.int 5)], [.int 1], (p1_y40 a2))) rfl ?_
            exact am_ri rfl rfl rfl
          refine am_rg (p1_a10 _ _) 17 (b := (57, [some (.ref 20), some (.int 3), some (.int a2), some (.int 99)], [.int 99, .int 0, .int a2], (p1_y40 a2))) rfl ?_
          refine am_cv (N := nm_m159) (as := [.int a2, .int 0, .int 99]) (rest := []) (v := .int 1) (h' := (p1_y40 a2)) rfl (am_kt p1_c23 (by decide)) (by decide) rfl rfl rfl (fun h => absurd h (by decide)) (fun h => absurd h (by decide)) (Nat.le_of_ble_eq_true rfl) ?_ ?_
          · refine am_em (d := 12) nm_m159 rfl rfl (Nat.le_of_ble_eq_true rfl) rfl ?_
            refine am_rg (p1_a10 _ _) 2 (b := (2, [some (.int a2), some (.int 0), some (.int 99)], [.int 0, .int a2], (p1_y40 a2))) rfl ?_
            refine am_j0 rfl (t := 14) rfl (am_cF (b := 0) rfl (by show ¬ (a2.toInt < 0); omega)) ?_
            refine am_rg (p1_a10 _ _) 2 (b := (7, [some (.int a2), some (.int 0), some (.int 99)], [.int 99, .int a2], (p1_y40 a2))) rfl ?_
            refine am_j0 rfl (t := 14) rfl (am_cF (b := 99) rfl (by show ¬ (a2.toInt > 99); omega)) ?_
            refine am_rg (p1_a10 _ _) 2 (b := (15, [some (.int a2), some (.int 0), some (.int 99)], [.int 1], (p1_y40 a2))) rfl ?_
            exact am_ri rfl rfl rfl
          refine am_rg (p1_a10 _ _) 11 (b := (88, [some (.ref 20), some (.int 3), some (.int a2), some (.int 99)], [], (p1_y41 a2))) rfl ?_
          refine am_rg (p1_a10 _ _) 6 (b := (98, [some (.ref 20), some (.int 3), some (.int a2), some (.int 99)], [], (p1_y42 a2))) rfl ?_
          refine am_rg (p1_a10 _ _) 6 (b := (108, [some (.ref 20), some (.int 3), some (.int a2), some (.int 99)], [], (p1_y43 a2))) rfl ?_
          refine am_rg (p1_a10 _ _) 2 (b := (112, [some (.ref 20), some (.int 3), some (.int a2), some (.int 99)], [.int 1], (p1_y43 a2))) rfl ?_
          exact am_ri rfl rfl rfl
        refine am_rg (p1_a0 _ _) 6 (b := (27, [some (.retAddr 0), some (.ref 0), some (.ref 20), some (.ref 60), some (.int 3), none, none], [.int 3, .int 3], (p1_y43 a2))) rfl ?_
        refine am_rg (p1_a0 _ _) 4 (b := (375, [some (.retAddr 0), some (.ref 0), some (.ref 20), some (.ref 60), some (.int 3), none, none], [.int 1], (p1_y43 a2))) rfl ?_
        exact am_ri rfl rfl rfl
      · skip
        refine ⟨p1_h23, ?_, Nat.le_of_ble_eq_true rfl, Nat.le_of_ble_eq_true rfl⟩
        refine am_rg (p1_a0 _ _) 3 (b := (27, [some (.retAddr 0), some (.ref 0), some (.ref 20), some (.ref 60), some (.int 0), none, none], [.int 3, .int 0], p1_h23)) rfl ?_
        refine am_rg (p1_a0 _ _) 5 (b := (35, [some (.retAddr 0), some (.ref 0), some (.ref 20), some (.ref 60), some (.int 0), none, none], [.int 0, .retAddr 0], p1_h23)) rfl ?_
        refine am_sl rfl rfl rfl ?_
        refine am_rg (p1_a0 _ _) 1 (b := (38, [some (.retAddr 0), some (.ref 0), some (.ref 20), some (.ref 60), some (.int 0), none, none], [.int 15, .int (xs 0)], p1_h23)) rfl ?_
        refine am_an rfl h0 ?_
        refine am_rg (p1_a0 _ _) 6 (b := (94, [some (.retAddr 0), some (.ref 0), some (.ref 20), some (.ref 60), some (.int 0), none, none], [.int 1, .retAddr 0, .ref 0], p1_h23)) rfl ?_
        refine am_sl rfl rfl h1 ?_
        refine am_rg (p1_a0 _ _) 4 (b := (100, [some (.retAddr 0), some (.ref 0), some (.ref 20), some (.ref 60), some (.int 0), none, none], [.int 2, .retAddr 0, .int 3, .ref 0], p1_h23)) rfl ?_
        refine am_sl rfl rfl h2 ?_
        refine am_cv (N := nm_m9) (as := [.ref 0, .int 3, .int a2]) (rest := []) (v := .int (-4)) (h' := p1_h23) rfl (am_kv p1_c20 (by decide)) (by decide) rfl rfl rfl (fun _ => ⟨_, _, _, _, _, rfl, rfl, rfl, rfl⟩) (fun h => absurd h (by decide)) (Nat.le_of_ble_eq_true rfl) ?_ ?_
        · refine am_em (d := 13) nm_m9 rfl rfl (Nat.le_of_ble_eq_true rfl) rfl ?_
          refine am_rg (p1_a1 _ _) 2 (b := (2, [some (.ref 0), some (.int 3), some (.int a2)], [.int a2, .int 3], p1_h23)) rfl ?_
          refine am_cv (N := nm_m10) (as := [.int 3, .int a2]) (rest := []) (v := .int 0) (h' := p1_h23) rfl (am_kt p1_c21 (by decide)) (by decide) rfl rfl rfl (fun h => absurd h (by decide)) (fun h => absurd h (by decide)) (Nat.le_of_ble_eq_true rfl) ?_ ?_
          · refine am_em (d := 12) nm_m10 rfl rfl (Nat.le_of_ble_eq_true rfl) rfl ?_
            refine am_rg (p1_a1 _ _) 3 (b := (57, [some (.int 3), some (.int a2)], [.int a2], p1_h23)) rfl ?_
            refine am_i0 rfl (t := 70) rfl (am_cF (b := 0) rfl (by show ¬ (a2.toInt < 0); omega)) ?_
            refine am_rg (p1_a1 _ _) 2 (b := (63, [some (.int 3), some (.int a2)], [.int 99, .int a2], p1_h23)) rfl ?_
            refine am_j1 rfl (t := 70) rfl (am_cT (b := 99) rfl (by show (a2.toInt > 99); omega)) ?_
            refine am_rg (p1_a1 _ _) 1 (b := (71, [some (.int 3), some (.int a2)], [.int 0], p1_h23)) rfl ?_
            exact am_ri rfl rfl rfl
          refine am_rg (p1_a1 _ _) 2 (b := (10, [some (.ref 0), some (.int 3), some (.int a2)], [.int (-4)], p1_h23)) rfl ?_
          exact am_ri rfl rfl rfl
        refine am_rg (p1_a0 _ _) 5 (b := (110, [some (.retAddr 0), some (.ref 0), some (.ref 20), some (.ref 60), some (.int 0), none, none], [.int 1, .retAddr 0, .ref 20, .int (-4)], p1_h23)) rfl ?_
        refine am_sl rfl rfl h1 ?_
        refine am_rg (p1_a0 _ _) 4 (b := (116, [some (.retAddr 0), some (.ref 0), some (.ref 20), some (.ref 60), some (.int 0), none, none], [.int 2, .retAddr 0, .int 3, .ref 20, .int (-4)], p1_h23)) rfl ?_
        refine am_sl rfl rfl h2 ?_
        refine am_cv (N := nm_m158) (as := [.ref 20, .int 3, .int a2]) (rest := [.int (-4)]) (v := .int (-4)) (h' := p1_h23) rfl (am_kv p1_c22 (by decide)) (by decide) rfl rfl rfl (fun _ => ⟨_, _, _, _, _, rfl, rfl, rfl, rfl⟩) (fun h => absurd h (by decide)) (Nat.le_of_ble_eq_true rfl) ?_ ?_
        · refine am_em (d := 13) nm_m158 rfl rfl (Nat.le_of_ble_eq_true rfl) rfl ?_
          refine am_rg (p1_a10 _ _) 6 (b := (8, [some (.ref 20), some (.int 3), some (.int a2), none], [.int 5, .int 0, .int 3], p1_h23)) rfl ?_
          refine am_cv (N := nm_m159) (as := [.int 3, .int 0, .int 5]) (rest := []) (v := .int 1) (h' := p1_h23) rfl (am_kt p1_c23 (by decide)) (by decide) rfl rfl rfl (fun h => absurd h (by decide)) (fun h => absurd h (by decide)) (Nat.le_of_ble_eq_true rfl) ?_ ?_
          · refine am_em (d := 12) nm_m159 rfl rfl (Nat.le_of_ble_eq_true rfl) rfl ?_
            refine am_rg (p1_a10 _ _) 8 (b := (15, [some (.int 3), some (.int 0), some (.int 5)], [.int 1], p1_h23)) rfl ?_
            exact am_ri rfl rfl rfl
          refine am_rg (p1_a10 _ _) 17 (b := (57, [some (.ref 20), some (.int 3), some (.int a2), some (.int 99)], [.int 99, .int 0, .int a2], p1_h23)) rfl ?_
          refine am_cv (N := nm_m159) (as := [.int a2, .int 0, .int 99]) (rest := []) (v := .int 0) (h' := p1_h23) rfl (am_kt p1_c23 (by decide)) (by decide) rfl rfl rfl (fun h => absurd h (by decide)) (fun h => absurd h (by decide)) (Nat.le_of_ble_eq_true rfl) ?_ ?_
          · refine am_em (d := 12) nm_m159 rfl rfl (Nat.le_of_ble_eq_true rfl) rfl ?_
            refine am_rg (p1_a10 _ _) 2 (b := (2, [some (.int a2), some (.int 0), some (.int 99)], [.int 0, .int a2], p1_h23)) rfl ?_
            refine am_j0 rfl (t := 14) rfl (am_cF (b := 0) rfl (by show ¬ (a2.toInt < 0); omega)) ?_
            refine am_rg (p1_a10 _ _) 2 (b := (7, [some (.int a2), some (.int 0), some (.int 99)], [.int 99, .int a2], p1_h23)) rfl ?_
            refine am_j1 rfl (t := 14) rfl (am_cT (b := 99) rfl (by show (a2.toInt > 99); omega)) ?_
            refine am_rg (p1_a10 _ _) 1 (b := (15, [some (.int a2), some (.int 0), some (.int 99)], [.int 0], p1_h23)) rfl ?_
            exact am_ri rfl rfl rfl
          refine am_rg (p1_a10 _ _) 2 (b := (65, [some (.ref 20), some (.int 3), some (.int a2), some (.int 99)], [.int (-4)], p1_h23)) rfl ?_
          exact am_ri rfl rfl rfl
        refine am_rg (p1_a0 _ _) 6 (b := (27, [some (.retAddr 0), some (.ref 0), some (.ref 20), some (.ref 60), some (.int 3), none, none], [.int 3, .int 3], p1_h23)) rfl ?_
        refine am_rg (p1_a0 _ _) 4 (b := (375, [some (.retAddr 0), some (.ref 0), some (.ref 20), some (.ref 60), some (.int 3), none, none], [.int 1], p1_h23)) rfl ?_
        exact am_ri rfl rfl rfl
  · obtain rfl : a1 = 4 := am_inj d1 rfl
    refine ⟨(p1_y48 a2), ?_, Nat.le_of_ble_eq_true rfl, (by simp [am_sz, am_es, p1_y48])⟩
    refine am_rg (p1_a0 _ _) 3 (b := (27, [some (.retAddr 0), some (.ref 0), some (.ref 20), some (.ref 60), some (.int 0), none, none], [.int 3, .int 0], p1_h23)) rfl ?_
    refine am_rg (p1_a0 _ _) 5 (b := (35, [some (.retAddr 0), some (.ref 0), some (.ref 20), some (.ref 60), some (.int 0), none, none], [.int 0, .retAddr 0], p1_h23)) rfl ?_
    refine am_sl rfl rfl rfl ?_
    refine am_rg (p1_a0 _ _) 1 (b := (38, [some (.retAddr 0), some (.ref 0), some (.ref 20), some (.ref 60), some (.int 0), none, none], [.int 15, .int (xs 0)], p1_h23)) rfl ?_
    refine am_an rfl h0 ?_
    refine am_rg (p1_a0 _ _) 6 (b := (94, [some (.retAddr 0), some (.ref 0), some (.ref 20), some (.ref 60), some (.int 0), none, none], [.int 1, .retAddr 0, .ref 0], p1_h23)) rfl ?_
    refine am_sl rfl rfl h1 ?_
    refine am_rg (p1_a0 _ _) 4 (b := (100, [some (.retAddr 0), some (.ref 0), some (.ref 20), some (.ref 60), some (.int 0), none, none], [.int 2, .retAddr 0, .int 4, .ref 0], p1_h23)) rfl ?_
    refine am_sl rfl rfl h2 ?_
    refine am_cv (N := nm_m9) (as := [.ref 0, .int 4, .int a2]) (rest := []) (v := .int 1) (h' := (p1_y45 a2)) rfl (am_kv p1_c20 (by decide)) (by decide) rfl rfl rfl (fun _ => ⟨_, _, _, _, _, rfl, rfl, rfl, rfl⟩) (fun h => absurd h (by decide)) (Nat.le_of_ble_eq_true rfl) ?_ ?_
    · refine am_em (d := 13) nm_m9 rfl rfl (Nat.le_of_ble_eq_true rfl) rfl ?_
      refine am_rg (p1_a1 _ _) 2 (b := (2, [some (.ref 0), some (.int 4), some (.int a2)], [.int a2, .int 4], p1_h23)) rfl ?_
      refine am_cv (N := nm_m10) (as := [.int 4, .int a2]) (rest := []) (v := .int 1) (h' := p1_h23) rfl (am_kt p1_c21 (by decide)) (by decide) rfl rfl rfl (fun h => absurd h (by decide)) (fun h => absurd h (by decide)) (Nat.le_of_ble_eq_true rfl) ?_ ?_
      · refine am_em (d := 12) nm_m10 rfl rfl (Nat.le_of_ble_eq_true rfl) rfl ?_
        refine am_rg (p1_a1 _ _) 3 (b := (89, [some (.int 4), some (.int a2)], [.int 1], p1_h23)) rfl ?_
        exact am_ri rfl rfl rfl
      refine am_rg (p1_a1 _ _) 3 (b := (15, [some (.ref 0), some (.int 4), some (.int a2)], [.ref 1], p1_h23)) rfl ?_
      refine am_cv (N := nm_m11) (as := [.ref 1]) (rest := []) (v := .int 0) (h' := p1_h23) rfl (am_kv p1_c24 (by decide)) (by decide) rfl rfl rfl (fun _ => ⟨_, _, _, _, _, rfl, rfl, rfl, rfl⟩) (fun h => absurd h (by decide)) (Nat.le_of_ble_eq_true rfl) ?_ ?_
      · refine am_em (d := 12) nm_m11 rfl rfl (Nat.le_of_ble_eq_true rfl) rfl ?_
        refine am_rg (p1_a2 _ _) 5 (b := (15, [some (.ref 1)], [.int 0], p1_h23)) rfl ?_
        exact am_ri rfl rfl rfl
      refine am_rg (p1_a1 _ _) 5 (b := (31, [some (.ref 0), some (.int 4), some (.int a2)], [.int a2, .int 4, .ref 1], p1_h23)) rfl ?_
      refine am_cv (N := nm_m12) (as := [.ref 1, .int 4, .int a2]) (rest := []) (v := .int 1) (h' := (p1_y45 a2)) rfl (am_kv p1_c25 (by decide)) (by decide) rfl rfl rfl (fun _ => ⟨_, _, _, _, _, rfl, rfl, rfl, rfl⟩) (fun h => absurd h (by decide)) (Nat.le_of_ble_eq_true rfl) ?_ ?_
      · refine am_em (d := 12) nm_m12 rfl rfl (Nat.le_of_ble_eq_true rfl) rfl ?_
        refine am_rg (p1_a2 _ _) 5 (b := (9, [some (.ref 1), some (.int 4), some (.int a2)], [.int 64, .int 0], p1_h23)) rfl ?_
        refine am_rg (p1_a2 _ _) 13 (b := (66, [some (.ref 1), some (.int 4), some (.int a2)], [], (p1_y44 a2))) rfl ?_
        refine am_rg (p1_a2 _ _) 6 (b := (76, [some (.ref 1), some (.int 4), some (.int a2)], [], (p1_y45 a2))) rfl ?_
        refine am_rg (p1_a2 _ _) 2 (b := (80, [some (.ref 1), some (.int 4), some (.int a2)], [.int 1], (p1_y45 a2))) rfl ?_
        exact am_ri rfl rfl rfl
      exact am_ri rfl rfl rfl
    refine am_rg (p1_a0 _ _) 5 (b := (110, [some (.retAddr 0), some (.ref 0), some (.ref 20), some (.ref 60), some (.int 0), none, none], [.int 1, .retAddr 0, .ref 20, .int 1], (p1_y45 a2))) rfl ?_
    refine am_sl rfl rfl h1 ?_
    refine am_rg (p1_a0 _ _) 4 (b := (116, [some (.retAddr 0), some (.ref 0), some (.ref 20), some (.ref 60), some (.int 0), none, none], [.int 2, .retAddr 0, .int 4, .ref 20, .int 1], (p1_y45 a2))) rfl ?_
    refine am_sl rfl rfl h2 ?_
    refine am_cv (N := nm_m158) (as := [.ref 20, .int 4, .int a2]) (rest := [.int 1]) (v := .int 1) (h' := (p1_y48 a2)) rfl (am_kv p1_c22 (by decide)) (by decide) rfl rfl rfl (fun _ => ⟨_, _, _, _, _, rfl, rfl, rfl, rfl⟩) (fun h => absurd h (by decide)) (Nat.le_of_ble_eq_true rfl) ?_ ?_
    · refine am_em (d := 13) nm_m158 rfl rfl (Nat.le_of_ble_eq_true rfl) rfl ?_
      refine am_rg (p1_a10 _ _) 3 (b := (5, [some (.ref 20), some (.int 4), some (.int a2), none], [], (p1_y45 a2))) rfl ?_
      refine am_rg (p1_a10 _ _) 3 (b := (8, [some (.ref 20), some (.int 4), some (.int a2), none], [.int 5, .int 0, .int 4], (p1_y45 a2))) rfl ?_
      refine am_cv (N := nm_m159) (as := [.int 4, .int 0, .int 5]) (rest := []) (v := .int 1) (h' := (p1_y45 a2)) rfl (am_kt p1_c23 (by decide)) (by decide) rfl rfl rfl (fun h => absurd h (by decide)) (fun h => absurd h (by decide)) (Nat.le_of_ble_eq_true rfl) ?_ ?_
      · refine am_em (d := 12) nm_m159 rfl rfl (Nat.le_of_ble_eq_true rfl) rfl ?_
        refine am_rg (p1_a10 _ _) 8 (b := (15, [some (.int 4), some (.int 0), some (.int 5)], [.int 1], (p1_y45 a2))) rfl ?_
        exact am_ri rfl rfl rfl
      refine am_rg (p1_a10 _ _) 24 (b := (88, [some (.ref 20), some (.int 4), some (.int a2), some (.int 99)], [], (p1_y46 a2))) rfl ?_
      refine am_rg (p1_a10 _ _) 6 (b := (98, [some (.ref 20), some (.int 4), some (.int a2), some (.int 99)], [], (p1_y47 a2))) rfl ?_
      refine am_rg (p1_a10 _ _) 6 (b := (108, [some (.ref 20), some (.int 4), some (.int a2), some (.int 99)], [], (p1_y48 a2))) rfl ?_
      refine am_rg (p1_a10 _ _) 2 (b := (112, [some (.ref 20), some (.int 4), some (.int a2), some (.int 99)], [.int 1], (p1_y48 a2))) rfl ?_
      exact am_ri rfl rfl rfl
    refine am_rg (p1_a0 _ _) 6 (b := (27, [some (.retAddr 0), some (.ref 0), some (.ref 20), some (.ref 60), some (.int 3), none, none], [.int 3, .int 3], (p1_y48 a2))) rfl ?_
    refine am_rg (p1_a0 _ _) 4 (b := (375, [some (.retAddr 0), some (.ref 0), some (.ref 20), some (.ref 60), some (.int 3), none, none], [.int 1], (p1_y48 a2))) rfl ?_
    exact am_ri rfl rfl rfl
  · obtain rfl : a1 = 5 := am_inj d1 rfl
    have d2 : a2.toInt < 0 ∨ 0 ≤ a2.toInt := by omega
    rcases d2 with d2 | d2
    · skip
      refine ⟨p1_h23, ?_, Nat.le_of_ble_eq_true rfl, Nat.le_of_ble_eq_true rfl⟩
      refine am_rg (p1_a0 _ _) 3 (b := (27, [some (.retAddr 0), some (.ref 0), some (.ref 20), some (.ref 60), some (.int 0), none, none], [.int 3, .int 0], p1_h23)) rfl ?_
      refine am_rg (p1_a0 _ _) 5 (b := (35, [some (.retAddr 0), some (.ref 0), some (.ref 20), some (.ref 60), some (.int 0), none, none], [.int 0, .retAddr 0], p1_h23)) rfl ?_
      refine am_sl rfl rfl rfl ?_
      refine am_rg (p1_a0 _ _) 1 (b := (38, [some (.retAddr 0), some (.ref 0), some (.ref 20), some (.ref 60), some (.int 0), none, none], [.int 15, .int (xs 0)], p1_h23)) rfl ?_
      refine am_an rfl h0 ?_
      refine am_rg (p1_a0 _ _) 6 (b := (94, [some (.retAddr 0), some (.ref 0), some (.ref 20), some (.ref 60), some (.int 0), none, none], [.int 1, .retAddr 0, .ref 0], p1_h23)) rfl ?_
      refine am_sl rfl rfl h1 ?_
      refine am_rg (p1_a0 _ _) 4 (b := (100, [some (.retAddr 0), some (.ref 0), some (.ref 20), some (.ref 60), some (.int 0), none, none], [.int 2, .retAddr 0, .int 5, .ref 0], p1_h23)) rfl ?_
      refine am_sl rfl rfl h2 ?_
      refine am_cv (N := nm_m9) (as := [.ref 0, .int 5, .int a2]) (rest := []) (v := .int (-4)) (h' := p1_h23) rfl (am_kv p1_c20 (by decide)) (by decide) rfl rfl rfl (fun _ => ⟨_, _, _, _, _, rfl, rfl, rfl, rfl⟩) (fun h => absurd h (by decide)) (Nat.le_of_ble_eq_true rfl) ?_ ?_
      · refine am_em (d := 13) nm_m9 rfl rfl (Nat.le_of_ble_eq_true rfl) rfl ?_
        refine am_rg (p1_a1 _ _) 2 (b := (2, [some (.ref 0), some (.int 5), some (.int a2)], [.int a2, .int 5], p1_h23)) rfl ?_
        refine am_cv (N := nm_m10) (as := [.int 5, .int a2]) (rest := []) (v := .int 0) (h' := p1_h23) rfl (am_kt p1_c21 (by decide)) (by decide) rfl rfl rfl (fun h => absurd h (by decide)) (fun h => absurd h (by decide)) (Nat.le_of_ble_eq_true rfl) ?_ ?_
        · refine am_em (d := 12) nm_m10 rfl rfl (Nat.le_of_ble_eq_true rfl) rfl ?_
          refine am_rg (p1_a1 _ _) 3 (b := (91, [some (.int 5), some (.int a2)], [.int a2], p1_h23)) rfl ?_
          refine am_i1 rfl (t := 104) rfl (am_cT (b := 0) rfl (by show (a2.toInt < 0); omega)) ?_
          refine am_rg (p1_a1 _ _) 1 (b := (105, [some (.int 5), some (.int a2)], [.int 0], p1_h23)) rfl ?_
          exact am_ri rfl rfl rfl
        refine am_rg (p1_a1 _ _) 2 (b := (10, [some (.ref 0), some (.int 5), some (.int a2)], [.int (-4)], p1_h23)) rfl ?_
        exact am_ri rfl rfl rfl
      refine am_rg (p1_a0 _ _) 5 (b := (110, [some (.retAddr 0), some (.ref 0), some (.ref 20), some (.ref 60), some (.int 0), none, none], [.int 1, .retAddr 0, .ref 20, .int (-4)], p1_h23)) rfl ?_
      refine am_sl rfl rfl h1 ?_
      refine am_rg (p1_a0 _ _) 4 (b := (116, [some (.retAddr 0), some (.ref 0), some (.ref 20), some (.ref 60), some (.int 0), none, none], [.int 2, .retAddr 0, .int 5, .ref 20, .int (-4)], p1_h23)) rfl ?_
      refine am_sl rfl rfl h2 ?_
      refine am_cv (N := nm_m158) (as := [.ref 20, .int 5, .int a2]) (rest := [.int (-4)]) (v := .int (-4)) (h' := p1_h23) rfl (am_kv p1_c22 (by decide)) (by decide) rfl rfl rfl (fun _ => ⟨_, _, _, _, _, rfl, rfl, rfl, rfl⟩) (fun h => absurd h (by decide)) (Nat.le_of_ble_eq_true rfl) ?_ ?_
      · refine am_em (d := 13) nm_m158 rfl rfl (Nat.le_of_ble_eq_true rfl) rfl ?_
        refine am_rg (p1_a10 _ _) 6 (b := (8, [some (.ref 20), some (.int 5), some (.int a2), none], [.int 5, .int 0, .int 5], p1_h23)) rfl ?_
        refine am_cv (N := nm_m159) (as := [.int 5, .int 0, .int 5]) (rest := []) (v := .int 1) (h' := p1_h23) rfl (am_kt p1_c23 (by decide)) (by decide) rfl rfl rfl (fun h => absurd h (by decide)) (fun h => absurd h (by decide)) (Nat.le_of_ble_eq_true rfl) ?_ ?_
        · refine am_em (d := 12) nm_m159 rfl rfl (Nat.le_of_ble_eq_true rfl) rfl ?_
          refine am_rg (p1_a10 _ _) 8 (b := (15, [some (.int 5), some (.int 0), some (.int 5)], [.int 1], p1_h23)) rfl ?_
          exact am_ri rfl rfl rfl
        refine am_rg (p1_a10 _ _) 18 (b := (57, [some (.ref 20), some (.int 5), some (.int a2), some (.int 8)], [.int 8, .int 0, .int a2], p1_h23)) rfl ?_
        refine am_cv (N := nm_m159) (as := [.int a2, .int 0, .int 8]) (rest := []) (v := .int 0) (h' := p1_h23) rfl (am_kt p1_c23 (by decide)) (by decide) rfl rfl rfl (fun h => absurd h (by decide)) (fun h => absurd h (by decide)) (Nat.le_of_ble_eq_true rfl) ?_ ?_
        · refine am_em (d := 12) nm_m159 rfl rfl (Nat.le_of_ble_eq_true rfl) rfl ?_
          refine am_rg (p1_a10 _ _) 2 (b := (2, [some (.int a2), some (.int 0), some (.int 8)], [.int 0, .int a2], p1_h23)) rfl ?_
          refine am_j1 rfl (t := 14) rfl (am_cT (b := 0) rfl (by show (a2.toInt < 0); omega)) ?_
          refine am_rg (p1_a10 _ _) 1 (b := (15, [some (.int a2), some (.int 0), some (.int 8)], [.int 0], p1_h23)) rfl ?_
          exact am_ri rfl rfl rfl
        refine am_rg (p1_a10 _ _) 2 (b := (65, [some (.ref 20), some (.int 5), some (.int a2), some (.int 8)], [.int (-4)], p1_h23)) rfl ?_
        exact am_ri rfl rfl rfl
      refine am_rg (p1_a0 _ _) 6 (b := (27, [some (.retAddr 0), some (.ref 0), some (.ref 20), some (.ref 60), some (.int 3), none, none], [.int 3, .int 3], p1_h23)) rfl ?_
      refine am_rg (p1_a0 _ _) 4 (b := (375, [some (.retAddr 0), some (.ref 0), some (.ref 20), some (.ref 60), some (.int 3), none, none], [.int 1], p1_h23)) rfl ?_
      exact am_ri rfl rfl rfl
    · skip
      have d3 : a2.toInt < 9 ∨ 9 ≤ a2.toInt := by omega
      rcases d3 with d3 | d3
      · skip
        refine ⟨(p1_y53 a2), ?_, Nat.le_of_ble_eq_true rfl, (by simp [am_sz, am_es, p1_y53])⟩
        refine am_rg (p1_a0 _ _) 3 (b := (27, [some (.retAddr 0), some (.ref 0), some (.ref 20), some (.ref 60), some (.int 0), none, none], [.int 3, .int 0], p1_h23)) rfl ?_
        refine am_rg (p1_a0 _ _) 5 (b := (35, [some (.retAddr 0), some (.ref 0), some (.ref 20), some (.ref 60), some (.int 0), none, none], [.int 0, .retAddr 0], p1_h23)) rfl ?_
        refine am_sl rfl rfl rfl ?_
        refine am_rg (p1_a0 _ _) 1 (b := (38, [some (.retAddr 0), some (.ref 0), some (.ref 20), some (.ref 60), some (.int 0), none, none], [.int 15, .int (xs 0)], p1_h23)) rfl ?_
        refine am_an rfl h0 ?_
        refine am_rg (p1_a0 _ _) 6 (b := (94, [some (.retAddr 0), some (.ref 0), some (.ref 20), some (.ref 60), some (.int 0), none, none], [.int 1, .retAddr 0, .ref 0], p1_h23)) rfl ?_
        refine am_sl rfl rfl h1 ?_
        refine am_rg (p1_a0 _ _) 4 (b := (100, [some (.retAddr 0), some (.ref 0), some (.ref 20), some (.ref 60), some (.int 0), none, none], [.int 2, .retAddr 0, .int 5, .ref 0], p1_h23)) rfl ?_
        refine am_sl rfl rfl h2 ?_
        refine am_cv (N := nm_m9) (as := [.ref 0, .int 5, .int a2]) (rest := []) (v := .int 1) (h' := (p1_y50 a2)) rfl (am_kv p1_c20 (by decide)) (by decide) rfl rfl rfl (fun _ => ⟨_, _, _, _, _, rfl, rfl, rfl, rfl⟩) (fun h => absurd h (by decide)) (Nat.le_of_ble_eq_true rfl) ?_ ?_
        · refine am_em (d := 13) nm_m9 rfl rfl (Nat.le_of_ble_eq_true rfl) rfl ?_
          refine am_rg (p1_a1 _ _) 2 (b := (2, [some (.ref 0), some (.int 5), some (.int a2)], [.int a2, .int 5], p1_h23)) rfl ?_
          refine am_cv (N := nm_m10) (as := [.int 5, .int a2]) (rest := []) (v := .int 1) (h' := p1_h23) rfl (am_kt p1_c21 (by decide)) (by decide) rfl rfl rfl (fun h => absurd h (by decide)) (fun h => absurd h (by decide)) (Nat.le_of_ble_eq_true rfl) ?_ ?_
          · refine am_em (d := 12) nm_m10 rfl rfl (Nat.le_of_ble_eq_true rfl) rfl ?_
            refine am_rg (p1_a1 _ _) 3 (b := (91, [some (.int 5), some (.int a2)], [.int a2], p1_h23)) rfl ?_
            refine am_i0 rfl (t := 104) rfl (am_cF (b := 0) rfl (by show ¬ (a2.toInt < 0); omega)) ?_
            refine am_rg (p1_a1 _ _) 2 (b := (97, [some (.int 5), some (.int a2)], [.int 8, .int a2], p1_h23)) rfl ?_
            refine am_j0 rfl (t := 104) rfl (am_cF (b := 8) rfl (by show ¬ (a2.toInt > 8); omega)) ?_
            refine am_rg (p1_a1 _ _) 2 (b := (105, [some (.int 5), some (.int a2)], [.int 1], p1_h23)) rfl ?_
            exact am_ri rfl rfl rfl
          refine am_rg (p1_a1 _ _) 3 (b := (15, [some (.ref 0), some (.int 5), some (.int a2)], [.ref 1], p1_h23)) rfl ?_
          refine am_cv (N := nm_m11) (as := [.ref 1]) (rest := []) (v := .int 0) (h' := p1_h23) rfl (am_kv p1_c24 (by decide)) (by decide) rfl rfl rfl (fun _ => ⟨_, _, _, _, _, rfl, rfl, rfl, rfl⟩) (fun h => absurd h (by decide)) (Nat.le_of_ble_eq_true rfl) ?_ ?_
          · refine am_em (d := 12) nm_m11 rfl rfl (Nat.le_of_ble_eq_true rfl) rfl ?_
            refine am_rg (p1_a2 _ _) 5 (b := (15, [some (.ref 1)], [.int 0], p1_h23)) rfl ?_
            exact am_ri rfl rfl rfl
          refine am_rg (p1_a1 _ _) 5 (b := (31, [some (.ref 0), some (.int 5), some (.int a2)], [.int a2, .int 5, .ref 1], p1_h23)) rfl ?_
          refine am_cv (N := nm_m12) (as := [.ref 1, .int 5, .int a2]) (rest := []) (v := .int 1) (h' := (p1_y50 a2)) rfl (am_kv p1_c25 (by decide)) (by decide) rfl rfl rfl (fun _ => ⟨_, _, _, _, _, rfl, rfl, rfl, rfl⟩) (fun h => absurd h (by decide)) (Nat.le_of_ble_eq_true rfl) ?_ ?_
          · refine am_em (d := 12) nm_m12 rfl rfl (Nat.le_of_ble_eq_true rfl) rfl ?_
            refine am_rg (p1_a2 _ _) 5 (b := (9, [some (.ref 1), some (.int 5), some (.int a2)], [.int 64, .int 0], p1_h23)) rfl ?_
            refine am_rg (p1_a2 _ _) 13 (b := (66, [some (.ref 1), some (.int 5), some (.int a2)], [], (p1_y49 a2))) rfl ?_
            refine am_rg (p1_a2 _ _) 6 (b := (76, [some (.ref 1), some (.int 5), some (.int a2)], [], (p1_y50 a2))) rfl ?_
            refine am_rg (p1_a2 _ _) 2 (b := (80, [some (.ref 1), some (.int 5), some (.int a2)], [.int 1], (p1_y50 a2))) rfl ?_
            exact am_ri rfl rfl rfl
          exact am_ri rfl rfl rfl
        refine am_rg (p1_a0 _ _) 5 (b := (110, [some (.retAddr 0), some (.ref 0), some (.ref 20), some (.ref 60), some (.int 0), none, none], [.int 1, .retAddr 0, .ref 20, .int 1], (p1_y50 a2))) rfl ?_
        refine am_sl rfl rfl h1 ?_
        refine am_rg (p1_a0 _ _) 4 (b := (116, [some (.retAddr 0), some (.ref 0), some (.ref 20), some (.ref 60), some (.int 0), none, none], [.int 2, .retAddr 0, .int 5, .ref 20, .int 1], (p1_y50 a2))) rfl ?_
        refine am_sl rfl rfl h2 ?_
        refine am_cv (N := nm_m158) (as := [.ref 20, .int 5, .int a2]) (rest := [.int 1]) (v := .int 1) (h' := (p1_y53 a2)) rfl (am_kv p1_c22 (by decide)) (by decide) rfl rfl rfl (fun _ => ⟨_, _, _, _, _, rfl, rfl, rfl, rfl⟩) (fun h => absurd h (by decide)) (Nat.le_of_ble_eq_true rfl) ?_ ?_
        · refine am_em (d := 13) nm_m158 rfl rfl (Nat.le_of_ble_eq_true rfl) rfl ?_
          refine am_rg (p1_a10 _ _) 3 (b := (5, [some (.ref 20), some (.int 5), some (.int a2), none], [], (p1_y50 a2))) rfl ?_
          refine am_rg (p1_a10 _ _) 3 (b := (8, [some (.ref 20), some (.int 5), some (.int a2), none], [.int 5, .int 0, .int 5], (p1_y50 a2))) rfl ?_
          refine am_cv (N := nm_m159) (as := [.int 5, .int 0, .int 5]) (rest := []) (v := .int 1) (h' := (p1_y50 a2)) rfl (am_kt p1_c23 (by decide)) (by decide) rfl rfl rfl (fun h => absurd h (by decide)) (fun h => absurd h (by decide)) (Nat.le_of_ble_eq_true rfl) ?_ ?_
          · refine am_em (d := 12) nm_m159 rfl rfl (Nat.le_of_ble_eq_true rfl) rfl ?_
            refine am_rg (p1_a10 _ _) 8 (b := (15, [some (.int 5), some (.int 0), some (.int 5)], [.int 1], (p1_y50 a2))) rfl ?_
            exact am_ri rfl rfl rfl
          refine am_rg (p1_a10 _ _) 18 (b := (57, [some (.ref 20), some (.int 5), some (.int a2), some (.int 8)], [.int 8, .int 0, .int a2], (p1_y50 a2))) rfl ?_
          refine am_cv (N := nm_m159) (as := [.int a2, .int 0, .int 8]) (rest := []) (v := .int 1) (h' := (p1_y50 a2)) rfl (am_kt p1_c23 (by decide)) (by decide) rfl rfl rfl (fun h => absurd h (by decide)) (fun h => absurd h (by decide)) (Nat.le_of_ble_eq_true rfl) ?_ ?_
          · refine am_em (d := 12) nm_m159 rfl rfl (Nat.le_of_ble_eq_true rfl) rfl ?_
            refine am_rg (p1_a10 _ _) 2 (b := (2, [some (.int a2), some (.int 0), some (.int 8)], [.int 0, .int a2], (p1_y50 a2))) rfl ?_
            refine am_j0 rfl (t := 14) rfl (am_cF (b := 0) rfl (by show ¬ (a2.toInt < 0); omega)) ?_
            refine am_rg (p1_a10 _ _) 2 (b := (7, [some (.int a2), some (.int 0), some (.int 8)], [.int 8, .int a2], (p1_y50 a2))) rfl ?_
            refine am_j0 rfl (t := 14) rfl (am_cF (b := 8) rfl (by show ¬ (a2.toInt > 8); omega)) ?_
            refine am_rg (p1_a10 _ _) 2 (b := (15, [some (.int a2), some (.int 0), some (.int 8)], [.int 1], (p1_y50 a2))) rfl ?_
            exact am_ri rfl rfl rfl
          refine am_rg (p1_a10 _ _) 11 (b := (88, [some (.ref 20), some (.int 5), some (.int a2), some (.int 8)], [], (p1_y51 a2))) rfl ?_
          refine am_rg (p1_a10 _ _) 6 (b := (98, [some (.ref 20), some (.int 5), some (.int a2), some (.int 8)], [], (p1_y52 a2))) rfl ?_
          refine am_rg (p1_a10 _ _) 6 (b := (108, [some (.ref 20), some (.int 5), some (.int a2), some (.int 8)], [], (p1_y53 a2))) rfl ?_
          refine am_rg (p1_a10 _ _) 2 (b := (112, [some (.ref 20), some (.int 5), some (.int a2), some (.int 8)], [.int 1], (p1_y53 a2))) rfl ?_
          exact am_ri rfl rfl rfl
        refine am_rg (p1_a0 _ _) 6 (b := (27, [some (.retAddr 0), some (.ref 0), some (.ref 20), some (.ref 60), some (.int 3), none, none], [.int 3, .int 3], (p1_y53 a2))) rfl ?_
        refine am_rg (p1_a0 _ _) 4 (b := (375, [some (.retAddr 0), some (.ref 0), some (.ref 20), some (.ref 60), some (.int 3), none, none], [.int 1], (p1_y53 a2))) rfl ?_
        exact am_ri rfl rfl rfl
      · skip
        refine ⟨p1_h23, ?_, Nat.le_of_ble_eq_true rfl, Nat.le_of_ble_eq_true rfl⟩
        refine am_rg (p1_a0 _ _) 3 (b := (27, [some (.retAddr 0), some (.ref 0), some (.ref 20), some (.ref 60), some (.int 0), none, none], [.int 3, .int 0], p1_h23)) rfl ?_
        refine am_rg (p1_a0 _ _) 5 (b := (35, [some (.retAddr 0), some (.ref 0), some (.ref 20), some (.ref 60), some (.int 0), none, none], [.int 0, .retAddr 0], p1_h23)) rfl ?_
        refine am_sl rfl rfl rfl ?_
        refine am_rg (p1_a0 _ _) 1 (b := (38, [some (.retAddr 0), some (.ref 0), some (.ref 20), some (.ref 60), some (.int 0), none, none], [.int 15, .int (xs 0)], p1_h23)) rfl ?_
        refine am_an rfl h0 ?_
        refine am_rg (p1_a0 _ _) 6 (b := (94, [some (.retAddr 0), some (.ref 0), some (.ref 20), some (.ref 60), some (.int 0), none, none], [.int 1, .retAddr 0, .ref 0], p1_h23)) rfl ?_
        refine am_sl rfl rfl h1 ?_
        refine am_rg (p1_a0 _ _) 4 (b := (100, [some (.retAddr 0), some (.ref 0), some (.ref 20), some (.ref 60), some (.int 0), none, none], [.int 2, .retAddr 0, .int 5, .ref 0], p1_h23)) rfl ?_
        refine am_sl rfl rfl h2 ?_
        refine am_cv (N := nm_m9) (as := [.ref 0, .int 5, .int a2]) (rest := []) (v := .int (-4)) (h' := p1_h23) rfl (am_kv p1_c20 (by decide)) (by decide) rfl rfl rfl (fun _ => ⟨_, _, _, _, _, rfl, rfl, rfl, rfl⟩) (fun h => absurd h (by decide)) (Nat.le_of_ble_eq_true rfl) ?_ ?_
        · refine am_em (d := 13) nm_m9 rfl rfl (Nat.le_of_ble_eq_true rfl) rfl ?_
          refine am_rg (p1_a1 _ _) 2 (b := (2, [some (.ref 0), some (.int 5), some (.int a2)], [.int a2, .int 5], p1_h23)) rfl ?_
          refine am_cv (N := nm_m10) (as := [.int 5, .int a2]) (rest := []) (v := .int 0) (h' := p1_h23) rfl (am_kt p1_c21 (by decide)) (by decide) rfl rfl rfl (fun h => absurd h (by decide)) (fun h => absurd h (by decide)) (Nat.le_of_ble_eq_true rfl) ?_ ?_
          · refine am_em (d := 12) nm_m10 rfl rfl (Nat.le_of_ble_eq_true rfl) rfl ?_
            refine am_rg (p1_a1 _ _) 3 (b := (91, [some (.int 5), some (.int a2)], [.int a2], p1_h23)) rfl ?_
            refine am_i0 rfl (t := 104) rfl (am_cF (b := 0) rfl (by show ¬ (a2.toInt < 0); omega)) ?_
            refine am_rg (p1_a1 _ _) 2 (b := (97, [some (.int 5), some (.int a2)], [.int 8, .int a2], p1_h23)) rfl ?_
            refine am_j1 rfl (t := 104) rfl (am_cT (b := 8) rfl (by show (a2.toInt > 8); omega)) ?_
            refine am_rg (p1_a1 _ _) 1 (b := (105, [some (.int 5), some (.int a2)], [.int 0], p1_h23)) rfl ?_
            exact am_ri rfl rfl rfl
          refine am_rg (p1_a1 _ _) 2 (b := (10, [some (.ref 0), some (.int 5), some (.int a2)], [.int (-4)], p1_h23)) rfl ?_
          exact am_ri rfl rfl rfl
        refine am_rg (p1_a0 _ _) 5 (b := (110, [some (.retAddr 0), some (.ref 0), some (.ref 20), some (.ref 60), some (.int 0), none, none], [.int 1, .retAddr 0, .ref 20, .int (-4)], p1_h23)) rfl ?_
        refine am_sl rfl rfl h1 ?_
        refine am_rg (p1_a0 _ _) 4 (b := (116, [some (.retAddr 0), some (.ref 0), some (.ref 20), some (.ref 60), some (.int 0), none, none], [.int 2, .retAddr 0, .int 5, .ref 20, .int (-4)], p1_h23)) rfl ?_
        refine am_sl rfl rfl h2 ?_
        refine am_cv (N := nm_m158) (as := [.ref 20, .int 5, .int a2]) (rest := [.int (-4)]) (v := .int (-4)) (h' := p1_h23) rfl (am_kv p1_c22 (by decide)) (by decide) rfl rfl rfl (fun _ => ⟨_, _, _, _, _, rfl, rfl, rfl, rfl⟩) (fun h => absurd h (by decide)) (Nat.le_of_ble_eq_true rfl) ?_ ?_
        · refine am_em (d := 13) nm_m158 rfl rfl (Nat.le_of_ble_eq_true rfl) rfl ?_
          refine am_rg (p1_a10 _ _) 6 (b := (8, [some (.ref 20), some (.int 5), some (.int a2), none], [.int 5, .int 0, .int 5], p1_h23)) rfl ?_
          refine am_cv (N := nm_m159) (as := [.int 5, .int 0, .int 5]) (rest := []) (v := .int 1) (h' := p1_h23) rfl (am_kt p1_c23 (by decide)) (by decide) rfl rfl rfl (fun h => absurd h (by decide)) (fun h => absurd h (by decide)) (Nat.le_of_ble_eq_true rfl) ?_ ?_
          · refine am_em (d := 12) nm_m159 rfl rfl (Nat.le_of_ble_eq_true rfl) rfl ?_
            refine am_rg (p1_a10 _ _) 8 (b := (15, [some (.int 5), some (.int 0), some (.int 5)], [.int 1], p1_h23)) rfl ?_
            exact am_ri rfl rfl rfl
          refine am_rg (p1_a10 _ _) 18 (b := (57, [some (.ref 20), some (.int 5), some (.int a2), some (.int 8)], [.int 8, .int 0, .int a2], p1_h23)) rfl ?_
          refine am_cv (N := nm_m159) (as := [.int a2, .int 0, .int 8]) (rest := []) (v := .int 0) (h' := p1_h23) rfl (am_kt p1_c23 (by decide)) (by decide) rfl rfl rfl (fun h => absurd h (by decide)) (fun h => absurd h (by decide)) (Nat.le_of_ble_eq_true rfl) ?_ ?_
          · refine am_em (d := 12) nm_m159 rfl rfl (Nat.le_of_ble_eq_true rfl) rfl ?_
            refine am_rg (p1_a10 _ _) 2 (b := (2, [some (.int a2), some (.int 0), some (.int 8)], [.int 0, .int a2], p1_h23)) rfl ?_
            refine am_j0 rfl (t := 14) rfl (am_cF (b := 0) rfl (by show ¬ (a2.toInt < 0); omega)) ?_
            refine am_rg (p1_a10 _ _) 2 (b := (7, [some (.int a2), some (.int 0), some (.int 8)], [.int 8, .int a2], p1_h23)) rfl ?_
            refine am_j1 rfl (t := 14) rfl (am_cT (b := 8) rfl (by show (a2.toInt > 8); omega)) ?_
            refine am_rg (p1_a10 _ _) 1 (b := (15, [some (.int a2), some (.int 0), some (.int 8)], [.int 0], p1_h23)) rfl ?_
            exact am_ri rfl rfl rfl
          refine am_rg (p1_a10 _ _) 2 (b := (65, [some (.ref 20), some (.int 5), some (.int a2), some (.int 8)], [.int (-4)], p1_h23)) rfl ?_
          exact am_ri rfl rfl rfl
        refine am_rg (p1_a0 _ _) 6 (b := (27, [some (.retAddr 0), some (.ref 0), some (.ref 20), some (.ref 60), some (.int 3), none, none], [.int 3, .int 3], p1_h23)) rfl ?_
        refine am_rg (p1_a0 _ _) 4 (b := (375, [some (.retAddr 0), some (.ref 0), some (.ref 20), some (.ref 60), some (.int 3), none, none], [.int 1], p1_h23)) rfl ?_
        exact am_ri rfl rfl rfl
set_option maxRecDepth 100000 in
set_option maxHeartbeats 4000000 in
theorem p1_o1 (xs : Nat → Int32) (a1 a2 : Int32) (h1 : xs 1 = a1) (h2 : xs 2 = a2) (h0 : xs 0 &&& 15 = 1) : ∃ hf : am_H, am_Go (nm_F 3 xs) nm_cls nm_ms (am_Ev (nm_F 3 xs) nm_cls nm_ms 14) nm_law (.inl (some (.int 1)), hf) (none, (23, [some (.retAddr 0), some (.ref 0), some (.ref 20), some (.ref 60), some (.int 0), none, none], [], p1_h23)) ∧ hf.length ≤ 600002 ∧ am_sz hf ≤ 7302232 := by
  refine ⟨p1_h63, ?_, Nat.le_of_ble_eq_true rfl, Nat.le_of_ble_eq_true rfl⟩
  refine am_rg (p1_a0 _ _) 3 (b := (27, [some (.retAddr 0), some (.ref 0), some (.ref 20), some (.ref 60), some (.int 0), none, none], [.int 3, .int 0], p1_h23)) rfl ?_
  refine am_rg (p1_a0 _ _) 5 (b := (35, [some (.retAddr 0), some (.ref 0), some (.ref 20), some (.ref 60), some (.int 0), none, none], [.int 0, .retAddr 0], p1_h23)) rfl ?_
  refine am_sl rfl rfl rfl ?_
  refine am_rg (p1_a0 _ _) 1 (b := (38, [some (.retAddr 0), some (.ref 0), some (.ref 20), some (.ref 60), some (.int 0), none, none], [.int 15, .int (xs 0)], p1_h23)) rfl ?_
  refine am_an rfl h0 ?_
  refine am_rg (p1_a0 _ _) 3 (b := (127, [some (.retAddr 0), some (.ref 0), some (.ref 20), some (.ref 60), some (.int 0), none, none], [.ref 60, .ref 0], p1_h23)) rfl ?_
  refine am_cv (N := nm_m41) (as := [.ref 0, .ref 60]) (rest := []) (v := .int 0) (h' := p1_h61) rfl (am_kt p1_c26 (by decide)) (by decide) rfl rfl rfl (fun h => absurd h (by decide)) (fun h => absurd h (by decide)) (Nat.le_of_ble_eq_true rfl) ?_ ?_
  · refine am_em (d := 13) nm_m41 rfl rfl (Nat.le_of_ble_eq_true rfl) rfl ?_
    refine am_rg (p1_a0 _ _) 3 (b := (3, [some (.ref 0), some (.ref 60), none], [.ref 0, .int 0, .ref 60], p1_h23)) rfl ?_
    refine am_cv (N := nm_m42) (as := [.ref 0]) (rest := [.int 0, .ref 60]) (v := .int 0) (h' := p1_h60) rfl (am_kv p1_c27 (by decide)) (by decide) rfl rfl rfl (fun _ => ⟨_, _, _, _, _, rfl, rfl, rfl, rfl⟩) (fun h => absurd h (by decide)) (Nat.le_of_ble_eq_true rfl) ?_ ?_
    · refine am_em (d := 12) nm_m42 rfl rfl (Nat.le_of_ble_eq_true rfl) rfl ?_
      refine am_rg (p1_a1 _ _) 2 (b := (4, [some (.ref 0), none, none], [.ref 1], p1_h23)) rfl ?_
      refine am_cn (N := nm_m43) (as := [.ref 1]) (rest := []) (h' := p1_h23) rfl (am_kv p1_c28 (by decide)) (by decide) rfl rfl rfl (fun _ => ⟨_, _, _, _, _, rfl, rfl, rfl, rfl⟩) (fun h => absurd h (by decide)) (Nat.le_of_ble_eq_true rfl) ?_ ?_
      · refine am_em (d := 11) nm_m43 rfl rfl (Nat.le_of_ble_eq_true rfl) rfl ?_
        refine am_rg (p1_a2 _ _) 6 (b := (10, [some (.ref 1)], [], p1_h23)) rfl ?_
        exact am_rv rfl rfl
      refine am_rg (p1_a1 _ _) 2 (b := (11, [some (.ref 0), none, none], [.ref 6], p1_h23)) rfl ?_
      refine am_cn (N := nm_m44) (as := [.ref 6]) (rest := []) (h' := p1_h60) rfl (am_kv p1_c29 (by decide)) (by decide) rfl rfl rfl (fun _ => ⟨_, _, _, _, _, rfl, rfl, rfl, rfl⟩) (fun h => absurd h (by decide)) (Nat.le_of_ble_eq_true rfl) ?_ ?_
      · refine am_em (d := 11) nm_m44 rfl rfl (Nat.le_of_ble_eq_true rfl) rfl ?_
        refine am_rg (p1_a3 _ _) 16 (b := (24, [some (.ref 6)], [.int (-1), .int 0, .int (-1), .ref 6], p1_h23)) rfl ?_
        refine am_cv (N := nm_m45) (as := [.ref 6, .int (-1), .int 0, .int (-1)]) (rest := []) (v := .int 0) (h' := p1_h60) rfl (am_kv p1_c30 (by decide)) (by decide) rfl rfl rfl (fun _ => ⟨_, _, _, _, _, rfl, rfl, rfl, rfl⟩) (fun h => absurd h (by decide)) (Nat.le_of_ble_eq_true rfl) ?_ ?_
        · refine am_em (d := 10) nm_m45 rfl rfl (Nat.le_of_ble_eq_true rfl) rfl ?_
          refine am_rg (p1_a3 _ _) 11 (b := (19, [some (.ref 6), some (.int (-1)), some (.int 0), some (.int (-1)), some (.int 0), none], [.int 1152, .int 12], p1_h23)) rfl ?_
          refine am_rg (p1_a3 _ _) 30 (b := (50, [some (.ref 6), some (.int (-1)), some (.int 0), some (.int (-1)), some (.int 0), some (.int 2)], [], p1_h54)) rfl ?_
          refine am_rg (p1_a3 _ _) 30 (b := (60, [some (.ref 6), some (.int (-1)), some (.int 0), some (.int (-1)), some (.int 0), some (.int 4)], [.int (-1), .int 4, .ref 7], p1_h55)) rfl ?_
          refine am_rg (p1_a3 _ _) 30 (b := (50, [some (.ref 6), some (.int (-1)), some (.int 0), some (.int (-1)), some (.int 0), some (.int 7)], [], p1_h56)) rfl ?_
          refine am_rg (p1_a3 _ _) 30 (b := (60, [some (.ref 6), some (.int (-1)), some (.int 0), some (.int (-1)), some (.int 0), some (.int 9)], [.int (-1), .int 9, .ref 7], p1_h57)) rfl ?_
          refine am_rg (p1_a3 _ _) 30 (b := (67, [some (.ref 6), some (.int (-1)), some (.int 0), some (.int (-1)), some (.int 0), some (.int 12)], [], p1_h58)) rfl ?_
          refine am_rg (p1_a3 _ _) 30 (b := (112, [some (.ref 6), some (.int (-1)), some (.int 0), some (.int (-1)), some (.int 0), some (.int 12)], [.ref 7], p1_h59)) rfl ?_
          refine am_rg (p1_a3 _ _) 15 (b := (135, [some (.ref 6), some (.int (-1)), some (.int 0), some (.int (-1)), some (.int 0), some (.int 12)], [.int 0], p1_h60)) rfl ?_
          exact am_ri rfl rfl rfl
        refine am_rg (p1_a3 _ _) 1 (b := (28, [some (.ref 6)], [], p1_h60)) rfl ?_
        exact am_rv rfl rfl
      refine am_rg (p1_a1 _ _) 2 (b := (18, [some (.ref 0), none, none], [.ref 11], p1_h60)) rfl ?_
      refine am_cn (N := nm_m46) (as := [.ref 11]) (rest := []) (h' := p1_h60) rfl (am_kv p1_c31 (by decide)) (by decide) rfl rfl rfl (fun _ => ⟨_, _, _, _, _, rfl, rfl, rfl, rfl⟩) (fun h => absurd h (by decide)) (Nat.le_of_ble_eq_true rfl) ?_ ?_
      · refine am_em (d := 11) nm_m46 rfl rfl (Nat.le_of_ble_eq_true rfl) rfl ?_
        refine am_rg (p1_a8 _ _) 2 (b := (4, [some (.ref 11)], [.ref 15], p1_h60)) rfl ?_
        refine am_cn (N := nm_m47) (as := [.ref 15]) (rest := []) (h' := p1_h60) rfl (am_kv p1_c32 (by decide)) (by decide) rfl rfl rfl (fun _ => ⟨_, _, _, _, _, rfl, rfl, rfl, rfl⟩) (fun h => absurd h (by decide)) (Nat.le_of_ble_eq_true rfl) ?_ ?_
        · refine am_em (d := 10) nm_m47 rfl rfl (Nat.le_of_ble_eq_true rfl) rfl ?_
          refine am_rg (p1_a9 _ _) 3 (b := (5, [some (.ref 15)], [], p1_h60)) rfl ?_
          exact am_rv rfl rfl
        exact am_rv rfl rfl
      refine am_rg (p1_a1 _ _) 7 (b := (34, [some (.ref 0), some (.int 0), none], [.ref 1], p1_h60)) rfl ?_
      refine am_cv (N := nm_m48) (as := [.ref 1]) (rest := []) (v := .int 0) (h' := p1_h60) rfl (am_kv p1_c33 (by decide)) (by decide) rfl rfl rfl (fun _ => ⟨_, _, _, _, _, rfl, rfl, rfl, rfl⟩) (fun h => absurd h (by decide)) (Nat.le_of_ble_eq_true rfl) ?_ ?_
      · refine am_em (d := 11) nm_m48 rfl rfl (Nat.le_of_ble_eq_true rfl) rfl ?_
        refine am_rg (p1_a2 _ _) 6 (b := (25, [some (.ref 1)], [.int 0], p1_h60)) rfl ?_
        exact am_ri rfl rfl rfl
      refine am_rg (p1_a1 _ _) 3 (b := (68, [some (.ref 0), some (.int 0), none], [.ref 11], p1_h60)) rfl ?_
      refine am_cn (N := nm_m151) (as := [.ref 11]) (rest := []) (h' := p1_h60) rfl (am_kv p1_c34 (by decide)) (by decide) rfl rfl rfl (fun _ => ⟨_, _, _, _, _, rfl, rfl, rfl, rfl⟩) (fun h => absurd h (by decide)) (Nat.le_of_ble_eq_true rfl) ?_ ?_
      · refine am_em (d := 11) nm_m151 rfl rfl (Nat.le_of_ble_eq_true rfl) rfl ?_
        refine am_rg (p1_a8 _ _) 2 (b := (4, [some (.ref 11), none, none], [.ref 15], p1_h60)) rfl ?_
        refine am_cv (N := nm_m54) (as := [.ref 15]) (rest := []) (v := .int (-1)) (h' := p1_h60) rfl (am_kv p1_c35 (by decide)) (by decide) rfl rfl rfl (fun _ => ⟨_, _, _, _, _, rfl, rfl, rfl, rfl⟩) (fun h => absurd h (by decide)) (Nat.le_of_ble_eq_true rfl) ?_ ?_
        · refine am_em (d := 10) nm_m54 rfl rfl (Nat.le_of_ble_eq_true rfl) rfl ?_
          refine am_rg (p1_a9 _ _) 4 (b := (22, [some (.ref 15)], [.int (-1)], p1_h60)) rfl ?_
          exact am_ri rfl rfl rfl
        refine am_rg (p1_a8 _ _) 14 (b := (34, [some (.ref 11), some (.int (-1)), some (.int 1)], [.ref 15], p1_h60)) rfl ?_
        refine am_cv (N := nm_m126) (as := [.ref 15]) (rest := []) (v := .int 0) (h' := p1_h60) rfl (am_kv p1_c36 (by decide)) (by decide) rfl rfl rfl (fun _ => ⟨_, _, _, _, _, rfl, rfl, rfl, rfl⟩) (fun h => absurd h (by decide)) (Nat.le_of_ble_eq_true rfl) ?_ ?_
        · refine am_em (d := 10) nm_m126 rfl rfl (Nat.le_of_ble_eq_true rfl) rfl ?_
          refine am_rg (p1_a9 _ _) 2 (b := (4, [some (.ref 15)], [.int 0], p1_h60)) rfl ?_
          exact am_ri rfl rfl rfl
        refine am_rg (p1_a8 _ _) 4 (b := (45, [some (.ref 11), some (.int (-1)), some (.int 1)], [.ref 15], p1_h60)) rfl ?_
        refine am_cv (N := nm_m126) (as := [.ref 15]) (rest := []) (v := .int 0) (h' := p1_h60) rfl (am_kv p1_c36 (by decide)) (by decide) rfl rfl rfl (fun _ => ⟨_, _, _, _, _, rfl, rfl, rfl, rfl⟩) (fun h => absurd h (by decide)) (Nat.le_of_ble_eq_true rfl) ?_ ?_
        · refine am_em (d := 10) nm_m126 rfl rfl (Nat.le_of_ble_eq_true rfl) rfl ?_
          refine am_rg (p1_a9 _ _) 2 (b := (4, [some (.ref 15)], [.int 0], p1_h60)) rfl ?_
          exact am_ri rfl rfl rfl
        refine am_rg (p1_a8 _ _) 2 (b := (71, [some (.ref 11), some (.int (-1)), some (.int 1)], [], p1_h60)) rfl ?_
        exact am_rv rfl rfl
      refine am_rg (p1_a1 _ _) 1 (b := (72, [some (.ref 0), some (.int 0), none], [.ref 0], p1_h60)) rfl ?_
      refine am_cv (N := nm_m152) (as := [.ref 0]) (rest := []) (v := .int 0) (h' := p1_h60) rfl (am_kv p1_c37 (by decide)) (by decide) rfl rfl rfl (fun _ => ⟨_, _, _, _, _, rfl, rfl, rfl, rfl⟩) (fun h => absurd h (by decide)) (Nat.le_of_ble_eq_true rfl) ?_ ?_
      · refine am_em (d := 11) nm_m152 rfl rfl (Nat.le_of_ble_eq_true rfl) rfl ?_
        refine am_rg (p1_a1 _ _) 2 (b := (4, [some (.ref 0)], [.ref 1], p1_h60)) rfl ?_
        refine am_cn (N := nm_m153) (as := [.ref 1]) (rest := []) (h' := p1_h60) rfl (am_kv p1_c38 (by decide)) (by decide) rfl rfl rfl (fun _ => ⟨_, _, _, _, _, rfl, rfl, rfl, rfl⟩) (fun h => absurd h (by decide)) (Nat.le_of_ble_eq_true rfl) ?_ ?_
        · refine am_em (d := 10) nm_m153 rfl rfl (Nat.le_of_ble_eq_true rfl) rfl ?_
          refine am_rg (p1_a2 _ _) 6 (b := (10, [some (.ref 1)], [], p1_h60)) rfl ?_
          exact am_rv rfl rfl
        refine am_rg (p1_a1 _ _) 2 (b := (11, [some (.ref 0)], [.ref 1], p1_h60)) rfl ?_
        refine am_cv (N := nm_m27) (as := [.ref 1]) (rest := []) (v := .int 0) (h' := p1_h60) rfl (am_kv p1_c39 (by decide)) (by decide) rfl rfl rfl (fun _ => ⟨_, _, _, _, _, rfl, rfl, rfl, rfl⟩) (fun h => absurd h (by decide)) (Nat.le_of_ble_eq_true rfl) ?_ ?_
        · refine am_em (d := 10) nm_m27 rfl rfl (Nat.le_of_ble_eq_true rfl) rfl ?_
          refine am_rg (p1_a2 _ _) 2 (b := (4, [some (.ref 1)], [.int 0], p1_h60)) rfl ?_
          exact am_ri rfl rfl rfl
        refine am_rg (p1_a1 _ _) 3 (b := (31, [some (.ref 0)], [.ref 6], p1_h60)) rfl ?_
        refine am_cn (N := nm_m154) (as := [.ref 6]) (rest := []) (h' := p1_h60) rfl (am_kv p1_c40 (by decide)) (by decide) rfl rfl rfl (fun _ => ⟨_, _, _, _, _, rfl, rfl, rfl, rfl⟩) (fun h => absurd h (by decide)) (Nat.le_of_ble_eq_true rfl) ?_ ?_
        · refine am_em (d := 10) nm_m154 rfl rfl (Nat.le_of_ble_eq_true rfl) rfl ?_
          refine am_rg (p1_a3 _ _) 3 (b := (3, [some (.ref 6), none, none, none], [.int 5, .int 0, .ref 6], p1_h60)) rfl ?_
          refine am_cv (N := nm_m17) (as := [.ref 6, .int 0, .int 5]) (rest := []) (v := .int (-1)) (h' := p1_h60) rfl (am_kv p1_c41 (by decide)) (by decide) rfl rfl rfl (fun _ => ⟨_, _, _, _, _, rfl, rfl, rfl, rfl⟩) (fun h => absurd h (by decide)) (Nat.le_of_ble_eq_true rfl) ?_ ?_
          · refine am_em (d := 9) nm_m17 rfl rfl (Nat.le_of_ble_eq_true rfl) rfl ?_
            refine am_rg (p1_a3 _ _) 20 (b := (37, [some (.ref 6), some (.int 0), some (.int 5)], [.int (-1)], p1_h60)) rfl ?_
            exact am_ri rfl rfl rfl
          refine am_rg (p1_a3 _ _) 10 (b := (114, [some (.ref 6), some (.int (-1)), some (.int 0), none], [], p1_h60)) rfl ?_
          exact am_rv rfl rfl
        refine am_rg (p1_a1 _ _) 2 (b := (38, [some (.ref 0)], [.ref 6], p1_h60)) rfl ?_
        refine am_cv (N := nm_m40) (as := [.ref 6]) (rest := []) (v := .int 0) (h' := p1_h60) rfl (am_kv p1_c42 (by decide)) (by decide) rfl rfl rfl (fun _ => ⟨_, _, _, _, _, rfl, rfl, rfl, rfl⟩) (fun h => absurd h (by decide)) (Nat.le_of_ble_eq_true rfl) ?_ ?_
        · refine am_em (d := 10) nm_m40 rfl rfl (Nat.le_of_ble_eq_true rfl) rfl ?_
          refine am_rg (p1_a3 _ _) 2 (b := (4, [some (.ref 6)], [.int 0], p1_h60)) rfl ?_
          exact am_ri rfl rfl rfl
        exact am_ri rfl rfl rfl
      exact am_ri rfl rfl rfl
    refine am_rg (p1_a0 _ _) 4 (b := (15, [some (.ref 0), some (.ref 60), none], [.int 0], p1_h61)) rfl ?_
    exact am_ri rfl rfl rfl
  refine am_rg (p1_a0 _ _) 2 (b := (133, [some (.retAddr 0), some (.ref 0), some (.ref 20), some (.ref 60), some (.int 0), some (.int 0), none], [.ref 20], p1_h61)) rfl ?_
  refine am_cv (N := nm_m160) (as := [.ref 20]) (rest := []) (v := .int 0) (h' := p1_h63) rfl (am_kv p1_c43 (by decide)) (by decide) rfl rfl rfl (fun _ => ⟨_, _, _, _, _, rfl, rfl, rfl, rfl⟩) (fun h => absurd h (by decide)) (Nat.le_of_ble_eq_true rfl) ?_ ?_
  · refine am_em (d := 13) nm_m160 rfl rfl (Nat.le_of_ble_eq_true rfl) rfl ?_
    refine am_rg (p1_a10 _ _) 30 (b := (50, [some (.ref 20), none, none], [.int 0, .ref 20], p1_h61)) rfl ?_
    refine am_rg (p1_a10 _ _) 2 (b := (52, [some (.ref 20), none, none], [.int 0, .int 0, .int 0, .ref 20], p1_h61)) rfl ?_
    refine am_cv (N := nm_m161) (as := [.ref 20, .int 0, .int 0, .int 0]) (rest := []) (v := .int 0) (h' := p1_h63) rfl (am_kv p1_c44 (by decide)) (by decide) rfl rfl rfl (fun _ => ⟨_, _, _, _, _, rfl, rfl, rfl, rfl⟩) (fun h => absurd h (by decide)) (Nat.le_of_ble_eq_true rfl) ?_ ?_
    · refine am_em (d := 12) nm_m161 rfl rfl (Nat.le_of_ble_eq_true rfl) rfl ?_
      refine am_rg (p1_a10 _ _) 30 (b := (49, [some (.ref 20), some (.int 0), some (.int 0), some (.int 0), some (.int 0)], [.ref 20], p1_h62)) rfl ?_
      refine am_rg (p1_a10 _ _) 20 (b := (82, [some (.ref 20), some (.int 0), some (.int 0), some (.int 0), some (.int 0)], [.int 0], p1_h63)) rfl ?_
      exact am_ri rfl rfl rfl
    refine am_rg (p1_a10 _ _) 30 (b := (257, [some (.ref 20), some (.int 0), some (.int 0)], [.int 0, .ref 20], p1_h63)) rfl ?_
    refine am_cn (N := nm_m226) (as := [.ref 20, .int 0]) (rest := []) (h' := p1_h63) rfl (am_kv p1_c45 (by decide)) (by decide) rfl rfl rfl (fun _ => ⟨_, _, _, _, _, rfl, rfl, rfl, rfl⟩) (fun h => absurd h (by decide)) (Nat.le_of_ble_eq_true rfl) ?_ ?_
    · refine am_em (d := 12) nm_m226 rfl rfl (Nat.le_of_ble_eq_true rfl) rfl ?_
      refine am_rg (p1_a10 _ _) 9 (b := (127, [some (.ref 20), some (.int 0), some (.int 0), some (.int 1)], [], p1_h63)) rfl ?_
      exact am_rv rfl rfl
    refine am_rg (p1_a10 _ _) 2 (b := (264, [some (.ref 20), some (.int 0), some (.int 0)], [.int 0], p1_h63)) rfl ?_
    exact am_ri rfl rfl rfl
  refine am_rg (p1_a0 _ _) 2 (b := (139, [some (.retAddr 0), some (.ref 0), some (.ref 20), some (.ref 60), some (.int 0), some (.int 0), some (.int 0)], [.ref 20], p1_h63)) rfl ?_
  refine am_cv (N := nm_m157) (as := [.ref 20]) (rest := []) (v := .int 0) (h' := p1_h63) rfl (am_kv p1_c46 (by decide)) (by decide) rfl rfl rfl (fun _ => ⟨_, _, _, _, _, rfl, rfl, rfl, rfl⟩) (fun h => absurd h (by decide)) (Nat.le_of_ble_eq_true rfl) ?_ ?_
  · refine am_em (d := 13) nm_m157 rfl rfl (Nat.le_of_ble_eq_true rfl) rfl ?_
    refine am_rg (p1_a10 _ _) 2 (b := (4, [some (.ref 20)], [.int 0], p1_h63)) rfl ?_
    exact am_ri rfl rfl rfl
  refine am_rg (p1_a0 _ _) 17 (b := (27, [some (.retAddr 0), some (.ref 0), some (.ref 20), some (.ref 60), some (.int 3), some (.int 0), some (.int 0)], [.int 3, .int 3], p1_h63)) rfl ?_
  refine am_rg (p1_a0 _ _) 4 (b := (375, [some (.retAddr 0), some (.ref 0), some (.ref 20), some (.ref 60), some (.int 3), some (.int 0), some (.int 0)], [.int 1], p1_h63)) rfl ?_
  exact am_ri rfl rfl rfl
set_option maxRecDepth 100000 in
set_option maxHeartbeats 4000000 in
theorem p1_o2 (xs : Nat → Int32) (a1 a2 : Int32) (h1 : xs 1 = a1) (h2 : xs 2 = a2) (h0 : xs 0 &&& 15 = 2) : ∃ hf : am_H, am_Go (nm_F 3 xs) nm_cls nm_ms (am_Ev (nm_F 3 xs) nm_cls nm_ms 14) nm_law (.inl (some (.int 1)), hf) (none, (23, [some (.retAddr 0), some (.ref 0), some (.ref 20), some (.ref 60), some (.int 0), none, none], [], p1_h23)) ∧ hf.length ≤ 600002 ∧ am_sz hf ≤ 7302232 := by
  have d1 : a2.toInt < 0 ∨ 6 ≤ a2.toInt ∨ a2.toInt = 0 ∨ a2.toInt = 1 ∨ a2.toInt = 2 ∨ a2.toInt = 3 ∨ a2.toInt = 4 ∨ a2.toInt = 5 := by omega
  rcases d1 with d1 | d1 | d1 | d1 | d1 | d1 | d1 | d1
  · skip
    have d2 : a1.toInt < 0 ∨ 0 ≤ a1.toInt := by omega
    rcases d2 with d2 | d2
    · skip
      refine ⟨p1_h23, ?_, Nat.le_of_ble_eq_true rfl, Nat.le_of_ble_eq_true rfl⟩
      refine am_rg (p1_a0 _ _) 3 (b := (27, [some (.retAddr 0), some (.ref 0), some (.ref 20), some (.ref 60), some (.int 0), none, none], [.int 3, .int 0], p1_h23)) rfl ?_
      refine am_rg (p1_a0 _ _) 5 (b := (35, [some (.retAddr 0), some (.ref 0), some (.ref 20), some (.ref 60), some (.int 0), none, none], [.int 0, .retAddr 0], p1_h23)) rfl ?_
      refine am_sl rfl rfl rfl ?_
      refine am_rg (p1_a0 _ _) 1 (b := (38, [some (.retAddr 0), some (.ref 0), some (.ref 20), some (.ref 60), some (.int 0), none, none], [.int 15, .int (xs 0)], p1_h23)) rfl ?_
      refine am_an rfl h0 ?_
      refine am_rg (p1_a0 _ _) 6 (b := (175, [some (.retAddr 0), some (.ref 0), some (.ref 20), some (.ref 60), some (.int 0), none, none], [.int 1, .retAddr 0, .ref 0], p1_h23)) rfl ?_
      refine am_sl rfl rfl h1 ?_
      refine am_rg (p1_a0 _ _) 4 (b := (181, [some (.retAddr 0), some (.ref 0), some (.ref 20), some (.ref 60), some (.int 0), none, none], [.int 2, .retAddr 0, .int a1, .ref 0], p1_h23)) rfl ?_
      refine am_sl rfl rfl h2 ?_
      refine am_cv (N := nm_m14) (as := [.ref 0, .int a1, .int a2]) (rest := []) (v := .int (-1)) (h' := p1_h23) rfl (am_kv p1_c47 (by decide)) (by decide) rfl rfl rfl (fun _ => ⟨_, _, _, _, _, rfl, rfl, rfl, rfl⟩) (fun h => absurd h (by decide)) (Nat.le_of_ble_eq_true rfl) ?_ ?_
      · refine am_em (d := 13) nm_m14 rfl rfl (Nat.le_of_ble_eq_true rfl) rfl ?_
        refine am_rg (p1_a1 _ _) 1 (b := (1, [some (.ref 0), some (.int a1), some (.int a2)], [.int a2], p1_h23)) rfl ?_
        refine am_td rfl (t := 94) rfl (by omega) ?_
        refine am_rg (p1_a1 _ _) 1 (b := (95, [some (.ref 0), some (.int a1), some (.int a2)], [.int (-1)], p1_h23)) rfl ?_
        exact am_ri rfl rfl rfl
      refine am_rg (p1_a0 _ _) 5 (b := (191, [some (.retAddr 0), some (.ref 0), some (.ref 20), some (.ref 60), some (.int 0), none, none], [.int 1, .retAddr 0, .ref 20, .int (-1)], p1_h23)) rfl ?_
      refine am_sl rfl rfl h1 ?_
      refine am_rg (p1_a0 _ _) 4 (b := (197, [some (.retAddr 0), some (.ref 0), some (.ref 20), some (.ref 60), some (.int 0), none, none], [.int 2, .retAddr 0, .int a1, .ref 20, .int (-1)], p1_h23)) rfl ?_
      refine am_sl rfl rfl h2 ?_
      refine am_cv (N := nm_m227) (as := [.ref 20, .int a1, .int a2]) (rest := [.int (-1)]) (v := .int (-1)) (h' := p1_h23) rfl (am_kv p1_c48 (by decide)) (by decide) rfl rfl rfl (fun _ => ⟨_, _, _, _, _, rfl, rfl, rfl, rfl⟩) (fun h => absurd h (by decide)) (Nat.le_of_ble_eq_true rfl) ?_ ?_
      · refine am_em (d := 13) nm_m227 rfl rfl (Nat.le_of_ble_eq_true rfl) rfl ?_
        refine am_rg (p1_a10 _ _) 4 (b := (6, [some (.ref 20), some (.int a1), some (.int a2), none, none, none, none], [.int a1], p1_h23)) rfl ?_
        refine am_i1 rfl (t := 17) rfl (am_cT (b := 0) rfl (by show (a1.toInt < 0); omega)) ?_
        refine am_rg (p1_a10 _ _) 1 (b := (18, [some (.ref 20), some (.int a1), some (.int a2), none, none, none, none], [.int (-1)], p1_h23)) rfl ?_
        exact am_ri rfl rfl rfl
      refine am_rg (p1_a0 _ _) 6 (b := (27, [some (.retAddr 0), some (.ref 0), some (.ref 20), some (.ref 60), some (.int 3), none, none], [.int 3, .int 3], p1_h23)) rfl ?_
      refine am_rg (p1_a0 _ _) 4 (b := (375, [some (.retAddr 0), some (.ref 0), some (.ref 20), some (.ref 60), some (.int 3), none, none], [.int 1], p1_h23)) rfl ?_
      exact am_ri rfl rfl rfl
    · skip
      refine ⟨p1_h23, ?_, Nat.le_of_ble_eq_true rfl, Nat.le_of_ble_eq_true rfl⟩
      refine am_rg (p1_a0 _ _) 3 (b := (27, [some (.retAddr 0), some (.ref 0), some (.ref 20), some (.ref 60), some (.int 0), none, none], [.int 3, .int 0], p1_h23)) rfl ?_
      refine am_rg (p1_a0 _ _) 5 (b := (35, [some (.retAddr 0), some (.ref 0), some (.ref 20), some (.ref 60), some (.int 0), none, none], [.int 0, .retAddr 0], p1_h23)) rfl ?_
      refine am_sl rfl rfl rfl ?_
      refine am_rg (p1_a0 _ _) 1 (b := (38, [some (.retAddr 0), some (.ref 0), some (.ref 20), some (.ref 60), some (.int 0), none, none], [.int 15, .int (xs 0)], p1_h23)) rfl ?_
      refine am_an rfl h0 ?_
      refine am_rg (p1_a0 _ _) 6 (b := (175, [some (.retAddr 0), some (.ref 0), some (.ref 20), some (.ref 60), some (.int 0), none, none], [.int 1, .retAddr 0, .ref 0], p1_h23)) rfl ?_
      refine am_sl rfl rfl h1 ?_
      refine am_rg (p1_a0 _ _) 4 (b := (181, [some (.retAddr 0), some (.ref 0), some (.ref 20), some (.ref 60), some (.int 0), none, none], [.int 2, .retAddr 0, .int a1, .ref 0], p1_h23)) rfl ?_
      refine am_sl rfl rfl h2 ?_
      refine am_cv (N := nm_m14) (as := [.ref 0, .int a1, .int a2]) (rest := []) (v := .int (-1)) (h' := p1_h23) rfl (am_kv p1_c47 (by decide)) (by decide) rfl rfl rfl (fun _ => ⟨_, _, _, _, _, rfl, rfl, rfl, rfl⟩) (fun h => absurd h (by decide)) (Nat.le_of_ble_eq_true rfl) ?_ ?_
      · refine am_em (d := 13) nm_m14 rfl rfl (Nat.le_of_ble_eq_true rfl) rfl ?_
        refine am_rg (p1_a1 _ _) 1 (b := (1, [some (.ref 0), some (.int a1), some (.int a2)], [.int a2], p1_h23)) rfl ?_
        refine am_td rfl (t := 94) rfl (by omega) ?_
        refine am_rg (p1_a1 _ _) 1 (b := (95, [some (.ref 0), some (.int a1), some (.int a2)], [.int (-1)], p1_h23)) rfl ?_
        exact am_ri rfl rfl rfl
      refine am_rg (p1_a0 _ _) 5 (b := (191, [some (.retAddr 0), some (.ref 0), some (.ref 20), some (.ref 60), some (.int 0), none, none], [.int 1, .retAddr 0, .ref 20, .int (-1)], p1_h23)) rfl ?_
      refine am_sl rfl rfl h1 ?_
      refine am_rg (p1_a0 _ _) 4 (b := (197, [some (.retAddr 0), some (.ref 0), some (.ref 20), some (.ref 60), some (.int 0), none, none], [.int 2, .retAddr 0, .int a1, .ref 20, .int (-1)], p1_h23)) rfl ?_
      refine am_sl rfl rfl h2 ?_
      refine am_cv (N := nm_m227) (as := [.ref 20, .int a1, .int a2]) (rest := [.int (-1)]) (v := .int (-1)) (h' := p1_h23) rfl (am_kv p1_c48 (by decide)) (by decide) rfl rfl rfl (fun _ => ⟨_, _, _, _, _, rfl, rfl, rfl, rfl⟩) (fun h => absurd h (by decide)) (Nat.le_of_ble_eq_true rfl) ?_ ?_
      · refine am_em (d := 13) nm_m227 rfl rfl (Nat.le_of_ble_eq_true rfl) rfl ?_
        refine am_rg (p1_a10 _ _) 4 (b := (6, [some (.ref 20), some (.int a1), some (.int a2), none, none, none, none], [.int a1], p1_h23)) rfl ?_
        refine am_i0 rfl (t := 17) rfl (am_cF (b := 0) rfl (by show ¬ (a1.toInt < 0); omega)) ?_
        refine am_rg (p1_a10 _ _) 3 (b := (14, [some (.ref 20), some (.int a1), some (.int a2), none, none, none, none], [.int 0, .int a1], p1_h23)) rfl ?_
        refine am_j0 rfl (t := 19) rfl (am_cF (b := 0) rfl (by show ¬ (a1.toInt < 0); omega)) ?_
        refine am_rg (p1_a10 _ _) 1 (b := (18, [some (.ref 20), some (.int a1), some (.int a2), none, none, none, none], [.int (-1)], p1_h23)) rfl ?_
        exact am_ri rfl rfl rfl
      refine am_rg (p1_a0 _ _) 6 (b := (27, [some (.retAddr 0), some (.ref 0), some (.ref 20), some (.ref 60), some (.int 3), none, none], [.int 3, .int 3], p1_h23)) rfl ?_
      refine am_rg (p1_a0 _ _) 4 (b := (375, [some (.retAddr 0), some (.ref 0), some (.ref 20), some (.ref 60), some (.int 3), none, none], [.int 1], p1_h23)) rfl ?_
      exact am_ri rfl rfl rfl
  · skip
    have d2 : a1.toInt < 0 ∨ 0 ≤ a1.toInt := by omega
    rcases d2 with d2 | d2
    · skip
      refine ⟨p1_h23, ?_, Nat.le_of_ble_eq_true rfl, Nat.le_of_ble_eq_true rfl⟩
      refine am_rg (p1_a0 _ _) 3 (b := (27, [some (.retAddr 0), some (.ref 0), some (.ref 20), some (.ref 60), some (.int 0), none, none], [.int 3, .int 0], p1_h23)) rfl ?_
      refine am_rg (p1_a0 _ _) 5 (b := (35, [some (.retAddr 0), some (.ref 0), some (.ref 20), some (.ref 60), some (.int 0), none, none], [.int 0, .retAddr 0], p1_h23)) rfl ?_
      refine am_sl rfl rfl rfl ?_
      refine am_rg (p1_a0 _ _) 1 (b := (38, [some (.retAddr 0), some (.ref 0), some (.ref 20), some (.ref 60), some (.int 0), none, none], [.int 15, .int (xs 0)], p1_h23)) rfl ?_
      refine am_an rfl h0 ?_
      refine am_rg (p1_a0 _ _) 6 (b := (175, [some (.retAddr 0), some (.ref 0), some (.ref 20), some (.ref 60), some (.int 0), none, none], [.int 1, .retAddr 0, .ref 0], p1_h23)) rfl ?_
      refine am_sl rfl rfl h1 ?_
      refine am_rg (p1_a0 _ _) 4 (b := (181, [some (.retAddr 0), some (.ref 0), some (.ref 20), some (.ref 60), some (.int 0), none, none], [.int 2, .retAddr 0, .int a1, .ref 0], p1_h23)) rfl ?_
      refine am_sl rfl rfl h2 ?_
      refine am_cv (N := nm_m14) (as := [.ref 0, .int a1, .int a2]) (rest := []) (v := .int (-1)) (h' := p1_h23) rfl (am_kv p1_c47 (by decide)) (by decide) rfl rfl rfl (fun _ => ⟨_, _, _, _, _, rfl, rfl, rfl, rfl⟩) (fun h => absurd h (by decide)) (Nat.le_of_ble_eq_true rfl) ?_ ?_
      · refine am_em (d := 13) nm_m14 rfl rfl (Nat.le_of_ble_eq_true rfl) rfl ?_
        refine am_rg (p1_a1 _ _) 1 (b := (1, [some (.ref 0), some (.int a1), some (.int a2)], [.int a2], p1_h23)) rfl ?_
        refine am_td rfl (t := 94) rfl (by omega) ?_
        refine am_rg (p1_a1 _ _) 1 (b := (95, [some (.ref 0), some (.int a1), some (.int a2)], [.int (-1)], p1_h23)) rfl ?_
        exact am_ri rfl rfl rfl
      refine am_rg (p1_a0 _ _) 5 (b := (191, [some (.retAddr 0), some (.ref 0), some (.ref 20), some (.ref 60), some (.int 0), none, none], [.int 1, .retAddr 0, .ref 20, .int (-1)], p1_h23)) rfl ?_
      refine am_sl rfl rfl h1 ?_
      refine am_rg (p1_a0 _ _) 4 (b := (197, [some (.retAddr 0), some (.ref 0), some (.ref 20), some (.ref 60), some (.int 0), none, none], [.int 2, .retAddr 0, .int a1, .ref 20, .int (-1)], p1_h23)) rfl ?_
      refine am_sl rfl rfl h2 ?_
      refine am_cv (N := nm_m227) (as := [.ref 20, .int a1, .int a2]) (rest := [.int (-1)]) (v := .int (-1)) (h' := p1_h23) rfl (am_kv p1_c48 (by decide)) (by decide) rfl rfl rfl (fun _ => ⟨_, _, _, _, _, rfl, rfl, rfl, rfl⟩) (fun h => absurd h (by decide)) (Nat.le_of_ble_eq_true rfl) ?_ ?_
      · refine am_em (d := 13) nm_m227 rfl rfl (Nat.le_of_ble_eq_true rfl) rfl ?_
        refine am_rg (p1_a10 _ _) 4 (b := (6, [some (.ref 20), some (.int a1), some (.int a2), none, none, none, none], [.int a1], p1_h23)) rfl ?_
        refine am_i1 rfl (t := 17) rfl (am_cT (b := 0) rfl (by show (a1.toInt < 0); omega)) ?_
        refine am_rg (p1_a10 _ _) 1 (b := (18, [some (.ref 20), some (.int a1), some (.int a2), none, none, none, none], [.int (-1)], p1_h23)) rfl ?_
        exact am_ri rfl rfl rfl
      refine am_rg (p1_a0 _ _) 6 (b := (27, [some (.retAddr 0), some (.ref 0), some (.ref 20), some (.ref 60), some (.int 3), none, none], [.int 3, .int 3], p1_h23)) rfl ?_
      refine am_rg (p1_a0 _ _) 4 (b := (375, [some (.retAddr 0), some (.ref 0), some (.ref 20), some (.ref 60), some (.int 3), none, none], [.int 1], p1_h23)) rfl ?_
      exact am_ri rfl rfl rfl
    · skip
      refine ⟨p1_h23, ?_, Nat.le_of_ble_eq_true rfl, Nat.le_of_ble_eq_true rfl⟩
      refine am_rg (p1_a0 _ _) 3 (b := (27, [some (.retAddr 0), some (.ref 0), some (.ref 20), some (.ref 60), some (.int 0), none, none], [.int 3, .int 0], p1_h23)) rfl ?_
      refine am_rg (p1_a0 _ _) 5 (b := (35, [some (.retAddr 0), some (.ref 0), some (.ref 20), some (.ref 60), some (.int 0), none, none], [.int 0, .retAddr 0], p1_h23)) rfl ?_
      refine am_sl rfl rfl rfl ?_
      refine am_rg (p1_a0 _ _) 1 (b := (38, [some (.retAddr 0), some (.ref 0), some (.ref 20), some (.ref 60), some (.int 0), none, none], [.int 15, .int (xs 0)], p1_h23)) rfl ?_
      refine am_an rfl h0 ?_
      refine am_rg (p1_a0 _ _) 6 (b := (175, [some (.retAddr 0), some (.ref 0), some (.ref 20), some (.ref 60), some (.int 0), none, none], [.int 1, .retAddr 0, .ref 0], p1_h23)) rfl ?_
      refine am_sl rfl rfl h1 ?_
      refine am_rg (p1_a0 _ _) 4 (b := (181, [some (.retAddr 0), some (.ref 0), some (.ref 20), some (.ref 60), some (.int 0), none, none], [.int 2, .retAddr 0, .int a1, .ref 0], p1_h23)) rfl ?_
      refine am_sl rfl rfl h2 ?_
      refine am_cv (N := nm_m14) (as := [.ref 0, .int a1, .int a2]) (rest := []) (v := .int (-1)) (h' := p1_h23) rfl (am_kv p1_c47 (by decide)) (by decide) rfl rfl rfl (fun _ => ⟨_, _, _, _, _, rfl, rfl, rfl, rfl⟩) (fun h => absurd h (by decide)) (Nat.le_of_ble_eq_true rfl) ?_ ?_
      · refine am_em (d := 13) nm_m14 rfl rfl (Nat.le_of_ble_eq_true rfl) rfl ?_
        refine am_rg (p1_a1 _ _) 1 (b := (1, [some (.ref 0), some (.int a1), some (.int a2)], [.int a2], p1_h23)) rfl ?_
        refine am_td rfl (t := 94) rfl (by omega) ?_
        refine am_rg (p1_a1 _ _) 1 (b := (95, [some (.ref 0), some (.int a1), some (.int a2)], [.int (-1)], p1_h23)) rfl ?_
        exact am_ri rfl rfl rfl
      refine am_rg (p1_a0 _ _) 5 (b := (191, [some (.retAddr 0), some (.ref 0), some (.ref 20), some (.ref 60), some (.int 0), none, none], [.int 1, .retAddr 0, .ref 20, .int (-1)], p1_h23)) rfl ?_
      refine am_sl rfl rfl h1 ?_
      refine am_rg (p1_a0 _ _) 4 (b := (197, [some (.retAddr 0), some (.ref 0), some (.ref 20), some (.ref 60), some (.int 0), none, none], [.int 2, .retAddr 0, .int a1, .ref 20, .int (-1)], p1_h23)) rfl ?_
      refine am_sl rfl rfl h2 ?_
      refine am_cv (N := nm_m227) (as := [.ref 20, .int a1, .int a2]) (rest := [.int (-1)]) (v := .int (-1)) (h' := p1_h23) rfl (am_kv p1_c48 (by decide)) (by decide) rfl rfl rfl (fun _ => ⟨_, _, _, _, _, rfl, rfl, rfl, rfl⟩) (fun h => absurd h (by decide)) (Nat.le_of_ble_eq_true rfl) ?_ ?_
      · refine am_em (d := 13) nm_m227 rfl rfl (Nat.le_of_ble_eq_true rfl) rfl ?_
        refine am_rg (p1_a10 _ _) 4 (b := (6, [some (.ref 20), some (.int a1), some (.int a2), none, none, none, none], [.int a1], p1_h23)) rfl ?_
        refine am_i0 rfl (t := 17) rfl (am_cF (b := 0) rfl (by show ¬ (a1.toInt < 0); omega)) ?_
        refine am_rg (p1_a10 _ _) 3 (b := (14, [some (.ref 20), some (.int a1), some (.int a2), none, none, none, none], [.int 0, .int a1], p1_h23)) rfl ?_
        refine am_j0 rfl (t := 19) rfl (am_cF (b := 0) rfl (by show ¬ (a1.toInt < 0); omega)) ?_
        refine am_rg (p1_a10 _ _) 1 (b := (18, [some (.ref 20), some (.int a1), some (.int a2), none, none, none, none], [.int (-1)], p1_h23)) rfl ?_
        exact am_ri rfl rfl rfl
      refine am_rg (p1_a0 _ _) 6 (b := (27, [some (.retAddr 0), some (.ref 0), some (.ref 20), some (.ref 60), some (.int 3), none, none], [.int 3, .int 3], p1_h23)) rfl ?_
      refine am_rg (p1_a0 _ _) 4 (b := (375, [some (.retAddr 0), some (.ref 0), some (.ref 20), some (.ref 60), some (.int 3), none, none], [.int 1], p1_h23)) rfl ?_
      exact am_ri rfl rfl rfl
  · obtain rfl : a2 = 0 := am_inj d1 rfl
    have d2 : a1.toInt < 0 ∨ 0 ≤ a1.toInt := by omega
    rcases d2 with d2 | d2
    · skip
      refine ⟨p1_h23, ?_, Nat.le_of_ble_eq_true rfl, Nat.le_of_ble_eq_true rfl⟩
      refine am_rg (p1_a0 _ _) 3 (b := (27, [some (.retAddr 0), some (.ref 0), some (.ref 20), some (.ref 60), some (.int 0), none, none], [.int 3, .int 0], p1_h23)) rfl ?_
      refine am_rg (p1_a0 _ _) 5 (b := (35, [some (.retAddr 0), some (.ref 0), some (.ref 20), some (.ref 60), some (.int 0), none, none], [.int 0, .retAddr 0], p1_h23)) rfl ?_
      refine am_sl rfl rfl rfl ?_
      refine am_rg (p1_a0 _ _) 1 (b := (38, [some (.retAddr 0), some (.ref 0), some (.ref 20), some (.ref 60), some (.int 0), none, none], [.int 15, .int (xs 0)], p1_h23)) rfl ?_
      refine am_an rfl h0 ?_
      refine am_rg (p1_a0 _ _) 6 (b := (175, [some (.retAddr 0), some (.ref 0), some (.ref 20), some (.ref 60), some (.int 0), none, none], [.int 1, .retAddr 0, .ref 0], p1_h23)) rfl ?_
      refine am_sl rfl rfl h1 ?_
      refine am_rg (p1_a0 _ _) 4 (b := (181, [some (.retAddr 0), some (.ref 0), some (.ref 20), some (.ref 60), some (.int 0), none, none], [.int 2, .retAddr 0, .int a1, .ref 0], p1_h23)) rfl ?_
      refine am_sl rfl rfl h2 ?_
      refine am_cv (N := nm_m14) (as := [.ref 0, .int a1, .int 0]) (rest := []) (v := .int (-1)) (h' := p1_h23) rfl (am_kv p1_c47 (by decide)) (by decide) rfl rfl rfl (fun _ => ⟨_, _, _, _, _, rfl, rfl, rfl, rfl⟩) (fun h => absurd h (by decide)) (Nat.le_of_ble_eq_true rfl) ?_ ?_
      · refine am_em (d := 13) nm_m14 rfl rfl (Nat.le_of_ble_eq_true rfl) rfl ?_
        refine am_rg (p1_a1 _ _) 5 (b := (45, [some (.ref 0), some (.int a1), some (.int 0)], [.int a1, .ref 6], p1_h23)) rfl ?_
        refine am_cv (N := nm_m15) (as := [.ref 6, .int a1]) (rest := []) (v := .int (-1)) (h' := p1_h23) rfl (am_kv p1_c49 (by decide)) (by decide) rfl rfl rfl (fun _ => ⟨_, _, _, _, _, rfl, rfl, rfl, rfl⟩) (fun h => absurd h (by decide)) (Nat.le_of_ble_eq_true rfl) ?_ ?_
        · refine am_em (d := 12) nm_m15 rfl rfl (Nat.le_of_ble_eq_true rfl) rfl ?_
          refine am_rg (p1_a3 _ _) 3 (b := (3, [some (.ref 6), some (.int a1)], [.int a1, .ref 6, .ref 6], p1_h23)) rfl ?_
          refine am_cv (N := nm_m16) (as := [.ref 6, .int a1]) (rest := [.ref 6]) (v := .int (-1)) (h' := p1_h23) rfl (am_kv p1_c50 (by decide)) (by decide) rfl rfl rfl (fun _ => ⟨_, _, _, _, _, rfl, rfl, rfl, rfl⟩) (fun h => absurd h (by decide)) (Nat.le_of_ble_eq_true rfl) ?_ ?_
          · refine am_em (d := 11) nm_m16 rfl rfl (Nat.le_of_ble_eq_true rfl) rfl ?_
            refine am_rg (p1_a3 _ _) 1 (b := (1, [some (.ref 6), some (.int a1)], [.int a1], p1_h23)) rfl ?_
            refine am_i1 rfl (t := 22) rfl (am_cT (b := 0) rfl (by show (a1.toInt < 0); omega)) ?_
            refine am_rg (p1_a3 _ _) 1 (b := (23, [some (.ref 6), some (.int a1)], [.int (-1)], p1_h23)) rfl ?_
            exact am_ri rfl rfl rfl
          refine am_rg (p1_a3 _ _) 1 (b := (7, [some (.ref 6), some (.int a1)], [.int 0, .int (-1), .ref 6], p1_h23)) rfl ?_
          refine am_cv (N := nm_m17) (as := [.ref 6, .int (-1), .int 0]) (rest := []) (v := .int (-1)) (h' := p1_h23) rfl (am_kv p1_c41 (by decide)) (by decide) rfl rfl rfl (fun _ => ⟨_, _, _, _, _, rfl, rfl, rfl, rfl⟩) (fun h => absurd h (by decide)) (Nat.le_of_ble_eq_true rfl) ?_ ?_
          · refine am_em (d := 11) nm_m17 rfl rfl (Nat.le_of_ble_eq_true rfl) rfl ?_
            refine am_rg (p1_a3 _ _) 3 (b := (37, [some (.ref 6), some (.int (-1)), some (.int 0)], [.int (-1)], p1_h23)) rfl ?_
            exact am_ri rfl rfl rfl
          exact am_ri rfl rfl rfl
        exact am_ri rfl rfl rfl
      refine am_rg (p1_a0 _ _) 5 (b := (191, [some (.retAddr 0), some (.ref 0), some (.ref 20), some (.ref 60), some (.int 0), none, none], [.int 1, .retAddr 0, .ref 20, .int (-1)], p1_h23)) rfl ?_
      refine am_sl rfl rfl h1 ?_
      refine am_rg (p1_a0 _ _) 4 (b := (197, [some (.retAddr 0), some (.ref 0), some (.ref 20), some (.ref 60), some (.int 0), none, none], [.int 2, .retAddr 0, .int a1, .ref 20, .int (-1)], p1_h23)) rfl ?_
      refine am_sl rfl rfl h2 ?_
      refine am_cv (N := nm_m227) (as := [.ref 20, .int a1, .int 0]) (rest := [.int (-1)]) (v := .int (-1)) (h' := p1_h23) rfl (am_kv p1_c48 (by decide)) (by decide) rfl rfl rfl (fun _ => ⟨_, _, _, _, _, rfl, rfl, rfl, rfl⟩) (fun h => absurd h (by decide)) (Nat.le_of_ble_eq_true rfl) ?_ ?_
      · refine am_em (d := 13) nm_m227 rfl rfl (Nat.le_of_ble_eq_true rfl) rfl ?_
        refine am_rg (p1_a10 _ _) 4 (b := (6, [some (.ref 20), some (.int a1), some (.int 0), none, none, none, none], [.int a1], p1_h23)) rfl ?_
        refine am_i1 rfl (t := 17) rfl (am_cT (b := 0) rfl (by show (a1.toInt < 0); omega)) ?_
        refine am_rg (p1_a10 _ _) 1 (b := (18, [some (.ref 20), some (.int a1), some (.int 0), none, none, none, none], [.int (-1)], p1_h23)) rfl ?_
        exact am_ri rfl rfl rfl
      refine am_rg (p1_a0 _ _) 6 (b := (27, [some (.retAddr 0), some (.ref 0), some (.ref 20), some (.ref 60), some (.int 3), none, none], [.int 3, .int 3], p1_h23)) rfl ?_
      refine am_rg (p1_a0 _ _) 4 (b := (375, [some (.retAddr 0), some (.ref 0), some (.ref 20), some (.ref 60), some (.int 3), none, none], [.int 1], p1_h23)) rfl ?_
      exact am_ri rfl rfl rfl
    · skip
      refine ⟨p1_h23, ?_, Nat.le_of_ble_eq_true rfl, Nat.le_of_ble_eq_true rfl⟩
      refine am_rg (p1_a0 _ _) 3 (b := (27, [some (.retAddr 0), some (.ref 0), some (.ref 20), some (.ref 60), some (.int 0), none, none], [.int 3, .int 0], p1_h23)) rfl ?_
      refine am_rg (p1_a0 _ _) 5 (b := (35, [some (.retAddr 0), some (.ref 0), some (.ref 20), some (.ref 60), some (.int 0), none, none], [.int 0, .retAddr 0], p1_h23)) rfl ?_
      refine am_sl rfl rfl rfl ?_
      refine am_rg (p1_a0 _ _) 1 (b := (38, [some (.retAddr 0), some (.ref 0), some (.ref 20), some (.ref 60), some (.int 0), none, none], [.int 15, .int (xs 0)], p1_h23)) rfl ?_
      refine am_an rfl h0 ?_
      refine am_rg (p1_a0 _ _) 6 (b := (175, [some (.retAddr 0), some (.ref 0), some (.ref 20), some (.ref 60), some (.int 0), none, none], [.int 1, .retAddr 0, .ref 0], p1_h23)) rfl ?_
      refine am_sl rfl rfl h1 ?_
      refine am_rg (p1_a0 _ _) 4 (b := (181, [some (.retAddr 0), some (.ref 0), some (.ref 20), some (.ref 60), some (.int 0), none, none], [.int 2, .retAddr 0, .int a1, .ref 0], p1_h23)) rfl ?_
      refine am_sl rfl rfl h2 ?_
      refine am_cv (N := nm_m14) (as := [.ref 0, .int a1, .int 0]) (rest := []) (v := .int (-1)) (h' := p1_h23) rfl (am_kv p1_c47 (by decide)) (by decide) rfl rfl rfl (fun _ => ⟨_, _, _, _, _, rfl, rfl, rfl, rfl⟩) (fun h => absurd h (by decide)) (Nat.le_of_ble_eq_true rfl) ?_ ?_
      · refine am_em (d := 13) nm_m14 rfl rfl (Nat.le_of_ble_eq_true rfl) rfl ?_
        refine am_rg (p1_a1 _ _) 5 (b := (45, [some (.ref 0), some (.int a1), some (.int 0)], [.int a1, .ref 6], p1_h23)) rfl ?_
        refine am_cv (N := nm_m15) (as := [.ref 6, .int a1]) (rest := []) (v := .int (-1)) (h' := p1_h23) rfl (am_kv p1_c49 (by decide)) (by decide) rfl rfl rfl (fun _ => ⟨_, _, _, _, _, rfl, rfl, rfl, rfl⟩) (fun h => absurd h (by decide)) (Nat.le_of_ble_eq_true rfl) ?_ ?_
        · refine am_em (d := 12) nm_m15 rfl rfl (Nat.le_of_ble_eq_true rfl) rfl ?_
          refine am_rg (p1_a3 _ _) 3 (b := (3, [some (.ref 6), some (.int a1)], [.int a1, .ref 6, .ref 6], p1_h23)) rfl ?_
          refine am_cv (N := nm_m16) (as := [.ref 6, .int a1]) (rest := [.ref 6]) (v := .int (-1)) (h' := p1_h23) rfl (am_kv p1_c50 (by decide)) (by decide) rfl rfl rfl (fun _ => ⟨_, _, _, _, _, rfl, rfl, rfl, rfl⟩) (fun h => absurd h (by decide)) (Nat.le_of_ble_eq_true rfl) ?_ ?_
          · refine am_em (d := 11) nm_m16 rfl rfl (Nat.le_of_ble_eq_true rfl) rfl ?_
            refine am_rg (p1_a3 _ _) 1 (b := (1, [some (.ref 6), some (.int a1)], [.int a1], p1_h23)) rfl ?_
            refine am_i0 rfl (t := 22) rfl (am_cF (b := 0) rfl (by show ¬ (a1.toInt < 0); omega)) ?_
            refine am_rg (p1_a3 _ _) 3 (b := (9, [some (.ref 6), some (.int a1)], [.int 0, .int a1], p1_h23)) rfl ?_
            refine am_j1 rfl (t := 22) rfl (am_cT (b := 0) rfl (by show (a1.toInt ≥ 0); omega)) ?_
            refine am_rg (p1_a3 _ _) 1 (b := (23, [some (.ref 6), some (.int a1)], [.int (-1)], p1_h23)) rfl ?_
            exact am_ri rfl rfl rfl
          refine am_rg (p1_a3 _ _) 1 (b := (7, [some (.ref 6), some (.int a1)], [.int 0, .int (-1), .ref 6], p1_h23)) rfl ?_
          refine am_cv (N := nm_m17) (as := [.ref 6, .int (-1), .int 0]) (rest := []) (v := .int (-1)) (h' := p1_h23) rfl (am_kv p1_c41 (by decide)) (by decide) rfl rfl rfl (fun _ => ⟨_, _, _, _, _, rfl, rfl, rfl, rfl⟩) (fun h => absurd h (by decide)) (Nat.le_of_ble_eq_true rfl) ?_ ?_
          · refine am_em (d := 11) nm_m17 rfl rfl (Nat.le_of_ble_eq_true rfl) rfl ?_
            refine am_rg (p1_a3 _ _) 3 (b := (37, [some (.ref 6), some (.int (-1)), some (.int 0)], [.int (-1)], p1_h23)) rfl ?_
            exact am_ri rfl rfl rfl
          exact am_ri rfl rfl rfl
        exact am_ri rfl rfl rfl
      refine am_rg (p1_a0 _ _) 5 (b := (191, [some (.retAddr 0), some (.ref 0), some (.ref 20), some (.ref 60), some (.int 0), none, none], [.int 1, .retAddr 0, .ref 20, .int (-1)], p1_h23)) rfl ?_
      refine am_sl rfl rfl h1 ?_
      refine am_rg (p1_a0 _ _) 4 (b := (197, [some (.retAddr 0), some (.ref 0), some (.ref 20), some (.ref 60), some (.int 0), none, none], [.int 2, .retAddr 0, .int a1, .ref 20, .int (-1)], p1_h23)) rfl ?_
      refine am_sl rfl rfl h2 ?_
      refine am_cv (N := nm_m227) (as := [.ref 20, .int a1, .int 0]) (rest := [.int (-1)]) (v := .int (-1)) (h' := p1_h23) rfl (am_kv p1_c48 (by decide)) (by decide) rfl rfl rfl (fun _ => ⟨_, _, _, _, _, rfl, rfl, rfl, rfl⟩) (fun h => absurd h (by decide)) (Nat.le_of_ble_eq_true rfl) ?_ ?_
      · refine am_em (d := 13) nm_m227 rfl rfl (Nat.le_of_ble_eq_true rfl) rfl ?_
        refine am_rg (p1_a10 _ _) 4 (b := (6, [some (.ref 20), some (.int a1), some (.int 0), none, none, none, none], [.int a1], p1_h23)) rfl ?_
        refine am_i0 rfl (t := 17) rfl (am_cF (b := 0) rfl (by show ¬ (a1.toInt < 0); omega)) ?_
        refine am_rg (p1_a10 _ _) 3 (b := (14, [some (.ref 20), some (.int a1), some (.int 0), none, none, none, none], [.int 0, .int a1], p1_h23)) rfl ?_
        refine am_j0 rfl (t := 19) rfl (am_cF (b := 0) rfl (by show ¬ (a1.toInt < 0); omega)) ?_
        refine am_rg (p1_a10 _ _) 1 (b := (18, [some (.ref 20), some (.int a1), some (.int 0), none, none, none, none], [.int (-1)], p1_h23)) rfl ?_
        exact am_ri rfl rfl rfl
      refine am_rg (p1_a0 _ _) 6 (b := (27, [some (.retAddr 0), some (.ref 0), some (.ref 20), some (.ref 60), some (.int 3), none, none], [.int 3, .int 3], p1_h23)) rfl ?_
      refine am_rg (p1_a0 _ _) 4 (b := (375, [some (.retAddr 0), some (.ref 0), some (.ref 20), some (.ref 60), some (.int 3), none, none], [.int 1], p1_h23)) rfl ?_
      exact am_ri rfl rfl rfl
  · obtain rfl : a2 = 1 := am_inj d1 rfl
    have d2 : a1.toInt < 0 ∨ 0 ≤ a1.toInt := by omega
    rcases d2 with d2 | d2
    · skip
      refine ⟨p1_h23, ?_, Nat.le_of_ble_eq_true rfl, Nat.le_of_ble_eq_true rfl⟩
      refine am_rg (p1_a0 _ _) 3 (b := (27, [some (.retAddr 0), some (.ref 0), some (.ref 20), some (.ref 60), some (.int 0), none, none], [.int 3, .int 0], p1_h23)) rfl ?_
      refine am_rg (p1_a0 _ _) 5 (b := (35, [some (.retAddr 0), some (.ref 0), some (.ref 20), some (.ref 60), some (.int 0), none, none], [.int 0, .retAddr 0], p1_h23)) rfl ?_
      refine am_sl rfl rfl rfl ?_
      refine am_rg (p1_a0 _ _) 1 (b := (38, [some (.retAddr 0), some (.ref 0), some (.ref 20), some (.ref 60), some (.int 0), none, none], [.int 15, .int (xs 0)], p1_h23)) rfl ?_
      refine am_an rfl h0 ?_
      refine am_rg (p1_a0 _ _) 6 (b := (175, [some (.retAddr 0), some (.ref 0), some (.ref 20), some (.ref 60), some (.int 0), none, none], [.int 1, .retAddr 0, .ref 0], p1_h23)) rfl ?_
      refine am_sl rfl rfl h1 ?_
      refine am_rg (p1_a0 _ _) 4 (b := (181, [some (.retAddr 0), some (.ref 0), some (.ref 20), some (.ref 60), some (.int 0), none, none], [.int 2, .retAddr 0, .int a1, .ref 0], p1_h23)) rfl ?_
      refine am_sl rfl rfl h2 ?_
      refine am_cv (N := nm_m14) (as := [.ref 0, .int a1, .int 1]) (rest := []) (v := .int (-1)) (h' := p1_h23) rfl (am_kv p1_c47 (by decide)) (by decide) rfl rfl rfl (fun _ => ⟨_, _, _, _, _, rfl, rfl, rfl, rfl⟩) (fun h => absurd h (by decide)) (Nat.le_of_ble_eq_true rfl) ?_ ?_
      · refine am_em (d := 13) nm_m14 rfl rfl (Nat.le_of_ble_eq_true rfl) rfl ?_
        refine am_rg (p1_a1 _ _) 5 (b := (54, [some (.ref 0), some (.int a1), some (.int 1)], [.int a1, .ref 6], p1_h23)) rfl ?_
        refine am_cv (N := nm_m18) (as := [.ref 6, .int a1]) (rest := []) (v := .int (-1)) (h' := p1_h23) rfl (am_kv p1_c51 (by decide)) (by decide) rfl rfl rfl (fun _ => ⟨_, _, _, _, _, rfl, rfl, rfl, rfl⟩) (fun h => absurd h (by decide)) (Nat.le_of_ble_eq_true rfl) ?_ ?_
        · refine am_em (d := 12) nm_m18 rfl rfl (Nat.le_of_ble_eq_true rfl) rfl ?_
          refine am_rg (p1_a3 _ _) 3 (b := (3, [some (.ref 6), some (.int a1)], [.int a1, .ref 6, .ref 6], p1_h23)) rfl ?_
          refine am_cv (N := nm_m16) (as := [.ref 6, .int a1]) (rest := [.ref 6]) (v := .int (-1)) (h' := p1_h23) rfl (am_kv p1_c50 (by decide)) (by decide) rfl rfl rfl (fun _ => ⟨_, _, _, _, _, rfl, rfl, rfl, rfl⟩) (fun h => absurd h (by decide)) (Nat.le_of_ble_eq_true rfl) ?_ ?_
          · refine am_em (d := 11) nm_m16 rfl rfl (Nat.le_of_ble_eq_true rfl) rfl ?_
            refine am_rg (p1_a3 _ _) 1 (b := (1, [some (.ref 6), some (.int a1)], [.int a1], p1_h23)) rfl ?_
            refine am_i1 rfl (t := 22) rfl (am_cT (b := 0) rfl (by show (a1.toInt < 0); omega)) ?_
            refine am_rg (p1_a3 _ _) 1 (b := (23, [some (.ref 6), some (.int a1)], [.int (-1)], p1_h23)) rfl ?_
            exact am_ri rfl rfl rfl
          refine am_rg (p1_a3 _ _) 1 (b := (7, [some (.ref 6), some (.int a1)], [.int 1, .int (-1), .ref 6], p1_h23)) rfl ?_
          refine am_cv (N := nm_m17) (as := [.ref 6, .int (-1), .int 1]) (rest := []) (v := .int (-1)) (h' := p1_h23) rfl (am_kv p1_c41 (by decide)) (by decide) rfl rfl rfl (fun _ => ⟨_, _, _, _, _, rfl, rfl, rfl, rfl⟩) (fun h => absurd h (by decide)) (Nat.le_of_ble_eq_true rfl) ?_ ?_
          · refine am_em (d := 11) nm_m17 rfl rfl (Nat.le_of_ble_eq_true rfl) rfl ?_
            refine am_rg (p1_a3 _ _) 3 (b := (37, [some (.ref 6), some (.int (-1)), some (.int 1)], [.int (-1)], p1_h23)) rfl ?_
            exact am_ri rfl rfl rfl
          exact am_ri rfl rfl rfl
        exact am_ri rfl rfl rfl
      refine am_rg (p1_a0 _ _) 5 (b := (191, [some (.retAddr 0), some (.ref 0), some (.ref 20), some (.ref 60), some (.int 0), none, none], [.int 1, .retAddr 0, .ref 20, .int (-1)], p1_h23)) rfl ?_
      refine am_sl rfl rfl h1 ?_
      refine am_rg (p1_a0 _ _) 4 (b := (197, [some (.retAddr 0), some (.ref 0), some (.ref 20), some (.ref 60), some (.int 0), none, none], [.int 2, .retAddr 0, .int a1, .ref 20, .int (-1)], p1_h23)) rfl ?_
      refine am_sl rfl rfl h2 ?_
      refine am_cv (N := nm_m227) (as := [.ref 20, .int a1, .int 1]) (rest := [.int (-1)]) (v := .int (-1)) (h' := p1_h23) rfl (am_kv p1_c48 (by decide)) (by decide) rfl rfl rfl (fun _ => ⟨_, _, _, _, _, rfl, rfl, rfl, rfl⟩) (fun h => absurd h (by decide)) (Nat.le_of_ble_eq_true rfl) ?_ ?_
      · refine am_em (d := 13) nm_m227 rfl rfl (Nat.le_of_ble_eq_true rfl) rfl ?_
        refine am_rg (p1_a10 _ _) 4 (b := (6, [some (.ref 20), some (.int a1), some (.int 1), none, none, none, none], [.int a1], p1_h23)) rfl ?_
        refine am_i1 rfl (t := 17) rfl (am_cT (b := 0) rfl (by show (a1.toInt < 0); omega)) ?_
        refine am_rg (p1_a10 _ _) 1 (b := (18, [some (.ref 20), some (.int a1), some (.int 1), none, none, none, none], [.int (-1)], p1_h23)) rfl ?_
        exact am_ri rfl rfl rfl
      refine am_rg (p1_a0 _ _) 6 (b := (27, [some (.retAddr 0), some (.ref 0), some (.ref 20), some (.ref 60), some (.int 3), none, none], [.int 3, .int 3], p1_h23)) rfl ?_
      refine am_rg (p1_a0 _ _) 4 (b := (375, [some (.retAddr 0), some (.ref 0), some (.ref 20), some (.ref 60), some (.int 3), none, none], [.int 1], p1_h23)) rfl ?_
      exact am_ri rfl rfl rfl
    · skip
      refine ⟨p1_h23, ?_, Nat.le_of_ble_eq_true rfl, Nat.le_of_ble_eq_true rfl⟩
      refine am_rg (p1_a0 _ _) 3 (b := (27, [some (.retAddr 0), some (.ref 0), some (.ref 20), some (.ref 60), some (.int 0), none, none], [.int 3, .int 0], p1_h23)) rfl ?_
      refine am_rg (p1_a0 _ _) 5 (b := (35, [some (.retAddr 0), some (.ref 0), some (.ref 20), some (.ref 60), some (.int 0), none, none], [.int 0, .retAddr 0], p1_h23)) rfl ?_
      refine am_sl rfl rfl rfl ?_
      refine am_rg (p1_a0 _ _) 1 (b := (38, [some (.retAddr 0), some (.ref 0), some (.ref 20), some (.ref 60), some (.int 0), none, none], [.int 15, .int (xs 0)], p1_h23)) rfl ?_
      refine am_an rfl h0 ?_
      refine am_rg (p1_a0 _ _) 6 (b := (175, [some (.retAddr 0), some (.ref 0), some (.ref 20), some (.ref 60), some (.int 0), none, none], [.int 1, .retAddr 0, .ref 0], p1_h23)) rfl ?_
      refine am_sl rfl rfl h1 ?_
      refine am_rg (p1_a0 _ _) 4 (b := (181, [some (.retAddr 0), some (.ref 0), some (.ref 20), some (.ref 60), some (.int 0), none, none], [.int 2, .retAddr 0, .int a1, .ref 0], p1_h23)) rfl ?_
      refine am_sl rfl rfl h2 ?_
      refine am_cv (N := nm_m14) (as := [.ref 0, .int a1, .int 1]) (rest := []) (v := .int (-1)) (h' := p1_h23) rfl (am_kv p1_c47 (by decide)) (by decide) rfl rfl rfl (fun _ => ⟨_, _, _, _, _, rfl, rfl, rfl, rfl⟩) (fun h => absurd h (by decide)) (Nat.le_of_ble_eq_true rfl) ?_ ?_
      · refine am_em (d := 13) nm_m14 rfl rfl (Nat.le_of_ble_eq_true rfl) rfl ?_
        refine am_rg (p1_a1 _ _) 5 (b := (54, [some (.ref 0), some (.int a1), some (.int 1)], [.int a1, .ref 6], p1_h23)) rfl ?_
        refine am_cv (N := nm_m18) (as := [.ref 6, .int a1]) (rest := []) (v := .int (-1)) (h' := p1_h23) rfl (am_kv p1_c51 (by decide)) (by decide) rfl rfl rfl (fun _ => ⟨_, _, _, _, _, rfl, rfl, rfl, rfl⟩) (fun h => absurd h (by decide)) (Nat.le_of_ble_eq_true rfl) ?_ ?_
        · refine am_em (d := 12) nm_m18 rfl rfl (Nat.le_of_ble_eq_true rfl) rfl ?_
          refine am_rg (p1_a3 _ _) 3 (b := (3, [some (.ref 6), some (.int a1)], [.int a1, .ref 6, .ref 6], p1_h23)) rfl ?_
          refine am_cv (N := nm_m16) (as := [.ref 6, .int a1]) (rest := [.ref 6]) (v := .int (-1)) (h' := p1_h23) rfl (am_kv p1_c50 (by decide)) (by decide) rfl rfl rfl (fun _ => ⟨_, _, _, _, _, rfl, rfl, rfl, rfl⟩) (fun h => absurd h (by decide)) (Nat.le_of_ble_eq_true rfl) ?_ ?_
          · refine am_em (d := 11) nm_m16 rfl rfl (Nat.le_of_ble_eq_true rfl) rfl ?_
            refine am_rg (p1_a3 _ _) 1 (b := (1, [some (.ref 6), some (.int a1)], [.int a1], p1_h23)) rfl ?_
            refine am_i0 rfl (t := 22) rfl (am_cF (b := 0) rfl (by show ¬ (a1.toInt < 0); omega)) ?_
            refine am_rg (p1_a3 _ _) 3 (b := (9, [some (.ref 6), some (.int a1)], [.int 0, .int a1], p1_h23)) rfl ?_
            refine am_j1 rfl (t := 22) rfl (am_cT (b := 0) rfl (by show (a1.toInt ≥ 0); omega)) ?_
            refine am_rg (p1_a3 _ _) 1 (b := (23, [some (.ref 6), some (.int a1)], [.int (-1)], p1_h23)) rfl ?_
            exact am_ri rfl rfl rfl
          refine am_rg (p1_a3 _ _) 1 (b := (7, [some (.ref 6), some (.int a1)], [.int 1, .int (-1), .ref 6], p1_h23)) rfl ?_
          refine am_cv (N := nm_m17) (as := [.ref 6, .int (-1), .int 1]) (rest := []) (v := .int (-1)) (h' := p1_h23) rfl (am_kv p1_c41 (by decide)) (by decide) rfl rfl rfl (fun _ => ⟨_, _, _, _, _, rfl, rfl, rfl, rfl⟩) (fun h => absurd h (by decide)) (Nat.le_of_ble_eq_true rfl) ?_ ?_
          · refine am_em (d := 11) nm_m17 rfl rfl (Nat.le_of_ble_eq_true rfl) rfl ?_
            refine am_rg (p1_a3 _ _) 3 (b := (37, [some (.ref 6), some (.int (-1)), some (.int 1)], [.int (-1)], p1_h23)) rfl ?_
            exact am_ri rfl rfl rfl
          exact am_ri rfl rfl rfl
        exact am_ri rfl rfl rfl
      refine am_rg (p1_a0 _ _) 5 (b := (191, [some (.retAddr 0), some (.ref 0), some (.ref 20), some (.ref 60), some (.int 0), none, none], [.int 1, .retAddr 0, .ref 20, .int (-1)], p1_h23)) rfl ?_
      refine am_sl rfl rfl h1 ?_
      refine am_rg (p1_a0 _ _) 4 (b := (197, [some (.retAddr 0), some (.ref 0), some (.ref 20), some (.ref 60), some (.int 0), none, none], [.int 2, .retAddr 0, .int a1, .ref 20, .int (-1)], p1_h23)) rfl ?_
      refine am_sl rfl rfl h2 ?_
      refine am_cv (N := nm_m227) (as := [.ref 20, .int a1, .int 1]) (rest := [.int (-1)]) (v := .int (-1)) (h' := p1_h23) rfl (am_kv p1_c48 (by decide)) (by decide) rfl rfl rfl (fun _ => ⟨_, _, _, _, _, rfl, rfl, rfl, rfl⟩) (fun h => absurd h (by decide)) (Nat.le_of_ble_eq_true rfl) ?_ ?_
      · refine am_em (d := 13) nm_m227 rfl rfl (Nat.le_of_ble_eq_true rfl) rfl ?_
        refine am_rg (p1_a10 _ _) 4 (b := (6, [some (.ref 20), some (.int a1), some (.int 1), none, none, none, none], [.int a1], p1_h23)) rfl ?_
        refine am_i0 rfl (t := 17) rfl (am_cF (b := 0) rfl (by show ¬ (a1.toInt < 0); omega)) ?_
        refine am_rg (p1_a10 _ _) 3 (b := (14, [some (.ref 20), some (.int a1), some (.int 1), none, none, none, none], [.int 0, .int a1], p1_h23)) rfl ?_
        refine am_j0 rfl (t := 19) rfl (am_cF (b := 0) rfl (by show ¬ (a1.toInt < 0); omega)) ?_
        refine am_rg (p1_a10 _ _) 1 (b := (18, [some (.ref 20), some (.int a1), some (.int 1), none, none, none, none], [.int (-1)], p1_h23)) rfl ?_
        exact am_ri rfl rfl rfl
      refine am_rg (p1_a0 _ _) 6 (b := (27, [some (.retAddr 0), some (.ref 0), some (.ref 20), some (.ref 60), some (.int 3), none, none], [.int 3, .int 3], p1_h23)) rfl ?_
      refine am_rg (p1_a0 _ _) 4 (b := (375, [some (.retAddr 0), some (.ref 0), some (.ref 20), some (.ref 60), some (.int 3), none, none], [.int 1], p1_h23)) rfl ?_
      exact am_ri rfl rfl rfl
  · obtain rfl : a2 = 2 := am_inj d1 rfl
    have d2 : a1.toInt < 0 ∨ 0 ≤ a1.toInt := by omega
    rcases d2 with d2 | d2
    · skip
      refine ⟨p1_h23, ?_, Nat.le_of_ble_eq_true rfl, Nat.le_of_ble_eq_true rfl⟩
      refine am_rg (p1_a0 _ _) 3 (b := (27, [some (.retAddr 0), some (.ref 0), some (.ref 20), some (.ref 60), some (.int 0), none, none], [.int 3, .int 0], p1_h23)) rfl ?_
      refine am_rg (p1_a0 _ _) 5 (b := (35, [some (.retAddr 0), some (.ref 0), some (.ref 20), some (.ref 60), some (.int 0), none, none], [.int 0, .retAddr 0], p1_h23)) rfl ?_
      refine am_sl rfl rfl rfl ?_
      refine am_rg (p1_a0 _ _) 1 (b := (38, [some (.retAddr 0), some (.ref 0), some (.ref 20), some (.ref 60), some (.int 0), none, none], [.int 15, .int (xs 0)], p1_h23)) rfl ?_
      refine am_an rfl h0 ?_
      refine am_rg (p1_a0 _ _) 6 (b := (175, [some (.retAddr 0), some (.ref 0), some (.ref 20), some (.ref 60), some (.int 0), none, none], [.int 1, .retAddr 0, .ref 0], p1_h23)) rfl ?_
      refine am_sl rfl rfl h1 ?_
      refine am_rg (p1_a0 _ _) 4 (b := (181, [some (.retAddr 0), some (.ref 0), some (.ref 20), some (.ref 60), some (.int 0), none, none], [.int 2, .retAddr 0, .int a1, .ref 0], p1_h23)) rfl ?_
      refine am_sl rfl rfl h2 ?_
      refine am_cv (N := nm_m14) (as := [.ref 0, .int a1, .int 2]) (rest := []) (v := .int (-1)) (h' := p1_h23) rfl (am_kv p1_c47 (by decide)) (by decide) rfl rfl rfl (fun _ => ⟨_, _, _, _, _, rfl, rfl, rfl, rfl⟩) (fun h => absurd h (by decide)) (Nat.le_of_ble_eq_true rfl) ?_ ?_
      · refine am_em (d := 13) nm_m14 rfl rfl (Nat.le_of_ble_eq_true rfl) rfl ?_
        refine am_rg (p1_a1 _ _) 5 (b := (63, [some (.ref 0), some (.int a1), some (.int 2)], [.int a1, .ref 6], p1_h23)) rfl ?_
        refine am_cv (N := nm_m19) (as := [.ref 6, .int a1]) (rest := []) (v := .int (-1)) (h' := p1_h23) rfl (am_kv p1_c52 (by decide)) (by decide) rfl rfl rfl (fun _ => ⟨_, _, _, _, _, rfl, rfl, rfl, rfl⟩) (fun h => absurd h (by decide)) (Nat.le_of_ble_eq_true rfl) ?_ ?_
        · refine am_em (d := 12) nm_m19 rfl rfl (Nat.le_of_ble_eq_true rfl) rfl ?_
          refine am_rg (p1_a3 _ _) 3 (b := (3, [some (.ref 6), some (.int a1)], [.int a1, .ref 6, .ref 6], p1_h23)) rfl ?_
          refine am_cv (N := nm_m16) (as := [.ref 6, .int a1]) (rest := [.ref 6]) (v := .int (-1)) (h' := p1_h23) rfl (am_kv p1_c50 (by decide)) (by decide) rfl rfl rfl (fun _ => ⟨_, _, _, _, _, rfl, rfl, rfl, rfl⟩) (fun h => absurd h (by decide)) (Nat.le_of_ble_eq_true rfl) ?_ ?_
          · refine am_em (d := 11) nm_m16 rfl rfl (Nat.le_of_ble_eq_true rfl) rfl ?_
            refine am_rg (p1_a3 _ _) 1 (b := (1, [some (.ref 6), some (.int a1)], [.int a1], p1_h23)) rfl ?_
            refine am_i1 rfl (t := 22) rfl (am_cT (b := 0) rfl (by show (a1.toInt < 0); omega)) ?_
            refine am_rg (p1_a3 _ _) 1 (b := (23, [some (.ref 6), some (.int a1)], [.int (-1)], p1_h23)) rfl ?_
            exact am_ri rfl rfl rfl
          refine am_rg (p1_a3 _ _) 1 (b := (7, [some (.ref 6), some (.int a1)], [.int 2, .int (-1), .ref 6], p1_h23)) rfl ?_
          refine am_cv (N := nm_m17) (as := [.ref 6, .int (-1), .int 2]) (rest := []) (v := .int (-1)) (h' := p1_h23) rfl (am_kv p1_c41 (by decide)) (by decide) rfl rfl rfl (fun _ => ⟨_, _, _, _, _, rfl, rfl, rfl, rfl⟩) (fun h => absurd h (by decide)) (Nat.le_of_ble_eq_true rfl) ?_ ?_
          · refine am_em (d := 11) nm_m17 rfl rfl (Nat.le_of_ble_eq_true rfl) rfl ?_
            refine am_rg (p1_a3 _ _) 3 (b := (37, [some (.ref 6), some (.int (-1)), some (.int 2)], [.int (-1)], p1_h23)) rfl ?_
            exact am_ri rfl rfl rfl
          exact am_ri rfl rfl rfl
        exact am_ri rfl rfl rfl
      refine am_rg (p1_a0 _ _) 5 (b := (191, [some (.retAddr 0), some (.ref 0), some (.ref 20), some (.ref 60), some (.int 0), none, none], [.int 1, .retAddr 0, .ref 20, .int (-1)], p1_h23)) rfl ?_
      refine am_sl rfl rfl h1 ?_
      refine am_rg (p1_a0 _ _) 4 (b := (197, [some (.retAddr 0), some (.ref 0), some (.ref 20), some (.ref 60), some (.int 0), none, none], [.int 2, .retAddr 0, .int a1, .ref 20, .int (-1)], p1_h23)) rfl ?_
      refine am_sl rfl rfl h2 ?_
      refine am_cv (N := nm_m227) (as := [.ref 20, .int a1, .int 2]) (rest := [.int (-1)]) (v := .int (-1)) (h' := p1_h23) rfl (am_kv p1_c48 (by decide)) (by decide) rfl rfl rfl (fun _ => ⟨_, _, _, _, _, rfl, rfl, rfl, rfl⟩) (fun h => absurd h (by decide)) (Nat.le_of_ble_eq_true rfl) ?_ ?_
      · refine am_em (d := 13) nm_m227 rfl rfl (Nat.le_of_ble_eq_true rfl) rfl ?_
        refine am_rg (p1_a10 _ _) 4 (b := (6, [some (.ref 20), some (.int a1), some (.int 2), none, none, none, none], [.int a1], p1_h23)) rfl ?_
        refine am_i1 rfl (t := 17) rfl (am_cT (b := 0) rfl (by show (a1.toInt < 0); omega)) ?_
        refine am_rg (p1_a10 _ _) 1 (b := (18, [some (.ref 20), some (.int a1), some (.int 2), none, none, none, none], [.int (-1)], p1_h23)) rfl ?_
        exact am_ri rfl rfl rfl
      refine am_rg (p1_a0 _ _) 6 (b := (27, [some (.retAddr 0), some (.ref 0), some (.ref 20), some (.ref 60), some (.int 3), none, none], [.int 3, .int 3], p1_h23)) rfl ?_
      refine am_rg (p1_a0 _ _) 4 (b := (375, [some (.retAddr 0), some (.ref 0), some (.ref 20), some (.ref 60), some (.int 3), none, none], [.int 1], p1_h23)) rfl ?_
      exact am_ri rfl rfl rfl
    · skip
      refine ⟨p1_h23, ?_, Nat.le_of_ble_eq_true rfl, Nat.le_of_ble_eq_true rfl⟩
      refine am_rg (p1_a0 _ _) 3 (b := (27, [some (.retAddr 0), some (.ref 0), some (.ref 20), some (.ref 60), some (.int 0), none, none], [.int 3, .int 0], p1_h23)) rfl ?_
      refine am_rg (p1_a0 _ _) 5 (b := (35, [some (.retAddr 0), some (.ref 0), some (.ref 20), some (.ref 60), some (.int 0), none, none], [.int 0, .retAddr 0], p1_h23)) rfl ?_
      refine am_sl rfl rfl rfl ?_
      refine am_rg (p1_a0 _ _) 1 (b := (38, [some (.retAddr 0), some (.ref 0), some (.ref 20), some (.ref 60), some (.int 0), none, none], [.int 15, .int (xs 0)], p1_h23)) rfl ?_
      refine am_an rfl h0 ?_
      refine am_rg (p1_a0 _ _) 6 (b := (175, [some (.retAddr 0), some (.ref 0), some (.ref 20), some (.ref 60), some (.int 0), none, none], [.int 1, .retAddr 0, .ref 0], p1_h23)) rfl ?_
      refine am_sl rfl rfl h1 ?_
      refine am_rg (p1_a0 _ _) 4 (b := (181, [some (.retAddr 0), some (.ref 0), some (.ref 20), some (.ref 60), some (.int 0), none, none], [.int 2, .retAddr 0, .int a1, .ref 0], p1_h23)) rfl ?_
      refine am_sl rfl rfl h2 ?_
      refine am_cv (N := nm_m14) (as := [.ref 0, .int a1, .int 2]) (rest := []) (v := .int (-1)) (h' := p1_h23) rfl (am_kv p1_c47 (by decide)) (by decide) rfl rfl rfl (fun _ => ⟨_, _, _, _, _, rfl, rfl, rfl, rfl⟩) (fun h => absurd h (by decide)) (Nat.le_of_ble_eq_true rfl) ?_ ?_
      · refine am_em (d := 13) nm_m14 rfl rfl (Nat.le_of_ble_eq_true rfl) rfl ?_
        refine am_rg (p1_a1 _ _) 5 (b := (63, [some (.ref 0), some (.int a1), some (.int 2)], [.int a1, .ref 6], p1_h23)) rfl ?_
        refine am_cv (N := nm_m19) (as := [.ref 6, .int a1]) (rest := []) (v := .int (-1)) (h' := p1_h23) rfl (am_kv p1_c52 (by decide)) (by decide) rfl rfl rfl (fun _ => ⟨_, _, _, _, _, rfl, rfl, rfl, rfl⟩) (fun h => absurd h (by decide)) (Nat.le_of_ble_eq_true rfl) ?_ ?_
        · refine am_em (d := 12) nm_m19 rfl rfl (Nat.le_of_ble_eq_true rfl) rfl ?_
          refine am_rg (p1_a3 _ _) 3 (b := (3, [some (.ref 6), some (.int a1)], [.int a1, .ref 6, .ref 6], p1_h23)) rfl ?_
          refine am_cv (N := nm_m16) (as := [.ref 6, .int a1]) (rest := [.ref 6]) (v := .int (-1)) (h' := p1_h23) rfl (am_kv p1_c50 (by decide)) (by decide) rfl rfl rfl (fun _ => ⟨_, _, _, _, _, rfl, rfl, rfl, rfl⟩) (fun h => absurd h (by decide)) (Nat.le_of_ble_eq_true rfl) ?_ ?_
          · refine am_em (d := 11) nm_m16 rfl rfl (Nat.le_of_ble_eq_true rfl) rfl ?_
            refine am_rg (p1_a3 _ _) 1 (b := (1, [some (.ref 6), some (.int a1)], [.int a1], p1_h23)) rfl ?_
            refine am_i0 rfl (t := 22) rfl (am_cF (b := 0) rfl (by show ¬ (a1.toInt < 0); omega)) ?_
            refine am_rg (p1_a3 _ _) 3 (b := (9, [some (.ref 6), some (.int a1)], [.int 0, .int a1], p1_h23)) rfl ?_
            refine am_j1 rfl (t := 22) rfl (am_cT (b := 0) rfl (by show (a1.toInt ≥ 0); omega)) ?_
            refine am_rg (p1_a3 _ _) 1 (b := (23, [some (.ref 6), some (.int a1)], [.int (-1)], p1_h23)) rfl ?_
            exact am_ri rfl rfl rfl
          refine am_rg (p1_a3 _ _) 1 (b := (7, [some (.ref 6), some (.int a1)], [.int 2, .int (-1), .ref 6], p1_h23)) rfl ?_
          refine am_cv (N := nm_m17) (as := [.ref 6, .int (-1), .int 2]) (rest := []) (v := .int (-1)) (h' := p1_h23) rfl (am_kv p1_c41 (by decide)) (by decide) rfl rfl rfl (fun _ => ⟨_, _, _, _, _, rfl, rfl, rfl, rfl⟩) (fun h => absurd h (by decide)) (Nat.le_of_ble_eq_true rfl) ?_ ?_
          · refine am_em (d := 11) nm_m17 rfl rfl (Nat.le_of_ble_eq_true rfl) rfl ?_
            refine am_rg (p1_a3 _ _) 3 (b := (37, [some (.ref 6), some (.int (-1)), some (.int 2)], [.int (-1)], p1_h23)) rfl ?_
            exact am_ri rfl rfl rfl
          exact am_ri rfl rfl rfl
        exact am_ri rfl rfl rfl
      refine am_rg (p1_a0 _ _) 5 (b := (191, [some (.retAddr 0), some (.ref 0), some (.ref 20), some (.ref 60), some (.int 0), none, none], [.int 1, .retAddr 0, .ref 20, .int (-1)], p1_h23)) rfl ?_
      refine am_sl rfl rfl h1 ?_
      refine am_rg (p1_a0 _ _) 4 (b := (197, [some (.retAddr 0), some (.ref 0), some (.ref 20), some (.ref 60), some (.int 0), none, none], [.int 2, .retAddr 0, .int a1, .ref 20, .int (-1)], p1_h23)) rfl ?_
      refine am_sl rfl rfl h2 ?_
      refine am_cv (N := nm_m227) (as := [.ref 20, .int a1, .int 2]) (rest := [.int (-1)]) (v := .int (-1)) (h' := p1_h23) rfl (am_kv p1_c48 (by decide)) (by decide) rfl rfl rfl (fun _ => ⟨_, _, _, _, _, rfl, rfl, rfl, rfl⟩) (fun h => absurd h (by decide)) (Nat.le_of_ble_eq_true rfl) ?_ ?_
      · refine am_em (d := 13) nm_m227 rfl rfl (Nat.le_of_ble_eq_true rfl) rfl ?_
        refine am_rg (p1_a10 _ _) 4 (b := (6, [some (.ref 20), some (.int a1), some (.int 2), none, none, none, none], [.int a1], p1_h23)) rfl ?_
        refine am_i0 rfl (t := 17) rfl (am_cF (b := 0) rfl (by show ¬ (a1.toInt < 0); omega)) ?_
        refine am_rg (p1_a10 _ _) 3 (b := (14, [some (.ref 20), some (.int a1), some (.int 2), none, none, none, none], [.int 0, .int a1], p1_h23)) rfl ?_
        refine am_j0 rfl (t := 19) rfl (am_cF (b := 0) rfl (by show ¬ (a1.toInt < 0); omega)) ?_
        refine am_rg (p1_a10 _ _) 1 (b := (18, [some (.ref 20), some (.int a1), some (.int 2), none, none, none, none], [.int (-1)], p1_h23)) rfl ?_
        exact am_ri rfl rfl rfl
      refine am_rg (p1_a0 _ _) 6 (b := (27, [some (.retAddr 0), some (.ref 0), some (.ref 20), some (.ref 60), some (.int 3), none, none], [.int 3, .int 3], p1_h23)) rfl ?_
      refine am_rg (p1_a0 _ _) 4 (b := (375, [some (.retAddr 0), some (.ref 0), some (.ref 20), some (.ref 60), some (.int 3), none, none], [.int 1], p1_h23)) rfl ?_
      exact am_ri rfl rfl rfl
  · obtain rfl : a2 = 3 := am_inj d1 rfl
    have d2 : a1.toInt < 0 ∨ 0 ≤ a1.toInt := by omega
    rcases d2 with d2 | d2
    · skip
      refine ⟨p1_h23, ?_, Nat.le_of_ble_eq_true rfl, Nat.le_of_ble_eq_true rfl⟩
      refine am_rg (p1_a0 _ _) 3 (b := (27, [some (.retAddr 0), some (.ref 0), some (.ref 20), some (.ref 60), some (.int 0), none, none], [.int 3, .int 0], p1_h23)) rfl ?_
      refine am_rg (p1_a0 _ _) 5 (b := (35, [some (.retAddr 0), some (.ref 0), some (.ref 20), some (.ref 60), some (.int 0), none, none], [.int 0, .retAddr 0], p1_h23)) rfl ?_
      refine am_sl rfl rfl rfl ?_
      refine am_rg (p1_a0 _ _) 1 (b := (38, [some (.retAddr 0), some (.ref 0), some (.ref 20), some (.ref 60), some (.int 0), none, none], [.int 15, .int (xs 0)], p1_h23)) rfl ?_
      refine am_an rfl h0 ?_
      refine am_rg (p1_a0 _ _) 6 (b := (175, [some (.retAddr 0), some (.ref 0), some (.ref 20), some (.ref 60), some (.int 0), none, none], [.int 1, .retAddr 0, .ref 0], p1_h23)) rfl ?_
      refine am_sl rfl rfl h1 ?_
      refine am_rg (p1_a0 _ _) 4 (b := (181, [some (.retAddr 0), some (.ref 0), some (.ref 20), some (.ref 60), some (.int 0), none, none], [.int 2, .retAddr 0, .int a1, .ref 0], p1_h23)) rfl ?_
      refine am_sl rfl rfl h2 ?_
      refine am_cv (N := nm_m14) (as := [.ref 0, .int a1, .int 3]) (rest := []) (v := .int (-1)) (h' := p1_h23) rfl (am_kv p1_c47 (by decide)) (by decide) rfl rfl rfl (fun _ => ⟨_, _, _, _, _, rfl, rfl, rfl, rfl⟩) (fun h => absurd h (by decide)) (Nat.le_of_ble_eq_true rfl) ?_ ?_
      · refine am_em (d := 13) nm_m14 rfl rfl (Nat.le_of_ble_eq_true rfl) rfl ?_
        refine am_rg (p1_a1 _ _) 5 (b := (72, [some (.ref 0), some (.int a1), some (.int 3)], [.int a1, .ref 6], p1_h23)) rfl ?_
        refine am_cv (N := nm_m20) (as := [.ref 6, .int a1]) (rest := []) (v := .int (-1)) (h' := p1_h23) rfl (am_kv p1_c53 (by decide)) (by decide) rfl rfl rfl (fun _ => ⟨_, _, _, _, _, rfl, rfl, rfl, rfl⟩) (fun h => absurd h (by decide)) (Nat.le_of_ble_eq_true rfl) ?_ ?_
        · refine am_em (d := 12) nm_m20 rfl rfl (Nat.le_of_ble_eq_true rfl) rfl ?_
          refine am_rg (p1_a3 _ _) 3 (b := (3, [some (.ref 6), some (.int a1)], [.int a1, .ref 6, .ref 6], p1_h23)) rfl ?_
          refine am_cv (N := nm_m16) (as := [.ref 6, .int a1]) (rest := [.ref 6]) (v := .int (-1)) (h' := p1_h23) rfl (am_kv p1_c50 (by decide)) (by decide) rfl rfl rfl (fun _ => ⟨_, _, _, _, _, rfl, rfl, rfl, rfl⟩) (fun h => absurd h (by decide)) (Nat.le_of_ble_eq_true rfl) ?_ ?_
          · refine am_em (d := 11) nm_m16 rfl rfl (Nat.le_of_ble_eq_true rfl) rfl ?_
            refine am_rg (p1_a3 _ _) 1 (b := (1, [some (.ref 6), some (.int a1)], [.int a1], p1_h23)) rfl ?_
            refine am_i1 rfl (t := 22) rfl (am_cT (b := 0) rfl (by show (a1.toInt < 0); omega)) ?_
            refine am_rg (p1_a3 _ _) 1 (b := (23, [some (.ref 6), some (.int a1)], [.int (-1)], p1_h23)) rfl ?_
            exact am_ri rfl rfl rfl
          refine am_rg (p1_a3 _ _) 1 (b := (8, [some (.ref 6), some (.int a1)], [.int 8, .int (-1), .ref 6], p1_h23)) rfl ?_
          refine am_cv (N := nm_m17) (as := [.ref 6, .int (-1), .int 8]) (rest := []) (v := .int (-1)) (h' := p1_h23) rfl (am_kv p1_c41 (by decide)) (by decide) rfl rfl rfl (fun _ => ⟨_, _, _, _, _, rfl, rfl, rfl, rfl⟩) (fun h => absurd h (by decide)) (Nat.le_of_ble_eq_true rfl) ?_ ?_
          · refine am_em (d := 11) nm_m17 rfl rfl (Nat.le_of_ble_eq_true rfl) rfl ?_
            refine am_rg (p1_a3 _ _) 3 (b := (37, [some (.ref 6), some (.int (-1)), some (.int 8)], [.int (-1)], p1_h23)) rfl ?_
            exact am_ri rfl rfl rfl
          exact am_ri rfl rfl rfl
        exact am_ri rfl rfl rfl
      refine am_rg (p1_a0 _ _) 5 (b := (191, [some (.retAddr 0), some (.ref 0), some (.ref 20), some (.ref 60), some (.int 0), none, none], [.int 1, .retAddr 0, .ref 20, .int (-1)], p1_h23)) rfl ?_
      refine am_sl rfl rfl h1 ?_
      refine am_rg (p1_a0 _ _) 4 (b := (197, [some (.retAddr 0), some (.ref 0), some (.ref 20), some (.ref 60), some (.int 0), none, none], [.int 2, .retAddr 0, .int a1, .ref 20, .int (-1)], p1_h23)) rfl ?_
      refine am_sl rfl rfl h2 ?_
      refine am_cv (N := nm_m227) (as := [.ref 20, .int a1, .int 3]) (rest := [.int (-1)]) (v := .int (-1)) (h' := p1_h23) rfl (am_kv p1_c48 (by decide)) (by decide) rfl rfl rfl (fun _ => ⟨_, _, _, _, _, rfl, rfl, rfl, rfl⟩) (fun h => absurd h (by decide)) (Nat.le_of_ble_eq_true rfl) ?_ ?_
      · refine am_em (d := 13) nm_m227 rfl rfl (Nat.le_of_ble_eq_true rfl) rfl ?_
        refine am_rg (p1_a10 _ _) 4 (b := (6, [some (.ref 20), some (.int a1), some (.int 3), none, none, none, none], [.int a1], p1_h23)) rfl ?_
        refine am_i1 rfl (t := 17) rfl (am_cT (b := 0) rfl (by show (a1.toInt < 0); omega)) ?_
        refine am_rg (p1_a10 _ _) 1 (b := (18, [some (.ref 20), some (.int a1), some (.int 3), none, none, none, none], [.int (-1)], p1_h23)) rfl ?_
        exact am_ri rfl rfl rfl
      refine am_rg (p1_a0 _ _) 6 (b := (27, [some (.retAddr 0), some (.ref 0), some (.ref 20), some (.ref 60), some (.int 3), none, none], [.int 3, .int 3], p1_h23)) rfl ?_
      refine am_rg (p1_a0 _ _) 4 (b := (375, [some (.retAddr 0), some (.ref 0), some (.ref 20), some (.ref 60), some (.int 3), none, none], [.int 1], p1_h23)) rfl ?_
      exact am_ri rfl rfl rfl
    · skip
      refine ⟨p1_h23, ?_, Nat.le_of_ble_eq_true rfl, Nat.le_of_ble_eq_true rfl⟩
      refine am_rg (p1_a0 _ _) 3 (b := (27, [some (.retAddr 0), some (.ref 0), some (.ref 20), some (.ref 60), some (.int 0), none, none], [.int 3, .int 0], p1_h23)) rfl ?_
      refine am_rg (p1_a0 _ _) 5 (b := (35, [some (.retAddr 0), some (.ref 0), some (.ref 20), some (.ref 60), some (.int 0), none, none], [.int 0, .retAddr 0], p1_h23)) rfl ?_
      refine am_sl rfl rfl rfl ?_
      refine am_rg (p1_a0 _ _) 1 (b := (38, [some (.retAddr 0), some (.ref 0), some (.ref 20), some (.ref 60), some (.int 0), none, none], [.int 15, .int (xs 0)], p1_h23)) rfl ?_
      refine am_an rfl h0 ?_
      refine am_rg (p1_a0 _ _) 6 (b := (175, [some (.retAddr 0), some (.ref 0), some (.ref 20), some (.ref 60), some (.int 0), none, none], [.int 1, .retAddr 0, .ref 0], p1_h23)) rfl ?_
      refine am_sl rfl rfl h1 ?_
      refine am_rg (p1_a0 _ _) 4 (b := (181, [some (.retAddr 0), some (.ref 0), some (.ref 20), some (.ref 60), some (.int 0), none, none], [.int 2, .retAddr 0, .int a1, .ref 0], p1_h23)) rfl ?_
      refine am_sl rfl rfl h2 ?_
      refine am_cv (N := nm_m14) (as := [.ref 0, .int a1, .int 3]) (rest := []) (v := .int (-1)) (h' := p1_h23) rfl (am_kv p1_c47 (by decide)) (by decide) rfl rfl rfl (fun _ => ⟨_, _, _, _, _, rfl, rfl, rfl, rfl⟩) (fun h => absurd h (by decide)) (Nat.le_of_ble_eq_true rfl) ?_ ?_
      · refine am_em (d := 13) nm_m14 rfl rfl (Nat.le_of_ble_eq_true rfl) rfl ?_
        refine am_rg (p1_a1 _ _) 5 (b := (72, [some (.ref 0), some (.int a1), some (.int 3)], [.int a1, .ref 6], p1_h23)) rfl ?_
        refine am_cv (N := nm_m20) (as := [.ref 6, .int a1]) (rest := []) (v := .int (-1)) (h' := p1_h23) rfl (am_kv p1_c53 (by decide)) (by decide) rfl rfl rfl (fun _ => ⟨_, _, _, _, _, rfl, rfl, rfl, rfl⟩) (fun h => absurd h (by decide)) (Nat.le_of_ble_eq_true rfl) ?_ ?_
        · refine am_em (d := 12) nm_m20 rfl rfl (Nat.le_of_ble_eq_true rfl) rfl ?_
          refine am_rg (p1_a3 _ _) 3 (b := (3, [some (.ref 6), some (.int a1)], [.int a1, .ref 6, .ref 6], p1_h23)) rfl ?_
          refine am_cv (N := nm_m16) (as := [.ref 6, .int a1]) (rest := [.ref 6]) (v := .int (-1)) (h' := p1_h23) rfl (am_kv p1_c50 (by decide)) (by decide) rfl rfl rfl (fun _ => ⟨_, _, _, _, _, rfl, rfl, rfl, rfl⟩) (fun h => absurd h (by decide)) (Nat.le_of_ble_eq_true rfl) ?_ ?_
          · refine am_em (d := 11) nm_m16 rfl rfl (Nat.le_of_ble_eq_true rfl) rfl ?_
            refine am_rg (p1_a3 _ _) 1 (b := (1, [some (.ref 6), some (.int a1)], [.int a1], p1_h23)) rfl ?_
            refine am_i0 rfl (t := 22) rfl (am_cF (b := 0) rfl (by show ¬ (a1.toInt < 0); omega)) ?_
            refine am_rg (p1_a3 _ _) 3 (b := (9, [some (.ref 6), some (.int a1)], [.int 0, .int a1], p1_h23)) rfl ?_
            refine am_j1 rfl (t := 22) rfl (am_cT (b := 0) rfl (by show (a1.toInt ≥ 0); omega)) ?_
            refine am_rg (p1_a3 _ _) 1 (b := (23, [some (.ref 6), some (.int a1)], [.int (-1)], p1_h23)) rfl ?_
            exact am_ri rfl rfl rfl
          refine am_rg (p1_a3 _ _) 1 (b := (8, [some (.ref 6), some (.int a1)], [.int 8, .int (-1), .ref 6], p1_h23)) rfl ?_
          refine am_cv (N := nm_m17) (as := [.ref 6, .int (-1), .int 8]) (rest := []) (v := .int (-1)) (h' := p1_h23) rfl (am_kv p1_c41 (by decide)) (by decide) rfl rfl rfl (fun _ => ⟨_, _, _, _, _, rfl, rfl, rfl, rfl⟩) (fun h => absurd h (by decide)) (Nat.le_of_ble_eq_true rfl) ?_ ?_
          · refine am_em (d := 11) nm_m17 rfl rfl (Nat.le_of_ble_eq_true rfl) rfl ?_
            refine am_rg (p1_a3 _ _) 3 (b := (37, [some (.ref 6), some (.int (-1)), some (.int 8)], [.int (-1)], p1_h23)) rfl ?_
            exact am_ri rfl rfl rfl
          exact am_ri rfl rfl rfl
        exact am_ri rfl rfl rfl
      refine am_rg (p1_a0 _ _) 5 (b := (191, [some (.retAddr 0), some (.ref 0), some (.ref 20), some (.ref 60), some (.int 0), none, none], [.int 1, .retAddr 0, .ref 20, .int (-1)], p1_h23)) rfl ?_
      refine am_sl rfl rfl h1 ?_
      refine am_rg (p1_a0 _ _) 4 (b := (197, [some (.retAddr 0), some (.ref 0), some (.ref 20), some (.ref 60), some (.int 0), none, none], [.int 2, .retAddr 0, .int a1, .ref 20, .int (-1)], p1_h23)) rfl ?_
      refine am_sl rfl rfl h2 ?_
      refine am_cv (N := nm_m227) (as := [.ref 20, .int a1, .int 3]) (rest := [.int (-1)]) (v := .int (-1)) (h' := p1_h23) rfl (am_kv p1_c48 (by decide)) (by decide) rfl rfl rfl (fun _ => ⟨_, _, _, _, _, rfl, rfl, rfl, rfl⟩) (fun h => absurd h (by decide)) (Nat.le_of_ble_eq_true rfl) ?_ ?_
      · refine am_em (d := 13) nm_m227 rfl rfl (Nat.le_of_ble_eq_true rfl) rfl ?_
        refine am_rg (p1_a10 _ _) 4 (b := (6, [some (.ref 20), some (.int a1), some (.int 3), none, none, none, none], [.int a1], p1_h23)) rfl ?_
        refine am_i0 rfl (t := 17) rfl (am_cF (b := 0) rfl (by show ¬ (a1.toInt < 0); omega)) ?_
        refine am_rg (p1_a10 _ _) 3 (b := (14, [some (.ref 20), some (.int a1), some (.int 3), none, none, none, none], [.int 0, .int a1], p1_h23)) rfl ?_
        refine am_j0 rfl (t := 19) rfl (am_cF (b := 0) rfl (by show ¬ (a1.toInt < 0); omega)) ?_
        refine am_rg (p1_a10 _ _) 1 (b := (18, [some (.ref 20), some (.int a1), some (.int 3), none, none, none, none], [.int (-1)], p1_h23)) rfl ?_
        exact am_ri rfl rfl rfl
      refine am_rg (p1_a0 _ _) 6 (b := (27, [some (.retAddr 0), some (.ref 0), some (.ref 20), some (.ref 60), some (.int 3), none, none], [.int 3, .int 3], p1_h23)) rfl ?_
      refine am_rg (p1_a0 _ _) 4 (b := (375, [some (.retAddr 0), some (.ref 0), some (.ref 20), some (.ref 60), some (.int 3), none, none], [.int 1], p1_h23)) rfl ?_
      exact am_ri rfl rfl rfl
  · obtain rfl : a2 = 4 := am_inj d1 rfl
    have d2 : a1.toInt < 0 ∨ 0 ≤ a1.toInt := by omega
    rcases d2 with d2 | d2
    · skip
      refine ⟨p1_h23, ?_, Nat.le_of_ble_eq_true rfl, Nat.le_of_ble_eq_true rfl⟩
      refine am_rg (p1_a0 _ _) 3 (b := (27, [some (.retAddr 0), some (.ref 0), some (.ref 20), some (.ref 60), some (.int 0), none, none], [.int 3, .int 0], p1_h23)) rfl ?_
      refine am_rg (p1_a0 _ _) 5 (b := (35, [some (.retAddr 0), some (.ref 0), some (.ref 20), some (.ref 60), some (.int 0), none, none], [.int 0, .retAddr 0], p1_h23)) rfl ?_
      refine am_sl rfl rfl rfl ?_
      refine am_rg (p1_a0 _ _) 1 (b := (38, [some (.retAddr 0), some (.ref 0), some (.ref 20), some (.ref 60), some (.int 0), none, none], [.int 15, .int (xs 0)], p1_h23)) rfl ?_
      refine am_an rfl h0 ?_
      refine am_rg (p1_a0 _ _) 6 (b := (175, [some (.retAddr 0), some (.ref 0), some (.ref 20), some (.ref 60), some (.int 0), none, none], [.int 1, .retAddr 0, .ref 0], p1_h23)) rfl ?_
      refine am_sl rfl rfl h1 ?_
      refine am_rg (p1_a0 _ _) 4 (b := (181, [some (.retAddr 0), some (.ref 0), some (.ref 20), some (.ref 60), some (.int 0), none, none], [.int 2, .retAddr 0, .int a1, .ref 0], p1_h23)) rfl ?_
      refine am_sl rfl rfl h2 ?_
      refine am_cv (N := nm_m14) (as := [.ref 0, .int a1, .int 4]) (rest := []) (v := .int (-1)) (h' := p1_h23) rfl (am_kv p1_c47 (by decide)) (by decide) rfl rfl rfl (fun _ => ⟨_, _, _, _, _, rfl, rfl, rfl, rfl⟩) (fun h => absurd h (by decide)) (Nat.le_of_ble_eq_true rfl) ?_ ?_
      · refine am_em (d := 13) nm_m14 rfl rfl (Nat.le_of_ble_eq_true rfl) rfl ?_
        refine am_rg (p1_a1 _ _) 5 (b := (81, [some (.ref 0), some (.int a1), some (.int 4)], [.int a1, .ref 6], p1_h23)) rfl ?_
        refine am_cv (N := nm_m21) (as := [.ref 6, .int a1]) (rest := []) (v := .int (-1)) (h' := p1_h23) rfl (am_kv p1_c54 (by decide)) (by decide) rfl rfl rfl (fun _ => ⟨_, _, _, _, _, rfl, rfl, rfl, rfl⟩) (fun h => absurd h (by decide)) (Nat.le_of_ble_eq_true rfl) ?_ ?_
        · refine am_em (d := 12) nm_m21 rfl rfl (Nat.le_of_ble_eq_true rfl) rfl ?_
          refine am_rg (p1_a3 _ _) 4 (b := (4, [some (.ref 6), some (.int a1)], [.int a1, .ref 6, .ref 6, .ref 6], p1_h23)) rfl ?_
          refine am_cv (N := nm_m16) (as := [.ref 6, .int a1]) (rest := [.ref 6, .ref 6]) (v := .int (-1)) (h' := p1_h23) rfl (am_kv p1_c50 (by decide)) (by decide) rfl rfl rfl (fun _ => ⟨_, _, _, _, _, rfl, rfl, rfl, rfl⟩) (fun h => absurd h (by decide)) (Nat.le_of_ble_eq_true rfl) ?_ ?_
          · refine am_em (d := 11) nm_m16 rfl rfl (Nat.le_of_ble_eq_true rfl) rfl ?_
            refine am_rg (p1_a3 _ _) 1 (b := (1, [some (.ref 6), some (.int a1)], [.int a1], p1_h23)) rfl ?_
            refine am_i1 rfl (t := 22) rfl (am_cT (b := 0) rfl (by show (a1.toInt < 0); omega)) ?_
            refine am_rg (p1_a3 _ _) 1 (b := (23, [some (.ref 6), some (.int a1)], [.int (-1)], p1_h23)) rfl ?_
            exact am_ri rfl rfl rfl
          refine am_rg (p1_a3 _ _) 1 (b := (8, [some (.ref 6), some (.int a1)], [.int 4, .int (-1), .ref 6, .ref 6], p1_h23)) rfl ?_
          refine am_cv (N := nm_m17) (as := [.ref 6, .int (-1), .int 4]) (rest := [.ref 6]) (v := .int (-1)) (h' := p1_h23) rfl (am_kv p1_c41 (by decide)) (by decide) rfl rfl rfl (fun _ => ⟨_, _, _, _, _, rfl, rfl, rfl, rfl⟩) (fun h => absurd h (by decide)) (Nat.le_of_ble_eq_true rfl) ?_ ?_
          · refine am_em (d := 11) nm_m17 rfl rfl (Nat.le_of_ble_eq_true rfl) rfl ?_
            refine am_rg (p1_a3 _ _) 3 (b := (37, [some (.ref 6), some (.int (-1)), some (.int 4)], [.int (-1)], p1_h23)) rfl ?_
            exact am_ri rfl rfl rfl
          refine am_cv (N := nm_m22) (as := [.ref 6, .int (-1)]) (rest := []) (v := .int (-1)) (h' := p1_h23) rfl (am_kv p1_c55 (by decide)) (by decide) rfl rfl rfl (fun _ => ⟨_, _, _, _, _, rfl, rfl, rfl, rfl⟩) (fun h => absurd h (by decide)) (Nat.le_of_ble_eq_true rfl) ?_ ?_
          · refine am_em (d := 11) nm_m22 rfl rfl (Nat.le_of_ble_eq_true rfl) rfl ?_
            refine am_rg (p1_a3 _ _) 3 (b := (4, [some (.ref 6), some (.int (-1))], [.int 10, .int (-1), .ref 6], p1_h23)) rfl ?_
            refine am_cv (N := nm_m17) (as := [.ref 6, .int (-1), .int 10]) (rest := []) (v := .int (-1)) (h' := p1_h23) rfl (am_kv p1_c41 (by decide)) (by decide) rfl rfl rfl (fun _ => ⟨_, _, _, _, _, rfl, rfl, rfl, rfl⟩) (fun h => absurd h (by decide)) (Nat.le_of_ble_eq_true rfl) ?_ ?_
            · refine am_em (d := 10) nm_m17 rfl rfl (Nat.le_of_ble_eq_true rfl) rfl ?_
              refine am_rg (p1_a3 _ _) 3 (b := (37, [some (.ref 6), some (.int (-1)), some (.int 10)], [.int (-1)], p1_h23)) rfl ?_
              exact am_ri rfl rfl rfl
            exact am_ri rfl rfl rfl
          exact am_ri rfl rfl rfl
        exact am_ri rfl rfl rfl
      refine am_rg (p1_a0 _ _) 5 (b := (191, [some (.retAddr 0), some (.ref 0), some (.ref 20), some (.ref 60), some (.int 0), none, none], [.int 1, .retAddr 0, .ref 20, .int (-1)], p1_h23)) rfl ?_
      refine am_sl rfl rfl h1 ?_
      refine am_rg (p1_a0 _ _) 4 (b := (197, [some (.retAddr 0), some (.ref 0), some (.ref 20), some (.ref 60), some (.int 0), none, none], [.int 2, .retAddr 0, .int a1, .ref 20, .int (-1)], p1_h23)) rfl ?_
      refine am_sl rfl rfl h2 ?_
      refine am_cv (N := nm_m227) (as := [.ref 20, .int a1, .int 4]) (rest := [.int (-1)]) (v := .int (-1)) (h' := p1_h23) rfl (am_kv p1_c48 (by decide)) (by decide) rfl rfl rfl (fun _ => ⟨_, _, _, _, _, rfl, rfl, rfl, rfl⟩) (fun h => absurd h (by decide)) (Nat.le_of_ble_eq_true rfl) ?_ ?_
      · refine am_em (d := 13) nm_m227 rfl rfl (Nat.le_of_ble_eq_true rfl) rfl ?_
        refine am_rg (p1_a10 _ _) 4 (b := (6, [some (.ref 20), some (.int a1), some (.int 4), none, none, none, none], [.int a1], p1_h23)) rfl ?_
        refine am_i1 rfl (t := 17) rfl (am_cT (b := 0) rfl (by show (a1.toInt < 0); omega)) ?_
        refine am_rg (p1_a10 _ _) 1 (b := (18, [some (.ref 20), some (.int a1), some (.int 4), none, none, none, none], [.int (-1)], p1_h23)) rfl ?_
        exact am_ri rfl rfl rfl
      refine am_rg (p1_a0 _ _) 6 (b := (27, [some (.retAddr 0), some (.ref 0), some (.ref 20), some (.ref 60), some (.int 3), none, none], [.int 3, .int 3], p1_h23)) rfl ?_
      refine am_rg (p1_a0 _ _) 4 (b := (375, [some (.retAddr 0), some (.ref 0), some (.ref 20), some (.ref 60), some (.int 3), none, none], [.int 1], p1_h23)) rfl ?_
      exact am_ri rfl rfl rfl
    · skip
      refine ⟨p1_h23, ?_, Nat.le_of_ble_eq_true rfl, Nat.le_of_ble_eq_true rfl⟩
      refine am_rg (p1_a0 _ _) 3 (b := (27, [some (.retAddr 0), some (.ref 0), some (.ref 20), some (.ref 60), some (.int 0), none, none], [.int 3, .int 0], p1_h23)) rfl ?_
      refine am_rg (p1_a0 _ _) 5 (b := (35, [some (.retAddr 0), some (.ref 0), some (.ref 20), some (.ref 60), some (.int 0), none, none], [.int 0, .retAddr 0], p1_h23)) rfl ?_
      refine am_sl rfl rfl rfl ?_
      refine am_rg (p1_a0 _ _) 1 (b := (38, [some (.retAddr 0), some (.ref 0), some (.ref 20), some (.ref 60), some (.int 0), none, none], [.int 15, .int (xs 0)], p1_h23)) rfl ?_
      refine am_an rfl h0 ?_
      refine am_rg (p1_a0 _ _) 6 (b := (175, [some (.retAddr 0), some (.ref 0), some (.ref 20), some (.ref 60), some (.int 0), none, none], [.int 1, .retAddr 0, .ref 0], p1_h23)) rfl ?_
      refine am_sl rfl rfl h1 ?_
      refine am_rg (p1_a0 _ _) 4 (b := (181, [some (.retAddr 0), some (.ref 0), some (.ref 20), some (.ref 60), some (.int 0), none, none], [.int 2, .retAddr 0, .int a1, .ref 0], p1_h23)) rfl ?_
      refine am_sl rfl rfl h2 ?_
      refine am_cv (N := nm_m14) (as := [.ref 0, .int a1, .int 4]) (rest := []) (v := .int (-1)) (h' := p1_h23) rfl (am_kv p1_c47 (by decide)) (by decide) rfl rfl rfl (fun _ => ⟨_, _, _, _, _, rfl, rfl, rfl, rfl⟩) (fun h => absurd h (by decide)) (Nat.le_of_ble_eq_true rfl) ?_ ?_
      · refine am_em (d := 13) nm_m14 rfl rfl (Nat.le_of_ble_eq_true rfl) rfl ?_
        refine am_rg (p1_a1 _ _) 5 (b := (81, [some (.ref 0), some (.int a1), some (.int 4)], [.int a1, .ref 6], p1_h23)) rfl ?_
        refine am_cv (N := nm_m21) (as := [.ref 6, .int a1]) (rest := []) (v := .int (-1)) (h' := p1_h23) rfl (am_kv p1_c54 (by decide)) (by decide) rfl rfl rfl (fun _ => ⟨_, _, _, _, _, rfl, rfl, rfl, rfl⟩) (fun h => absurd h (by decide)) (Nat.le_of_ble_eq_true rfl) ?_ ?_
        · refine am_em (d := 12) nm_m21 rfl rfl (Nat.le_of_ble_eq_true rfl) rfl ?_
          refine am_rg (p1_a3 _ _) 4 (b := (4, [some (.ref 6), some (.int a1)], [.int a1, .ref 6, .ref 6, .ref 6], p1_h23)) rfl ?_
          refine am_cv (N := nm_m16) (as := [.ref 6, .int a1]) (rest := [.ref 6, .ref 6]) (v := .int (-1)) (h' := p1_h23) rfl (am_kv p1_c50 (by decide)) (by decide) rfl rfl rfl (fun _ => ⟨_, _, _, _, _, rfl, rfl, rfl, rfl⟩) (fun h => absurd h (by decide)) (Nat.le_of_ble_eq_true rfl) ?_ ?_
          · refine am_em (d := 11) nm_m16 rfl rfl (Nat.le_of_ble_eq_true rfl) rfl ?_
            refine am_rg (p1_a3 _ _) 1 (b := (1, [some (.ref 6), some (.int a1)], [.int a1], p1_h23)) rfl ?_
            refine am_i0 rfl (t := 22) rfl (am_cF (b := 0) rfl (by show ¬ (a1.toInt < 0); omega)) ?_
            refine am_rg (p1_a3 _ _) 3 (b := (9, [some (.ref 6), some (.int a1)], [.int 0, .int a1], p1_h23)) rfl ?_
            refine am_j1 rfl (t := 22) rfl (am_cT (b := 0) rfl (by show (a1.toInt ≥ 0); omega)) ?_
            refine am_rg (p1_a3 _ _) 1 (b := (23, [some (.ref 6), some (.int a1)], [.int (-1)], p1_h23)) rfl ?_
            exact am_ri rfl rfl rfl
          refine am_rg (p1_a3 _ _) 1 (b := (8, [some (.ref 6), some (.int a1)], [.int 4, .int (-1), .ref 6, .ref 6], p1_h23)) rfl ?_
          refine am_cv (N := nm_m17) (as := [.ref 6, .int (-1), .int 4]) (rest := [.ref 6]) (v := .int (-1)) (h' := p1_h23) rfl (am_kv p1_c41 (by decide)) (by decide) rfl rfl rfl (fun _ => ⟨_, _, _, _, _, rfl, rfl, rfl, rfl⟩) (fun h => absurd h (by decide)) (Nat.le_of_ble_eq_true rfl) ?_ ?_
          · refine am_em (d := 11) nm_m17 rfl rfl (Nat.le_of_ble_eq_true rfl) rfl ?_
            refine am_rg (p1_a3 _ _) 3 (b := (37, [some (.ref 6), some (.int (-1)), some (.int 4)], [.int (-1)], p1_h23)) rfl ?_
            exact am_ri rfl rfl rfl
          refine am_cv (N := nm_m22) (as := [.ref 6, .int (-1)]) (rest := []) (v := .int (-1)) (h' := p1_h23) rfl (am_kv p1_c55 (by decide)) (by decide) rfl rfl rfl (fun _ => ⟨_, _, _, _, _, rfl, rfl, rfl, rfl⟩) (fun h => absurd h (by decide)) (Nat.le_of_ble_eq_true rfl) ?_ ?_
          · refine am_em (d := 11) nm_m22 rfl rfl (Nat.le_of_ble_eq_true rfl) rfl ?_
            refine am_rg (p1_a3 _ _) 3 (b := (4, [some (.ref 6), some (.int (-1))], [.int 10, .int (-1), .ref 6], p1_h23)) rfl ?_
            refine am_cv (N := nm_m17) (as := [.ref 6, .int (-1), .int 10]) (rest := []) (v := .int (-1)) (h' := p1_h23) rfl (am_kv p1_c41 (by decide)) (by decide) rfl rfl rfl (fun _ => ⟨_, _, _, _, _, rfl, rfl, rfl, rfl⟩) (fun h => absurd h (by decide)) (Nat.le_of_ble_eq_true rfl) ?_ ?_
            · refine am_em (d := 10) nm_m17 rfl rfl (Nat.le_of_ble_eq_true rfl) rfl ?_
              refine am_rg (p1_a3 _ _) 3 (b := (37, [some (.ref 6), some (.int (-1)), some (.int 10)], [.int (-1)], p1_h23)) rfl ?_
              exact am_ri rfl rfl rfl
            exact am_ri rfl rfl rfl
          exact am_ri rfl rfl rfl
        exact am_ri rfl rfl rfl
      refine am_rg (p1_a0 _ _) 5 (b := (191, [some (.retAddr 0), some (.ref 0), some (.ref 20), some (.ref 60), some (.int 0), none, none], [.int 1, .retAddr 0, .ref 20, .int (-1)], p1_h23)) rfl ?_
      refine am_sl rfl rfl h1 ?_
      refine am_rg (p1_a0 _ _) 4 (b := (197, [some (.retAddr 0), some (.ref 0), some (.ref 20), some (.ref 60), some (.int 0), none, none], [.int 2, .retAddr 0, .int a1, .ref 20, .int (-1)], p1_h23)) rfl ?_
      refine am_sl rfl rfl h2 ?_
      refine am_cv (N := nm_m227) (as := [.ref 20, .int a1, .int 4]) (rest := [.int (-1)]) (v := .int (-1)) (h' := p1_h23) rfl (am_kv p1_c48 (by decide)) (by decide) rfl rfl rfl (fun _ => ⟨_, _, _, _, _, rfl, rfl, rfl, rfl⟩) (fun h => absurd h (by decide)) (Nat.le_of_ble_eq_true rfl) ?_ ?_
      · refine am_em (d := 13) nm_m227 rfl rfl (Nat.le_of_ble_eq_true rfl) rfl ?_
        refine am_rg (p1_a10 _ _) 4 (b := (6, [some (.ref 20), some (.int a1), some (.int 4), none, none, none, none], [.int a1], p1_h23)) rfl ?_
        refine am_i0 rfl (t := 17) rfl (am_cF (b := 0) rfl (by show ¬ (a1.toInt < 0); omega)) ?_
        refine am_rg (p1_a10 _ _) 3 (b := (14, [some (.ref 20), some (.int a1), some (.int 4), none, none, none, none], [.int 0, .int a1], p1_h23)) rfl ?_
        refine am_j0 rfl (t := 19) rfl (am_cF (b := 0) rfl (by show ¬ (a1.toInt < 0); omega)) ?_
        refine am_rg (p1_a10 _ _) 1 (b := (18, [some (.ref 20), some (.int a1), some (.int 4), none, none, none, none], [.int (-1)], p1_h23)) rfl ?_
        exact am_ri rfl rfl rfl
      refine am_rg (p1_a0 _ _) 6 (b := (27, [some (.retAddr 0), some (.ref 0), some (.ref 20), some (.ref 60), some (.int 3), none, none], [.int 3, .int 3], p1_h23)) rfl ?_
      refine am_rg (p1_a0 _ _) 4 (b := (375, [some (.retAddr 0), some (.ref 0), some (.ref 20), some (.ref 60), some (.int 3), none, none], [.int 1], p1_h23)) rfl ?_
      exact am_ri rfl rfl rfl
  · obtain rfl : a2 = 5 := am_inj d1 rfl
    have d2 : a1.toInt < 0 ∨ 0 ≤ a1.toInt := by omega
    rcases d2 with d2 | d2
    · skip
      refine ⟨p1_h23, ?_, Nat.le_of_ble_eq_true rfl, Nat.le_of_ble_eq_true rfl⟩
      refine am_rg (p1_a0 _ _) 3 (b := (27, [some (.retAddr 0), some (.ref 0), some (.ref 20), some (.ref 60), some (.int 0), none, none], [.int 3, .int 0], p1_h23)) rfl ?_
      refine am_rg (p1_a0 _ _) 5 (b := (35, [some (.retAddr 0), some (.ref 0), some (.ref 20), some (.ref 60), some (.int 0), none, none], [.int 0, .retAddr 0], p1_h23)) rfl ?_
      refine am_sl rfl rfl rfl ?_
      refine am_rg (p1_a0 _ _) 1 (b := (38, [some (.retAddr 0), some (.ref 0), some (.ref 20), some (.ref 60), some (.int 0), none, none], [.int 15, .int (xs 0)], p1_h23)) rfl ?_
      refine am_an rfl h0 ?_
      refine am_rg (p1_a0 _ _) 6 (b := (175, [some (.retAddr 0), some (.ref 0), some (.ref 20), some (.ref 60), some (.int 0), none, none], [.int 1, .retAddr 0, .ref 0], p1_h23)) rfl ?_
      refine am_sl rfl rfl h1 ?_
      refine am_rg (p1_a0 _ _) 4 (b := (181, [some (.retAddr 0), some (.ref 0), some (.ref 20), some (.ref 60), some (.int 0), none, none], [.int 2, .retAddr 0, .int a1, .ref 0], p1_h23)) rfl ?_
      refine am_sl rfl rfl h2 ?_
      refine am_cv (N := nm_m14) (as := [.ref 0, .int a1, .int 5]) (rest := []) (v := .int (-1)) (h' := p1_h23) rfl (am_kv p1_c47 (by decide)) (by decide) rfl rfl rfl (fun _ => ⟨_, _, _, _, _, rfl, rfl, rfl, rfl⟩) (fun h => absurd h (by decide)) (Nat.le_of_ble_eq_true rfl) ?_ ?_
      · refine am_em (d := 13) nm_m14 rfl rfl (Nat.le_of_ble_eq_true rfl) rfl ?_
        refine am_rg (p1_a1 _ _) 5 (b := (90, [some (.ref 0), some (.int a1), some (.int 5)], [.int a1, .ref 6], p1_h23)) rfl ?_
        refine am_cv (N := nm_m23) (as := [.ref 6, .int a1]) (rest := []) (v := .int (-1)) (h' := p1_h23) rfl (am_kv p1_c56 (by decide)) (by decide) rfl rfl rfl (fun _ => ⟨_, _, _, _, _, rfl, rfl, rfl, rfl⟩) (fun h => absurd h (by decide)) (Nat.le_of_ble_eq_true rfl) ?_ ?_
        · refine am_em (d := 12) nm_m23 rfl rfl (Nat.le_of_ble_eq_true rfl) rfl ?_
          refine am_rg (p1_a3 _ _) 3 (b := (3, [some (.ref 6), some (.int a1), none], [.int a1, .ref 6, .ref 6], p1_h23)) rfl ?_
          refine am_cv (N := nm_m16) (as := [.ref 6, .int a1]) (rest := [.ref 6]) (v := .int (-1)) (h' := p1_h23) rfl (am_kv p1_c50 (by decide)) (by decide) rfl rfl rfl (fun _ => ⟨_, _, _, _, _, rfl, rfl, rfl, rfl⟩) (fun h => absurd h (by decide)) (Nat.le_of_ble_eq_true rfl) ?_ ?_
          · refine am_em (d := 11) nm_m16 rfl rfl (Nat.le_of_ble_eq_true rfl) rfl ?_
            refine am_rg (p1_a3 _ _) 1 (b := (1, [some (.ref 6), some (.int a1)], [.int a1], p1_h23)) rfl ?_
            refine am_i1 rfl (t := 22) rfl (am_cT (b := 0) rfl (by show (a1.toInt < 0); omega)) ?_
            refine am_rg (p1_a3 _ _) 1 (b := (23, [some (.ref 6), some (.int a1)], [.int (-1)], p1_h23)) rfl ?_
            exact am_ri rfl rfl rfl
          refine am_rg (p1_a3 _ _) 1 (b := (7, [some (.ref 6), some (.int a1), none], [.int 3, .int (-1), .ref 6], p1_h23)) rfl ?_
          refine am_cv (N := nm_m17) (as := [.ref 6, .int (-1), .int 3]) (rest := []) (v := .int (-1)) (h' := p1_h23) rfl (am_kv p1_c41 (by decide)) (by decide) rfl rfl rfl (fun _ => ⟨_, _, _, _, _, rfl, rfl, rfl, rfl⟩) (fun h => absurd h (by decide)) (Nat.le_of_ble_eq_true rfl) ?_ ?_
          · refine am_em (d := 11) nm_m17 rfl rfl (Nat.le_of_ble_eq_true rfl) rfl ?_
            refine am_rg (p1_a3 _ _) 3 (b := (37, [some (.ref 6), some (.int (-1)), some (.int 3)], [.int (-1)], p1_h23)) rfl ?_
            exact am_ri rfl rfl rfl
          refine am_rg (p1_a3 _ _) 3 (b := (13, [some (.ref 6), some (.int a1), some (.int (-1))], [.int a1, .ref 6], p1_h23)) rfl ?_
          refine am_cv (N := nm_m15) (as := [.ref 6, .int a1]) (rest := []) (v := .int (-1)) (h' := p1_h23) rfl (am_kv p1_c57 (by decide)) (by decide) rfl rfl rfl (fun _ => ⟨_, _, _, _, _, rfl, rfl, rfl, rfl⟩) (fun h => absurd h (by decide)) (Nat.le_of_ble_eq_true rfl) ?_ ?_
          · refine am_em (d := 11) nm_m15 rfl rfl (Nat.le_of_ble_eq_true rfl) rfl ?_
            refine am_rg (p1_a3 _ _) 3 (b := (3, [some (.ref 6), some (.int a1)], [.int a1, .ref 6, .ref 6], p1_h23)) rfl ?_
            refine am_cv (N := nm_m16) (as := [.ref 6, .int a1]) (rest := [.ref 6]) (v := .int (-1)) (h' := p1_h23) rfl (am_kv p1_c50 (by decide)) (by decide) rfl rfl rfl (fun _ => ⟨_, _, _, _, _, rfl, rfl, rfl, rfl⟩) (fun h => absurd h (by decide)) (Nat.le_of_ble_eq_true rfl) ?_ ?_
            · refine am_em (d := 10) nm_m16 rfl rfl (Nat.le_of_ble_eq_true rfl) rfl ?_
              refine am_rg (p1_a3 _ _) 1 (b := (1, [some (.ref 6), some (.int a1)], [.int a1], p1_h23)) rfl ?_
              refine am_i1 rfl (t := 22) rfl (am_cT (b := 0) rfl (by show (a1.toInt < 0); omega)) ?_
              refine am_rg (p1_a3 _ _) 1 (b := (23, [some (.ref 6), some (.int a1)], [.int (-1)], p1_h23)) rfl ?_
              exact am_ri rfl rfl rfl
            refine am_rg (p1_a3 _ _) 1 (b := (7, [some (.ref 6), some (.int a1)], [.int 0, .int (-1), .ref 6], p1_h23)) rfl ?_
            refine am_cv (N := nm_m17) (as := [.ref 6, .int (-1), .int 0]) (rest := []) (v := .int (-1)) (h' := p1_h23) rfl (am_kv p1_c41 (by decide)) (by decide) rfl rfl rfl (fun _ => ⟨_, _, _, _, _, rfl, rfl, rfl, rfl⟩) (fun h => absurd h (by decide)) (Nat.le_of_ble_eq_true rfl) ?_ ?_
            · refine am_em (d := 10) nm_m17 rfl rfl (Nat.le_of_ble_eq_true rfl) rfl ?_
              refine am_rg (p1_a3 _ _) 3 (b := (37, [some (.ref 6), some (.int (-1)), some (.int 0)], [.int (-1)], p1_h23)) rfl ?_
              exact am_ri rfl rfl rfl
            exact am_ri rfl rfl rfl
          refine am_rg (p1_a3 _ _) 3 (b := (30, [some (.ref 6), some (.int a1), some (.int (-1))], [.int (-1)], p1_h23)) rfl ?_
          exact am_ri rfl rfl rfl
        exact am_ri rfl rfl rfl
      refine am_rg (p1_a0 _ _) 5 (b := (191, [some (.retAddr 0), some (.ref 0), some (.ref 20), some (.ref 60), some (.int 0), none, none], [.int 1, .retAddr 0, .ref 20, .int (-1)], p1_h23)) rfl ?_
      refine am_sl rfl rfl h1 ?_
      refine am_rg (p1_a0 _ _) 4 (b := (197, [some (.retAddr 0), some (.ref 0), some (.ref 20), some (.ref 60), some (.int 0), none, none], [.int 2, .retAddr 0, .int a1, .ref 20, .int (-1)], p1_h23)) rfl ?_
      refine am_sl rfl rfl h2 ?_
      refine am_cv (N := nm_m227) (as := [.ref 20, .int a1, .int 5]) (rest := [.int (-1)]) (v := .int (-1)) (h' := p1_h23) rfl (am_kv p1_c48 (by decide)) (by decide) rfl rfl rfl (fun _ => ⟨_, _, _, _, _, rfl, rfl, rfl, rfl⟩) (fun h => absurd h (by decide)) (Nat.le_of_ble_eq_true rfl) ?_ ?_
      · refine am_em (d := 13) nm_m227 rfl rfl (Nat.le_of_ble_eq_true rfl) rfl ?_
        refine am_rg (p1_a10 _ _) 4 (b := (6, [some (.ref 20), some (.int a1), some (.int 5), none, none, none, none], [.int a1], p1_h23)) rfl ?_
        refine am_i1 rfl (t := 17) rfl (am_cT (b := 0) rfl (by show (a1.toInt < 0); omega)) ?_
        refine am_rg (p1_a10 _ _) 1 (b := (18, [some (.ref 20), some (.int a1), some (.int 5), none, none, none, none], [.int (-1)], p1_h23)) rfl ?_
        exact am_ri rfl rfl rfl
      refine am_rg (p1_a0 _ _) 6 (b := (27, [some (.retAddr 0), some (.ref 0), some (.ref 20), some (.ref 60), some (.int 3), none, none], [.int 3, .int 3], p1_h23)) rfl ?_
      refine am_rg (p1_a0 _ _) 4 (b := (375, [some (.retAddr 0), some (.ref 0), some (.ref 20), some (.ref 60), some (.int 3), none, none], [.int 1], p1_h23)) rfl ?_
      exact am_ri rfl rfl rfl
    · skip
      refine ⟨p1_h23, ?_, Nat.le_of_ble_eq_true rfl, Nat.le_of_ble_eq_true rfl⟩
      refine am_rg (p1_a0 _ _) 3 (b := (27, [some (.retAddr 0), some (.ref 0), some (.ref 20), some (.ref 60), some (.int 0), none, none], [.int 3, .int 0], p1_h23)) rfl ?_
      refine am_rg (p1_a0 _ _) 5 (b := (35, [some (.retAddr 0), some (.ref 0), some (.ref 20), some (.ref 60), some (.int 0), none, none], [.int 0, .retAddr 0], p1_h23)) rfl ?_
      refine am_sl rfl rfl rfl ?_
      refine am_rg (p1_a0 _ _) 1 (b := (38, [some (.retAddr 0), some (.ref 0), some (.ref 20), some (.ref 60), some (.int 0), none, none], [.int 15, .int (xs 0)], p1_h23)) rfl ?_
      refine am_an rfl h0 ?_
      refine am_rg (p1_a0 _ _) 6 (b := (175, [some (.retAddr 0), some (.ref 0), some (.ref 20), some (.ref 60), some (.int 0), none, none], [.int 1, .retAddr 0, .ref 0], p1_h23)) rfl ?_
      refine am_sl rfl rfl h1 ?_
      refine am_rg (p1_a0 _ _) 4 (b := (181, [some (.retAddr 0), some (.ref 0), some (.ref 20), some (.ref 60), some (.int 0), none, none], [.int 2, .retAddr 0, .int a1, .ref 0], p1_h23)) rfl ?_
      refine am_sl rfl rfl h2 ?_
      refine am_cv (N := nm_m14) (as := [.ref 0, .int a1, .int 5]) (rest := []) (v := .int (-1)) (h' := p1_h23) rfl (am_kv p1_c47 (by decide)) (by decide) rfl rfl rfl (fun _ => ⟨_, _, _, _, _, rfl, rfl, rfl, rfl⟩) (fun h => absurd h (by decide)) (Nat.le_of_ble_eq_true rfl) ?_ ?_
      · refine am_em (d := 13) nm_m14 rfl rfl (Nat.le_of_ble_eq_true rfl) rfl ?_
        refine am_rg (p1_a1 _ _) 5 (b := (90, [some (.ref 0), some (.int a1), some (.int 5)], [.int a1, .ref 6], p1_h23)) rfl ?_
        refine am_cv (N := nm_m23) (as := [.ref 6, .int a1]) (rest := []) (v := .int (-1)) (h' := p1_h23) rfl (am_kv p1_c56 (by decide)) (by decide) rfl rfl rfl (fun _ => ⟨_, _, _, _, _, rfl, rfl, rfl, rfl⟩) (fun h => absurd h (by decide)) (Nat.le_of_ble_eq_true rfl) ?_ ?_
        · refine am_em (d := 12) nm_m23 rfl rfl (Nat.le_of_ble_eq_true rfl) rfl ?_
          refine am_rg (p1_a3 _ _) 3 (b := (3, [some (.ref 6), some (.int a1), none], [.int a1, .ref 6, .ref 6], p1_h23)) rfl ?_
          refine am_cv (N := nm_m16) (as := [.ref 6, .int a1]) (rest := [.ref 6]) (v := .int (-1)) (h' := p1_h23) rfl (am_kv p1_c50 (by decide)) (by decide) rfl rfl rfl (fun _ => ⟨_, _, _, _, _, rfl, rfl, rfl, rfl⟩) (fun h => absurd h (by decide)) (Nat.le_of_ble_eq_true rfl) ?_ ?_
          · refine am_em (d := 11) nm_m16 rfl rfl (Nat.le_of_ble_eq_true rfl) rfl ?_
            refine am_rg (p1_a3 _ _) 1 (b := (1, [some (.ref 6), some (.int a1)], [.int a1], p1_h23)) rfl ?_
            refine am_i0 rfl (t := 22) rfl (am_cF (b := 0) rfl (by show ¬ (a1.toInt < 0); omega)) ?_
            refine am_rg (p1_a3 _ _) 3 (b := (9, [some (.ref 6), some (.int a1)], [.int 0, .int a1], p1_h23)) rfl ?_
            refine am_j1 rfl (t := 22) rfl (am_cT (b := 0) rfl (by show (a1.toInt ≥ 0); omega)) ?_
            refine am_rg (p1_a3 _ _) 1 (b := (23, [some (.ref 6), some (.int a1)], [.int (-1)], p1_h23)) rfl ?_
            exact am_ri rfl rfl rfl
          refine am_rg (p1_a3 _ _) 1 (b := (7, [some (.ref 6), some (.int a1), none], [.int 3, .int (-1), .ref 6], p1_h23)) rfl ?_
          refine am_cv (N := nm_m17) (as := [.ref 6, .int (-1), .int 3]) (rest := []) (v := .int (-1)) (h' := p1_h23) rfl (am_kv p1_c41 (by decide)) (by decide) rfl rfl rfl (fun _ => ⟨_, _, _, _, _, rfl, rfl, rfl, rfl⟩) (fun h => absurd h (by decide)) (Nat.le_of_ble_eq_true rfl) ?_ ?_
          · refine am_em (d := 11) nm_m17 rfl rfl (Nat.le_of_ble_eq_true rfl) rfl ?_
            refine am_rg (p1_a3 _ _) 3 (b := (37, [some (.ref 6), some (.int (-1)), some (.int 3)], [.int (-1)], p1_h23)) rfl ?_
            exact am_ri rfl rfl rfl
          refine am_rg (p1_a3 _ _) 3 (b := (13, [some (.ref 6), some (.int a1), some (.int (-1))], [.int a1, .ref 6], p1_h23)) rfl ?_
          refine am_cv (N := nm_m15) (as := [.ref 6, .int a1]) (rest := []) (v := .int (-1)) (h' := p1_h23) rfl (am_kv p1_c57 (by decide)) (by decide) rfl rfl rfl (fun _ => ⟨_, _, _, _, _, rfl, rfl, rfl, rfl⟩) (fun h => absurd h (by decide)) (Nat.le_of_ble_eq_true rfl) ?_ ?_
          · refine am_em (d := 11) nm_m15 rfl rfl (Nat.le_of_ble_eq_true rfl) rfl ?_
            refine am_rg (p1_a3 _ _) 3 (b := (3, [some (.ref 6), some (.int a1)], [.int a1, .ref 6, .ref 6], p1_h23)) rfl ?_
            refine am_cv (N := nm_m16) (as := [.ref 6, .int a1]) (rest := [.ref 6]) (v := .int (-1)) (h' := p1_h23) rfl (am_kv p1_c50 (by decide)) (by decide) rfl rfl rfl (fun _ => ⟨_, _, _, _, _, rfl, rfl, rfl, rfl⟩) (fun h => absurd h (by decide)) (Nat.le_of_ble_eq_true rfl) ?_ ?_
            · refine am_em (d := 10) nm_m16 rfl rfl (Nat.le_of_ble_eq_true rfl) rfl ?_
              refine am_rg (p1_a3 _ _) 1 (b := (1, [some (.ref 6), some (.int a1)], [.int a1], p1_h23)) rfl ?_
              refine am_i0 rfl (t := 22) rfl (am_cF (b := 0) rfl (by show ¬ (a1.toInt < 0); omega)) ?_
              refine am_rg (p1_a3 _ _) 3 (b := (9, [some (.ref 6), some (.int a1)], [.int 0, .int a1], p1_h23)) rfl ?_
              refine am_j1 rfl (t := 22) rfl (am_cT (b := 0) rfl (by show (a1.toInt ≥ 0); omega)) ?_
              refine am_rg (p1_a3 _ _) 1 (b := (23, [some (.ref 6), some (.int a1)], [.int (-1)], p1_h23)) rfl ?_
              exact am_ri rfl rfl rfl
            refine am_rg (p1_a3 _ _) 1 (b := (7, [some (.ref 6), some (.int a1)], [.int 0, .int (-1), .ref 6], p1_h23)) rfl ?_
            refine am_cv (N := nm_m17) (as := [.ref 6, .int (-1), .int 0]) (rest := []) (v := .int (-1)) (h' := p1_h23) rfl (am_kv p1_c41 (by decide)) (by decide) rfl rfl rfl (fun _ => ⟨_, _, _, _, _, rfl, rfl, rfl, rfl⟩) (fun h => absurd h (by decide)) (Nat.le_of_ble_eq_true rfl) ?_ ?_
            · refine am_em (d := 10) nm_m17 rfl rfl (Nat.le_of_ble_eq_true rfl) rfl ?_
              refine am_rg (p1_a3 _ _) 3 (b := (37, [some (.ref 6), some (.int (-1)), some (.int 0)], [.int (-1)], p1_h23)) rfl ?_
              exact am_ri rfl rfl rfl
            exact am_ri rfl rfl rfl
          refine am_rg (p1_a3 _ _) 3 (b := (30, [some (.ref 6), some (.int a1), some (.int (-1))], [.int (-1)], p1_h23)) rfl ?_
          exact am_ri rfl rfl rfl
        exact am_ri rfl rfl rfl
      refine am_rg (p1_a0 _ _) 5 (b := (191, [some (.retAddr 0), some (.ref 0), some (.ref 20), some (.ref 60), some (.int 0), none, none], [.int 1, .retAddr 0, .ref 20, .int (-1)], p1_h23)) rfl ?_
      refine am_sl rfl rfl h1 ?_
      refine am_rg (p1_a0 _ _) 4 (b := (197, [some (.retAddr 0), some (.ref 0), some (.ref 20), some (.ref 60), some (.int 0), none, none], [.int 2, .retAddr 0, .int a1, .ref 20, .int (-1)], p1_h23)) rfl ?_
      refine am_sl rfl rfl h2 ?_
      refine am_cv (N := nm_m227) (as := [.ref 20, .int a1, .int 5]) (rest := [.int (-1)]) (v := .int (-1)) (h' := p1_h23) rfl (am_kv p1_c48 (by decide)) (by decide) rfl rfl rfl (fun _ => ⟨_, _, _, _, _, rfl, rfl, rfl, rfl⟩) (fun h => absurd h (by decide)) (Nat.le_of_ble_eq_true rfl) ?_ ?_
      · refine am_em (d := 13) nm_m227 rfl rfl (Nat.le_of_ble_eq_true rfl) rfl ?_
        refine am_rg (p1_a10 _ _) 4 (b := (6, [some (.ref 20), some (.int a1), some (.int 5), none, none, none, none], [.int a1], p1_h23)) rfl ?_
        refine am_i0 rfl (t := 17) rfl (am_cF (b := 0) rfl (by show ¬ (a1.toInt < 0); omega)) ?_
        refine am_rg (p1_a10 _ _) 3 (b := (14, [some (.ref 20), some (.int a1), some (.int 5), none, none, none, none], [.int 0, .int a1], p1_h23)) rfl ?_
        refine am_j0 rfl (t := 19) rfl (am_cF (b := 0) rfl (by show ¬ (a1.toInt < 0); omega)) ?_
        refine am_rg (p1_a10 _ _) 1 (b := (18, [some (.ref 20), some (.int a1), some (.int 5), none, none, none, none], [.int (-1)], p1_h23)) rfl ?_
        exact am_ri rfl rfl rfl
      refine am_rg (p1_a0 _ _) 6 (b := (27, [some (.retAddr 0), some (.ref 0), some (.ref 20), some (.ref 60), some (.int 3), none, none], [.int 3, .int 3], p1_h23)) rfl ?_
      refine am_rg (p1_a0 _ _) 4 (b := (375, [some (.retAddr 0), some (.ref 0), some (.ref 20), some (.ref 60), some (.int 3), none, none], [.int 1], p1_h23)) rfl ?_
      exact am_ri rfl rfl rfl
set_option maxRecDepth 100000 in
set_option maxHeartbeats 4000000 in
theorem p1_o3 (xs : Nat → Int32) (a1 a2 : Int32) (h1 : xs 1 = a1) (h2 : xs 2 = a2) (h0 : xs 0 &&& 15 = 3) : ∃ hf : am_H, am_Go (nm_F 3 xs) nm_cls nm_ms (am_Ev (nm_F 3 xs) nm_cls nm_ms 14) nm_law (.inl (some (.int 1)), hf) (none, (23, [some (.retAddr 0), some (.ref 0), some (.ref 20), some (.ref 60), some (.int 0), none, none], [], p1_h23)) ∧ hf.length ≤ 600002 ∧ am_sz hf ≤ 7302232 := by
  have d1 : a1.toInt < 0 ∨ 0 ≤ a1.toInt := by omega
  rcases d1 with d1 | d1
  · skip
    have d2 : a2.toInt < 0 ∨ 0 ≤ a2.toInt := by omega
    rcases d2 with d2 | d2
    · skip
      refine ⟨p1_h23, ?_, Nat.le_of_ble_eq_true rfl, Nat.le_of_ble_eq_true rfl⟩
      refine am_rg (p1_a0 _ _) 3 (b := (27, [some (.retAddr 0), some (.ref 0), some (.ref 20), some (.ref 60), some (.int 0), none, none], [.int 3, .int 0], p1_h23)) rfl ?_
      refine am_rg (p1_a0 _ _) 5 (b := (35, [some (.retAddr 0), some (.ref 0), some (.ref 20), some (.ref 60), some (.int 0), none, none], [.int 0, .retAddr 0], p1_h23)) rfl ?_
      refine am_sl rfl rfl rfl ?_
      refine am_rg (p1_a0 _ _) 1 (b := (38, [some (.retAddr 0), some (.ref 0), some (.ref 20), some (.ref 60), some (.int 0), none, none], [.int 15, .int (xs 0)], p1_h23)) rfl ?_
      refine am_an rfl h0 ?_
      refine am_rg (p1_a0 _ _) 6 (b := (212, [some (.retAddr 0), some (.ref 0), some (.ref 20), some (.ref 60), some (.int 0), none, none], [.int 1, .retAddr 0, .ref 0], p1_h23)) rfl ?_
      refine am_sl rfl rfl h1 ?_
      refine am_rg (p1_a0 _ _) 4 (b := (218, [some (.retAddr 0), some (.ref 0), some (.ref 20), some (.ref 60), some (.int 0), none, none], [.int 2, .retAddr 0, .int a1, .ref 0], p1_h23)) rfl ?_
      refine am_sl rfl rfl h2 ?_
      refine am_cv (N := nm_m24) (as := [.ref 0, .int a1, .int a2]) (rest := []) (v := .int (-1)) (h' := p1_h23) rfl (am_kv p1_c58 (by decide)) (by decide) rfl rfl rfl (fun _ => ⟨_, _, _, _, _, rfl, rfl, rfl, rfl⟩) (fun h => absurd h (by decide)) (Nat.le_of_ble_eq_true rfl) ?_ ?_
      · refine am_em (d := 13) nm_m24 rfl rfl (Nat.le_of_ble_eq_true rfl) rfl ?_
        refine am_rg (p1_a1 _ _) 4 (b := (6, [some (.ref 0), some (.int a1), some (.int a2)], [.int a2, .int a1, .ref 6], p1_h23)) rfl ?_
        refine am_cv (N := nm_m25) (as := [.ref 6, .int a1, .int a2]) (rest := []) (v := .int (-1)) (h' := p1_h23) rfl (am_kv p1_c59 (by decide)) (by decide) rfl rfl rfl (fun _ => ⟨_, _, _, _, _, rfl, rfl, rfl, rfl⟩) (fun h => absurd h (by decide)) (Nat.le_of_ble_eq_true rfl) ?_ ?_
        · refine am_em (d := 12) nm_m25 rfl rfl (Nat.le_of_ble_eq_true rfl) rfl ?_
          refine am_rg (p1_a3 _ _) 2 (b := (2, [some (.ref 6), some (.int a1), some (.int a2), none, none, none], [.int a1, .ref 6], p1_h23)) rfl ?_
          refine am_cv (N := nm_m16) (as := [.ref 6, .int a1]) (rest := []) (v := .int (-1)) (h' := p1_h23) rfl (am_kv p1_c50 (by decide)) (by decide) rfl rfl rfl (fun _ => ⟨_, _, _, _, _, rfl, rfl, rfl, rfl⟩) (fun h => absurd h (by decide)) (Nat.le_of_ble_eq_true rfl) ?_ ?_
          · refine am_em (d := 11) nm_m16 rfl rfl (Nat.le_of_ble_eq_true rfl) rfl ?_
            refine am_rg (p1_a3 _ _) 1 (b := (1, [some (.ref 6), some (.int a1)], [.int a1], p1_h23)) rfl ?_
            refine am_i1 rfl (t := 22) rfl (am_cT (b := 0) rfl (by show (a1.toInt < 0); omega)) ?_
            refine am_rg (p1_a3 _ _) 1 (b := (23, [some (.ref 6), some (.int a1)], [.int (-1)], p1_h23)) rfl ?_
            exact am_ri rfl rfl rfl
          refine am_rg (p1_a3 _ _) 2 (b := (7, [some (.ref 6), some (.int a1), some (.int a2), some (.int (-1)), none, none], [.int a2], p1_h23)) rfl ?_
          refine am_i1 rfl (t := 21) rfl (am_cT (b := 0) rfl (by show (a2.toInt < 0); omega)) ?_
          refine am_rg (p1_a3 _ _) 1 (b := (22, [some (.ref 6), some (.int a1), some (.int a2), some (.int (-1)), none, none], [.int (-1)], p1_h23)) rfl ?_
          exact am_ri rfl rfl rfl
        exact am_ri rfl rfl rfl
      refine am_rg (p1_a0 _ _) 5 (b := (228, [some (.retAddr 0), some (.ref 0), some (.ref 20), some (.ref 60), some (.int 0), none, none], [.int 1, .retAddr 0, .ref 20, .int (-1)], p1_h23)) rfl ?_
      refine am_sl rfl rfl h1 ?_
      refine am_rg (p1_a0 _ _) 4 (b := (234, [some (.retAddr 0), some (.ref 0), some (.ref 20), some (.ref 60), some (.int 0), none, none], [.int 2, .retAddr 0, .int a1, .ref 20, .int (-1)], p1_h23)) rfl ?_
      refine am_sl rfl rfl h2 ?_
      refine am_cv (N := nm_m229) (as := [.ref 20, .int a1, .int a2]) (rest := [.int (-1)]) (v := .int (-1)) (h' := p1_h23) rfl (am_kv p1_c60 (by decide)) (by decide) rfl rfl rfl (fun _ => ⟨_, _, _, _, _, rfl, rfl, rfl, rfl⟩) (fun h => absurd h (by decide)) (Nat.le_of_ble_eq_true rfl) ?_ ?_
      · refine am_em (d := 13) nm_m229 rfl rfl (Nat.le_of_ble_eq_true rfl) rfl ?_
        refine am_rg (p1_a10 _ _) 4 (b := (6, [some (.ref 20), some (.int a1), some (.int a2), none, none], [.int a1], p1_h23)) rfl ?_
        refine am_i1 rfl (t := 21) rfl (am_cT (b := 0) rfl (by show (a1.toInt < 0); omega)) ?_
        refine am_rg (p1_a10 _ _) 1 (b := (22, [some (.ref 20), some (.int a1), some (.int a2), none, none], [.int (-1)], p1_h23)) rfl ?_
        exact am_ri rfl rfl rfl
      refine am_rg (p1_a0 _ _) 6 (b := (27, [some (.retAddr 0), some (.ref 0), some (.ref 20), some (.ref 60), some (.int 3), none, none], [.int 3, .int 3], p1_h23)) rfl ?_
      refine am_rg (p1_a0 _ _) 4 (b := (375, [some (.retAddr 0), some (.ref 0), some (.ref 20), some (.ref 60), some (.int 3), none, none], [.int 1], p1_h23)) rfl ?_
      exact am_ri rfl rfl rfl
    · skip
      refine ⟨p1_h23, ?_, Nat.le_of_ble_eq_true rfl, Nat.le_of_ble_eq_true rfl⟩
      refine am_rg (p1_a0 _ _) 3 (b := (27, [some (.retAddr 0), some (.ref 0), some (.ref 20), some (.ref 60), some (.int 0), none, none], [.int 3, .int 0], p1_h23)) rfl ?_
      refine am_rg (p1_a0 _ _) 5 (b := (35, [some (.retAddr 0), some (.ref 0), some (.ref 20), some (.ref 60), some (.int 0), none, none], [.int 0, .retAddr 0], p1_h23)) rfl ?_
      refine am_sl rfl rfl rfl ?_
      refine am_rg (p1_a0 _ _) 1 (b := (38, [some (.retAddr 0), some (.ref 0), some (.ref 20), some (.ref 60), some (.int 0), none, none], [.int 15, .int (xs 0)], p1_h23)) rfl ?_
      refine am_an rfl h0 ?_
      refine am_rg (p1_a0 _ _) 6 (b := (212, [some (.retAddr 0), some (.ref 0), some (.ref 20), some (.ref 60), some (.int 0), none, none], [.int 1, .retAddr 0, .ref 0], p1_h23)) rfl ?_
      refine am_sl rfl rfl h1 ?_
      refine am_rg (p1_a0 _ _) 4 (b := (218, [some (.retAddr 0), some (.ref 0), some (.ref 20), some (.ref 60), some (.int 0), none, none], [.int 2, .retAddr 0, .int a1, .ref 0], p1_h23)) rfl ?_
      refine am_sl rfl rfl h2 ?_
      refine am_cv (N := nm_m24) (as := [.ref 0, .int a1, .int a2]) (rest := []) (v := .int (-1)) (h' := p1_h23) rfl (am_kv p1_c58 (by decide)) (by decide) rfl rfl rfl (fun _ => ⟨_, _, _, _, _, rfl, rfl, rfl, rfl⟩) (fun h => absurd h (by decide)) (Nat.le_of_ble_eq_true rfl) ?_ ?_
      · refine am_em (d := 13) nm_m24 rfl rfl (Nat.le_of_ble_eq_true rfl) rfl ?_
        refine am_rg (p1_a1 _ _) 4 (b := (6, [some (.ref 0), some (.int a1), some (.int a2)], [.int a2, .int a1, .ref 6], p1_h23)) rfl ?_
        refine am_cv (N := nm_m25) (as := [.ref 6, .int a1, .int a2]) (rest := []) (v := .int (-1)) (h' := p1_h23) rfl (am_kv p1_c59 (by decide)) (by decide) rfl rfl rfl (fun _ => ⟨_, _, _, _, _, rfl, rfl, rfl, rfl⟩) (fun h => absurd h (by decide)) (Nat.le_of_ble_eq_true rfl) ?_ ?_
        · refine am_em (d := 12) nm_m25 rfl rfl (Nat.le_of_ble_eq_true rfl) rfl ?_
          refine am_rg (p1_a3 _ _) 2 (b := (2, [some (.ref 6), some (.int a1), some (.int a2), none, none, none], [.int a1, .ref 6], p1_h23)) rfl ?_
          refine am_cv (N := nm_m16) (as := [.ref 6, .int a1]) (rest := []) (v := .int (-1)) (h' := p1_h23) rfl (am_kv p1_c50 (by decide)) (by decide) rfl rfl rfl (fun _ => ⟨_, _, _, _, _, rfl, rfl, rfl, rfl⟩) (fun h => absurd h (by decide)) (Nat.le_of_ble_eq_true rfl) ?_ ?_
          · refine am_em (d := 11) nm_m16 rfl rfl (Nat.le_of_ble_eq_true rfl) rfl ?_
            refine am_rg (p1_a3 _ _) 1 (b := (1, [some (.ref 6), some (.int a1)], [.int a1], p1_h23)) rfl ?_
            refine am_i1 rfl (t := 22) rfl (am_cT (b := 0) rfl (by show (a1.toInt < 0); omega)) ?_
            refine am_rg (p1_a3 _ _) 1 (b := (23, [some (.ref 6), some (.int a1)], [.int (-1)], p1_h23)) rfl ?_
            exact am_ri rfl rfl rfl
          refine am_rg (p1_a3 _ _) 2 (b := (7, [some (.ref 6), some (.int a1), some (.int a2), some (.int (-1)), none, none], [.int a2], p1_h23)) rfl ?_
          refine am_i0 rfl (t := 21) rfl (am_cF (b := 0) rfl (by show ¬ (a2.toInt < 0); omega)) ?_
          refine am_rg (p1_a3 _ _) 4 (b := (15, [some (.ref 6), some (.int a1), some (.int a2), some (.int (-1)), none, none], [.int 8, .int (-1), .ref 6, .int a2], p1_h23)) rfl ?_
          refine am_cv (N := nm_m17) (as := [.ref 6, .int (-1), .int 8]) (rest := [.int a2]) (v := .int (-1)) (h' := p1_h23) rfl (am_kv p1_c41 (by decide)) (by decide) rfl rfl rfl (fun _ => ⟨_, _, _, _, _, rfl, rfl, rfl, rfl⟩) (fun h => absurd h (by decide)) (Nat.le_of_ble_eq_true rfl) ?_ ?_
          · refine am_em (d := 11) nm_m17 rfl rfl (Nat.le_of_ble_eq_true rfl) rfl ?_
            refine am_rg (p1_a3 _ _) 3 (b := (37, [some (.ref 6), some (.int (-1)), some (.int 8)], [.int (-1)], p1_h23)) rfl ?_
            exact am_ri rfl rfl rfl
          refine am_j0 rfl (t := 23) rfl (am_cF (b := (-1)) rfl (by show ¬ (a2.toInt < (-1)); omega)) ?_
          refine am_rg (p1_a3 _ _) 1 (b := (22, [some (.ref 6), some (.int a1), some (.int a2), some (.int (-1)), none, none], [.int (-1)], p1_h23)) rfl ?_
          exact am_ri rfl rfl rfl
        exact am_ri rfl rfl rfl
      refine am_rg (p1_a0 _ _) 5 (b := (228, [some (.retAddr 0), some (.ref 0), some (.ref 20), some (.ref 60), some (.int 0), none, none], [.int 1, .retAddr 0, .ref 20, .int (-1)], p1_h23)) rfl ?_
      refine am_sl rfl rfl h1 ?_
      refine am_rg (p1_a0 _ _) 4 (b := (234, [some (.retAddr 0), some (.ref 0), some (.ref 20), some (.ref 60), some (.int 0), none, none], [.int 2, .retAddr 0, .int a1, .ref 20, .int (-1)], p1_h23)) rfl ?_
      refine am_sl rfl rfl h2 ?_
      refine am_cv (N := nm_m229) (as := [.ref 20, .int a1, .int a2]) (rest := [.int (-1)]) (v := .int (-1)) (h' := p1_h23) rfl (am_kv p1_c60 (by decide)) (by decide) rfl rfl rfl (fun _ => ⟨_, _, _, _, _, rfl, rfl, rfl, rfl⟩) (fun h => absurd h (by decide)) (Nat.le_of_ble_eq_true rfl) ?_ ?_
      · refine am_em (d := 13) nm_m229 rfl rfl (Nat.le_of_ble_eq_true rfl) rfl ?_
        refine am_rg (p1_a10 _ _) 4 (b := (6, [some (.ref 20), some (.int a1), some (.int a2), none, none], [.int a1], p1_h23)) rfl ?_
        refine am_i1 rfl (t := 21) rfl (am_cT (b := 0) rfl (by show (a1.toInt < 0); omega)) ?_
        refine am_rg (p1_a10 _ _) 1 (b := (22, [some (.ref 20), some (.int a1), some (.int a2), none, none], [.int (-1)], p1_h23)) rfl ?_
        exact am_ri rfl rfl rfl
      refine am_rg (p1_a0 _ _) 6 (b := (27, [some (.retAddr 0), some (.ref 0), some (.ref 20), some (.ref 60), some (.int 3), none, none], [.int 3, .int 3], p1_h23)) rfl ?_
      refine am_rg (p1_a0 _ _) 4 (b := (375, [some (.retAddr 0), some (.ref 0), some (.ref 20), some (.ref 60), some (.int 3), none, none], [.int 1], p1_h23)) rfl ?_
      exact am_ri rfl rfl rfl
  · skip
    have d2 : a2.toInt < 0 ∨ 0 ≤ a2.toInt := by omega
    rcases d2 with d2 | d2
    · skip
      refine ⟨p1_h23, ?_, Nat.le_of_ble_eq_true rfl, Nat.le_of_ble_eq_true rfl⟩
      refine am_rg (p1_a0 _ _) 3 (b := (27, [some (.retAddr 0), some (.ref 0), some (.ref 20), some (.ref 60), some (.int 0), none, none], [.int 3, .int 0], p1_h23)) rfl ?_
      refine am_rg (p1_a0 _ _) 5 (b := (35, [some (.retAddr 0), some (.ref 0), some (.ref 20), some (.ref 60), some (.int 0), none, none], [.int 0, .retAddr 0], p1_h23)) rfl ?_
      refine am_sl rfl rfl rfl ?_
      refine am_rg (p1_a0 _ _) 1 (b := (38, [some (.retAddr 0), some (.ref 0), some (.ref 20), some (.ref 60), some (.int 0), none, none], [.int 15, .int (xs 0)], p1_h23)) rfl ?_
      refine am_an rfl h0 ?_
      refine am_rg (p1_a0 _ _) 6 (b := (212, [some (.retAddr 0), some (.ref 0), some (.ref 20), some (.ref 60), some (.int 0), none, none], [.int 1, .retAddr 0, .ref 0], p1_h23)) rfl ?_
      refine am_sl rfl rfl h1 ?_
      refine am_rg (p1_a0 _ _) 4 (b := (218, [some (.retAddr 0), some (.ref 0), some (.ref 20), some (.ref 60), some (.int 0), none, none], [.int 2, .retAddr 0, .int a1, .ref 0], p1_h23)) rfl ?_
      refine am_sl rfl rfl h2 ?_
      refine am_cv (N := nm_m24) (as := [.ref 0, .int a1, .int a2]) (rest := []) (v := .int (-1)) (h' := p1_h23) rfl (am_kv p1_c58 (by decide)) (by decide) rfl rfl rfl (fun _ => ⟨_, _, _, _, _, rfl, rfl, rfl, rfl⟩) (fun h => absurd h (by decide)) (Nat.le_of_ble_eq_true rfl) ?_ ?_
      · refine am_em (d := 13) nm_m24 rfl rfl (Nat.le_of_ble_eq_true rfl) rfl ?_
        refine am_rg (p1_a1 _ _) 4 (b := (6, [some (.ref 0), some (.int a1), some (.int a2)], [.int a2, .int a1, .ref 6], p1_h23)) rfl ?_
        refine am_cv (N := nm_m25) (as := [.ref 6, .int a1, .int a2]) (rest := []) (v := .int (-1)) (h' := p1_h23) rfl (am_kv p1_c59 (by decide)) (by decide) rfl rfl rfl (fun _ => ⟨_, _, _, _, _, rfl, rfl, rfl, rfl⟩) (fun h => absurd h (by decide)) (Nat.le_of_ble_eq_true rfl) ?_ ?_
        · refine am_em (d := 12) nm_m25 rfl rfl (Nat.le_of_ble_eq_true rfl) rfl ?_
          refine am_rg (p1_a3 _ _) 2 (b := (2, [some (.ref 6), some (.int a1), some (.int a2), none, none, none], [.int a1, .ref 6], p1_h23)) rfl ?_
          refine am_cv (N := nm_m16) (as := [.ref 6, .int a1]) (rest := []) (v := .int (-1)) (h' := p1_h23) rfl (am_kv p1_c50 (by decide)) (by decide) rfl rfl rfl (fun _ => ⟨_, _, _, _, _, rfl, rfl, rfl, rfl⟩) (fun h => absurd h (by decide)) (Nat.le_of_ble_eq_true rfl) ?_ ?_
          · refine am_em (d := 11) nm_m16 rfl rfl (Nat.le_of_ble_eq_true rfl) rfl ?_
            refine am_rg (p1_a3 _ _) 1 (b := (1, [some (.ref 6), some (.int a1)], [.int a1], p1_h23)) rfl ?_
            refine am_i0 rfl (t := 22) rfl (am_cF (b := 0) rfl (by show ¬ (a1.toInt < 0); omega)) ?_
            refine am_rg (p1_a3 _ _) 3 (b := (9, [some (.ref 6), some (.int a1)], [.int 0, .int a1], p1_h23)) rfl ?_
            refine am_j1 rfl (t := 22) rfl (am_cT (b := 0) rfl (by show (a1.toInt ≥ 0); omega)) ?_
            refine am_rg (p1_a3 _ _) 1 (b := (23, [some (.ref 6), some (.int a1)], [.int (-1)], p1_h23)) rfl ?_
            exact am_ri rfl rfl rfl
          refine am_rg (p1_a3 _ _) 2 (b := (7, [some (.ref 6), some (.int a1), some (.int a2), some (.int (-1)), none, none], [.int a2], p1_h23)) rfl ?_
          refine am_i1 rfl (t := 21) rfl (am_cT (b := 0) rfl (by show (a2.toInt < 0); omega)) ?_
          refine am_rg (p1_a3 _ _) 1 (b := (22, [some (.ref 6), some (.int a1), some (.int a2), some (.int (-1)), none, none], [.int (-1)], p1_h23)) rfl ?_
          exact am_ri rfl rfl rfl
        exact am_ri rfl rfl rfl
      refine am_rg (p1_a0 _ _) 5 (b := (228, [some (.retAddr 0), some (.ref 0), some (.ref 20), some (.ref 60), some (.int 0), none, none], [.int 1, .retAddr 0, .ref 20, .int (-1)], p1_h23)) rfl ?_
      refine am_sl rfl rfl h1 ?_
      refine am_rg (p1_a0 _ _) 4 (b := (234, [some (.retAddr 0), some (.ref 0), some (.ref 20), some (.ref 60), some (.int 0), none, none], [.int 2, .retAddr 0, .int a1, .ref 20, .int (-1)], p1_h23)) rfl ?_
      refine am_sl rfl rfl h2 ?_
      refine am_cv (N := nm_m229) (as := [.ref 20, .int a1, .int a2]) (rest := [.int (-1)]) (v := .int (-1)) (h' := p1_h23) rfl (am_kv p1_c60 (by decide)) (by decide) rfl rfl rfl (fun _ => ⟨_, _, _, _, _, rfl, rfl, rfl, rfl⟩) (fun h => absurd h (by decide)) (Nat.le_of_ble_eq_true rfl) ?_ ?_
      · refine am_em (d := 13) nm_m229 rfl rfl (Nat.le_of_ble_eq_true rfl) rfl ?_
        refine am_rg (p1_a10 _ _) 4 (b := (6, [some (.ref 20), some (.int a1), some (.int a2), none, none], [.int a1], p1_h23)) rfl ?_
        refine am_i0 rfl (t := 21) rfl (am_cF (b := 0) rfl (by show ¬ (a1.toInt < 0); omega)) ?_
        refine am_rg (p1_a10 _ _) 3 (b := (14, [some (.ref 20), some (.int a1), some (.int a2), none, none], [.int 0, .int a1], p1_h23)) rfl ?_
        refine am_j1 rfl (t := 21) rfl (am_cT (b := 0) rfl (by show (a1.toInt ≥ 0); omega)) ?_
        refine am_rg (p1_a10 _ _) 1 (b := (22, [some (.ref 20), some (.int a1), some (.int a2), none, none], [.int (-1)], p1_h23)) rfl ?_
        exact am_ri rfl rfl rfl
      refine am_rg (p1_a0 _ _) 6 (b := (27, [some (.retAddr 0), some (.ref 0), some (.ref 20), some (.ref 60), some (.int 3), none, none], [.int 3, .int 3], p1_h23)) rfl ?_
      refine am_rg (p1_a0 _ _) 4 (b := (375, [some (.retAddr 0), some (.ref 0), some (.ref 20), some (.ref 60), some (.int 3), none, none], [.int 1], p1_h23)) rfl ?_
      exact am_ri rfl rfl rfl
    · skip
      refine ⟨p1_h23, ?_, Nat.le_of_ble_eq_true rfl, Nat.le_of_ble_eq_true rfl⟩
      refine am_rg (p1_a0 _ _) 3 (b := (27, [some (.retAddr 0), some (.ref 0), some (.ref 20), some (.ref 60), some (.int 0), none, none], [.int 3, .int 0], p1_h23)) rfl ?_
      refine am_rg (p1_a0 _ _) 5 (b := (35, [some (.retAddr 0), some (.ref 0), some (.ref 20), some (.ref 60), some (.int 0), none, none], [.int 0, .retAddr 0], p1_h23)) rfl ?_
      refine am_sl rfl rfl rfl ?_
      refine am_rg (p1_a0 _ _) 1 (b := (38, [some (.retAddr 0), some (.ref 0), some (.ref 20), some (.ref 60), some (.int 0), none, none], [.int 15, .int (xs 0)], p1_h23)) rfl ?_
      refine am_an rfl h0 ?_
      refine am_rg (p1_a0 _ _) 6 (b := (212, [some (.retAddr 0), some (.ref 0), some (.ref 20), some (.ref 60), some (.int 0), none, none], [.int 1, .retAddr 0, .ref 0], p1_h23)) rfl ?_
      refine am_sl rfl rfl h1 ?_
      refine am_rg (p1_a0 _ _) 4 (b := (218, [some (.retAddr 0), some (.ref 0), some (.ref 20), some (.ref 60), some (.int 0), none, none], [.int 2, .retAddr 0, .int a1, .ref 0], p1_h23)) rfl ?_
      refine am_sl rfl rfl h2 ?_
      refine am_cv (N := nm_m24) (as := [.ref 0, .int a1, .int a2]) (rest := []) (v := .int (-1)) (h' := p1_h23) rfl (am_kv p1_c58 (by decide)) (by decide) rfl rfl rfl (fun _ => ⟨_, _, _, _, _, rfl, rfl, rfl, rfl⟩) (fun h => absurd h (by decide)) (Nat.le_of_ble_eq_true rfl) ?_ ?_
      · refine am_em (d := 13) nm_m24 rfl rfl (Nat.le_of_ble_eq_true rfl) rfl ?_
        refine am_rg (p1_a1 _ _) 4 (b := (6, [some (.ref 0), some (.int a1), some (.int a2)], [.int a2, .int a1, .ref 6], p1_h23)) rfl ?_
        refine am_cv (N := nm_m25) (as := [.ref 6, .int a1, .int a2]) (rest := []) (v := .int (-1)) (h' := p1_h23) rfl (am_kv p1_c59 (by decide)) (by decide) rfl rfl rfl (fun _ => ⟨_, _, _, _, _, rfl, rfl, rfl, rfl⟩) (fun h => absurd h (by decide)) (Nat.le_of_ble_eq_true rfl) ?_ ?_
        · refine am_em (d := 12) nm_m25 rfl rfl (Nat.le_of_ble_eq_true rfl) rfl ?_
          refine am_rg (p1_a3 _ _) 2 (b := (2, [some (.ref 6), some (.int a1), some (.int a2), none, none, none], [.int a1, .ref 6], p1_h23)) rfl ?_
          refine am_cv (N := nm_m16) (as := [.ref 6, .int a1]) (rest := []) (v := .int (-1)) (h' := p1_h23) rfl (am_kv p1_c50 (by decide)) (by decide) rfl rfl rfl (fun _ => ⟨_, _, _, _, _, rfl, rfl, rfl, rfl⟩) (fun h => absurd h (by decide)) (Nat.le_of_ble_eq_true rfl) ?_ ?_
          · refine am_em (d := 11) nm_m16 rfl rfl (Nat.le_of_ble_eq_true rfl) rfl ?_
            refine am_rg (p1_a3 _ _) 1 (b := (1, [some (.ref 6), some (.int a1)], [.int a1], p1_h23)) rfl ?_
            refine am_i0 rfl (t := 22) rfl (am_cF (b := 0) rfl (by show ¬ (a1.toInt < 0); omega)) ?_
            refine am_rg (p1_a3 _ _) 3 (b := (9, [some (.ref 6), some (.int a1)], [.int 0, .int a1], p1_h23)) rfl ?_
            refine am_j1 rfl (t := 22) rfl (am_cT (b := 0) rfl (by show (a1.toInt ≥ 0); omega)) ?_
            refine am_rg (p1_a3 _ _) 1 (b := (23, [some (.ref 6), some (.int a1)], [.int (-1)], p1_h23)) rfl ?_
            exact am_ri rfl rfl rfl
          refine am_rg (p1_a3 _ _) 2 (b := (7, [some (.ref 6), some (.int a1), some (.int a2), some (.int (-1)), none, none], [.int a2], p1_h23)) rfl ?_
          refine am_i0 rfl (t := 21) rfl (am_cF (b := 0) rfl (by show ¬ (a2.toInt < 0); omega)) ?_
          refine am_rg (p1_a3 _ _) 4 (b := (15, [some (.ref 6), some (.int a1), some (.int a2), some (.int (-1)), none, none], [.int 8, .int (-1), .ref 6, .int a2], p1_h23)) rfl ?_
          refine am_cv (N := nm_m17) (as := [.ref 6, .int (-1), .int 8]) (rest := [.int a2]) (v := .int (-1)) (h' := p1_h23) rfl (am_kv p1_c41 (by decide)) (by decide) rfl rfl rfl (fun _ => ⟨_, _, _, _, _, rfl, rfl, rfl, rfl⟩) (fun h => absurd h (by decide)) (Nat.le_of_ble_eq_true rfl) ?_ ?_
          · refine am_em (d := 11) nm_m17 rfl rfl (Nat.le_of_ble_eq_true rfl) rfl ?_
            refine am_rg (p1_a3 _ _) 3 (b := (37, [some (.ref 6), some (.int (-1)), some (.int 8)], [.int (-1)], p1_h23)) rfl ?_
            exact am_ri rfl rfl rfl
          refine am_j0 rfl (t := 23) rfl (am_cF (b := (-1)) rfl (by show ¬ (a2.toInt < (-1)); omega)) ?_
          refine am_rg (p1_a3 _ _) 1 (b := (22, [some (.ref 6), some (.int a1), some (.int a2), some (.int (-1)), none, none], [.int (-1)], p1_h23)) rfl ?_
          exact am_ri rfl rfl rfl
        exact am_ri rfl rfl rfl
      refine am_rg (p1_a0 _ _) 5 (b := (228, [some (.retAddr 0), some (.ref 0), some (.ref 20), some (.ref 60), some (.int 0), none, none], [.int 1, .retAddr 0, .ref 20, .int (-1)], p1_h23)) rfl ?_
      refine am_sl rfl rfl h1 ?_
      refine am_rg (p1_a0 _ _) 4 (b := (234, [some (.retAddr 0), some (.ref 0), some (.ref 20), some (.ref 60), some (.int 0), none, none], [.int 2, .retAddr 0, .int a1, .ref 20, .int (-1)], p1_h23)) rfl ?_
      refine am_sl rfl rfl h2 ?_
      refine am_cv (N := nm_m229) (as := [.ref 20, .int a1, .int a2]) (rest := [.int (-1)]) (v := .int (-1)) (h' := p1_h23) rfl (am_kv p1_c60 (by decide)) (by decide) rfl rfl rfl (fun _ => ⟨_, _, _, _, _, rfl, rfl, rfl, rfl⟩) (fun h => absurd h (by decide)) (Nat.le_of_ble_eq_true rfl) ?_ ?_
      · refine am_em (d := 13) nm_m229 rfl rfl (Nat.le_of_ble_eq_true rfl) rfl ?_
        refine am_rg (p1_a10 _ _) 4 (b := (6, [some (.ref 20), some (.int a1), some (.int a2), none, none], [.int a1], p1_h23)) rfl ?_
        refine am_i0 rfl (t := 21) rfl (am_cF (b := 0) rfl (by show ¬ (a1.toInt < 0); omega)) ?_
        refine am_rg (p1_a10 _ _) 3 (b := (14, [some (.ref 20), some (.int a1), some (.int a2), none, none], [.int 0, .int a1], p1_h23)) rfl ?_
        refine am_j1 rfl (t := 21) rfl (am_cT (b := 0) rfl (by show (a1.toInt ≥ 0); omega)) ?_
        refine am_rg (p1_a10 _ _) 1 (b := (22, [some (.ref 20), some (.int a1), some (.int a2), none, none], [.int (-1)], p1_h23)) rfl ?_
        exact am_ri rfl rfl rfl
      refine am_rg (p1_a0 _ _) 6 (b := (27, [some (.retAddr 0), some (.ref 0), some (.ref 20), some (.ref 60), some (.int 3), none, none], [.int 3, .int 3], p1_h23)) rfl ?_
      refine am_rg (p1_a0 _ _) 4 (b := (375, [some (.retAddr 0), some (.ref 0), some (.ref 20), some (.ref 60), some (.int 3), none, none], [.int 1], p1_h23)) rfl ?_
      exact am_ri rfl rfl rfl
set_option maxRecDepth 100000 in
set_option maxHeartbeats 4000000 in
theorem p1_o4 (xs : Nat → Int32) (a1 a2 : Int32) (h1 : xs 1 = a1) (h2 : xs 2 = a2) (h0 : xs 0 &&& 15 = 4) : ∃ hf : am_H, am_Go (nm_F 3 xs) nm_cls nm_ms (am_Ev (nm_F 3 xs) nm_cls nm_ms 14) nm_law (.inl (some (.int 1)), hf) (none, (23, [some (.retAddr 0), some (.ref 0), some (.ref 20), some (.ref 60), some (.int 0), none, none], [], p1_h23)) ∧ hf.length ≤ 600002 ∧ am_sz hf ≤ 7302232 := by
  refine ⟨p1_h23, ?_, Nat.le_of_ble_eq_true rfl, Nat.le_of_ble_eq_true rfl⟩
  refine am_rg (p1_a0 _ _) 3 (b := (27, [some (.retAddr 0), some (.ref 0), some (.ref 20), some (.ref 60), some (.int 0), none, none], [.int 3, .int 0], p1_h23)) rfl ?_
  refine am_rg (p1_a0 _ _) 5 (b := (35, [some (.retAddr 0), some (.ref 0), some (.ref 20), some (.ref 60), some (.int 0), none, none], [.int 0, .retAddr 0], p1_h23)) rfl ?_
  refine am_sl rfl rfl rfl ?_
  refine am_rg (p1_a0 _ _) 1 (b := (38, [some (.retAddr 0), some (.ref 0), some (.ref 20), some (.ref 60), some (.int 0), none, none], [.int 15, .int (xs 0)], p1_h23)) rfl ?_
  refine am_an rfl h0 ?_
  refine am_rg (p1_a0 _ _) 2 (b := (244, [some (.retAddr 0), some (.ref 0), some (.ref 20), some (.ref 60), some (.int 0), none, none], [.ref 0], p1_h23)) rfl ?_
  refine am_cv (N := nm_m26) (as := [.ref 0]) (rest := []) (v := .int 0) (h' := p1_h23) rfl (am_kv p1_c61 (by decide)) (by decide) rfl rfl rfl (fun _ => ⟨_, _, _, _, _, rfl, rfl, rfl, rfl⟩) (fun h => absurd h (by decide)) (Nat.le_of_ble_eq_true rfl) ?_ ?_
  · refine am_em (d := 13) nm_m26 rfl rfl (Nat.le_of_ble_eq_true rfl) rfl ?_
    refine am_rg (p1_a1 _ _) 2 (b := (4, [some (.ref 0)], [.ref 1], p1_h23)) rfl ?_
    refine am_cv (N := nm_m27) (as := [.ref 1]) (rest := []) (v := .int 0) (h' := p1_h23) rfl (am_kv p1_c39 (by decide)) (by decide) rfl rfl rfl (fun _ => ⟨_, _, _, _, _, rfl, rfl, rfl, rfl⟩) (fun h => absurd h (by decide)) (Nat.le_of_ble_eq_true rfl) ?_ ?_
    · refine am_em (d := 12) nm_m27 rfl rfl (Nat.le_of_ble_eq_true rfl) rfl ?_
      refine am_rg (p1_a2 _ _) 2 (b := (4, [some (.ref 1)], [.int 0], p1_h23)) rfl ?_
      exact am_ri rfl rfl rfl
    exact am_ri rfl rfl rfl
  refine am_rg (p1_a0 _ _) 1 (b := (248, [some (.retAddr 0), some (.ref 0), some (.ref 20), some (.ref 60), some (.int 0), none, none], [.ref 20, .int 0], p1_h23)) rfl ?_
  refine am_cv (N := nm_m230) (as := [.ref 20]) (rest := [.int 0]) (v := .int 0) (h' := p1_h23) rfl (am_kv p1_c62 (by decide)) (by decide) rfl rfl rfl (fun _ => ⟨_, _, _, _, _, rfl, rfl, rfl, rfl⟩) (fun h => absurd h (by decide)) (Nat.le_of_ble_eq_true rfl) ?_ ?_
  · refine am_em (d := 13) nm_m230 rfl rfl (Nat.le_of_ble_eq_true rfl) rfl ?_
    refine am_rg (p1_a10 _ _) 5 (b := (9, [some (.ref 20)], [.int 0], p1_h23)) rfl ?_
    exact am_ri rfl rfl rfl
  refine am_rg (p1_a0 _ _) 6 (b := (27, [some (.retAddr 0), some (.ref 0), some (.ref 20), some (.ref 60), some (.int 3), none, none], [.int 3, .int 3], p1_h23)) rfl ?_
  refine am_rg (p1_a0 _ _) 4 (b := (375, [some (.retAddr 0), some (.ref 0), some (.ref 20), some (.ref 60), some (.int 3), none, none], [.int 1], p1_h23)) rfl ?_
  exact am_ri rfl rfl rfl
set_option maxRecDepth 100000 in
set_option maxHeartbeats 4000000 in
theorem p1_o5 (xs : Nat → Int32) (a1 a2 : Int32) (h1 : xs 1 = a1) (h2 : xs 2 = a2) (h0 : xs 0 &&& 15 = 5) : ∃ hf : am_H, am_Go (nm_F 3 xs) nm_cls nm_ms (am_Ev (nm_F 3 xs) nm_cls nm_ms 14) nm_law (.inl (some (.int 1)), hf) (none, (23, [some (.retAddr 0), some (.ref 0), some (.ref 20), some (.ref 60), some (.int 0), none, none], [], p1_h23)) ∧ hf.length ≤ 600002 ∧ am_sz hf ≤ 7302232 := by
  have d1 : a2.toInt < 0 ∨ 2 ≤ a2.toInt ∨ a2.toInt = 0 ∨ a2.toInt = 1 := by omega
  rcases d1 with d1 | d1 | d1 | d1
  · skip
    have d2 : a1.toInt < 0 ∨ 0 ≤ a1.toInt := by omega
    rcases d2 with d2 | d2
    · skip
      refine ⟨p1_h23, ?_, Nat.le_of_ble_eq_true rfl, Nat.le_of_ble_eq_true rfl⟩
      refine am_rg (p1_a0 _ _) 3 (b := (27, [some (.retAddr 0), some (.ref 0), some (.ref 20), some (.ref 60), some (.int 0), none, none], [.int 3, .int 0], p1_h23)) rfl ?_
      refine am_rg (p1_a0 _ _) 5 (b := (35, [some (.retAddr 0), some (.ref 0), some (.ref 20), some (.ref 60), some (.int 0), none, none], [.int 0, .retAddr 0], p1_h23)) rfl ?_
      refine am_sl rfl rfl rfl ?_
      refine am_rg (p1_a0 _ _) 1 (b := (38, [some (.retAddr 0), some (.ref 0), some (.ref 20), some (.ref 60), some (.int 0), none, none], [.int 15, .int (xs 0)], p1_h23)) rfl ?_
      refine am_an rfl h0 ?_
      refine am_rg (p1_a0 _ _) 6 (b := (262, [some (.retAddr 0), some (.ref 0), some (.ref 20), some (.ref 60), some (.int 0), none, none], [.int 1, .retAddr 0, .ref 0], p1_h23)) rfl ?_
      refine am_sl rfl rfl h1 ?_
      refine am_rg (p1_a0 _ _) 4 (b := (268, [some (.retAddr 0), some (.ref 0), some (.ref 20), some (.ref 60), some (.int 0), none, none], [.int 2, .retAddr 0, .int a1, .ref 0], p1_h23)) rfl ?_
      refine am_sl rfl rfl h2 ?_
      refine am_cv (N := nm_m28) (as := [.ref 0, .int a1, .int a2]) (rest := []) (v := .int (-1)) (h' := p1_h23) rfl (am_kv p1_c63 (by decide)) (by decide) rfl rfl rfl (fun _ => ⟨_, _, _, _, _, rfl, rfl, rfl, rfl⟩) (fun h => absurd h (by decide)) (Nat.le_of_ble_eq_true rfl) ?_ ?_
      · refine am_em (d := 13) nm_m28 rfl rfl (Nat.le_of_ble_eq_true rfl) rfl ?_
        refine am_rg (p1_a1 _ _) 1 (b := (1, [some (.ref 0), some (.int a1), some (.int a2)], [.int a2], p1_h23)) rfl ?_
        refine am_lw rfl rfl (t := 46) rfl (by intro e he; simp at he; rcases he with rfl | rfl <;> simp <;> omega) ?_
        refine am_rg (p1_a1 _ _) 1 (b := (47, [some (.ref 0), some (.int a1), some (.int a2)], [.int (-1)], p1_h23)) rfl ?_
        exact am_ri rfl rfl rfl
      refine am_rg (p1_a0 _ _) 5 (b := (278, [some (.retAddr 0), some (.ref 0), some (.ref 20), some (.ref 60), some (.int 0), none, none], [.int 1, .retAddr 0, .ref 20, .int (-1)], p1_h23)) rfl ?_
      refine am_sl rfl rfl h1 ?_
      refine am_rg (p1_a0 _ _) 4 (b := (284, [some (.retAddr 0), some (.ref 0), some (.ref 20), some (.ref 60), some (.int 0), none, none], [.int 2, .retAddr 0, .int a1, .ref 20, .int (-1)], p1_h23)) rfl ?_
      refine am_sl rfl rfl h2 ?_
      refine am_cv (N := nm_m231) (as := [.ref 20, .int a1, .int a2]) (rest := [.int (-1)]) (v := .int (-1)) (h' := p1_h23) rfl (am_kv p1_c64 (by decide)) (by decide) rfl rfl rfl (fun _ => ⟨_, _, _, _, _, rfl, rfl, rfl, rfl⟩) (fun h => absurd h (by decide)) (Nat.le_of_ble_eq_true rfl) ?_ ?_
      · refine am_em (d := 13) nm_m231 rfl rfl (Nat.le_of_ble_eq_true rfl) rfl ?_
        refine am_rg (p1_a10 _ _) 4 (b := (6, [some (.ref 20), some (.int a1), some (.int a2)], [.int a1], p1_h23)) rfl ?_
        refine am_i1 rfl (t := 17) rfl (am_cT (b := 0) rfl (by show (a1.toInt < 0); omega)) ?_
        refine am_rg (p1_a10 _ _) 1 (b := (18, [some (.ref 20), some (.int a1), some (.int a2)], [.int (-1)], p1_h23)) rfl ?_
        exact am_ri rfl rfl rfl
      refine am_rg (p1_a0 _ _) 6 (b := (27, [some (.retAddr 0), some (.ref 0), some (.ref 20), some (.ref 60), some (.int 3), none, none], [.int 3, .int 3], p1_h23)) rfl ?_
      refine am_rg (p1_a0 _ _) 4 (b := (375, [some (.retAddr 0), some (.ref 0), some (.ref 20), some (.ref 60), some (.int 3), none, none], [.int 1], p1_h23)) rfl ?_
      exact am_ri rfl rfl rfl
    · skip
      refine ⟨p1_h23, ?_, Nat.le_of_ble_eq_true rfl, Nat.le_of_ble_eq_true rfl⟩
      refine am_rg (p1_a0 _ _) 3 (b := (27, [some (.retAddr 0), some (.ref 0), some (.ref 20), some (.ref 60), some (.int 0), none, none], [.int 3, .int 0], p1_h23)) rfl ?_
      refine am_rg (p1_a0 _ _) 5 (b := (35, [some (.retAddr 0), some (.ref 0), some (.ref 20), some (.ref 60), some (.int 0), none, none], [.int 0, .retAddr 0], p1_h23)) rfl ?_
      refine am_sl rfl rfl rfl ?_
      refine am_rg (p1_a0 _ _) 1 (b := (38, [some (.retAddr 0), some (.ref 0), some (.ref 20), some (.ref 60), some (.int 0), none, none], [.int 15, .int (xs 0)], p1_h23)) rfl ?_
      refine am_an rfl h0 ?_
      refine am_rg (p1_a0 _ _) 6 (b := (262, [some (.retAddr 0), some (.ref 0), some (.ref 20), some (.ref 60), some (.int 0), none, none], [.int 1, .retAddr 0, .ref 0], p1_h23)) rfl ?_
      refine am_sl rfl rfl h1 ?_
      refine am_rg (p1_a0 _ _) 4 (b := (268, [some (.retAddr 0), some (.ref 0), some (.ref 20), some (.ref 60), some (.int 0), none, none], [.int 2, .retAddr 0, .int a1, .ref 0], p1_h23)) rfl ?_
      refine am_sl rfl rfl h2 ?_
      refine am_cv (N := nm_m28) (as := [.ref 0, .int a1, .int a2]) (rest := []) (v := .int (-1)) (h' := p1_h23) rfl (am_kv p1_c63 (by decide)) (by decide) rfl rfl rfl (fun _ => ⟨_, _, _, _, _, rfl, rfl, rfl, rfl⟩) (fun h => absurd h (by decide)) (Nat.le_of_ble_eq_true rfl) ?_ ?_
      · refine am_em (d := 13) nm_m28 rfl rfl (Nat.le_of_ble_eq_true rfl) rfl ?_
        refine am_rg (p1_a1 _ _) 1 (b := (1, [some (.ref 0), some (.int a1), some (.int a2)], [.int a2], p1_h23)) rfl ?_
        refine am_lw rfl rfl (t := 46) rfl (by intro e he; simp at he; rcases he with rfl | rfl <;> simp <;> omega) ?_
        refine am_rg (p1_a1 _ _) 1 (b := (47, [some (.ref 0), some (.int a1), some (.int a2)], [.int (-1)], p1_h23)) rfl ?_
        exact am_ri rfl rfl rfl
      refine am_rg (p1_a0 _ _) 5 (b := (278, [some (.retAddr 0), some (.ref 0), some (.ref 20), some (.ref 60), some (.int 0), none, none], [.int 1, .retAddr 0, .ref 20, .int (-1)], p1_h23)) rfl ?_
      refine am_sl rfl rfl h1 ?_
      refine am_rg (p1_a0 _ _) 4 (b := (284, [some (.retAddr 0), some (.ref 0), some (.ref 20), some (.ref 60), some (.int 0), none, none], [.int 2, .retAddr 0, .int a1, .ref 20, .int (-1)], p1_h23)) rfl ?_
      refine am_sl rfl rfl h2 ?_
      refine am_cv (N := nm_m231) (as := [.ref 20, .int a1, .int a2]) (rest := [.int (-1)]) (v := .int (-1)) (h' := p1_h23) rfl (am_kv p1_c64 (by decide)) (by decide) rfl rfl rfl (fun _ => ⟨_, _, _, _, _, rfl, rfl, rfl, rfl⟩) (fun h => absurd h (by decide)) (Nat.le_of_ble_eq_true rfl) ?_ ?_
      · refine am_em (d := 13) nm_m231 rfl rfl (Nat.le_of_ble_eq_true rfl) rfl ?_
        refine am_rg (p1_a10 _ _) 4 (b := (6, [some (.ref 20), some (.int a1), some (.int a2)], [.int a1], p1_h23)) rfl ?_
        refine am_i0 rfl (t := 17) rfl (am_cF (b := 0) rfl (by show ¬ (a1.toInt < 0); omega)) ?_
        refine am_rg (p1_a10 _ _) 3 (b := (14, [some (.ref 20), some (.int a1), some (.int a2)], [.int 0, .int a1], p1_h23)) rfl ?_
        refine am_j0 rfl (t := 19) rfl (am_cF (b := 0) rfl (by show ¬ (a1.toInt < 0); omega)) ?_
        refine am_rg (p1_a10 _ _) 1 (b := (18, [some (.ref 20), some (.int a1), some (.int a2)], [.int (-1)], p1_h23)) rfl ?_
        exact am_ri rfl rfl rfl
      refine am_rg (p1_a0 _ _) 6 (b := (27, [some (.retAddr 0), some (.ref 0), some (.ref 20), some (.ref 60), some (.int 3), none, none], [.int 3, .int 3], p1_h23)) rfl ?_
      refine am_rg (p1_a0 _ _) 4 (b := (375, [some (.retAddr 0), some (.ref 0), some (.ref 20), some (.ref 60), some (.int 3), none, none], [.int 1], p1_h23)) rfl ?_
      exact am_ri rfl rfl rfl
  · skip
    have d2 : a1.toInt < 0 ∨ 0 ≤ a1.toInt := by omega
    rcases d2 with d2 | d2
    · skip
      refine ⟨p1_h23, ?_, Nat.le_of_ble_eq_true rfl, Nat.le_of_ble_eq_true rfl⟩
      refine am_rg (p1_a0 _ _) 3 (b := (27, [some (.retAddr 0), some (.ref 0), some (.ref 20), some (.ref 60), some (.int 0), none, none], [.int 3, .int 0], p1_h23)) rfl ?_
      refine am_rg (p1_a0 _ _) 5 (b := (35, [some (.retAddr 0), some (.ref 0), some (.ref 20), some (.ref 60), some (.int 0), none, none], [.int 0, .retAddr 0], p1_h23)) rfl ?_
      refine am_sl rfl rfl rfl ?_
      refine am_rg (p1_a0 _ _) 1 (b := (38, [some (.retAddr 0), some (.ref 0), some (.ref 20), some (.ref 60), some (.int 0), none, none], [.int 15, .int (xs 0)], p1_h23)) rfl ?_
      refine am_an rfl h0 ?_
      refine am_rg (p1_a0 _ _) 6 (b := (262, [some (.retAddr 0), some (.ref 0), some (.ref 20), some (.ref 60), some (.int 0), none, none], [.int 1, .retAddr 0, .ref 0], p1_h23)) rfl ?_
      refine am_sl rfl rfl h1 ?_
      refine am_rg (p1_a0 _ _) 4 (b := (268, [some (.retAddr 0), some (.ref 0), some (.ref 20), some (.ref 60), some (.int 0), none, none], [.int 2, .retAddr 0, .int a1, .ref 0], p1_h23)) rfl ?_
      refine am_sl rfl rfl h2 ?_
      refine am_cv (N := nm_m28) (as := [.ref 0, .int a1, .int a2]) (rest := []) (v := .int (-1)) (h' := p1_h23) rfl (am_kv p1_c63 (by decide)) (by decide) rfl rfl rfl (fun _ => ⟨_, _, _, _, _, rfl, rfl, rfl, rfl⟩) (fun h => absurd h (by decide)) (Nat.le_of_ble_eq_true rfl) ?_ ?_
      · refine am_em (d := 13) nm_m28 rfl rfl (Nat.le_of_ble_eq_true rfl) rfl ?_
        refine am_rg (p1_a1 _ _) 1 (b := (1, [some (.ref 0), some (.int a1), some (.int a2)], [.int a2], p1_h23)) rfl ?_
        refine am_lw rfl rfl (t := 46) rfl (by intro e he; simp at he; rcases he with rfl | rfl <;> simp <;> omega) ?_
        refine am_rg (p1_a1 _ _) 1 (b := (47, [some (.ref 0), some (.int a1), some (.int a2)], [.int (-1)], p1_h23)) rfl ?_
        exact am_ri rfl rfl rfl
      refine am_rg (p1_a0 _ _) 5 (b := (278, [some (.retAddr 0), some (.ref 0), some (.ref 20), some (.ref 60), some (.int 0), none, none], [.int 1, .retAddr 0, .ref 20, .int (-1)], p1_h23)) rfl ?_
      refine am_sl rfl rfl h1 ?_
      refine am_rg (p1_a0 _ _) 4 (b := (284, [some (.retAddr 0), some (.ref 0), some (.ref 20), some (.ref 60), some (.int 0), none, none], [.int 2, .retAddr 0, .int a1, .ref 20, .int (-1)], p1_h23)) rfl ?_
      refine am_sl rfl rfl h2 ?_
      refine am_cv (N := nm_m231) (as := [.ref 20, .int a1, .int a2]) (rest := [.int (-1)]) (v := .int (-1)) (h' := p1_h23) rfl (am_kv p1_c64 (by decide)) (by decide) rfl rfl rfl (fun _ => ⟨_, _, _, _, _, rfl, rfl, rfl, rfl⟩) (fun h => absurd h (by decide)) (Nat.le_of_ble_eq_true rfl) ?_ ?_
      · refine am_em (d := 13) nm_m231 rfl rfl (Nat.le_of_ble_eq_true rfl) rfl ?_
        refine am_rg (p1_a10 _ _) 4 (b := (6, [some (.ref 20), some (.int a1), some (.int a2)], [.int a1], p1_h23)) rfl ?_
        refine am_i1 rfl (t := 17) rfl (am_cT (b := 0) rfl (by show (a1.toInt < 0); omega)) ?_
        refine am_rg (p1_a10 _ _) 1 (b := (18, [some (.ref 20), some (.int a1), some (.int a2)], [.int (-1)], p1_h23)) rfl ?_
        exact am_ri rfl rfl rfl
      refine am_rg (p1_a0 _ _) 6 (b := (27, [some (.retAddr 0), some (.ref 0), some (.ref 20), some (.ref 60), some (.int 3), none, none], [.int 3, .int 3], p1_h23)) rfl ?_
      refine am_rg (p1_a0 _ _) 4 (b := (375, [some (.retAddr 0), some (.ref 0), some (.ref 20), some (.ref 60), some (.int 3), none, none], [.int 1], p1_h23)) rfl ?_
      exact am_ri rfl rfl rfl
    · skip
      refine ⟨p1_h23, ?_, Nat.le_of_ble_eq_true rfl, Nat.le_of_ble_eq_true rfl⟩
      refine am_rg (p1_a0 _ _) 3 (b := (27, [some (.retAddr 0), some (.ref 0), some (.ref 20), some (.ref 60), some (.int 0), none, none], [.int 3, .int 0], p1_h23)) rfl ?_
      refine am_rg (p1_a0 _ _) 5 (b := (35, [some (.retAddr 0), some (.ref 0), some (.ref 20), some (.ref 60), some (.int 0), none, none], [.int 0, .retAddr 0], p1_h23)) rfl ?_
      refine am_sl rfl rfl rfl ?_
      refine am_rg (p1_a0 _ _) 1 (b := (38, [some (.retAddr 0), some (.ref 0), some (.ref 20), some (.ref 60), some (.int 0), none, none], [.int 15, .int (xs 0)], p1_h23)) rfl ?_
      refine am_an rfl h0 ?_
      refine am_rg (p1_a0 _ _) 6 (b := (262, [some (.retAddr 0), some (.ref 0), some (.ref 20), some (.ref 60), some (.int 0), none, none], [.int 1, .retAddr 0, .ref 0], p1_h23)) rfl ?_
      refine am_sl rfl rfl h1 ?_
      refine am_rg (p1_a0 _ _) 4 (b := (268, [some (.retAddr 0), some (.ref 0), some (.ref 20), some (.ref 60), some (.int 0), none, none], [.int 2, .retAddr 0, .int a1, .ref 0], p1_h23)) rfl ?_
      refine am_sl rfl rfl h2 ?_
      refine am_cv (N := nm_m28) (as := [.ref 0, .int a1, .int a2]) (rest := []) (v := .int (-1)) (h' := p1_h23) rfl (am_kv p1_c63 (by decide)) (by decide) rfl rfl rfl (fun _ => ⟨_, _, _, _, _, rfl, rfl, rfl, rfl⟩) (fun h => absurd h (by decide)) (Nat.le_of_ble_eq_true rfl) ?_ ?_
      · refine am_em (d := 13) nm_m28 rfl rfl (Nat.le_of_ble_eq_true rfl) rfl ?_
        refine am_rg (p1_a1 _ _) 1 (b := (1, [some (.ref 0), some (.int a1), some (.int a2)], [.int a2], p1_h23)) rfl ?_
        refine am_lw rfl rfl (t := 46) rfl (by intro e he; simp at he; rcases he with rfl | rfl <;> simp <;> omega) ?_
        refine am_rg (p1_a1 _ _) 1 (b := (47, [some (.ref 0), some (.int a1), some (.int a2)], [.int (-1)], p1_h23)) rfl ?_
        exact am_ri rfl rfl rfl
      refine am_rg (p1_a0 _ _) 5 (b := (278, [some (.retAddr 0), some (.ref 0), some (.ref 20), some (.ref 60), some (.int 0), none, none], [.int 1, .retAddr 0, .ref 20, .int (-1)], p1_h23)) rfl ?_
      refine am_sl rfl rfl h1 ?_
      refine am_rg (p1_a0 _ _) 4 (b := (284, [some (.retAddr 0), some (.ref 0), some (.ref 20), some (.ref 60), some (.int 0), none, none], [.int 2, .retAddr 0, .int a1, .ref 20, .int (-1)], p1_h23)) rfl ?_
      refine am_sl rfl rfl h2 ?_
      refine am_cv (N := nm_m231) (as := [.ref 20, .int a1, .int a2]) (rest := [.int (-1)]) (v := .int (-1)) (h' := p1_h23) rfl (am_kv p1_c64 (by decide)) (by decide) rfl rfl rfl (fun _ => ⟨_, _, _, _, _, rfl, rfl, rfl, rfl⟩) (fun h => absurd h (by decide)) (Nat.le_of_ble_eq_true rfl) ?_ ?_
      · refine am_em (d := 13) nm_m231 rfl rfl (Nat.le_of_ble_eq_true rfl) rfl ?_
        refine am_rg (p1_a10 _ _) 4 (b := (6, [some (.ref 20), some (.int a1), some (.int a2)], [.int a1], p1_h23)) rfl ?_
        refine am_i0 rfl (t := 17) rfl (am_cF (b := 0) rfl (by show ¬ (a1.toInt < 0); omega)) ?_
        refine am_rg (p1_a10 _ _) 3 (b := (14, [some (.ref 20), some (.int a1), some (.int a2)], [.int 0, .int a1], p1_h23)) rfl ?_
        refine am_j0 rfl (t := 19) rfl (am_cF (b := 0) rfl (by show ¬ (a1.toInt < 0); omega)) ?_
        refine am_rg (p1_a10 _ _) 1 (b := (18, [some (.ref 20), some (.int a1), some (.int a2)], [.int (-1)], p1_h23)) rfl ?_
        exact am_ri rfl rfl rfl
      refine am_rg (p1_a0 _ _) 6 (b := (27, [some (.retAddr 0), some (.ref 0), some (.ref 20), some (.ref 60), some (.int 3), none, none], [.int 3, .int 3], p1_h23)) rfl ?_
      refine am_rg (p1_a0 _ _) 4 (b := (375, [some (.retAddr 0), some (.ref 0), some (.ref 20), some (.ref 60), some (.int 3), none, none], [.int 1], p1_h23)) rfl ?_
      exact am_ri rfl rfl rfl
  · obtain rfl : a2 = 0 := am_inj d1 rfl
    have d2 : a1.toInt < 0 ∨ 0 ≤ a1.toInt := by omega
    rcases d2 with d2 | d2
    · skip
      refine ⟨p1_h23, ?_, Nat.le_of_ble_eq_true rfl, Nat.le_of_ble_eq_true rfl⟩
      refine am_rg (p1_a0 _ _) 3 (b := (27, [some (.retAddr 0), some (.ref 0), some (.ref 20), some (.ref 60), some (.int 0), none, none], [.int 3, .int 0], p1_h23)) rfl ?_
      refine am_rg (p1_a0 _ _) 5 (b := (35, [some (.retAddr 0), some (.ref 0), some (.ref 20), some (.ref 60), some (.int 0), none, none], [.int 0, .retAddr 0], p1_h23)) rfl ?_
      refine am_sl rfl rfl rfl ?_
      refine am_rg (p1_a0 _ _) 1 (b := (38, [some (.retAddr 0), some (.ref 0), some (.ref 20), some (.ref 60), some (.int 0), none, none], [.int 15, .int (xs 0)], p1_h23)) rfl ?_
      refine am_an rfl h0 ?_
      refine am_rg (p1_a0 _ _) 6 (b := (262, [some (.retAddr 0), some (.ref 0), some (.ref 20), some (.ref 60), some (.int 0), none, none], [.int 1, .retAddr 0, .ref 0], p1_h23)) rfl ?_
      refine am_sl rfl rfl h1 ?_
      refine am_rg (p1_a0 _ _) 4 (b := (268, [some (.retAddr 0), some (.ref 0), some (.ref 20), some (.ref 60), some (.int 0), none, none], [.int 2, .retAddr 0, .int a1, .ref 0], p1_h23)) rfl ?_
      refine am_sl rfl rfl h2 ?_
      refine am_cv (N := nm_m28) (as := [.ref 0, .int a1, .int 0]) (rest := []) (v := .int (-1)) (h' := p1_h23) rfl (am_kv p1_c63 (by decide)) (by decide) rfl rfl rfl (fun _ => ⟨_, _, _, _, _, rfl, rfl, rfl, rfl⟩) (fun h => absurd h (by decide)) (Nat.le_of_ble_eq_true rfl) ?_ ?_
      · refine am_em (d := 13) nm_m28 rfl rfl (Nat.le_of_ble_eq_true rfl) rfl ?_
        refine am_rg (p1_a1 _ _) 5 (b := (33, [some (.ref 0), some (.int a1), some (.int 0)], [.int a1, .ref 1], p1_h23)) rfl ?_
        refine am_cv (N := nm_m29) (as := [.ref 1, .int a1]) (rest := []) (v := .int (-1)) (h' := p1_h23) rfl (am_kv p1_c65 (by decide)) (by decide) rfl rfl rfl (fun _ => ⟨_, _, _, _, _, rfl, rfl, rfl, rfl⟩) (fun h => absurd h (by decide)) (Nat.le_of_ble_eq_true rfl) ?_ ?_
        · refine am_em (d := 12) nm_m29 rfl rfl (Nat.le_of_ble_eq_true rfl) rfl ?_
          refine am_rg (p1_a2 _ _) 1 (b := (1, [some (.ref 1), some (.int a1)], [.int a1], p1_h23)) rfl ?_
          refine am_i1 rfl (t := 21) rfl (am_cT (b := 0) rfl (by show (a1.toInt < 0); omega)) ?_
          refine am_rg (p1_a2 _ _) 1 (b := (22, [some (.ref 1), some (.int a1)], [.int (-1)], p1_h23)) rfl ?_
          exact am_ri rfl rfl rfl
        exact am_ri rfl rfl rfl
      refine am_rg (p1_a0 _ _) 5 (b := (278, [some (.retAddr 0), some (.ref 0), some (.ref 20), some (.ref 60), some (.int 0), none, none], [.int 1, .retAddr 0, .ref 20, .int (-1)], p1_h23)) rfl ?_
      refine am_sl rfl rfl h1 ?_
      refine am_rg (p1_a0 _ _) 4 (b := (284, [some (.retAddr 0), some (.ref 0), some (.ref 20), some (.ref 60), some (.int 0), none, none], [.int 2, .retAddr 0, .int a1, .ref 20, .int (-1)], p1_h23)) rfl ?_
      refine am_sl rfl rfl h2 ?_
      refine am_cv (N := nm_m231) (as := [.ref 20, .int a1, .int 0]) (rest := [.int (-1)]) (v := .int (-1)) (h' := p1_h23) rfl (am_kv p1_c64 (by decide)) (by decide) rfl rfl rfl (fun _ => ⟨_, _, _, _, _, rfl, rfl, rfl, rfl⟩) (fun h => absurd h (by decide)) (Nat.le_of_ble_eq_true rfl) ?_ ?_
      · refine am_em (d := 13) nm_m231 rfl rfl (Nat.le_of_ble_eq_true rfl) rfl ?_
        refine am_rg (p1_a10 _ _) 4 (b := (6, [some (.ref 20), some (.int a1), some (.int 0)], [.int a1], p1_h23)) rfl ?_
        refine am_i1 rfl (t := 17) rfl (am_cT (b := 0) rfl (by show (a1.toInt < 0); omega)) ?_
        refine am_rg (p1_a10 _ _) 1 (b := (18, [some (.ref 20), some (.int a1), some (.int 0)], [.int (-1)], p1_h23)) rfl ?_
        exact am_ri rfl rfl rfl
      refine am_rg (p1_a0 _ _) 6 (b := (27, [some (.retAddr 0), some (.ref 0), some (.ref 20), some (.ref 60), some (.int 3), none, none], [.int 3, .int 3], p1_h23)) rfl ?_
      refine am_rg (p1_a0 _ _) 4 (b := (375, [some (.retAddr 0), some (.ref 0), some (.ref 20), some (.ref 60), some (.int 3), none, none], [.int 1], p1_h23)) rfl ?_
      exact am_ri rfl rfl rfl
    · skip
      refine ⟨p1_h23, ?_, Nat.le_of_ble_eq_true rfl, Nat.le_of_ble_eq_true rfl⟩
      refine am_rg (p1_a0 _ _) 3 (b := (27, [some (.retAddr 0), some (.ref 0), some (.ref 20), some (.ref 60), some (.int 0), none, none], [.int 3, .int 0], p1_h23)) rfl ?_
      refine am_rg (p1_a0 _ _) 5 (b := (35, [some (.retAddr 0), some (.ref 0), some (.ref 20), some (.ref 60), some (.int 0), none, none], [.int 0, .retAddr 0], p1_h23)) rfl ?_
      refine am_sl rfl rfl rfl ?_
      refine am_rg (p1_a0 _ _) 1 (b := (38, [some (.retAddr 0), some (.ref 0), some (.ref 20), some (.ref 60), some (.int 0), none, none], [.int 15, .int (xs 0)], p1_h23)) rfl ?_
      refine am_an rfl h0 ?_
      refine am_rg (p1_a0 _ _) 6 (b := (262, [some (.retAddr 0), some (.ref 0), some (.ref 20), some (.ref 60), some (.int 0), none, none], [.int 1, .retAddr 0, .ref 0], p1_h23)) rfl ?_
      refine am_sl rfl rfl h1 ?_
      refine am_rg (p1_a0 _ _) 4 (b := (268, [some (.retAddr 0), some (.ref 0), some (.ref 20), some (.ref 60), some (.int 0), none, none], [.int 2, .retAddr 0, .int a1, .ref 0], p1_h23)) rfl ?_
      refine am_sl rfl rfl h2 ?_
      refine am_cv (N := nm_m28) (as := [.ref 0, .int a1, .int 0]) (rest := []) (v := .int (-1)) (h' := p1_h23) rfl (am_kv p1_c63 (by decide)) (by decide) rfl rfl rfl (fun _ => ⟨_, _, _, _, _, rfl, rfl, rfl, rfl⟩) (fun h => absurd h (by decide)) (Nat.le_of_ble_eq_true rfl) ?_ ?_
      · refine am_em (d := 13) nm_m28 rfl rfl (Nat.le_of_ble_eq_true rfl) rfl ?_
        refine am_rg (p1_a1 _ _) 5 (b := (33, [some (.ref 0), some (.int a1), some (.int 0)], [.int a1, .ref 1], p1_h23)) rfl ?_
        refine am_cv (N := nm_m29) (as := [.ref 1, .int a1]) (rest := []) (v := .int (-1)) (h' := p1_h23) rfl (am_kv p1_c65 (by decide)) (by decide) rfl rfl rfl (fun _ => ⟨_, _, _, _, _, rfl, rfl, rfl, rfl⟩) (fun h => absurd h (by decide)) (Nat.le_of_ble_eq_true rfl) ?_ ?_
        · refine am_em (d := 12) nm_m29 rfl rfl (Nat.le_of_ble_eq_true rfl) rfl ?_
          refine am_rg (p1_a2 _ _) 1 (b := (1, [some (.ref 1), some (.int a1)], [.int a1], p1_h23)) rfl ?_
          refine am_i0 rfl (t := 21) rfl (am_cF (b := 0) rfl (by show ¬ (a1.toInt < 0); omega)) ?_
          refine am_rg (p1_a2 _ _) 3 (b := (9, [some (.ref 1), some (.int a1)], [.int 0, .int a1], p1_h23)) rfl ?_
          refine am_j1 rfl (t := 21) rfl (am_cT (b := 0) rfl (by show (a1.toInt ≥ 0); omega)) ?_
          refine am_rg (p1_a2 _ _) 1 (b := (22, [some (.ref 1), some (.int a1)], [.int (-1)], p1_h23)) rfl ?_
          exact am_ri rfl rfl rfl
        exact am_ri rfl rfl rfl
      refine am_rg (p1_a0 _ _) 5 (b := (278, [some (.retAddr 0), some (.ref 0), some (.ref 20), some (.ref 60), some (.int 0), none, none], [.int 1, .retAddr 0, .ref 20, .int (-1)], p1_h23)) rfl ?_
      refine am_sl rfl rfl h1 ?_
      refine am_rg (p1_a0 _ _) 4 (b := (284, [some (.retAddr 0), some (.ref 0), some (.ref 20), some (.ref 60), some (.int 0), none, none], [.int 2, .retAddr 0, .int a1, .ref 20, .int (-1)], p1_h23)) rfl ?_
      refine am_sl rfl rfl h2 ?_
      refine am_cv (N := nm_m231) (as := [.ref 20, .int a1, .int 0]) (rest := [.int (-1)]) (v := .int (-1)) (h' := p1_h23) rfl (am_kv p1_c64 (by decide)) (by decide) rfl rfl rfl (fun _ => ⟨_, _, _, _, _, rfl, rfl, rfl, rfl⟩) (fun h => absurd h (by decide)) (Nat.le_of_ble_eq_true rfl) ?_ ?_
      · refine am_em (d := 13) nm_m231 rfl rfl (Nat.le_of_ble_eq_true rfl) rfl ?_
        refine am_rg (p1_a10 _ _) 4 (b := (6, [some (.ref 20), some (.int a1), some (.int 0)], [.int a1], p1_h23)) rfl ?_
        refine am_i0 rfl (t := 17) rfl (am_cF (b := 0) rfl (by show ¬ (a1.toInt < 0); omega)) ?_
        refine am_rg (p1_a10 _ _) 3 (b := (14, [some (.ref 20), some (.int a1), some (.int 0)], [.int 0, .int a1], p1_h23)) rfl ?_
        refine am_j0 rfl (t := 19) rfl (am_cF (b := 0) rfl (by show ¬ (a1.toInt < 0); omega)) ?_
        refine am_rg (p1_a10 _ _) 1 (b := (18, [some (.ref 20), some (.int a1), some (.int 0)], [.int (-1)], p1_h23)) rfl ?_
        exact am_ri rfl rfl rfl
      refine am_rg (p1_a0 _ _) 6 (b := (27, [some (.retAddr 0), some (.ref 0), some (.ref 20), some (.ref 60), some (.int 3), none, none], [.int 3, .int 3], p1_h23)) rfl ?_
      refine am_rg (p1_a0 _ _) 4 (b := (375, [some (.retAddr 0), some (.ref 0), some (.ref 20), some (.ref 60), some (.int 3), none, none], [.int 1], p1_h23)) rfl ?_
      exact am_ri rfl rfl rfl
  · obtain rfl : a2 = 1 := am_inj d1 rfl
    have d2 : a1.toInt < 0 ∨ 0 ≤ a1.toInt := by omega
    rcases d2 with d2 | d2
    · skip
      refine ⟨p1_h23, ?_, Nat.le_of_ble_eq_true rfl, Nat.le_of_ble_eq_true rfl⟩
      refine am_rg (p1_a0 _ _) 3 (b := (27, [some (.retAddr 0), some (.ref 0), some (.ref 20), some (.ref 60), some (.int 0), none, none], [.int 3, .int 0], p1_h23)) rfl ?_
      refine am_rg (p1_a0 _ _) 5 (b := (35, [some (.retAddr 0), some (.ref 0), some (.ref 20), some (.ref 60), some (.int 0), none, none], [.int 0, .retAddr 0], p1_h23)) rfl ?_
      refine am_sl rfl rfl rfl ?_
      refine am_rg (p1_a0 _ _) 1 (b := (38, [some (.retAddr 0), some (.ref 0), some (.ref 20), some (.ref 60), some (.int 0), none, none], [.int 15, .int (xs 0)], p1_h23)) rfl ?_
      refine am_an rfl h0 ?_
      refine am_rg (p1_a0 _ _) 6 (b := (262, [some (.retAddr 0), some (.ref 0), some (.ref 20), some (.ref 60), some (.int 0), none, none], [.int 1, .retAddr 0, .ref 0], p1_h23)) rfl ?_
      refine am_sl rfl rfl h1 ?_
      refine am_rg (p1_a0 _ _) 4 (b := (268, [some (.retAddr 0), some (.ref 0), some (.ref 20), some (.ref 60), some (.int 0), none, none], [.int 2, .retAddr 0, .int a1, .ref 0], p1_h23)) rfl ?_
      refine am_sl rfl rfl h2 ?_
      refine am_cv (N := nm_m28) (as := [.ref 0, .int a1, .int 1]) (rest := []) (v := .int (-1)) (h' := p1_h23) rfl (am_kv p1_c63 (by decide)) (by decide) rfl rfl rfl (fun _ => ⟨_, _, _, _, _, rfl, rfl, rfl, rfl⟩) (fun h => absurd h (by decide)) (Nat.le_of_ble_eq_true rfl) ?_ ?_
      · refine am_em (d := 13) nm_m28 rfl rfl (Nat.le_of_ble_eq_true rfl) rfl ?_
        refine am_rg (p1_a1 _ _) 5 (b := (42, [some (.ref 0), some (.int a1), some (.int 1)], [.int a1, .ref 1], p1_h23)) rfl ?_
        refine am_cv (N := nm_m30) (as := [.ref 1, .int a1]) (rest := []) (v := .int (-1)) (h' := p1_h23) rfl (am_kv p1_c66 (by decide)) (by decide) rfl rfl rfl (fun _ => ⟨_, _, _, _, _, rfl, rfl, rfl, rfl⟩) (fun h => absurd h (by decide)) (Nat.le_of_ble_eq_true rfl) ?_ ?_
        · refine am_em (d := 12) nm_m30 rfl rfl (Nat.le_of_ble_eq_true rfl) rfl ?_
          refine am_rg (p1_a2 _ _) 1 (b := (1, [some (.ref 1), some (.int a1)], [.int a1], p1_h23)) rfl ?_
          refine am_i1 rfl (t := 21) rfl (am_cT (b := 0) rfl (by show (a1.toInt < 0); omega)) ?_
          refine am_rg (p1_a2 _ _) 1 (b := (22, [some (.ref 1), some (.int a1)], [.int (-1)], p1_h23)) rfl ?_
          exact am_ri rfl rfl rfl
        exact am_ri rfl rfl rfl
      refine am_rg (p1_a0 _ _) 5 (b := (278, [some (.retAddr 0), some (.ref 0), some (.ref 20), some (.ref 60), some (.int 0), none, none], [.int 1, .retAddr 0, .ref 20, .int (-1)], p1_h23)) rfl ?_
      refine am_sl rfl rfl h1 ?_
      refine am_rg (p1_a0 _ _) 4 (b := (284, [some (.retAddr 0), some (.ref 0), some (.ref 20), some (.ref 60), some (.int 0), none, none], [.int 2, .retAddr 0, .int a1, .ref 20, .int (-1)], p1_h23)) rfl ?_
      refine am_sl rfl rfl h2 ?_
      refine am_cv (N := nm_m231) (as := [.ref 20, .int a1, .int 1]) (rest := [.int (-1)]) (v := .int (-1)) (h' := p1_h23) rfl (am_kv p1_c64 (by decide)) (by decide) rfl rfl rfl (fun _ => ⟨_, _, _, _, _, rfl, rfl, rfl, rfl⟩) (fun h => absurd h (by decide)) (Nat.le_of_ble_eq_true rfl) ?_ ?_
      · refine am_em (d := 13) nm_m231 rfl rfl (Nat.le_of_ble_eq_true rfl) rfl ?_
        refine am_rg (p1_a10 _ _) 4 (b := (6, [some (.ref 20), some (.int a1), some (.int 1)], [.int a1], p1_h23)) rfl ?_
        refine am_i1 rfl (t := 17) rfl (am_cT (b := 0) rfl (by show (a1.toInt < 0); omega)) ?_
        refine am_rg (p1_a10 _ _) 1 (b := (18, [some (.ref 20), some (.int a1), some (.int 1)], [.int (-1)], p1_h23)) rfl ?_
        exact am_ri rfl rfl rfl
      refine am_rg (p1_a0 _ _) 6 (b := (27, [some (.retAddr 0), some (.ref 0), some (.ref 20), some (.ref 60), some (.int 3), none, none], [.int 3, .int 3], p1_h23)) rfl ?_
      refine am_rg (p1_a0 _ _) 4 (b := (375, [some (.retAddr 0), some (.ref 0), some (.ref 20), some (.ref 60), some (.int 3), none, none], [.int 1], p1_h23)) rfl ?_
      exact am_ri rfl rfl rfl
    · skip
      refine ⟨p1_h23, ?_, Nat.le_of_ble_eq_true rfl, Nat.le_of_ble_eq_true rfl⟩
      refine am_rg (p1_a0 _ _) 3 (b := (27, [some (.retAddr 0), some (.ref 0), some (.ref 20), some (.ref 60), some (.int 0), none, none], [.int 3, .int 0], p1_h23)) rfl ?_
      refine am_rg (p1_a0 _ _) 5 (b := (35, [some (.retAddr 0), some (.ref 0), some (.ref 20), some (.ref 60), some (.int 0), none, none], [.int 0, .retAddr 0], p1_h23)) rfl ?_
      refine am_sl rfl rfl rfl ?_
      refine am_rg (p1_a0 _ _) 1 (b := (38, [some (.retAddr 0), some (.ref 0), some (.ref 20), some (.ref 60), some (.int 0), none, none], [.int 15, .int (xs 0)], p1_h23)) rfl ?_
      refine am_an rfl h0 ?_
      refine am_rg (p1_a0 _ _) 6 (b := (262, [some (.retAddr 0), some (.ref 0), some (.ref 20), some (.ref 60), some (.int 0), none, none], [.int 1, .retAddr 0, .ref 0], p1_h23)) rfl ?_
      refine am_sl rfl rfl h1 ?_
      refine am_rg (p1_a0 _ _) 4 (b := (268, [some (.retAddr 0), some (.ref 0), some (.ref 20), some (.ref 60), some (.int 0), none, none], [.int 2, .retAddr 0, .int a1, .ref 0], p1_h23)) rfl ?_
      refine am_sl rfl rfl h2 ?_
      refine am_cv (N := nm_m28) (as := [.ref 0, .int a1, .int 1]) (rest := []) (v := .int (-1)) (h' := p1_h23) rfl (am_kv p1_c63 (by decide)) (by decide) rfl rfl rfl (fun _ => ⟨_, _, _, _, _, rfl, rfl, rfl, rfl⟩) (fun h => absurd h (by decide)) (Nat.le_of_ble_eq_true rfl) ?_ ?_
      · refine am_em (d := 13) nm_m28 rfl rfl (Nat.le_of_ble_eq_true rfl) rfl ?_
        refine am_rg (p1_a1 _ _) 5 (b := (42, [some (.ref 0), some (.int a1), some (.int 1)], [.int a1, .ref 1], p1_h23)) rfl ?_
        refine am_cv (N := nm_m30) (as := [.ref 1, .int a1]) (rest := []) (v := .int (-1)) (h' := p1_h23) rfl (am_kv p1_c66 (by decide)) (by decide) rfl rfl rfl (fun _ => ⟨_, _, _, _, _, rfl, rfl, rfl, rfl⟩) (fun h => absurd h (by decide)) (Nat.le_of_ble_eq_true rfl) ?_ ?_
        · refine am_em (d := 12) nm_m30 rfl rfl (Nat.le_of_ble_eq_true rfl) rfl ?_
          refine am_rg (p1_a2 _ _) 1 (b := (1, [some (.ref 1), some (.int a1)], [.int a1], p1_h23)) rfl ?_
          refine am_i0 rfl (t := 21) rfl (am_cF (b := 0) rfl (by show ¬ (a1.toInt < 0); omega)) ?_
          refine am_rg (p1_a2 _ _) 3 (b := (9, [some (.ref 1), some (.int a1)], [.int 0, .int a1], p1_h23)) rfl ?_
          refine am_j1 rfl (t := 21) rfl (am_cT (b := 0) rfl (by show (a1.toInt ≥ 0); omega)) ?_
          refine am_rg (p1_a2 _ _) 1 (b := (22, [some (.ref 1), some (.int a1)], [.int (-1)], p1_h23)) rfl ?_
          exact am_ri rfl rfl rfl
        exact am_ri rfl rfl rfl
      refine am_rg (p1_a0 _ _) 5 (b := (278, [some (.retAddr 0), some (.ref 0), some (.ref 20), some (.ref 60), some (.int 0), none, none], [.int 1, .retAddr 0, .ref 20, .int (-1)], p1_h23)) rfl ?_
      refine am_sl rfl rfl h1 ?_
      refine am_rg (p1_a0 _ _) 4 (b := (284, [some (.retAddr 0), some (.ref 0), some (.ref 20), some (.ref 60), some (.int 0), none, none], [.int 2, .retAddr 0, .int a1, .ref 20, .int (-1)], p1_h23)) rfl ?_
      refine am_sl rfl rfl h2 ?_
      refine am_cv (N := nm_m231) (as := [.ref 20, .int a1, .int 1]) (rest := [.int (-1)]) (v := .int (-1)) (h' := p1_h23) rfl (am_kv p1_c64 (by decide)) (by decide) rfl rfl rfl (fun _ => ⟨_, _, _, _, _, rfl, rfl, rfl, rfl⟩) (fun h => absurd h (by decide)) (Nat.le_of_ble_eq_true rfl) ?_ ?_
      · refine am_em (d := 13) nm_m231 rfl rfl (Nat.le_of_ble_eq_true rfl) rfl ?_
        refine am_rg (p1_a10 _ _) 4 (b := (6, [some (.ref 20), some (.int a1), some (.int 1)], [.int a1], p1_h23)) rfl ?_
        refine am_i0 rfl (t := 17) rfl (am_cF (b := 0) rfl (by show ¬ (a1.toInt < 0); omega)) ?_
        refine am_rg (p1_a10 _ _) 3 (b := (14, [some (.ref 20), some (.int a1), some (.int 1)], [.int 0, .int a1], p1_h23)) rfl ?_
        refine am_j0 rfl (t := 19) rfl (am_cF (b := 0) rfl (by show ¬ (a1.toInt < 0); omega)) ?_
        refine am_rg (p1_a10 _ _) 1 (b := (18, [some (.ref 20), some (.int a1), some (.int 1)], [.int (-1)], p1_h23)) rfl ?_
        exact am_ri rfl rfl rfl
      refine am_rg (p1_a0 _ _) 6 (b := (27, [some (.retAddr 0), some (.ref 0), some (.ref 20), some (.ref 60), some (.int 3), none, none], [.int 3, .int 3], p1_h23)) rfl ?_
      refine am_rg (p1_a0 _ _) 4 (b := (375, [some (.retAddr 0), some (.ref 0), some (.ref 20), some (.ref 60), some (.int 3), none, none], [.int 1], p1_h23)) rfl ?_
      exact am_ri rfl rfl rfl
set_option maxRecDepth 100000 in
set_option maxHeartbeats 4000000 in
theorem p1_o6 (xs : Nat → Int32) (a1 a2 : Int32) (h1 : xs 1 = a1) (h2 : xs 2 = a2) (h0 : xs 0 &&& 15 = 6) : ∃ hf : am_H, am_Go (nm_F 3 xs) nm_cls nm_ms (am_Ev (nm_F 3 xs) nm_cls nm_ms 14) nm_law (.inl (some (.int 1)), hf) (none, (23, [some (.retAddr 0), some (.ref 0), some (.ref 20), some (.ref 60), some (.int 0), none, none], [], p1_h23)) ∧ hf.length ≤ 600002 ∧ am_sz hf ≤ 7302232 := by
  have d1 : a2.toInt < 0 ∨ 4 ≤ a2.toInt ∨ a2.toInt = 0 ∨ a2.toInt = 1 ∨ a2.toInt = 2 ∨ a2.toInt = 3 := by omega
  rcases d1 with d1 | d1 | d1 | d1 | d1 | d1
  · skip
    have d2 : a1.toInt < 0 ∨ 0 ≤ a1.toInt := by omega
    rcases d2 with d2 | d2
    · skip
      refine ⟨p1_h23, ?_, Nat.le_of_ble_eq_true rfl, Nat.le_of_ble_eq_true rfl⟩
      refine am_rg (p1_a0 _ _) 3 (b := (27, [some (.retAddr 0), some (.ref 0), some (.ref 20), some (.ref 60), some (.int 0), none, none], [.int 3, .int 0], p1_h23)) rfl ?_
      refine am_rg (p1_a0 _ _) 5 (b := (35, [some (.retAddr 0), some (.ref 0), some (.ref 20), some (.ref 60), some (.int 0), none, none], [.int 0, .retAddr 0], p1_h23)) rfl ?_
      refine am_sl rfl rfl rfl ?_
      refine am_rg (p1_a0 _ _) 1 (b := (38, [some (.retAddr 0), some (.ref 0), some (.ref 20), some (.ref 60), some (.int 0), none, none], [.int 15, .int (xs 0)], p1_h23)) rfl ?_
      refine am_an rfl h0 ?_
      refine am_rg (p1_a0 _ _) 6 (b := (299, [some (.retAddr 0), some (.ref 0), some (.ref 20), some (.ref 60), some (.int 0), none, none], [.int 1, .retAddr 0, .ref 0], p1_h23)) rfl ?_
      refine am_sl rfl rfl h1 ?_
      refine am_rg (p1_a0 _ _) 4 (b := (305, [some (.retAddr 0), some (.ref 0), some (.ref 20), some (.ref 60), some (.int 0), none, none], [.int 2, .retAddr 0, .int a1, .ref 0], p1_h23)) rfl ?_
      refine am_sl rfl rfl h2 ?_
      refine am_cv (N := nm_m31) (as := [.ref 0, .int a1, .int a2]) (rest := []) (v := .int (-1)) (h' := p1_h23) rfl (am_kv p1_c67 (by decide)) (by decide) rfl rfl rfl (fun _ => ⟨_, _, _, _, _, rfl, rfl, rfl, rfl⟩) (fun h => absurd h (by decide)) (Nat.le_of_ble_eq_true rfl) ?_ ?_
      · refine am_em (d := 13) nm_m31 rfl rfl (Nat.le_of_ble_eq_true rfl) rfl ?_
        refine am_rg (p1_a1 _ _) 3 (b := (5, [some (.ref 0), some (.int a1), some (.int a2), none], [.int a1, .ref 6], p1_h23)) rfl ?_
        refine am_cv (N := nm_m32) (as := [.ref 6, .int a1]) (rest := []) (v := .int (-1)) (h' := p1_h23) rfl (am_kv p1_c68 (by decide)) (by decide) rfl rfl rfl (fun _ => ⟨_, _, _, _, _, rfl, rfl, rfl, rfl⟩) (fun h => absurd h (by decide)) (Nat.le_of_ble_eq_true rfl) ?_ ?_
        · refine am_em (d := 12) nm_m32 rfl rfl (Nat.le_of_ble_eq_true rfl) rfl ?_
          refine am_rg (p1_a3 _ _) 9 (b := (41, [some (.ref 6), some (.int a1), some (.int 0), some (.int 0)], [.int (-1)], p1_h23)) rfl ?_
          exact am_ri rfl rfl rfl
        refine am_rg (p1_a1 _ _) 2 (b := (10, [some (.ref 0), some (.int a1), some (.int a2), some (.int (-1))], [.int a2], p1_h23)) rfl ?_
        refine am_td rfl (t := 74) rfl (by omega) ?_
        refine am_rg (p1_a1 _ _) 1 (b := (75, [some (.ref 0), some (.int a1), some (.int a2), some (.int (-1))], [.int (-1)], p1_h23)) rfl ?_
        exact am_ri rfl rfl rfl
      refine am_rg (p1_a0 _ _) 5 (b := (315, [some (.retAddr 0), some (.ref 0), some (.ref 20), some (.ref 60), some (.int 0), none, none], [.int 1, .retAddr 0, .ref 20, .int (-1)], p1_h23)) rfl ?_
      refine am_sl rfl rfl h1 ?_
      refine am_rg (p1_a0 _ _) 4 (b := (321, [some (.retAddr 0), some (.ref 0), some (.ref 20), some (.ref 60), some (.int 0), none, none], [.int 2, .retAddr 0, .int a1, .ref 20, .int (-1)], p1_h23)) rfl ?_
      refine am_sl rfl rfl h2 ?_
      refine am_cv (N := nm_m232) (as := [.ref 20, .int a1, .int a2]) (rest := [.int (-1)]) (v := .int (-1)) (h' := p1_h23) rfl (am_kv p1_c69 (by decide)) (by decide) rfl rfl rfl (fun _ => ⟨_, _, _, _, _, rfl, rfl, rfl, rfl⟩) (fun h => absurd h (by decide)) (Nat.le_of_ble_eq_true rfl) ?_ ?_
      · refine am_em (d := 13) nm_m232 rfl rfl (Nat.le_of_ble_eq_true rfl) rfl ?_
        refine am_rg (p1_a10 _ _) 4 (b := (6, [some (.ref 20), some (.int a1), some (.int a2), none], [.int a1], p1_h23)) rfl ?_
        refine am_i1 rfl (t := 26) rfl (am_cT (b := 0) rfl (by show (a1.toInt < 0); omega)) ?_
        refine am_rg (p1_a10 _ _) 1 (b := (27, [some (.ref 20), some (.int a1), some (.int a2), none], [.int (-1)], p1_h23)) rfl ?_
        exact am_ri rfl rfl rfl
      refine am_rg (p1_a0 _ _) 6 (b := (27, [some (.retAddr 0), some (.ref 0), some (.ref 20), some (.ref 60), some (.int 3), none, none], [.int 3, .int 3], p1_h23)) rfl ?_
      refine am_rg (p1_a0 _ _) 4 (b := (375, [some (.retAddr 0), some (.ref 0), some (.ref 20), some (.ref 60), some (.int 3), none, none], [.int 1], p1_h23)) rfl ?_
      exact am_ri rfl rfl rfl
    · skip
      refine ⟨p1_h23, ?_, Nat.le_of_ble_eq_true rfl, Nat.le_of_ble_eq_true rfl⟩
      refine am_rg (p1_a0 _ _) 3 (b := (27, [some (.retAddr 0), some (.ref 0), some (.ref 20), some (.ref 60), some (.int 0), none, none], [.int 3, .int 0], p1_h23)) rfl ?_
      refine am_rg (p1_a0 _ _) 5 (b := (35, [some (.retAddr 0), some (.ref 0), some (.ref 20), some (.ref 60), some (.int 0), none, none], [.int 0, .retAddr 0], p1_h23)) rfl ?_
      refine am_sl rfl rfl rfl ?_
      refine am_rg (p1_a0 _ _) 1 (b := (38, [some (.retAddr 0), some (.ref 0), some (.ref 20), some (.ref 60), some (.int 0), none, none], [.int 15, .int (xs 0)], p1_h23)) rfl ?_
      refine am_an rfl h0 ?_
      refine am_rg (p1_a0 _ _) 6 (b := (299, [some (.retAddr 0), some (.ref 0), some (.ref 20), some (.ref 60), some (.int 0), none, none], [.int 1, .retAddr 0, .ref 0], p1_h23)) rfl ?_
      refine am_sl rfl rfl h1 ?_
      refine am_rg (p1_a0 _ _) 4 (b := (305, [some (.retAddr 0), some (.ref 0), some (.ref 20), some (.ref 60), some (.int 0), none, none], [.int 2, .retAddr 0, .int a1, .ref 0], p1_h23)) rfl ?_
      refine am_sl rfl rfl h2 ?_
      refine am_cv (N := nm_m31) (as := [.ref 0, .int a1, .int a2]) (rest := []) (v := .int (-1)) (h' := p1_h23) rfl (am_kv p1_c67 (by decide)) (by decide) rfl rfl rfl (fun _ => ⟨_, _, _, _, _, rfl, rfl, rfl, rfl⟩) (fun h => absurd h (by decide)) (Nat.le_of_ble_eq_true rfl) ?_ ?_
      · refine am_em (d := 13) nm_m31 rfl rfl (Nat.le_of_ble_eq_true rfl) rfl ?_
        refine am_rg (p1_a1 _ _) 3 (b := (5, [some (.ref 0), some (.int a1), some (.int a2), none], [.int a1, .ref 6], p1_h23)) rfl ?_
        refine am_cv (N := nm_m32) (as := [.ref 6, .int a1]) (rest := []) (v := .int (-1)) (h' := p1_h23) rfl (am_kv p1_c68 (by decide)) (by decide) rfl rfl rfl (fun _ => ⟨_, _, _, _, _, rfl, rfl, rfl, rfl⟩) (fun h => absurd h (by decide)) (Nat.le_of_ble_eq_true rfl) ?_ ?_
        · refine am_em (d := 12) nm_m32 rfl rfl (Nat.le_of_ble_eq_true rfl) rfl ?_
          refine am_rg (p1_a3 _ _) 9 (b := (41, [some (.ref 6), some (.int a1), some (.int 0), some (.int 0)], [.int (-1)], p1_h23)) rfl ?_
          exact am_ri rfl rfl rfl
        refine am_rg (p1_a1 _ _) 2 (b := (10, [some (.ref 0), some (.int a1), some (.int a2), some (.int (-1))], [.int a2], p1_h23)) rfl ?_
        refine am_td rfl (t := 74) rfl (by omega) ?_
        refine am_rg (p1_a1 _ _) 1 (b := (75, [some (.ref 0), some (.int a1), some (.int a2), some (.int (-1))], [.int (-1)], p1_h23)) rfl ?_
        exact am_ri rfl rfl rfl
      refine am_rg (p1_a0 _ _) 5 (b := (315, [some (.retAddr 0), some (.ref 0), some (.ref 20), some (.ref 60), some (.int 0), none, none], [.int 1, .retAddr 0, .ref 20, .int (-1)], p1_h23)) rfl ?_
      refine am_sl rfl rfl h1 ?_
      refine am_rg (p1_a0 _ _) 4 (b := (321, [some (.retAddr 0), some (.ref 0), some (.ref 20), some (.ref 60), some (.int 0), none, none], [.int 2, .retAddr 0, .int a1, .ref 20, .int (-1)], p1_h23)) rfl ?_
      refine am_sl rfl rfl h2 ?_
      refine am_cv (N := nm_m232) (as := [.ref 20, .int a1, .int a2]) (rest := [.int (-1)]) (v := .int (-1)) (h' := p1_h23) rfl (am_kv p1_c69 (by decide)) (by decide) rfl rfl rfl (fun _ => ⟨_, _, _, _, _, rfl, rfl, rfl, rfl⟩) (fun h => absurd h (by decide)) (Nat.le_of_ble_eq_true rfl) ?_ ?_
      · refine am_em (d := 13) nm_m232 rfl rfl (Nat.le_of_ble_eq_true rfl) rfl ?_
        refine am_rg (p1_a10 _ _) 4 (b := (6, [some (.ref 20), some (.int a1), some (.int a2), none], [.int a1], p1_h23)) rfl ?_
        refine am_i0 rfl (t := 26) rfl (am_cF (b := 0) rfl (by show ¬ (a1.toInt < 0); omega)) ?_
        refine am_rg (p1_a10 _ _) 3 (b := (14, [some (.ref 20), some (.int a1), some (.int a2), none], [.int 0, .int a1], p1_h23)) rfl ?_
        refine am_j1 rfl (t := 26) rfl (am_cT (b := 0) rfl (by show (a1.toInt ≥ 0); omega)) ?_
        refine am_rg (p1_a10 _ _) 1 (b := (27, [some (.ref 20), some (.int a1), some (.int a2), none], [.int (-1)], p1_h23)) rfl ?_
        exact am_ri rfl rfl rfl
      refine am_rg (p1_a0 _ _) 6 (b := (27, [some (.retAddr 0), some (.ref 0), some (.ref 20), some (.ref 60), some (.int 3), none, none], [.int 3, .int 3], p1_h23)) rfl ?_
      refine am_rg (p1_a0 _ _) 4 (b := (375, [some (.retAddr 0), some (.ref 0), some (.ref 20), some (.ref 60), some (.int 3), none, none], [.int 1], p1_h23)) rfl ?_
      exact am_ri rfl rfl rfl
  · skip
    have d2 : a1.toInt < 0 ∨ 0 ≤ a1.toInt := by omega
    rcases d2 with d2 | d2
    · skip
      refine ⟨p1_h23, ?_, Nat.le_of_ble_eq_true rfl, Nat.le_of_ble_eq_true rfl⟩
      refine am_rg (p1_a0 _ _) 3 (b := (27, [some (.retAddr 0), some (.ref 0), some (.ref 20), some (.ref 60), some (.int 0), none, none], [.int 3, .int 0], p1_h23)) rfl ?_
      refine am_rg (p1_a0 _ _) 5 (b := (35, [some (.retAddr 0), some (.ref 0), some (.ref 20), some (.ref 60), some (.int 0), none, none], [.int 0, .retAddr 0], p1_h23)) rfl ?_
      refine am_sl rfl rfl rfl ?_
      refine am_rg (p1_a0 _ _) 1 (b := (38, [some (.retAddr 0), some (.ref 0), some (.ref 20), some (.ref 60), some (.int 0), none, none], [.int 15, .int (xs 0)], p1_h23)) rfl ?_
      refine am_an rfl h0 ?_
      refine am_rg (p1_a0 _ _) 6 (b := (299, [some (.retAddr 0), some (.ref 0), some (.ref 20), some (.ref 60), some (.int 0), none, none], [.int 1, .retAddr 0, .ref 0], p1_h23)) rfl ?_
      refine am_sl rfl rfl h1 ?_
      refine am_rg (p1_a0 _ _) 4 (b := (305, [some (.retAddr 0), some (.ref 0), some (.ref 20), some (.ref 60), some (.int 0), none, none], [.int 2, .retAddr 0, .int a1, .ref 0], p1_h23)) rfl ?_
      refine am_sl rfl rfl h2 ?_
      refine am_cv (N := nm_m31) (as := [.ref 0, .int a1, .int a2]) (rest := []) (v := .int (-1)) (h' := p1_h23) rfl (am_kv p1_c67 (by decide)) (by decide) rfl rfl rfl (fun _ => ⟨_, _, _, _, _, rfl, rfl, rfl, rfl⟩) (fun h => absurd h (by decide)) (Nat.le_of_ble_eq_true rfl) ?_ ?_
      · refine am_em (d := 13) nm_m31 rfl rfl (Nat.le_of_ble_eq_true rfl) rfl ?_
        refine am_rg (p1_a1 _ _) 3 (b := (5, [some (.ref 0), some (.int a1), some (.int a2), none], [.int a1, .ref 6], p1_h23)) rfl ?_
        refine am_cv (N := nm_m32) (as := [.ref 6, .int a1]) (rest := []) (v := .int (-1)) (h' := p1_h23) rfl (am_kv p1_c68 (by decide)) (by decide) rfl rfl rfl (fun _ => ⟨_, _, _, _, _, rfl, rfl, rfl, rfl⟩) (fun h => absurd h (by decide)) (Nat.le_of_ble_eq_true rfl) ?_ ?_
        · refine am_em (d := 12) nm_m32 rfl rfl (Nat.le_of_ble_eq_true rfl) rfl ?_
          refine am_rg (p1_a3 _ _) 9 (b := (41, [some (.ref 6), some (.int a1), some (.int 0), some (.int 0)], [.int (-1)], p1_h23)) rfl ?_
          exact am_ri rfl rfl rfl
        refine am_rg (p1_a1 _ _) 2 (b := (10, [some (.ref 0), some (.int a1), some (.int a2), some (.int (-1))], [.int a2], p1_h23)) rfl ?_
        refine am_td rfl (t := 74) rfl (by omega) ?_
        refine am_rg (p1_a1 _ _) 1 (b := (75, [some (.ref 0), some (.int a1), some (.int a2), some (.int (-1))], [.int (-1)], p1_h23)) rfl ?_
        exact am_ri rfl rfl rfl
      refine am_rg (p1_a0 _ _) 5 (b := (315, [some (.retAddr 0), some (.ref 0), some (.ref 20), some (.ref 60), some (.int 0), none, none], [.int 1, .retAddr 0, .ref 20, .int (-1)], p1_h23)) rfl ?_
      refine am_sl rfl rfl h1 ?_
      refine am_rg (p1_a0 _ _) 4 (b := (321, [some (.retAddr 0), some (.ref 0), some (.ref 20), some (.ref 60), some (.int 0), none, none], [.int 2, .retAddr 0, .int a1, .ref 20, .int (-1)], p1_h23)) rfl ?_
      refine am_sl rfl rfl h2 ?_
      refine am_cv (N := nm_m232) (as := [.ref 20, .int a1, .int a2]) (rest := [.int (-1)]) (v := .int (-1)) (h' := p1_h23) rfl (am_kv p1_c69 (by decide)) (by decide) rfl rfl rfl (fun _ => ⟨_, _, _, _, _, rfl, rfl, rfl, rfl⟩) (fun h => absurd h (by decide)) (Nat.le_of_ble_eq_true rfl) ?_ ?_
      · refine am_em (d := 13) nm_m232 rfl rfl (Nat.le_of_ble_eq_true rfl) rfl ?_
        refine am_rg (p1_a10 _ _) 4 (b := (6, [some (.ref 20), some (.int a1), some (.int a2), none], [.int a1], p1_h23)) rfl ?_
        refine am_i1 rfl (t := 26) rfl (am_cT (b := 0) rfl (by show (a1.toInt < 0); omega)) ?_
        refine am_rg (p1_a10 _ _) 1 (b := (27, [some (.ref 20), some (.int a1), some (.int a2), none], [.int (-1)], p1_h23)) rfl ?_
        exact am_ri rfl rfl rfl
      refine am_rg (p1_a0 _ _) 6 (b := (27, [some (.retAddr 0), some (.ref 0), some (.ref 20), some (.ref 60), some (.int 3), none, none], [.int 3, .int 3], p1_h23)) rfl ?_
      refine am_rg (p1_a0 _ _) 4 (b := (375, [some (.retAddr 0), some (.ref 0), some (.ref 20), some (.ref 60), some (.int 3), none, none], [.int 1], p1_h23)) rfl ?_
      exact am_ri rfl rfl rfl
    · skip
      refine ⟨p1_h23, ?_, Nat.le_of_ble_eq_true rfl, Nat.le_of_ble_eq_true rfl⟩
      refine am_rg (p1_a0 _ _) 3 (b := (27, [some (.retAddr 0), some (.ref 0), some (.ref 20), some (.ref 60), some (.int 0), none, none], [.int 3, .int 0], p1_h23)) rfl ?_
      refine am_rg (p1_a0 _ _) 5 (b := (35, [some (.retAddr 0), some (.ref 0), some (.ref 20), some (.ref 60), some (.int 0), none, none], [.int 0, .retAddr 0], p1_h23)) rfl ?_
      refine am_sl rfl rfl rfl ?_
      refine am_rg (p1_a0 _ _) 1 (b := (38, [some (.retAddr 0), some (.ref 0), some (.ref 20), some (.ref 60), some (.int 0), none, none], [.int 15, .int (xs 0)], p1_h23)) rfl ?_
      refine am_an rfl h0 ?_
      refine am_rg (p1_a0 _ _) 6 (b := (299, [some (.retAddr 0), some (.ref 0), some (.ref 20), some (.ref 60), some (.int 0), none, none], [.int 1, .retAddr 0, .ref 0], p1_h23)) rfl ?_
      refine am_sl rfl rfl h1 ?_
      refine am_rg (p1_a0 _ _) 4 (b := (305, [some (.retAddr 0), some (.ref 0), some (.ref 20), some (.ref 60), some (.int 0), none, none], [.int 2, .retAddr 0, .int a1, .ref 0], p1_h23)) rfl ?_
      refine am_sl rfl rfl h2 ?_
      refine am_cv (N := nm_m31) (as := [.ref 0, .int a1, .int a2]) (rest := []) (v := .int (-1)) (h' := p1_h23) rfl (am_kv p1_c67 (by decide)) (by decide) rfl rfl rfl (fun _ => ⟨_, _, _, _, _, rfl, rfl, rfl, rfl⟩) (fun h => absurd h (by decide)) (Nat.le_of_ble_eq_true rfl) ?_ ?_
      · refine am_em (d := 13) nm_m31 rfl rfl (Nat.le_of_ble_eq_true rfl) rfl ?_
        refine am_rg (p1_a1 _ _) 3 (b := (5, [some (.ref 0), some (.int a1), some (.int a2), none], [.int a1, .ref 6], p1_h23)) rfl ?_
        refine am_cv (N := nm_m32) (as := [.ref 6, .int a1]) (rest := []) (v := .int (-1)) (h' := p1_h23) rfl (am_kv p1_c68 (by decide)) (by decide) rfl rfl rfl (fun _ => ⟨_, _, _, _, _, rfl, rfl, rfl, rfl⟩) (fun h => absurd h (by decide)) (Nat.le_of_ble_eq_true rfl) ?_ ?_
        · refine am_em (d := 12) nm_m32 rfl rfl (Nat.le_of_ble_eq_true rfl) rfl ?_
          refine am_rg (p1_a3 _ _) 9 (b := (41, [some (.ref 6), some (.int a1), some (.int 0), some (.int 0)], [.int (-1)], p1_h23)) rfl ?_
          exact am_ri rfl rfl rfl
        refine am_rg (p1_a1 _ _) 2 (b := (10, [some (.ref 0), some (.int a1), some (.int a2), some (.int (-1))], [.int a2], p1_h23)) rfl ?_
        refine am_td rfl (t := 74) rfl (by omega) ?_
        refine am_rg (p1_a1 _ _) 1 (b := (75, [some (.ref 0), some (.int a1), some (.int a2), some (.int (-1))], [.int (-1)], p1_h23)) rfl ?_
        exact am_ri rfl rfl rfl
      refine am_rg (p1_a0 _ _) 5 (b := (315, [some (.retAddr 0), some (.ref 0), some (.ref 20), some (.ref 60), some (.int 0), none, none], [.int 1, .retAddr 0, .ref 20, .int (-1)], p1_h23)) rfl ?_
      refine am_sl rfl rfl h1 ?_
      refine am_rg (p1_a0 _ _) 4 (b := (321, [some (.retAddr 0), some (.ref 0), some (.ref 20), some (.ref 60), some (.int 0), none, none], [.int 2, .retAddr 0, .int a1, .ref 20, .int (-1)], p1_h23)) rfl ?_
      refine am_sl rfl rfl h2 ?_
      refine am_cv (N := nm_m232) (as := [.ref 20, .int a1, .int a2]) (rest := [.int (-1)]) (v := .int (-1)) (h' := p1_h23) rfl (am_kv p1_c69 (by decide)) (by decide) rfl rfl rfl (fun _ => ⟨_, _, _, _, _, rfl, rfl, rfl, rfl⟩) (fun h => absurd h (by decide)) (Nat.le_of_ble_eq_true rfl) ?_ ?_
      · refine am_em (d := 13) nm_m232 rfl rfl (Nat.le_of_ble_eq_true rfl) rfl ?_
        refine am_rg (p1_a10 _ _) 4 (b := (6, [some (.ref 20), some (.int a1), some (.int a2), none], [.int a1], p1_h23)) rfl ?_
        refine am_i0 rfl (t := 26) rfl (am_cF (b := 0) rfl (by show ¬ (a1.toInt < 0); omega)) ?_
        refine am_rg (p1_a10 _ _) 3 (b := (14, [some (.ref 20), some (.int a1), some (.int a2), none], [.int 0, .int a1], p1_h23)) rfl ?_
        refine am_j1 rfl (t := 26) rfl (am_cT (b := 0) rfl (by show (a1.toInt ≥ 0); omega)) ?_
        refine am_rg (p1_a10 _ _) 1 (b := (27, [some (.ref 20), some (.int a1), some (.int a2), none], [.int (-1)], p1_h23)) rfl ?_
        exact am_ri rfl rfl rfl
      refine am_rg (p1_a0 _ _) 6 (b := (27, [some (.retAddr 0), some (.ref 0), some (.ref 20), some (.ref 60), some (.int 3), none, none], [.int 3, .int 3], p1_h23)) rfl ?_
      refine am_rg (p1_a0 _ _) 4 (b := (375, [some (.retAddr 0), some (.ref 0), some (.ref 20), some (.ref 60), some (.int 3), none, none], [.int 1], p1_h23)) rfl ?_
      exact am_ri rfl rfl rfl
  · obtain rfl : a2 = 0 := am_inj d1 rfl
    have d2 : a1.toInt < 0 ∨ 0 ≤ a1.toInt := by omega
    rcases d2 with d2 | d2
    · skip
      refine ⟨p1_h23, ?_, Nat.le_of_ble_eq_true rfl, Nat.le_of_ble_eq_true rfl⟩
      refine am_rg (p1_a0 _ _) 3 (b := (27, [some (.retAddr 0), some (.ref 0), some (.ref 20), some (.ref 60), some (.int 0), none, none], [.int 3, .int 0], p1_h23)) rfl ?_
      refine am_rg (p1_a0 _ _) 5 (b := (35, [some (.retAddr 0), some (.ref 0), some (.ref 20), some (.ref 60), some (.int 0), none, none], [.int 0, .retAddr 0], p1_h23)) rfl ?_
      refine am_sl rfl rfl rfl ?_
      refine am_rg (p1_a0 _ _) 1 (b := (38, [some (.retAddr 0), some (.ref 0), some (.ref 20), some (.ref 60), some (.int 0), none, none], [.int 15, .int (xs 0)], p1_h23)) rfl ?_
      refine am_an rfl h0 ?_
      refine am_rg (p1_a0 _ _) 6 (b := (299, [some (.retAddr 0), some (.ref 0), some (.ref 20), some (.ref 60), some (.int 0), none, none], [.int 1, .retAddr 0, .ref 0], p1_h23)) rfl ?_
      refine am_sl rfl rfl h1 ?_
      refine am_rg (p1_a0 _ _) 4 (b := (305, [some (.retAddr 0), some (.ref 0), some (.ref 20), some (.ref 60), some (.int 0), none, none], [.int 2, .retAddr 0, .int a1, .ref 0], p1_h23)) rfl ?_
      refine am_sl rfl rfl h2 ?_
      refine am_cv (N := nm_m31) (as := [.ref 0, .int a1, .int 0]) (rest := []) (v := .int (-1)) (h' := p1_h23) rfl (am_kv p1_c67 (by decide)) (by decide) rfl rfl rfl (fun _ => ⟨_, _, _, _, _, rfl, rfl, rfl, rfl⟩) (fun h => absurd h (by decide)) (Nat.le_of_ble_eq_true rfl) ?_ ?_
      · refine am_em (d := 13) nm_m31 rfl rfl (Nat.le_of_ble_eq_true rfl) rfl ?_
        refine am_rg (p1_a1 _ _) 3 (b := (5, [some (.ref 0), some (.int a1), some (.int 0), none], [.int a1, .ref 6], p1_h23)) rfl ?_
        refine am_cv (N := nm_m32) (as := [.ref 6, .int a1]) (rest := []) (v := .int (-1)) (h' := p1_h23) rfl (am_kv p1_c68 (by decide)) (by decide) rfl rfl rfl (fun _ => ⟨_, _, _, _, _, rfl, rfl, rfl, rfl⟩) (fun h => absurd h (by decide)) (Nat.le_of_ble_eq_true rfl) ?_ ?_
        · refine am_em (d := 12) nm_m32 rfl rfl (Nat.le_of_ble_eq_true rfl) rfl ?_
          refine am_rg (p1_a3 _ _) 9 (b := (41, [some (.ref 6), some (.int a1), some (.int 0), some (.int 0)], [.int (-1)], p1_h23)) rfl ?_
          exact am_ri rfl rfl rfl
        refine am_rg (p1_a1 _ _) 4 (b := (41, [some (.ref 0), some (.int a1), some (.int 0), some (.int (-1))], [.int (-1)], p1_h23)) rfl ?_
        exact am_ri rfl rfl rfl
      refine am_rg (p1_a0 _ _) 5 (b := (315, [some (.retAddr 0), some (.ref 0), some (.ref 20), some (.ref 60), some (.int 0), none, none], [.int 1, .retAddr 0, .ref 20, .int (-1)], p1_h23)) rfl ?_
      refine am_sl rfl rfl h1 ?_
      refine am_rg (p1_a0 _ _) 4 (b := (321, [some (.retAddr 0), some (.ref 0), some (.ref 20), some (.ref 60), some (.int 0), none, none], [.int 2, .retAddr 0, .int a1, .ref 20, .int (-1)], p1_h23)) rfl ?_
      refine am_sl rfl rfl h2 ?_
      refine am_cv (N := nm_m232) (as := [.ref 20, .int a1, .int 0]) (rest := [.int (-1)]) (v := .int (-1)) (h' := p1_h23) rfl (am_kv p1_c69 (by decide)) (by decide) rfl rfl rfl (fun _ => ⟨_, _, _, _, _, rfl, rfl, rfl, rfl⟩) (fun h => absurd h (by decide)) (Nat.le_of_ble_eq_true rfl) ?_ ?_
      · refine am_em (d := 13) nm_m232 rfl rfl (Nat.le_of_ble_eq_true rfl) rfl ?_
        refine am_rg (p1_a10 _ _) 4 (b := (6, [some (.ref 20), some (.int a1), some (.int 0), none], [.int a1], p1_h23)) rfl ?_
        refine am_i1 rfl (t := 26) rfl (am_cT (b := 0) rfl (by show (a1.toInt < 0); omega)) ?_
        refine am_rg (p1_a10 _ _) 1 (b := (27, [some (.ref 20), some (.int a1), some (.int 0), none], [.int (-1)], p1_h23)) rfl ?_
        exact am_ri rfl rfl rfl
      refine am_rg (p1_a0 _ _) 6 (b := (27, [some (.retAddr 0), some (.ref 0), some (.ref 20), some (.ref 60), some (.int 3), none, none], [.int 3, .int 3], p1_h23)) rfl ?_
      refine am_rg (p1_a0 _ _) 4 (b := (375, [some (.retAddr 0), some (.ref 0), some (.ref 20), some (.ref 60), some (.int 3), none, none], [.int 1], p1_h23)) rfl ?_
      exact am_ri rfl rfl rfl
    · skip
      refine ⟨p1_h23, ?_, Nat.le_of_ble_eq_true rfl, Nat.le_of_ble_eq_true rfl⟩
      refine am_rg (p1_a0 _ _) 3 (b := (27, [some (.retAddr 0), some (.ref 0), some (.ref 20), some (.ref 60), some (.int 0), none, none], [.int 3, .int 0], p1_h23)) rfl ?_
      refine am_rg (p1_a0 _ _) 5 (b := (35, [some (.retAddr 0), some (.ref 0), some (.ref 20), some (.ref 60), some (.int 0), none, none], [.int 0, .retAddr 0], p1_h23)) rfl ?_
      refine am_sl rfl rfl rfl ?_
      refine am_rg (p1_a0 _ _) 1 (b := (38, [some (.retAddr 0), some (.ref 0), some (.ref 20), some (.ref 60), some (.int 0), none, none], [.int 15, .int (xs 0)], p1_h23)) rfl ?_
      refine am_an rfl h0 ?_
      refine am_rg (p1_a0 _ _) 6 (b := (299, [some (.retAddr 0), some (.ref 0), some (.ref 20), some (.ref 60), some (.int 0), none, none], [.int 1, .retAddr 0, .ref 0], p1_h23)) rfl ?_
      refine am_sl rfl rfl h1 ?_
      refine am_rg (p1_a0 _ _) 4 (b := (305, [some (.retAddr 0), some (.ref 0), some (.ref 20), some (.ref 60), some (.int 0), none, none], [.int 2, .retAddr 0, .int a1, .ref 0], p1_h23)) rfl ?_
      refine am_sl rfl rfl h2 ?_
      refine am_cv (N := nm_m31) (as := [.ref 0, .int a1, .int 0]) (rest := []) (v := .int (-1)) (h' := p1_h23) rfl (am_kv p1_c67 (by decide)) (by decide) rfl rfl rfl (fun _ => ⟨_, _, _, _, _, rfl, rfl, rfl, rfl⟩) (fun h => absurd h (by decide)) (Nat.le_of_ble_eq_true rfl) ?_ ?_
      · refine am_em (d := 13) nm_m31 rfl rfl (Nat.le_of_ble_eq_true rfl) rfl ?_
        refine am_rg (p1_a1 _ _) 3 (b := (5, [some (.ref 0), some (.int a1), some (.int 0), none], [.int a1, .ref 6], p1_h23)) rfl ?_
        refine am_cv (N := nm_m32) (as := [.ref 6, .int a1]) (rest := []) (v := .int (-1)) (h' := p1_h23) rfl (am_kv p1_c68 (by decide)) (by decide) rfl rfl rfl (fun _ => ⟨_, _, _, _, _, rfl, rfl, rfl, rfl⟩) (fun h => absurd h (by decide)) (Nat.le_of_ble_eq_true rfl) ?_ ?_
        · refine am_em (d := 12) nm_m32 rfl rfl (Nat.le_of_ble_eq_true rfl) rfl ?_
          refine am_rg (p1_a3 _ _) 9 (b := (41, [some (.ref 6), some (.int a1), some (.int 0), some (.int 0)], [.int (-1)], p1_h23)) rfl ?_
          exact am_ri rfl rfl rfl
        refine am_rg (p1_a1 _ _) 4 (b := (41, [some (.ref 0), some (.int a1), some (.int 0), some (.int (-1))], [.int (-1)], p1_h23)) rfl ?_
        exact am_ri rfl rfl rfl
      refine am_rg (p1_a0 _ _) 5 (b := (315, [some (.retAddr 0), some (.ref 0), some (.ref 20), some (.ref 60), some (.int 0), none, none], [.int 1, .retAddr 0, .ref 20, .int (-1)], p1_h23)) rfl ?_
      refine am_sl rfl rfl h1 ?_
      refine am_rg (p1_a0 _ _) 4 (b := (321, [some (.retAddr 0), some (.ref 0), some (.ref 20), some (.ref 60), some (.int 0), none, none], [.int 2, .retAddr 0, .int a1, .ref 20, .int (-1)], p1_h23)) rfl ?_
      refine am_sl rfl rfl h2 ?_
      refine am_cv (N := nm_m232) (as := [.ref 20, .int a1, .int 0]) (rest := [.int (-1)]) (v := .int (-1)) (h' := p1_h23) rfl (am_kv p1_c69 (by decide)) (by decide) rfl rfl rfl (fun _ => ⟨_, _, _, _, _, rfl, rfl, rfl, rfl⟩) (fun h => absurd h (by decide)) (Nat.le_of_ble_eq_true rfl) ?_ ?_
      · refine am_em (d := 13) nm_m232 rfl rfl (Nat.le_of_ble_eq_true rfl) rfl ?_
        refine am_rg (p1_a10 _ _) 4 (b := (6, [some (.ref 20), some (.int a1), some (.int 0), none], [.int a1], p1_h23)) rfl ?_
        refine am_i0 rfl (t := 26) rfl (am_cF (b := 0) rfl (by show ¬ (a1.toInt < 0); omega)) ?_
        refine am_rg (p1_a10 _ _) 3 (b := (14, [some (.ref 20), some (.int a1), some (.int 0), none], [.int 0, .int a1], p1_h23)) rfl ?_
        refine am_j1 rfl (t := 26) rfl (am_cT (b := 0) rfl (by show (a1.toInt ≥ 0); omega)) ?_
        refine am_rg (p1_a10 _ _) 1 (b := (27, [some (.ref 20), some (.int a1), some (.int 0), none], [.int (-1)], p1_h23)) rfl ?_
        exact am_ri rfl rfl rfl
      refine am_rg (p1_a0 _ _) 6 (b := (27, [some (.retAddr 0), some (.ref 0), some (.ref 20), some (.ref 60), some (.int 3), none, none], [.int 3, .int 3], p1_h23)) rfl ?_
      refine am_rg (p1_a0 _ _) 4 (b := (375, [some (.retAddr 0), some (.ref 0), some (.ref 20), some (.ref 60), some (.int 3), none, none], [.int 1], p1_h23)) rfl ?_
      exact am_ri rfl rfl rfl
  · obtain rfl : a2 = 1 := am_inj d1 rfl
    have d2 : a1.toInt < 0 ∨ 0 ≤ a1.toInt := by omega
    rcases d2 with d2 | d2
    · skip
      refine ⟨p1_h23, ?_, Nat.le_of_ble_eq_true rfl, Nat.le_of_ble_eq_true rfl⟩
      refine am_rg (p1_a0 _ _) 3 (b := (27, [some (.retAddr 0), some (.ref 0), some (.ref 20), some (.ref 60), some (.int 0), none, none], [.int 3, .int 0], p1_h23)) rfl ?_
      refine am_rg (p1_a0 _ _) 5 (b := (35, [some (.retAddr 0), some (.ref 0), some (.ref 20), some (.ref 60), some (.int 0), none, none], [.int 0, .retAddr 0], p1_h23)) rfl ?_
      refine am_sl rfl rfl rfl ?_
      refine am_rg (p1_a0 _ _) 1 (b := (38, [some (.retAddr 0), some (.ref 0), some (.ref 20), some (.ref 60), some (.int 0), none, none], [.int 15, .int (xs 0)], p1_h23)) rfl ?_
      refine am_an rfl h0 ?_
      refine am_rg (p1_a0 _ _) 6 (b := (299, [some (.retAddr 0), some (.ref 0), some (.ref 20), some (.ref 60), some (.int 0), none, none], [.int 1, .retAddr 0, .ref 0], p1_h23)) rfl ?_
      refine am_sl rfl rfl h1 ?_
      refine am_rg (p1_a0 _ _) 4 (b := (305, [some (.retAddr 0), some (.ref 0), some (.ref 20), some (.ref 60), some (.int 0), none, none], [.int 2, .retAddr 0, .int a1, .ref 0], p1_h23)) rfl ?_
      refine am_sl rfl rfl h2 ?_
      refine am_cv (N := nm_m31) (as := [.ref 0, .int a1, .int 1]) (rest := []) (v := .int (-1)) (h' := p1_h23) rfl (am_kv p1_c67 (by decide)) (by decide) rfl rfl rfl (fun _ => ⟨_, _, _, _, _, rfl, rfl, rfl, rfl⟩) (fun h => absurd h (by decide)) (Nat.le_of_ble_eq_true rfl) ?_ ?_
      · refine am_em (d := 13) nm_m31 rfl rfl (Nat.le_of_ble_eq_true rfl) rfl ?_
        refine am_rg (p1_a1 _ _) 3 (b := (5, [some (.ref 0), some (.int a1), some (.int 1), none], [.int a1, .ref 6], p1_h23)) rfl ?_
        refine am_cv (N := nm_m32) (as := [.ref 6, .int a1]) (rest := []) (v := .int (-1)) (h' := p1_h23) rfl (am_kv p1_c68 (by decide)) (by decide) rfl rfl rfl (fun _ => ⟨_, _, _, _, _, rfl, rfl, rfl, rfl⟩) (fun h => absurd h (by decide)) (Nat.le_of_ble_eq_true rfl) ?_ ?_
        · refine am_em (d := 12) nm_m32 rfl rfl (Nat.le_of_ble_eq_true rfl) rfl ?_
          refine am_rg (p1_a3 _ _) 9 (b := (41, [some (.ref 6), some (.int a1), some (.int 0), some (.int 0)], [.int (-1)], p1_h23)) rfl ?_
          exact am_ri rfl rfl rfl
        refine am_rg (p1_a1 _ _) 7 (b := (48, [some (.ref 0), some (.int a1), some (.int 1), some (.int (-1))], [.int 3, .int (-1), .ref 6], p1_h23)) rfl ?_
        refine am_cv (N := nm_m34) (as := [.ref 6, .int (-1), .int 3]) (rest := []) (v := .int (-1)) (h' := p1_h23) rfl (am_kv p1_c70 (by decide)) (by decide) rfl rfl rfl (fun _ => ⟨_, _, _, _, _, rfl, rfl, rfl, rfl⟩) (fun h => absurd h (by decide)) (Nat.le_of_ble_eq_true rfl) ?_ ?_
        · refine am_em (d := 12) nm_m34 rfl rfl (Nat.le_of_ble_eq_true rfl) rfl ?_
          refine am_rg (p1_a3 _ _) 2 (b := (2, [some (.ref 6), some (.int (-1)), some (.int 3), none, none, none], [.int (-1), .ref 6], p1_h23)) rfl ?_
          refine am_cv (N := nm_m16) (as := [.ref 6, .int (-1)]) (rest := []) (v := .int (-1)) (h' := p1_h23) rfl (am_kv p1_c50 (by decide)) (by decide) rfl rfl rfl (fun _ => ⟨_, _, _, _, _, rfl, rfl, rfl, rfl⟩) (fun h => absurd h (by decide)) (Nat.le_of_ble_eq_true rfl) ?_ ?_
          · refine am_em (d := 11) nm_m16 rfl rfl (Nat.le_of_ble_eq_true rfl) rfl ?_
            refine am_rg (p1_a3 _ _) 3 (b := (23, [some (.ref 6), some (.int (-1))], [.int (-1)], p1_h23)) rfl ?_
            exact am_ri rfl rfl rfl
          refine am_rg (p1_a3 _ _) 4 (b := (9, [some (.ref 6), some (.int (-1)), some (.int 3), some (.int (-1)), none, none], [.int 5, .int (-1), .ref 6], p1_h23)) rfl ?_
          refine am_cv (N := nm_m17) (as := [.ref 6, .int (-1), .int 5]) (rest := []) (v := .int (-1)) (h' := p1_h23) rfl (am_kv p1_c41 (by decide)) (by decide) rfl rfl rfl (fun _ => ⟨_, _, _, _, _, rfl, rfl, rfl, rfl⟩) (fun h => absurd h (by decide)) (Nat.le_of_ble_eq_true rfl) ?_ ?_
          · refine am_em (d := 11) nm_m17 rfl rfl (Nat.le_of_ble_eq_true rfl) rfl ?_
            refine am_rg (p1_a3 _ _) 3 (b := (37, [some (.ref 6), some (.int (-1)), some (.int 5)], [.int (-1)], p1_h23)) rfl ?_
            exact am_ri rfl rfl rfl
          refine am_rg (p1_a3 _ _) 7 (b := (23, [some (.ref 6), some (.int (-1)), some (.int 3), some (.int (-1)), some (.int (-1)), some (.int 0)], [.int 8, .int (-1), .ref 6, .int 0], p1_h23)) rfl ?_
          refine am_cv (N := nm_m17) (as := [.ref 6, .int (-1), .int 8]) (rest := [.int 0]) (v := .int (-1)) (h' := p1_h23) rfl (am_kv p1_c41 (by decide)) (by decide) rfl rfl rfl (fun _ => ⟨_, _, _, _, _, rfl, rfl, rfl, rfl⟩) (fun h => absurd h (by decide)) (Nat.le_of_ble_eq_true rfl) ?_ ?_
          · refine am_em (d := 11) nm_m17 rfl rfl (Nat.le_of_ble_eq_true rfl) rfl ?_
            refine am_rg (p1_a3 _ _) 3 (b := (37, [some (.ref 6), some (.int (-1)), some (.int 8)], [.int (-1)], p1_h23)) rfl ?_
            exact am_ri rfl rfl rfl
          refine am_rg (p1_a3 _ _) 2 (b := (64, [some (.ref 6), some (.int (-1)), some (.int 3), some (.int (-1)), some (.int (-1)), some (.int 0)], [.int (-1)], p1_h23)) rfl ?_
          exact am_ri rfl rfl rfl
        exact am_ri rfl rfl rfl
      refine am_rg (p1_a0 _ _) 5 (b := (315, [some (.retAddr 0), some (.ref 0), some (.ref 20), some (.ref 60), some (.int 0), none, none], [.int 1, .retAddr 0, .ref 20, .int (-1)], p1_h23)) rfl ?_
      refine am_sl rfl rfl h1 ?_
      refine am_rg (p1_a0 _ _) 4 (b := (321, [some (.retAddr 0), some (.ref 0), some (.ref 20), some (.ref 60), some (.int 0), none, none], [.int 2, .retAddr 0, .int a1, .ref 20, .int (-1)], p1_h23)) rfl ?_
      refine am_sl rfl rfl h2 ?_
      refine am_cv (N := nm_m232) (as := [.ref 20, .int a1, .int 1]) (rest := [.int (-1)]) (v := .int (-1)) (h' := p1_h23) rfl (am_kv p1_c69 (by decide)) (by decide) rfl rfl rfl (fun _ => ⟨_, _, _, _, _, rfl, rfl, rfl, rfl⟩) (fun h => absurd h (by decide)) (Nat.le_of_ble_eq_true rfl) ?_ ?_
      · refine am_em (d := 13) nm_m232 rfl rfl (Nat.le_of_ble_eq_true rfl) rfl ?_
        refine am_rg (p1_a10 _ _) 4 (b := (6, [some (.ref 20), some (.int a1), some (.int 1), none], [.int a1], p1_h23)) rfl ?_
        refine am_i1 rfl (t := 26) rfl (am_cT (b := 0) rfl (by show (a1.toInt < 0); omega)) ?_
        refine am_rg (p1_a10 _ _) 1 (b := (27, [some (.ref 20), some (.int a1), some (.int 1), none], [.int (-1)], p1_h23)) rfl ?_
        exact am_ri rfl rfl rfl
      refine am_rg (p1_a0 _ _) 6 (b := (27, [some (.retAddr 0), some (.ref 0), some (.ref 20), some (.ref 60), some (.int 3), none, none], [.int 3, .int 3], p1_h23)) rfl ?_
      refine am_rg (p1_a0 _ _) 4 (b := (375, [some (.retAddr 0), some (.ref 0), some (.ref 20), some (.ref 60), some (.int 3), none, none], [.int 1], p1_h23)) rfl ?_
      exact am_ri rfl rfl rfl
    · skip
      refine ⟨p1_h23, ?_, Nat.le_of_ble_eq_true rfl, Nat.le_of_ble_eq_true rfl⟩
      refine am_rg (p1_a0 _ _) 3 (b := (27, [some (.retAddr 0), some (.ref 0), some (.ref 20), some (.ref 60), some (.int 0), none, none], [.int 3, .int 0], p1_h23)) rfl ?_
      refine am_rg (p1_a0 _ _) 5 (b := (35, [some (.retAddr 0), some (.ref 0), some (.ref 20), some (.ref 60), some (.int 0), none, none], [.int 0, .retAddr 0], p1_h23)) rfl ?_
      refine am_sl rfl rfl rfl ?_
      refine am_rg (p1_a0 _ _) 1 (b := (38, [some (.retAddr 0), some (.ref 0), some (.ref 20), some (.ref 60), some (.int 0), none, none], [.int 15, .int (xs 0)], p1_h23)) rfl ?_
      refine am_an rfl h0 ?_
      refine am_rg (p1_a0 _ _) 6 (b := (299, [some (.retAddr 0), some (.ref 0), some (.ref 20), some (.ref 60), some (.int 0), none, none], [.int 1, .retAddr 0, .ref 0], p1_h23)) rfl ?_
      refine am_sl rfl rfl h1 ?_
      refine am_rg (p1_a0 _ _) 4 (b := (305, [some (.retAddr 0), some (.ref 0), some (.ref 20), some (.ref 60), some (.int 0), none, none], [.int 2, .retAddr 0, .int a1, .ref 0], p1_h23)) rfl ?_
      refine am_sl rfl rfl h2 ?_
      refine am_cv (N := nm_m31) (as := [.ref 0, .int a1, .int 1]) (rest := []) (v := .int (-1)) (h' := p1_h23) rfl (am_kv p1_c67 (by decide)) (by decide) rfl rfl rfl (fun _ => ⟨_, _, _, _, _, rfl, rfl, rfl, rfl⟩) (fun h => absurd h (by decide)) (Nat.le_of_ble_eq_true rfl) ?_ ?_
      · refine am_em (d := 13) nm_m31 rfl rfl (Nat.le_of_ble_eq_true rfl) rfl ?_
        refine am_rg (p1_a1 _ _) 3 (b := (5, [some (.ref 0), some (.int a1), some (.int 1), none], [.int a1, .ref 6], p1_h23)) rfl ?_
        refine am_cv (N := nm_m32) (as := [.ref 6, .int a1]) (rest := []) (v := .int (-1)) (h' := p1_h23) rfl (am_kv p1_c68 (by decide)) (by decide) rfl rfl rfl (fun _ => ⟨_, _, _, _, _, rfl, rfl, rfl, rfl⟩) (fun h => absurd h (by decide)) (Nat.le_of_ble_eq_true rfl) ?_ ?_
        · refine am_em (d := 12) nm_m32 rfl rfl (Nat.le_of_ble_eq_true rfl) rfl ?_
          refine am_rg (p1_a3 _ _) 9 (b := (41, [some (.ref 6), some (.int a1), some (.int 0), some (.int 0)], [.int (-1)], p1_h23)) rfl ?_
          exact am_ri rfl rfl rfl
        refine am_rg (p1_a1 _ _) 7 (b := (48, [some (.ref 0), some (.int a1), some (.int 1), some (.int (-1))], [.int 3, .int (-1), .ref 6], p1_h23)) rfl ?_
        refine am_cv (N := nm_m34) (as := [.ref 6, .int (-1), .int 3]) (rest := []) (v := .int (-1)) (h' := p1_h23) rfl (am_kv p1_c70 (by decide)) (by decide) rfl rfl rfl (fun _ => ⟨_, _, _, _, _, rfl, rfl, rfl, rfl⟩) (fun h => absurd h (by decide)) (Nat.le_of_ble_eq_true rfl) ?_ ?_
        · refine am_em (d := 12) nm_m34 rfl rfl (Nat.le_of_ble_eq_true rfl) rfl ?_
          refine am_rg (p1_a3 _ _) 2 (b := (2, [some (.ref 6), some (.int (-1)), some (.int 3), none, none, none], [.int (-1), .ref 6], p1_h23)) rfl ?_
          refine am_cv (N := nm_m16) (as := [.ref 6, .int (-1)]) (rest := []) (v := .int (-1)) (h' := p1_h23) rfl (am_kv p1_c50 (by decide)) (by decide) rfl rfl rfl (fun _ => ⟨_, _, _, _, _, rfl, rfl, rfl, rfl⟩) (fun h => absurd h (by decide)) (Nat.le_of_ble_eq_true rfl) ?_ ?_
          · refine am_em (d := 11) nm_m16 rfl rfl (Nat.le_of_ble_eq_true rfl) rfl ?_
            refine am_rg (p1_a3 _ _) 3 (b := (23, [some (.ref 6), some (.int (-1))], [.int (-1)], p1_h23)) rfl ?_
            exact am_ri rfl rfl rfl
          refine am_rg (p1_a3 _ _) 4 (b := (9, [some (.ref 6), some (.int (-1)), some (.int 3), some (.int (-1)), none, none], [.int 5, .int (-1), .ref 6], p1_h23)) rfl ?_
          refine am_cv (N := nm_m17) (as := [.ref 6, .int (-1), .int 5]) (rest := []) (v := .int (-1)) (h' := p1_h23) rfl (am_kv p1_c41 (by decide)) (by decide) rfl rfl rfl (fun _ => ⟨_, _, _, _, _, rfl, rfl, rfl, rfl⟩) (fun h => absurd h (by decide)) (Nat.le_of_ble_eq_true rfl) ?_ ?_
          · refine am_em (d := 11) nm_m17 rfl rfl (Nat.le_of_ble_eq_true rfl) rfl ?_
            refine am_rg (p1_a3 _ _) 3 (b := (37, [some (.ref 6), some (.int (-1)), some (.int 5)], [.int (-1)], p1_h23)) rfl ?_
            exact am_ri rfl rfl rfl
          refine am_rg (p1_a3 _ _) 7 (b := (23, [some (.ref 6), some (.int (-1)), some (.int 3), some (.int (-1)), some (.int (-1)), some (.int 0)], [.int 8, .int (-1), .ref 6, .int 0], p1_h23)) rfl ?_
          refine am_cv (N := nm_m17) (as := [.ref 6, .int (-1), .int 8]) (rest := [.int 0]) (v := .int (-1)) (h' := p1_h23) rfl (am_kv p1_c41 (by decide)) (by decide) rfl rfl rfl (fun _ => ⟨_, _, _, _, _, rfl, rfl, rfl, rfl⟩) (fun h => absurd h (by decide)) (Nat.le_of_ble_eq_true rfl) ?_ ?_
          · refine am_em (d := 11) nm_m17 rfl rfl (Nat.le_of_ble_eq_true rfl) rfl ?_
            refine am_rg (p1_a3 _ _) 3 (b := (37, [some (.ref 6), some (.int (-1)), some (.int 8)], [.int (-1)], p1_h23)) rfl ?_
            exact am_ri rfl rfl rfl
          refine am_rg (p1_a3 _ _) 2 (b := (64, [some (.ref 6), some (.int (-1)), some (.int 3), some (.int (-1)), some (.int (-1)), some (.int 0)], [.int (-1)], p1_h23)) rfl ?_
          exact am_ri rfl rfl rfl
        exact am_ri rfl rfl rfl
      refine am_rg (p1_a0 _ _) 5 (b := (315, [some (.retAddr 0), some (.ref 0), some (.ref 20), some (.ref 60), some (.int 0), none, none], [.int 1, .retAddr 0, .ref 20, .int (-1)], p1_h23)) rfl ?_
      refine am_sl rfl rfl h1 ?_
      refine am_rg (p1_a0 _ _) 4 (b := (321, [some (.retAddr 0), some (.ref 0), some (.ref 20), some (.ref 60), some (.int 0), none, none], [.int 2, .retAddr 0, .int a1, .ref 20, .int (-1)], p1_h23)) rfl ?_
      refine am_sl rfl rfl h2 ?_
      refine am_cv (N := nm_m232) (as := [.ref 20, .int a1, .int 1]) (rest := [.int (-1)]) (v := .int (-1)) (h' := p1_h23) rfl (am_kv p1_c69 (by decide)) (by decide) rfl rfl rfl (fun _ => ⟨_, _, _, _, _, rfl, rfl, rfl, rfl⟩) (fun h => absurd h (by decide)) (Nat.le_of_ble_eq_true rfl) ?_ ?_
      · refine am_em (d := 13) nm_m232 rfl rfl (Nat.le_of_ble_eq_true rfl) rfl ?_
        refine am_rg (p1_a10 _ _) 4 (b := (6, [some (.ref 20), some (.int a1), some (.int 1), none], [.int a1], p1_h23)) rfl ?_
        refine am_i0 rfl (t := 26) rfl (am_cF (b := 0) rfl (by show ¬ (a1.toInt < 0); omega)) ?_
        refine am_rg (p1_a10 _ _) 3 (b := (14, [some (.ref 20), some (.int a1), some (.int 1), none], [.int 0, .int a1], p1_h23)) rfl ?_
        refine am_j1 rfl (t := 26) rfl (am_cT (b := 0) rfl (by show (a1.toInt ≥ 0); omega)) ?_
        refine am_rg (p1_a10 _ _) 1 (b := (27, [some (.ref 20), some (.int a1), some (.int 1), none], [.int (-1)], p1_h23)) rfl ?_
        exact am_ri rfl rfl rfl
      refine am_rg (p1_a0 _ _) 6 (b := (27, [some (.retAddr 0), some (.ref 0), some (.ref 20), some (.ref 60), some (.int 3), none, none], [.int 3, .int 3], p1_h23)) rfl ?_
      refine am_rg (p1_a0 _ _) 4 (b := (375, [some (.retAddr 0), some (.ref 0), some (.ref 20), some (.ref 60), some (.int 3), none, none], [.int 1], p1_h23)) rfl ?_
      exact am_ri rfl rfl rfl
  · obtain rfl : a2 = 2 := am_inj d1 rfl
    have d2 : a1.toInt < 0 ∨ 0 ≤ a1.toInt := by omega
    rcases d2 with d2 | d2
    · skip
      refine ⟨p1_h23, ?_, Nat.le_of_ble_eq_true rfl, Nat.le_of_ble_eq_true rfl⟩
      refine am_rg (p1_a0 _ _) 3 (b := (27, [some (.retAddr 0), some (.ref 0), some (.ref 20), some (.ref 60), some (.int 0), none, none], [.int 3, .int 0], p1_h23)) rfl ?_
      refine am_rg (p1_a0 _ _) 5 (b := (35, [some (.retAddr 0), some (.ref 0), some (.ref 20), some (.ref 60), some (.int 0), none, none], [.int 0, .retAddr 0], p1_h23)) rfl ?_
      refine am_sl rfl rfl rfl ?_
      refine am_rg (p1_a0 _ _) 1 (b := (38, [some (.retAddr 0), some (.ref 0), some (.ref 20), some (.ref 60), some (.int 0), none, none], [.int 15, .int (xs 0)], p1_h23)) rfl ?_
      refine am_an rfl h0 ?_
      refine am_rg (p1_a0 _ _) 6 (b := (299, [some (.retAddr 0), some (.ref 0), some (.ref 20), some (.ref 60), some (.int 0), none, none], [.int 1, .retAddr 0, .ref 0], p1_h23)) rfl ?_
      refine am_sl rfl rfl h1 ?_
      refine am_rg (p1_a0 _ _) 4 (b := (305, [some (.retAddr 0), some (.ref 0), some (.ref 20), some (.ref 60), some (.int 0), none, none], [.int 2, .retAddr 0, .int a1, .ref 0], p1_h23)) rfl ?_
      refine am_sl rfl rfl h2 ?_
      refine am_cv (N := nm_m31) (as := [.ref 0, .int a1, .int 2]) (rest := []) (v := .int (-1)) (h' := p1_h23) rfl (am_kv p1_c67 (by decide)) (by decide) rfl rfl rfl (fun _ => ⟨_, _, _, _, _, rfl, rfl, rfl, rfl⟩) (fun h => absurd h (by decide)) (Nat.le_of_ble_eq_true rfl) ?_ ?_
      · refine am_em (d := 13) nm_m31 rfl rfl (Nat.le_of_ble_eq_true rfl) rfl ?_
        refine am_rg (p1_a1 _ _) 3 (b := (5, [some (.ref 0), some (.int a1), some (.int 2), none], [.int a1, .ref 6], p1_h23)) rfl ?_
        refine am_cv (N := nm_m32) (as := [.ref 6, .int a1]) (rest := []) (v := .int (-1)) (h' := p1_h23) rfl (am_kv p1_c68 (by decide)) (by decide) rfl rfl rfl (fun _ => ⟨_, _, _, _, _, rfl, rfl, rfl, rfl⟩) (fun h => absurd h (by decide)) (Nat.le_of_ble_eq_true rfl) ?_ ?_
        · refine am_em (d := 12) nm_m32 rfl rfl (Nat.le_of_ble_eq_true rfl) rfl ?_
          refine am_rg (p1_a3 _ _) 9 (b := (41, [some (.ref 6), some (.int a1), some (.int 0), some (.int 0)], [.int (-1)], p1_h23)) rfl ?_
          exact am_ri rfl rfl rfl
        refine am_rg (p1_a1 _ _) 7 (b := (59, [some (.ref 0), some (.int a1), some (.int 2), some (.int (-1))], [.int 7, .int (-1), .ref 6], p1_h23)) rfl ?_
        refine am_cv (N := nm_m34) (as := [.ref 6, .int (-1), .int 7]) (rest := []) (v := .int (-1)) (h' := p1_h23) rfl (am_kv p1_c70 (by decide)) (by decide) rfl rfl rfl (fun _ => ⟨_, _, _, _, _, rfl, rfl, rfl, rfl⟩) (fun h => absurd h (by decide)) (Nat.le_of_ble_eq_true rfl) ?_ ?_
        · refine am_em (d := 12) nm_m34 rfl rfl (Nat.le_of_ble_eq_true rfl) rfl ?_
          refine am_rg (p1_a3 _ _) 2 (b := (2, [some (.ref 6), some (.int (-1)), some (.int 7), none, none, none], [.int (-1), .ref 6], p1_h23)) rfl ?_
          refine am_cv (N := nm_m16) (as := [.ref 6, .int (-1)]) (rest := []) (v := .int (-1)) (h' := p1_h23) rfl (am_kv p1_c50 (by decide)) (by decide) rfl rfl rfl (fun _ => ⟨_, _, _, _, _, rfl, rfl, rfl, rfl⟩) (fun h => absurd h (by decide)) (Nat.le_of_ble_eq_true rfl) ?_ ?_
          · refine am_em (d := 11) nm_m16 rfl rfl (Nat.le_of_ble_eq_true rfl) rfl ?_
            refine am_rg (p1_a3 _ _) 3 (b := (23, [some (.ref 6), some (.int (-1))], [.int (-1)], p1_h23)) rfl ?_
            exact am_ri rfl rfl rfl
          refine am_rg (p1_a3 _ _) 4 (b := (9, [some (.ref 6), some (.int (-1)), some (.int 7), some (.int (-1)), none, none], [.int 5, .int (-1), .ref 6], p1_h23)) rfl ?_
          refine am_cv (N := nm_m17) (as := [.ref 6, .int (-1), .int 5]) (rest := []) (v := .int (-1)) (h' := p1_h23) rfl (am_kv p1_c41 (by decide)) (by decide) rfl rfl rfl (fun _ => ⟨_, _, _, _, _, rfl, rfl, rfl, rfl⟩) (fun h => absurd h (by decide)) (Nat.le_of_ble_eq_true rfl) ?_ ?_
          · refine am_em (d := 11) nm_m17 rfl rfl (Nat.le_of_ble_eq_true rfl) rfl ?_
            refine am_rg (p1_a3 _ _) 3 (b := (37, [some (.ref 6), some (.int (-1)), some (.int 5)], [.int (-1)], p1_h23)) rfl ?_
            exact am_ri rfl rfl rfl
          refine am_rg (p1_a3 _ _) 7 (b := (23, [some (.ref 6), some (.int (-1)), some (.int 7), some (.int (-1)), some (.int (-1)), some (.int 0)], [.int 8, .int (-1), .ref 6, .int 0], p1_h23)) rfl ?_
          refine am_cv (N := nm_m17) (as := [.ref 6, .int (-1), .int 8]) (rest := [.int 0]) (v := .int (-1)) (h' := p1_h23) rfl (am_kv p1_c41 (by decide)) (by decide) rfl rfl rfl (fun _ => ⟨_, _, _, _, _, rfl, rfl, rfl, rfl⟩) (fun h => absurd h (by decide)) (Nat.le_of_ble_eq_true rfl) ?_ ?_
          · refine am_em (d := 11) nm_m17 rfl rfl (Nat.le_of_ble_eq_true rfl) rfl ?_
            refine am_rg (p1_a3 _ _) 3 (b := (37, [some (.ref 6), some (.int (-1)), some (.int 8)], [.int (-1)], p1_h23)) rfl ?_
            exact am_ri rfl rfl rfl
          refine am_rg (p1_a3 _ _) 2 (b := (64, [some (.ref 6), some (.int (-1)), some (.int 7), some (.int (-1)), some (.int (-1)), some (.int 0)], [.int (-1)], p1_h23)) rfl ?_
          exact am_ri rfl rfl rfl
        exact am_ri rfl rfl rfl
      refine am_rg (p1_a0 _ _) 5 (b := (315, [some (.retAddr 0), some (.ref 0), some (.ref 20), some (.ref 60), some (.int 0), none, none], [.int 1, .retAddr 0, .ref 20, .int (-1)], p1_h23)) rfl ?_
      refine am_sl rfl rfl h1 ?_
      refine am_rg (p1_a0 _ _) 4 (b := (321, [some (.retAddr 0), some (.ref 0), some (.ref 20), some (.ref 60), some (.int 0), none, none], [.int 2, .retAddr 0, .int a1, .ref 20, .int (-1)], p1_h23)) rfl ?_
      refine am_sl rfl rfl h2 ?_
      refine am_cv (N := nm_m232) (as := [.ref 20, .int a1, .int 2]) (rest := [.int (-1)]) (v := .int (-1)) (h' := p1_h23) rfl (am_kv p1_c69 (by decide)) (by decide) rfl rfl rfl (fun _ => ⟨_, _, _, _, _, rfl, rfl, rfl, rfl⟩) (fun h => absurd h (by decide)) (Nat.le_of_ble_eq_true rfl) ?_ ?_
      · refine am_em (d := 13) nm_m232 rfl rfl (Nat.le_of_ble_eq_true rfl) rfl ?_
        refine am_rg (p1_a10 _ _) 4 (b := (6, [some (.ref 20), some (.int a1), some (.int 2), none], [.int a1], p1_h23)) rfl ?_
        refine am_i1 rfl (t := 26) rfl (am_cT (b := 0) rfl (by show (a1.toInt < 0); omega)) ?_
        refine am_rg (p1_a10 _ _) 1 (b := (27, [some (.ref 20), some (.int a1), some (.int 2), none], [.int (-1)], p1_h23)) rfl ?_
        exact am_ri rfl rfl rfl
      refine am_rg (p1_a0 _ _) 6 (b := (27, [some (.retAddr 0), some (.ref 0), some (.ref 20), some (.ref 60), some (.int 3), none, none], [.int 3, .int 3], p1_h23)) rfl ?_
      refine am_rg (p1_a0 _ _) 4 (b := (375, [some (.retAddr 0), some (.ref 0), some (.ref 20), some (.ref 60), some (.int 3), none, none], [.int 1], p1_h23)) rfl ?_
      exact am_ri rfl rfl rfl
    · skip
      refine ⟨p1_h23, ?_, Nat.le_of_ble_eq_true rfl, Nat.le_of_ble_eq_true rfl⟩
      refine am_rg (p1_a0 _ _) 3 (b := (27, [some (.retAddr 0), some (.ref 0), some (.ref 20), some (.ref 60), some (.int 0), none, none], [.int 3, .int 0], p1_h23)) rfl ?_
      refine am_rg (p1_a0 _ _) 5 (b := (35, [some (.retAddr 0), some (.ref 0), some (.ref 20), some (.ref 60), some (.int 0), none, none], [.int 0, .retAddr 0], p1_h23)) rfl ?_
      refine am_sl rfl rfl rfl ?_
      refine am_rg (p1_a0 _ _) 1 (b := (38, [some (.retAddr 0), some (.ref 0), some (.ref 20), some (.ref 60), some (.int 0), none, none], [.int 15, .int (xs 0)], p1_h23)) rfl ?_
      refine am_an rfl h0 ?_
      refine am_rg (p1_a0 _ _) 6 (b := (299, [some (.retAddr 0), some (.ref 0), some (.ref 20), some (.ref 60), some (.int 0), none, none], [.int 1, .retAddr 0, .ref 0], p1_h23)) rfl ?_
      refine am_sl rfl rfl h1 ?_
      refine am_rg (p1_a0 _ _) 4 (b := (305, [some (.retAddr 0), some (.ref 0), some (.ref 20), some (.ref 60), some (.int 0), none, none], [.int 2, .retAddr 0, .int a1, .ref 0], p1_h23)) rfl ?_
      refine am_sl rfl rfl h2 ?_
      refine am_cv (N := nm_m31) (as := [.ref 0, .int a1, .int 2]) (rest := []) (v := .int (-1)) (h' := p1_h23) rfl (am_kv p1_c67 (by decide)) (by decide) rfl rfl rfl (fun _ => ⟨_, _, _, _, _, rfl, rfl, rfl, rfl⟩) (fun h => absurd h (by decide)) (Nat.le_of_ble_eq_true rfl) ?_ ?_
      · refine am_em (d := 13) nm_m31 rfl rfl (Nat.le_of_ble_eq_true rfl) rfl ?_
        refine am_rg (p1_a1 _ _) 3 (b := (5, [some (.ref 0), some (.int a1), some (.int 2), none], [.int a1, .ref 6], p1_h23)) rfl ?_
        refine am_cv (N := nm_m32) (as := [.ref 6, .int a1]) (rest := []) (v := .int (-1)) (h' := p1_h23) rfl (am_kv p1_c68 (by decide)) (by decide) rfl rfl rfl (fun _ => ⟨_, _, _, _, _, rfl, rfl, rfl, rfl⟩) (fun h => absurd h (by decide)) (Nat.le_of_ble_eq_true rfl) ?_ ?_
        · refine am_em (d := 12) nm_m32 rfl rfl (Nat.le_of_ble_eq_true rfl) rfl ?_
          refine am_rg (p1_a3 _ _) 9 (b := (41, [some (.ref 6), some (.int a1), some (.int 0), some (.int 0)], [.int (-1)], p1_h23)) rfl ?_
          exact am_ri rfl rfl rfl
        refine am_rg (p1_a1 _ _) 7 (b := (59, [some (.ref 0), some (.int a1), some (.int 2), some (.int (-1))], [.int 7, .int (-1), .ref 6], p1_h23)) rfl ?_
        refine am_cv (N := nm_m34) (as := [.ref 6, .int (-1), .int 7]) (rest := []) (v := .int (-1)) (h' := p1_h23) rfl (am_kv p1_c70 (by decide)) (by decide) rfl rfl rfl (fun _ => ⟨_, _, _, _, _, rfl, rfl, rfl, rfl⟩) (fun h => absurd h (by decide)) (Nat.le_of_ble_eq_true rfl) ?_ ?_
        · refine am_em (d := 12) nm_m34 rfl rfl (Nat.le_of_ble_eq_true rfl) rfl ?_
          refine am_rg (p1_a3 _ _) 2 (b := (2, [some (.ref 6), some (.int (-1)), some (.int 7), none, none, none], [.int (-1), .ref 6], p1_h23)) rfl ?_
          refine am_cv (N := nm_m16) (as := [.ref 6, .int (-1)]) (rest := []) (v := .int (-1)) (h' := p1_h23) rfl (am_kv p1_c50 (by decide)) (by decide) rfl rfl rfl (fun _ => ⟨_, _, _, _, _, rfl, rfl, rfl, rfl⟩) (fun h => absurd h (by decide)) (Nat.le_of_ble_eq_true rfl) ?_ ?_
          · refine am_em (d := 11) nm_m16 rfl rfl (Nat.le_of_ble_eq_true rfl) rfl ?_
            refine am_rg (p1_a3 _ _) 3 (b := (23, [some (.ref 6), some (.int (-1))], [.int (-1)], p1_h23)) rfl ?_
            exact am_ri rfl rfl rfl
          refine am_rg (p1_a3 _ _) 4 (b := (9, [some (.ref 6), some (.int (-1)), some (.int 7), some (.int (-1)), none, none], [.int 5, .int (-1), .ref 6], p1_h23)) rfl ?_
          refine am_cv (N := nm_m17) (as := [.ref 6, .int (-1), .int 5]) (rest := []) (v := .int (-1)) (h' := p1_h23) rfl (am_kv p1_c41 (by decide)) (by decide) rfl rfl rfl (fun _ => ⟨_, _, _, _, _, rfl, rfl, rfl, rfl⟩) (fun h => absurd h (by decide)) (Nat.le_of_ble_eq_true rfl) ?_ ?_
          · refine am_em (d := 11) nm_m17 rfl rfl (Nat.le_of_ble_eq_true rfl) rfl ?_
            refine am_rg (p1_a3 _ _) 3 (b := (37, [some (.ref 6), some (.int (-1)), some (.int 5)], [.int (-1)], p1_h23)) rfl ?_
            exact am_ri rfl rfl rfl
          refine am_rg (p1_a3 _ _) 7 (b := (23, [some (.ref 6), some (.int (-1)), some (.int 7), some (.int (-1)), some (.int (-1)), some (.int 0)], [.int 8, .int (-1), .ref 6, .int 0], p1_h23)) rfl ?_
          refine am_cv (N := nm_m17) (as := [.ref 6, .int (-1), .int 8]) (rest := [.int 0]) (v := .int (-1)) (h' := p1_h23) rfl (am_kv p1_c41 (by decide)) (by decide) rfl rfl rfl (fun _ => ⟨_, _, _, _, _, rfl, rfl, rfl, rfl⟩) (fun h => absurd h (by decide)) (Nat.le_of_ble_eq_true rfl) ?_ ?_
          · refine am_em (d := 11) nm_m17 rfl rfl (Nat.le_of_ble_eq_true rfl) rfl ?_
            refine am_rg (p1_a3 _ _) 3 (b := (37, [some (.ref 6), some (.int (-1)), some (.int 8)], [.int (-1)], p1_h23)) rfl ?_
            exact am_ri rfl rfl rfl
          refine am_rg (p1_a3 _ _) 2 (b := (64, [some (.ref 6), some (.int (-1)), some (.int 7), some (.int (-1)), some (.int (-1)), some (.int 0)], [.int (-1)], p1_h23)) rfl ?_
          exact am_ri rfl rfl rfl
        exact am_ri rfl rfl rfl
      refine am_rg (p1_a0 _ _) 5 (b := (315, [some (.retAddr 0), some (.ref 0), some (.ref 20), some (.ref 60), some (.int 0), none, none], [.int 1, .retAddr 0, .ref 20, .int (-1)], p1_h23)) rfl ?_
      refine am_sl rfl rfl h1 ?_
      refine am_rg (p1_a0 _ _) 4 (b := (321, [some (.retAddr 0), some (.ref 0), some (.ref 20), some (.ref 60), some (.int 0), none, none], [.int 2, .retAddr 0, .int a1, .ref 20, .int (-1)], p1_h23)) rfl ?_
      refine am_sl rfl rfl h2 ?_
      refine am_cv (N := nm_m232) (as := [.ref 20, .int a1, .int 2]) (rest := [.int (-1)]) (v := .int (-1)) (h' := p1_h23) rfl (am_kv p1_c69 (by decide)) (by decide) rfl rfl rfl (fun _ => ⟨_, _, _, _, _, rfl, rfl, rfl, rfl⟩) (fun h => absurd h (by decide)) (Nat.le_of_ble_eq_true rfl) ?_ ?_
      · refine am_em (d := 13) nm_m232 rfl rfl (Nat.le_of_ble_eq_true rfl) rfl ?_
        refine am_rg (p1_a10 _ _) 4 (b := (6, [some (.ref 20), some (.int a1), some (.int 2), none], [.int a1], p1_h23)) rfl ?_
        refine am_i0 rfl (t := 26) rfl (am_cF (b := 0) rfl (by show ¬ (a1.toInt < 0); omega)) ?_
        refine am_rg (p1_a10 _ _) 3 (b := (14, [some (.ref 20), some (.int a1), some (.int 2), none], [.int 0, .int a1], p1_h23)) rfl ?_
        refine am_j1 rfl (t := 26) rfl (am_cT (b := 0) rfl (by show (a1.toInt ≥ 0); omega)) ?_
        refine am_rg (p1_a10 _ _) 1 (b := (27, [some (.ref 20), some (.int a1), some (.int 2), none], [.int (-1)], p1_h23)) rfl ?_
        exact am_ri rfl rfl rfl
      refine am_rg (p1_a0 _ _) 6 (b := (27, [some (.retAddr 0), some (.ref 0), some (.ref 20), some (.ref 60), some (.int 3), none, none], [.int 3, .int 3], p1_h23)) rfl ?_
      refine am_rg (p1_a0 _ _) 4 (b := (375, [some (.retAddr 0), some (.ref 0), some (.ref 20), some (.ref 60), some (.int 3), none, none], [.int 1], p1_h23)) rfl ?_
      exact am_ri rfl rfl rfl
  · obtain rfl : a2 = 3 := am_inj d1 rfl
    have d2 : a1.toInt < 0 ∨ 0 ≤ a1.toInt := by omega
    rcases d2 with d2 | d2
    · skip
      refine ⟨p1_h23, ?_, Nat.le_of_ble_eq_true rfl, Nat.le_of_ble_eq_true rfl⟩
      refine am_rg (p1_a0 _ _) 3 (b := (27, [some (.retAddr 0), some (.ref 0), some (.ref 20), some (.ref 60), some (.int 0), none, none], [.int 3, .int 0], p1_h23)) rfl ?_
      refine am_rg (p1_a0 _ _) 5 (b := (35, [some (.retAddr 0), some (.ref 0), some (.ref 20), some (.ref 60), some (.int 0), none, none], [.int 0, .retAddr 0], p1_h23)) rfl ?_
      refine am_sl rfl rfl rfl ?_
      refine am_rg (p1_a0 _ _) 1 (b := (38, [some (.retAddr 0), some (.ref 0), some (.ref 20), some (.ref 60), some (.int 0), none, none], [.int 15, .int (xs 0)], p1_h23)) rfl ?_
      refine am_an rfl h0 ?_
      refine am_rg (p1_a0 _ _) 6 (b := (299, [some (.retAddr 0), some (.ref 0), some (.ref 20), some (.ref 60), some (.int 0), none, none], [.int 1, .retAddr 0, .ref 0], p1_h23)) rfl ?_
      refine am_sl rfl rfl h1 ?_
      refine am_rg (p1_a0 _ _) 4 (b := (305, [some (.retAddr 0), some (.ref 0), some (.ref 20), some (.ref 60), some (.int 0), none, none], [.int 2, .retAddr 0, .int a1, .ref 0], p1_h23)) rfl ?_
      refine am_sl rfl rfl h2 ?_
      refine am_cv (N := nm_m31) (as := [.ref 0, .int a1, .int 3]) (rest := []) (v := .int (-1)) (h' := p1_h23) rfl (am_kv p1_c67 (by decide)) (by decide) rfl rfl rfl (fun _ => ⟨_, _, _, _, _, rfl, rfl, rfl, rfl⟩) (fun h => absurd h (by decide)) (Nat.le_of_ble_eq_true rfl) ?_ ?_
      · refine am_em (d := 13) nm_m31 rfl rfl (Nat.le_of_ble_eq_true rfl) rfl ?_
        refine am_rg (p1_a1 _ _) 3 (b := (5, [some (.ref 0), some (.int a1), some (.int 3), none], [.int a1, .ref 6], p1_h23)) rfl ?_
        refine am_cv (N := nm_m32) (as := [.ref 6, .int a1]) (rest := []) (v := .int (-1)) (h' := p1_h23) rfl (am_kv p1_c68 (by decide)) (by decide) rfl rfl rfl (fun _ => ⟨_, _, _, _, _, rfl, rfl, rfl, rfl⟩) (fun h => absurd h (by decide)) (Nat.le_of_ble_eq_true rfl) ?_ ?_
        · refine am_em (d := 12) nm_m32 rfl rfl (Nat.le_of_ble_eq_true rfl) rfl ?_
          refine am_rg (p1_a3 _ _) 9 (b := (41, [some (.ref 6), some (.int a1), some (.int 0), some (.int 0)], [.int (-1)], p1_h23)) rfl ?_
          exact am_ri rfl rfl rfl
        refine am_rg (p1_a1 _ _) 7 (b := (70, [some (.ref 0), some (.int a1), some (.int 3), some (.int (-1))], [.int 20, .int (-1), .ref 6], p1_h23)) rfl ?_
        refine am_cv (N := nm_m34) (as := [.ref 6, .int (-1), .int 20]) (rest := []) (v := .int (-1)) (h' := p1_h23) rfl (am_kv p1_c70 (by decide)) (by decide) rfl rfl rfl (fun _ => ⟨_, _, _, _, _, rfl, rfl, rfl, rfl⟩) (fun h => absurd h (by decide)) (Nat.le_of_ble_eq_true rfl) ?_ ?_
        · refine am_em (d := 12) nm_m34 rfl rfl (Nat.le_of_ble_eq_true rfl) rfl ?_
          refine am_rg (p1_a3 _ _) 2 (b := (2, [some (.ref 6), some (.int (-1)), some (.int 20), none, none, none], [.int (-1), .ref 6], p1_h23)) rfl ?_
          refine am_cv (N := nm_m16) (as := [.ref 6, .int (-1)]) (rest := []) (v := .int (-1)) (h' := p1_h23) rfl (am_kv p1_c50 (by decide)) (by decide) rfl rfl rfl (fun _ => ⟨_, _, _, _, _, rfl, rfl, rfl, rfl⟩) (fun h => absurd h (by decide)) (Nat.le_of_ble_eq_true rfl) ?_ ?_
          · refine am_em (d := 11) nm_m16 rfl rfl (Nat.le_of_ble_eq_true rfl) rfl ?_
            refine am_rg (p1_a3 _ _) 3 (b := (23, [some (.ref 6), some (.int (-1))], [.int (-1)], p1_h23)) rfl ?_
            exact am_ri rfl rfl rfl
          refine am_rg (p1_a3 _ _) 4 (b := (9, [some (.ref 6), some (.int (-1)), some (.int 20), some (.int (-1)), none, none], [.int 5, .int (-1), .ref 6], p1_h23)) rfl ?_
          refine am_cv (N := nm_m17) (as := [.ref 6, .int (-1), .int 5]) (rest := []) (v := .int (-1)) (h' := p1_h23) rfl (am_kv p1_c41 (by decide)) (by decide) rfl rfl rfl (fun _ => ⟨_, _, _, _, _, rfl, rfl, rfl, rfl⟩) (fun h => absurd h (by decide)) (Nat.le_of_ble_eq_true rfl) ?_ ?_
          · refine am_em (d := 11) nm_m17 rfl rfl (Nat.le_of_ble_eq_true rfl) rfl ?_
            refine am_rg (p1_a3 _ _) 3 (b := (37, [some (.ref 6), some (.int (-1)), some (.int 5)], [.int (-1)], p1_h23)) rfl ?_
            exact am_ri rfl rfl rfl
          refine am_rg (p1_a3 _ _) 7 (b := (23, [some (.ref 6), some (.int (-1)), some (.int 20), some (.int (-1)), some (.int (-1)), some (.int 0)], [.int 8, .int (-1), .ref 6, .int 0], p1_h23)) rfl ?_
          refine am_cv (N := nm_m17) (as := [.ref 6, .int (-1), .int 8]) (rest := [.int 0]) (v := .int (-1)) (h' := p1_h23) rfl (am_kv p1_c41 (by decide)) (by decide) rfl rfl rfl (fun _ => ⟨_, _, _, _, _, rfl, rfl, rfl, rfl⟩) (fun h => absurd h (by decide)) (Nat.le_of_ble_eq_true rfl) ?_ ?_
          · refine am_em (d := 11) nm_m17 rfl rfl (Nat.le_of_ble_eq_true rfl) rfl ?_
            refine am_rg (p1_a3 _ _) 3 (b := (37, [some (.ref 6), some (.int (-1)), some (.int 8)], [.int (-1)], p1_h23)) rfl ?_
            exact am_ri rfl rfl rfl
          refine am_rg (p1_a3 _ _) 2 (b := (64, [some (.ref 6), some (.int (-1)), some (.int 20), some (.int (-1)), some (.int (-1)), some (.int 0)], [.int (-1)], p1_h23)) rfl ?_
          exact am_ri rfl rfl rfl
        exact am_ri rfl rfl rfl
      refine am_rg (p1_a0 _ _) 5 (b := (315, [some (.retAddr 0), some (.ref 0), some (.ref 20), some (.ref 60), some (.int 0), none, none], [.int 1, .retAddr 0, .ref 20, .int (-1)], p1_h23)) rfl ?_
      refine am_sl rfl rfl h1 ?_
      refine am_rg (p1_a0 _ _) 4 (b := (321, [some (.retAddr 0), some (.ref 0), some (.ref 20), some (.ref 60), some (.int 0), none, none], [.int 2, .retAddr 0, .int a1, .ref 20, .int (-1)], p1_h23)) rfl ?_
      refine am_sl rfl rfl h2 ?_
      refine am_cv (N := nm_m232) (as := [.ref 20, .int a1, .int 3]) (rest := [.int (-1)]) (v := .int (-1)) (h' := p1_h23) rfl (am_kv p1_c69 (by decide)) (by decide) rfl rfl rfl (fun _ => ⟨_, _, _, _, _, rfl, rfl, rfl, rfl⟩) (fun h => absurd h (by decide)) (Nat.le_of_ble_eq_true rfl) ?_ ?_
      · refine am_em (d := 13) nm_m232 rfl rfl (Nat.le_of_ble_eq_true rfl) rfl ?_
        refine am_rg (p1_a10 _ _) 4 (b := (6, [some (.ref 20), some (.int a1), some (.int 3), none], [.int a1], p1_h23)) rfl ?_
        refine am_i1 rfl (t := 26) rfl (am_cT (b := 0) rfl (by show (a1.toInt < 0); omega)) ?_
        refine am_rg (p1_a10 _ _) 1 (b := (27, [some (.ref 20), some (.int a1), some (.int 3), none], [.int (-1)], p1_h23)) rfl ?_
        exact am_ri rfl rfl rfl
      refine am_rg (p1_a0 _ _) 6 (b := (27, [some (.retAddr 0), some (.ref 0), some (.ref 20), some (.ref 60), some (.int 3), none, none], [.int 3, .int 3], p1_h23)) rfl ?_
      refine am_rg (p1_a0 _ _) 4 (b := (375, [some (.retAddr 0), some (.ref 0), some (.ref 20), some (.ref 60), some (.int 3), none, none], [.int 1], p1_h23)) rfl ?_
      exact am_ri rfl rfl rfl
    · skip
      refine ⟨p1_h23, ?_, Nat.le_of_ble_eq_true rfl, Nat.le_of_ble_eq_true rfl⟩
      refine am_rg (p1_a0 _ _) 3 (b := (27, [some (.retAddr 0), some (.ref 0), some (.ref 20), some (.ref 60), some (.int 0), none, none], [.int 3, .int 0], p1_h23)) rfl ?_
      refine am_rg (p1_a0 _ _) 5 (b := (35, [some (.retAddr 0), some (.ref 0), some (.ref 20), some (.ref 60), some (.int 0), none, none], [.int 0, .retAddr 0], p1_h23)) rfl ?_
      refine am_sl rfl rfl rfl ?_
      refine am_rg (p1_a0 _ _) 1 (b := (38, [some (.retAddr 0), some (.ref 0), some (.ref 20), some (.ref 60), some (.int 0), none, none], [.int 15, .int (xs 0)], p1_h23)) rfl ?_
      refine am_an rfl h0 ?_
      refine am_rg (p1_a0 _ _) 6 (b := (299, [some (.retAddr 0), some (.ref 0), some (.ref 20), some (.ref 60), some (.int 0), none, none], [.int 1, .retAddr 0, .ref 0], p1_h23)) rfl ?_
      refine am_sl rfl rfl h1 ?_
      refine am_rg (p1_a0 _ _) 4 (b := (305, [some (.retAddr 0), some (.ref 0), some (.ref 20), some (.ref 60), some (.int 0), none, none], [.int 2, .retAddr 0, .int a1, .ref 0], p1_h23)) rfl ?_
      refine am_sl rfl rfl h2 ?_
      refine am_cv (N := nm_m31) (as := [.ref 0, .int a1, .int 3]) (rest := []) (v := .int (-1)) (h' := p1_h23) rfl (am_kv p1_c67 (by decide)) (by decide) rfl rfl rfl (fun _ => ⟨_, _, _, _, _, rfl, rfl, rfl, rfl⟩) (fun h => absurd h (by decide)) (Nat.le_of_ble_eq_true rfl) ?_ ?_
      · refine am_em (d := 13) nm_m31 rfl rfl (Nat.le_of_ble_eq_true rfl) rfl ?_
        refine am_rg (p1_a1 _ _) 3 (b := (5, [some (.ref 0), some (.int a1), some (.int 3), none], [.int a1, .ref 6], p1_h23)) rfl ?_
        refine am_cv (N := nm_m32) (as := [.ref 6, .int a1]) (rest := []) (v := .int (-1)) (h' := p1_h23) rfl (am_kv p1_c68 (by decide)) (by decide) rfl rfl rfl (fun _ => ⟨_, _, _, _, _, rfl, rfl, rfl, rfl⟩) (fun h => absurd h (by decide)) (Nat.le_of_ble_eq_true rfl) ?_ ?_
        · refine am_em (d := 12) nm_m32 rfl rfl (Nat.le_of_ble_eq_true rfl) rfl ?_
          refine am_rg (p1_a3 _ _) 9 (b := (41, [some (.ref 6), some (.int a1), some (.int 0), some (.int 0)], [.int (-1)], p1_h23)) rfl ?_
          exact am_ri rfl rfl rfl
        refine am_rg (p1_a1 _ _) 7 (b := (70, [some (.ref 0), some (.int a1), some (.int 3), some (.int (-1))], [.int 20, .int (-1), .ref 6], p1_h23)) rfl ?_
        refine am_cv (N := nm_m34) (as := [.ref 6, .int (-1), .int 20]) (rest := []) (v := .int (-1)) (h' := p1_h23) rfl (am_kv p1_c70 (by decide)) (by decide) rfl rfl rfl (fun _ => ⟨_, _, _, _, _, rfl, rfl, rfl, rfl⟩) (fun h => absurd h (by decide)) (Nat.le_of_ble_eq_true rfl) ?_ ?_
        · refine am_em (d := 12) nm_m34 rfl rfl (Nat.le_of_ble_eq_true rfl) rfl ?_
          refine am_rg (p1_a3 _ _) 2 (b := (2, [some (.ref 6), some (.int (-1)), some (.int 20), none, none, none], [.int (-1), .ref 6], p1_h23)) rfl ?_
          refine am_cv (N := nm_m16) (as := [.ref 6, .int (-1)]) (rest := []) (v := .int (-1)) (h' := p1_h23) rfl (am_kv p1_c50 (by decide)) (by decide) rfl rfl rfl (fun _ => ⟨_, _, _, _, _, rfl, rfl, rfl, rfl⟩) (fun h => absurd h (by decide)) (Nat.le_of_ble_eq_true rfl) ?_ ?_
          · refine am_em (d := 11) nm_m16 rfl rfl (Nat.le_of_ble_eq_true rfl) rfl ?_
            refine am_rg (p1_a3 _ _) 3 (b := (23, [some (.ref 6), some (.int (-1))], [.int (-1)], p1_h23)) rfl ?_
            exact am_ri rfl rfl rfl
          refine am_rg (p1_a3 _ _) 4 (b := (9, [some (.ref 6), some (.int (-1)), some (.int 20), some (.int (-1)), none, none], [.int 5, .int (-1), .ref 6], p1_h23)) rfl ?_
          refine am_cv (N := nm_m17) (as := [.ref 6, .int (-1), .int 5]) (rest := []) (v := .int (-1)) (h' := p1_h23) rfl (am_kv p1_c41 (by decide)) (by decide) rfl rfl rfl (fun _ => ⟨_, _, _, _, _, rfl, rfl, rfl, rfl⟩) (fun h => absurd h (by decide)) (Nat.le_of_ble_eq_true rfl) ?_ ?_
          · refine am_em (d := 11) nm_m17 rfl rfl (Nat.le_of_ble_eq_true rfl) rfl ?_
            refine am_rg (p1_a3 _ _) 3 (b := (37, [some (.ref 6), some (.int (-1)), some (.int 5)], [.int (-1)], p1_h23)) rfl ?_
            exact am_ri rfl rfl rfl
          refine am_rg (p1_a3 _ _) 7 (b := (23, [some (.ref 6), some (.int (-1)), some (.int 20), some (.int (-1)), some (.int (-1)), some (.int 0)], [.int 8, .int (-1), .ref 6, .int 0], p1_h23)) rfl ?_
          refine am_cv (N := nm_m17) (as := [.ref 6, .int (-1), .int 8]) (rest := [.int 0]) (v := .int (-1)) (h' := p1_h23) rfl (am_kv p1_c41 (by decide)) (by decide) rfl rfl rfl (fun _ => ⟨_, _, _, _, _, rfl, rfl, rfl, rfl⟩) (fun h => absurd h (by decide)) (Nat.le_of_ble_eq_true rfl) ?_ ?_
          · refine am_em (d := 11) nm_m17 rfl rfl (Nat.le_of_ble_eq_true rfl) rfl ?_
            refine am_rg (p1_a3 _ _) 3 (b := (37, [some (.ref 6), some (.int (-1)), some (.int 8)], [.int (-1)], p1_h23)) rfl ?_
            exact am_ri rfl rfl rfl
          refine am_rg (p1_a3 _ _) 2 (b := (64, [some (.ref 6), some (.int (-1)), some (.int 20), some (.int (-1)), some (.int (-1)), some (.int 0)], [.int (-1)], p1_h23)) rfl ?_
          exact am_ri rfl rfl rfl
        exact am_ri rfl rfl rfl
      refine am_rg (p1_a0 _ _) 5 (b := (315, [some (.retAddr 0), some (.ref 0), some (.ref 20), some (.ref 60), some (.int 0), none, none], [.int 1, .retAddr 0, .ref 20, .int (-1)], p1_h23)) rfl ?_
      refine am_sl rfl rfl h1 ?_
      refine am_rg (p1_a0 _ _) 4 (b := (321, [some (.retAddr 0), some (.ref 0), some (.ref 20), some (.ref 60), some (.int 0), none, none], [.int 2, .retAddr 0, .int a1, .ref 20, .int (-1)], p1_h23)) rfl ?_
      refine am_sl rfl rfl h2 ?_
      refine am_cv (N := nm_m232) (as := [.ref 20, .int a1, .int 3]) (rest := [.int (-1)]) (v := .int (-1)) (h' := p1_h23) rfl (am_kv p1_c69 (by decide)) (by decide) rfl rfl rfl (fun _ => ⟨_, _, _, _, _, rfl, rfl, rfl, rfl⟩) (fun h => absurd h (by decide)) (Nat.le_of_ble_eq_true rfl) ?_ ?_
      · refine am_em (d := 13) nm_m232 rfl rfl (Nat.le_of_ble_eq_true rfl) rfl ?_
        refine am_rg (p1_a10 _ _) 4 (b := (6, [some (.ref 20), some (.int a1), some (.int 3), none], [.int a1], p1_h23)) rfl ?_
        refine am_i0 rfl (t := 26) rfl (am_cF (b := 0) rfl (by show ¬ (a1.toInt < 0); omega)) ?_
        refine am_rg (p1_a10 _ _) 3 (b := (14, [some (.ref 20), some (.int a1), some (.int 3), none], [.int 0, .int a1], p1_h23)) rfl ?_
        refine am_j1 rfl (t := 26) rfl (am_cT (b := 0) rfl (by show (a1.toInt ≥ 0); omega)) ?_
        refine am_rg (p1_a10 _ _) 1 (b := (27, [some (.ref 20), some (.int a1), some (.int 3), none], [.int (-1)], p1_h23)) rfl ?_
        exact am_ri rfl rfl rfl
      refine am_rg (p1_a0 _ _) 6 (b := (27, [some (.retAddr 0), some (.ref 0), some (.ref 20), some (.ref 60), some (.int 3), none, none], [.int 3, .int 3], p1_h23)) rfl ?_
      refine am_rg (p1_a0 _ _) 4 (b := (375, [some (.retAddr 0), some (.ref 0), some (.ref 20), some (.ref 60), some (.int 3), none, none], [.int 1], p1_h23)) rfl ?_
      exact am_ri rfl rfl rfl
set_option maxRecDepth 100000 in
set_option maxHeartbeats 4000000 in
theorem p1_o7 (xs : Nat → Int32) (a1 a2 : Int32) (h1 : xs 1 = a1) (h2 : xs 2 = a2) (h0 : xs 0 &&& 15 = 7) : ∃ hf : am_H, am_Go (nm_F 3 xs) nm_cls nm_ms (am_Ev (nm_F 3 xs) nm_cls nm_ms 14) nm_law (.inl (some (.int 1)), hf) (none, (23, [some (.retAddr 0), some (.ref 0), some (.ref 20), some (.ref 60), some (.int 0), none, none], [], p1_h23)) ∧ hf.length ≤ 600002 ∧ am_sz hf ≤ 7302232 := by
  refine ⟨p1_h23, ?_, Nat.le_of_ble_eq_true rfl, Nat.le_of_ble_eq_true rfl⟩
  refine am_rg (p1_a0 _ _) 3 (b := (27, [some (.retAddr 0), some (.ref 0), some (.ref 20), some (.ref 60), some (.int 0), none, none], [.int 3, .int 0], p1_h23)) rfl ?_
  refine am_rg (p1_a0 _ _) 5 (b := (35, [some (.retAddr 0), some (.ref 0), some (.ref 20), some (.ref 60), some (.int 0), none, none], [.int 0, .retAddr 0], p1_h23)) rfl ?_
  refine am_sl rfl rfl rfl ?_
  refine am_rg (p1_a0 _ _) 1 (b := (38, [some (.retAddr 0), some (.ref 0), some (.ref 20), some (.ref 60), some (.int 0), none, none], [.int 15, .int (xs 0)], p1_h23)) rfl ?_
  refine am_an rfl h0 ?_
  refine am_rg (p1_a0 _ _) 2 (b := (331, [some (.retAddr 0), some (.ref 0), some (.ref 20), some (.ref 60), some (.int 0), none, none], [.ref 0], p1_h23)) rfl ?_
  refine am_cv (N := nm_m35) (as := [.ref 0]) (rest := []) (v := .int 0) (h' := p1_h23) rfl (am_kv p1_c71 (by decide)) (by decide) rfl rfl rfl (fun _ => ⟨_, _, _, _, _, rfl, rfl, rfl, rfl⟩) (fun h => absurd h (by decide)) (Nat.le_of_ble_eq_true rfl) ?_ ?_
  · refine am_em (d := 13) nm_m35 rfl rfl (Nat.le_of_ble_eq_true rfl) rfl ?_
    refine am_rg (p1_a1 _ _) 2 (b := (4, [some (.ref 0)], [.ref 6], p1_h23)) rfl ?_
    refine am_cv (N := nm_m36) (as := [.ref 6]) (rest := []) (v := .int 0) (h' := p1_h23) rfl (am_kv p1_c72 (by decide)) (by decide) rfl rfl rfl (fun _ => ⟨_, _, _, _, _, rfl, rfl, rfl, rfl⟩) (fun h => absurd h (by decide)) (Nat.le_of_ble_eq_true rfl) ?_ ?_
    · refine am_em (d := 12) nm_m36 rfl rfl (Nat.le_of_ble_eq_true rfl) rfl ?_
      refine am_rg (p1_a3 _ _) 2 (b := (4, [some (.ref 6)], [.int 0], p1_h23)) rfl ?_
      exact am_ri rfl rfl rfl
    exact am_ri rfl rfl rfl
  refine am_rg (p1_a0 _ _) 1 (b := (335, [some (.retAddr 0), some (.ref 0), some (.ref 20), some (.ref 60), some (.int 0), none, none], [.ref 20, .int 0], p1_h23)) rfl ?_
  refine am_cv (N := nm_m233) (as := [.ref 20]) (rest := [.int 0]) (v := .int 0) (h' := p1_h23) rfl (am_kv p1_c73 (by decide)) (by decide) rfl rfl rfl (fun _ => ⟨_, _, _, _, _, rfl, rfl, rfl, rfl⟩) (fun h => absurd h (by decide)) (Nat.le_of_ble_eq_true rfl) ?_ ?_
  · refine am_em (d := 13) nm_m233 rfl rfl (Nat.le_of_ble_eq_true rfl) rfl ?_
    refine am_rg (p1_a10 _ _) 5 (b := (9, [some (.ref 20)], [.int 0], p1_h23)) rfl ?_
    exact am_ri rfl rfl rfl
  refine am_rg (p1_a0 _ _) 6 (b := (27, [some (.retAddr 0), some (.ref 0), some (.ref 20), some (.ref 60), some (.int 3), none, none], [.int 3, .int 3], p1_h23)) rfl ?_
  refine am_rg (p1_a0 _ _) 4 (b := (375, [some (.retAddr 0), some (.ref 0), some (.ref 20), some (.ref 60), some (.int 3), none, none], [.int 1], p1_h23)) rfl ?_
  exact am_ri rfl rfl rfl
set_option maxRecDepth 100000 in
set_option maxHeartbeats 4000000 in
theorem p1_o8 (xs : Nat → Int32) (a1 a2 : Int32) (h1 : xs 1 = a1) (h2 : xs 2 = a2) (h0 : xs 0 &&& 15 = 8) : ∃ hf : am_H, am_Go (nm_F 3 xs) nm_cls nm_ms (am_Ev (nm_F 3 xs) nm_cls nm_ms 14) nm_law (.inl (some (.int 1)), hf) (none, (23, [some (.retAddr 0), some (.ref 0), some (.ref 20), some (.ref 60), some (.int 0), none, none], [], p1_h23)) ∧ hf.length ≤ 600002 ∧ am_sz hf ≤ 7302232 := by
  have d1 : a1.toInt < 0 ∨ 3 ≤ a1.toInt ∨ a1.toInt = 0 ∨ a1.toInt = 1 ∨ a1.toInt = 2 := by omega
  rcases d1 with d1 | d1 | d1 | d1 | d1
  · skip
    refine ⟨p1_h23, ?_, Nat.le_of_ble_eq_true rfl, Nat.le_of_ble_eq_true rfl⟩
    refine am_rg (p1_a0 _ _) 3 (b := (27, [some (.retAddr 0), some (.ref 0), some (.ref 20), some (.ref 60), some (.int 0), none, none], [.int 3, .int 0], p1_h23)) rfl ?_
    refine am_rg (p1_a0 _ _) 5 (b := (35, [some (.retAddr 0), some (.ref 0), some (.ref 20), some (.ref 60), some (.int 0), none, none], [.int 0, .retAddr 0], p1_h23)) rfl ?_
    refine am_sl rfl rfl rfl ?_
    refine am_rg (p1_a0 _ _) 1 (b := (38, [some (.retAddr 0), some (.ref 0), some (.ref 20), some (.ref 60), some (.int 0), none, none], [.int 15, .int (xs 0)], p1_h23)) rfl ?_
    refine am_an rfl h0 ?_
    refine am_rg (p1_a0 _ _) 6 (b := (349, [some (.retAddr 0), some (.ref 0), some (.ref 20), some (.ref 60), some (.int 0), none, none], [.int 1, .retAddr 0, .ref 0], p1_h23)) rfl ?_
    refine am_sl rfl rfl h1 ?_
    refine am_cv (N := nm_m37) (as := [.ref 0, .int a1]) (rest := []) (v := .int (-1)) (h' := p1_h23) rfl (am_kv p1_c74 (by decide)) (by decide) rfl rfl rfl (fun _ => ⟨_, _, _, _, _, rfl, rfl, rfl, rfl⟩) (fun h => absurd h (by decide)) (Nat.le_of_ble_eq_true rfl) ?_ ?_
    · refine am_em (d := 13) nm_m37 rfl rfl (Nat.le_of_ble_eq_true rfl) rfl ?_
      refine am_rg (p1_a1 _ _) 1 (b := (1, [some (.ref 0), some (.int a1)], [.int a1], p1_h23)) rfl ?_
      refine am_td rfl (t := 52) rfl (by omega) ?_
      refine am_rg (p1_a1 _ _) 1 (b := (53, [some (.ref 0), some (.int a1)], [.int (-1)], p1_h23)) rfl ?_
      exact am_ri rfl rfl rfl
    refine am_rg (p1_a0 _ _) 5 (b := (359, [some (.retAddr 0), some (.ref 0), some (.ref 20), some (.ref 60), some (.int 0), none, none], [.int 1, .retAddr 0, .ref 20, .int (-1)], p1_h23)) rfl ?_
    refine am_sl rfl rfl h1 ?_
    refine am_cv (N := nm_m234) (as := [.ref 20, .int a1]) (rest := [.int (-1)]) (v := .int (-1)) (h' := p1_h23) rfl (am_kv p1_c75 (by decide)) (by decide) rfl rfl rfl (fun _ => ⟨_, _, _, _, _, rfl, rfl, rfl, rfl⟩) (fun h => absurd h (by decide)) (Nat.le_of_ble_eq_true rfl) ?_ ?_
    · refine am_em (d := 13) nm_m234 rfl rfl (Nat.le_of_ble_eq_true rfl) rfl ?_
      refine am_rg (p1_a10 _ _) 4 (b := (6, [some (.ref 20), some (.int a1)], [.int a1], p1_h23)) rfl ?_
      refine am_i1 rfl (t := 16) rfl (am_cT (b := 0) rfl (by show (a1.toInt ≠ 0); omega)) ?_
      refine am_rg (p1_a10 _ _) 2 (b := (18, [some (.ref 20), some (.int a1)], [.int 1, .int a1], p1_h23)) rfl ?_
      refine am_j1 rfl (t := 28) rfl (am_cT (b := 1) rfl (by show (a1.toInt ≠ 1); omega)) ?_
      refine am_rg (p1_a10 _ _) 2 (b := (30, [some (.ref 20), some (.int a1)], [.int 2, .int a1], p1_h23)) rfl ?_
      refine am_j1 rfl (t := 40) rfl (am_cT (b := 2) rfl (by show (a1.toInt ≠ 2); omega)) ?_
      refine am_rg (p1_a10 _ _) 1 (b := (41, [some (.ref 20), some (.int a1)], [.int (-1)], p1_h23)) rfl ?_
      exact am_ri rfl rfl rfl
    refine am_rg (p1_a0 _ _) 6 (b := (27, [some (.retAddr 0), some (.ref 0), some (.ref 20), some (.ref 60), some (.int 3), none, none], [.int 3, .int 3], p1_h23)) rfl ?_
    refine am_rg (p1_a0 _ _) 4 (b := (375, [some (.retAddr 0), some (.ref 0), some (.ref 20), some (.ref 60), some (.int 3), none, none], [.int 1], p1_h23)) rfl ?_
    exact am_ri rfl rfl rfl
  · skip
    refine ⟨p1_h23, ?_, Nat.le_of_ble_eq_true rfl, Nat.le_of_ble_eq_true rfl⟩
    refine am_rg (p1_a0 _ _) 3 (b := (27, [some (.retAddr 0), some (.ref 0), some (.ref 20), some (.ref 60), some (.int 0), none, none], [.int 3, .int 0], p1_h23)) rfl ?_
    refine am_rg (p1_a0 _ _) 5 (b := (35, [some (.retAddr 0), some (.ref 0), some (.ref 20), some (.ref 60), some (.int 0), none, none], [.int 0, .retAddr 0], p1_h23)) rfl ?_
    refine am_sl rfl rfl rfl ?_
    refine am_rg (p1_a0 _ _) 1 (b := (38, [some (.retAddr 0), some (.ref 0), some (.ref 20), some (.ref 60), some (.int 0), none, none], [.int 15, .int (xs 0)], p1_h23)) rfl ?_
    refine am_an rfl h0 ?_
    refine am_rg (p1_a0 _ _) 6 (b := (349, [some (.retAddr 0), some (.ref 0), some (.ref 20), some (.ref 60), some (.int 0), none, none], [.int 1, .retAddr 0, .ref 0], p1_h23)) rfl ?_
    refine am_sl rfl rfl h1 ?_
    refine am_cv (N := nm_m37) (as := [.ref 0, .int a1]) (rest := []) (v := .int (-1)) (h' := p1_h23) rfl (am_kv p1_c74 (by decide)) (by decide) rfl rfl rfl (fun _ => ⟨_, _, _, _, _, rfl, rfl, rfl, rfl⟩) (fun h => absurd h (by decide)) (Nat.le_of_ble_eq_true rfl) ?_ ?_
    · refine am_em (d := 13) nm_m37 rfl rfl (Nat.le_of_ble_eq_true rfl) rfl ?_
      refine am_rg (p1_a1 _ _) 1 (b := (1, [some (.ref 0), some (.int a1)], [.int a1], p1_h23)) rfl ?_
      refine am_td rfl (t := 52) rfl (by omega) ?_
      refine am_rg (p1_a1 _ _) 1 (b := (53, [some (.ref 0), some (.int a1)], [.int (-1)], p1_h23)) rfl ?_
      exact am_ri rfl rfl rfl
    refine am_rg (p1_a0 _ _) 5 (b := (359, [some (.retAddr 0), some (.ref 0), some (.ref 20), some (.ref 60), some (.int 0), none, none], [.int 1, .retAddr 0, .ref 20, .int (-1)], p1_h23)) rfl ?_
    refine am_sl rfl rfl h1 ?_
    refine am_cv (N := nm_m234) (as := [.ref 20, .int a1]) (rest := [.int (-1)]) (v := .int (-1)) (h' := p1_h23) rfl (am_kv p1_c75 (by decide)) (by decide) rfl rfl rfl (fun _ => ⟨_, _, _, _, _, rfl, rfl, rfl, rfl⟩) (fun h => absurd h (by decide)) (Nat.le_of_ble_eq_true rfl) ?_ ?_
    · refine am_em (d := 13) nm_m234 rfl rfl (Nat.le_of_ble_eq_true rfl) rfl ?_
      refine am_rg (p1_a10 _ _) 4 (b := (6, [some (.ref 20), some (.int a1)], [.int a1], p1_h23)) rfl ?_
      refine am_i1 rfl (t := 16) rfl (am_cT (b := 0) rfl (by show (a1.toInt ≠ 0); omega)) ?_
      refine am_rg (p1_a10 _ _) 2 (b := (18, [some (.ref 20), some (.int a1)], [.int 1, .int a1], p1_h23)) rfl ?_
      refine am_j1 rfl (t := 28) rfl (am_cT (b := 1) rfl (by show (a1.toInt ≠ 1); omega)) ?_
      refine am_rg (p1_a10 _ _) 2 (b := (30, [some (.ref 20), some (.int a1)], [.int 2, .int a1], p1_h23)) rfl ?_
      refine am_j1 rfl (t := 40) rfl (am_cT (b := 2) rfl (by show (a1.toInt ≠ 2); omega)) ?_
      refine am_rg (p1_a10 _ _) 1 (b := (41, [some (.ref 20), some (.int a1)], [.int (-1)], p1_h23)) rfl ?_
      exact am_ri rfl rfl rfl
    refine am_rg (p1_a0 _ _) 6 (b := (27, [some (.retAddr 0), some (.ref 0), some (.ref 20), some (.ref 60), some (.int 3), none, none], [.int 3, .int 3], p1_h23)) rfl ?_
    refine am_rg (p1_a0 _ _) 4 (b := (375, [some (.retAddr 0), some (.ref 0), some (.ref 20), some (.ref 60), some (.int 3), none, none], [.int 1], p1_h23)) rfl ?_
    exact am_ri rfl rfl rfl
  · obtain rfl : a1 = 0 := am_inj d1 rfl
    refine ⟨p1_h23, ?_, Nat.le_of_ble_eq_true rfl, Nat.le_of_ble_eq_true rfl⟩
    refine am_rg (p1_a0 _ _) 3 (b := (27, [some (.retAddr 0), some (.ref 0), some (.ref 20), some (.ref 60), some (.int 0), none, none], [.int 3, .int 0], p1_h23)) rfl ?_
    refine am_rg (p1_a0 _ _) 5 (b := (35, [some (.retAddr 0), some (.ref 0), some (.ref 20), some (.ref 60), some (.int 0), none, none], [.int 0, .retAddr 0], p1_h23)) rfl ?_
    refine am_sl rfl rfl rfl ?_
    refine am_rg (p1_a0 _ _) 1 (b := (38, [some (.retAddr 0), some (.ref 0), some (.ref 20), some (.ref 60), some (.int 0), none, none], [.int 15, .int (xs 0)], p1_h23)) rfl ?_
    refine am_an rfl h0 ?_
    refine am_rg (p1_a0 _ _) 6 (b := (349, [some (.retAddr 0), some (.ref 0), some (.ref 20), some (.ref 60), some (.int 0), none, none], [.int 1, .retAddr 0, .ref 0], p1_h23)) rfl ?_
    refine am_sl rfl rfl h1 ?_
    refine am_cv (N := nm_m37) (as := [.ref 0, .int 0]) (rest := []) (v := .int 0) (h' := p1_h23) rfl (am_kv p1_c74 (by decide)) (by decide) rfl rfl rfl (fun _ => ⟨_, _, _, _, _, rfl, rfl, rfl, rfl⟩) (fun h => absurd h (by decide)) (Nat.le_of_ble_eq_true rfl) ?_ ?_
    · refine am_em (d := 13) nm_m37 rfl rfl (Nat.le_of_ble_eq_true rfl) rfl ?_
      refine am_rg (p1_a1 _ _) 4 (b := (32, [some (.ref 0), some (.int 0)], [.ref 1], p1_h23)) rfl ?_
      refine am_cv (N := nm_m38) (as := [.ref 1]) (rest := []) (v := .int 0) (h' := p1_h23) rfl (am_kv p1_c76 (by decide)) (by decide) rfl rfl rfl (fun _ => ⟨_, _, _, _, _, rfl, rfl, rfl, rfl⟩) (fun h => absurd h (by decide)) (Nat.le_of_ble_eq_true rfl) ?_ ?_
      · refine am_em (d := 12) nm_m38 rfl rfl (Nat.le_of_ble_eq_true rfl) rfl ?_
        refine am_rg (p1_a2 _ _) 2 (b := (4, [some (.ref 1)], [.int 0], p1_h23)) rfl ?_
        exact am_ri rfl rfl rfl
      exact am_ri rfl rfl rfl
    refine am_rg (p1_a0 _ _) 5 (b := (359, [some (.retAddr 0), some (.ref 0), some (.ref 20), some (.ref 60), some (.int 0), none, none], [.int 1, .retAddr 0, .ref 20, .int 0], p1_h23)) rfl ?_
    refine am_sl rfl rfl h1 ?_
    refine am_cv (N := nm_m234) (as := [.ref 20, .int 0]) (rest := [.int 0]) (v := .int 0) (h' := p1_h23) rfl (am_kv p1_c75 (by decide)) (by decide) rfl rfl rfl (fun _ => ⟨_, _, _, _, _, rfl, rfl, rfl, rfl⟩) (fun h => absurd h (by decide)) (Nat.le_of_ble_eq_true rfl) ?_ ?_
    · refine am_em (d := 13) nm_m234 rfl rfl (Nat.le_of_ble_eq_true rfl) rfl ?_
      refine am_rg (p1_a10 _ _) 8 (b := (41, [some (.ref 20), some (.int 0)], [.int 0], p1_h23)) rfl ?_
      exact am_ri rfl rfl rfl
    refine am_rg (p1_a0 _ _) 6 (b := (27, [some (.retAddr 0), some (.ref 0), some (.ref 20), some (.ref 60), some (.int 3), none, none], [.int 3, .int 3], p1_h23)) rfl ?_
    refine am_rg (p1_a0 _ _) 4 (b := (375, [some (.retAddr 0), some (.ref 0), some (.ref 20), some (.ref 60), some (.int 3), none, none], [.int 1], p1_h23)) rfl ?_
    exact am_ri rfl rfl rfl
  · obtain rfl : a1 = 1 := am_inj d1 rfl
    refine ⟨p1_h23, ?_, Nat.le_of_ble_eq_true rfl, Nat.le_of_ble_eq_true rfl⟩
    refine am_rg (p1_a0 _ _) 3 (b := (27, [some (.retAddr 0), some (.ref 0), some (.ref 20), some (.ref 60), some (.int 0), none, none], [.int 3, .int 0], p1_h23)) rfl ?_
    refine am_rg (p1_a0 _ _) 5 (b := (35, [some (.retAddr 0), some (.ref 0), some (.ref 20), some (.ref 60), some (.int 0), none, none], [.int 0, .retAddr 0], p1_h23)) rfl ?_
    refine am_sl rfl rfl rfl ?_
    refine am_rg (p1_a0 _ _) 1 (b := (38, [some (.retAddr 0), some (.ref 0), some (.ref 20), some (.ref 60), some (.int 0), none, none], [.int 15, .int (xs 0)], p1_h23)) rfl ?_
    refine am_an rfl h0 ?_
    refine am_rg (p1_a0 _ _) 6 (b := (349, [some (.retAddr 0), some (.ref 0), some (.ref 20), some (.ref 60), some (.int 0), none, none], [.int 1, .retAddr 0, .ref 0], p1_h23)) rfl ?_
    refine am_sl rfl rfl h1 ?_
    refine am_cv (N := nm_m37) (as := [.ref 0, .int 1]) (rest := []) (v := .int 0) (h' := p1_h23) rfl (am_kv p1_c74 (by decide)) (by decide) rfl rfl rfl (fun _ => ⟨_, _, _, _, _, rfl, rfl, rfl, rfl⟩) (fun h => absurd h (by decide)) (Nat.le_of_ble_eq_true rfl) ?_ ?_
    · refine am_em (d := 13) nm_m37 rfl rfl (Nat.le_of_ble_eq_true rfl) rfl ?_
      refine am_rg (p1_a1 _ _) 4 (b := (40, [some (.ref 0), some (.int 1)], [.ref 6], p1_h23)) rfl ?_
      refine am_cv (N := nm_m39) (as := [.ref 6]) (rest := []) (v := .int 0) (h' := p1_h23) rfl (am_kv p1_c77 (by decide)) (by decide) rfl rfl rfl (fun _ => ⟨_, _, _, _, _, rfl, rfl, rfl, rfl⟩) (fun h => absurd h (by decide)) (Nat.le_of_ble_eq_true rfl) ?_ ?_
      · refine am_em (d := 12) nm_m39 rfl rfl (Nat.le_of_ble_eq_true rfl) rfl ?_
        refine am_rg (p1_a3 _ _) 2 (b := (4, [some (.ref 6)], [.int 0], p1_h23)) rfl ?_
        exact am_ri rfl rfl rfl
      exact am_ri rfl rfl rfl
    refine am_rg (p1_a0 _ _) 5 (b := (359, [some (.retAddr 0), some (.ref 0), some (.ref 20), some (.ref 60), some (.int 0), none, none], [.int 1, .retAddr 0, .ref 20, .int 0], p1_h23)) rfl ?_
    refine am_sl rfl rfl h1 ?_
    refine am_cv (N := nm_m234) (as := [.ref 20, .int 1]) (rest := [.int 0]) (v := .int 0) (h' := p1_h23) rfl (am_kv p1_c75 (by decide)) (by decide) rfl rfl rfl (fun _ => ⟨_, _, _, _, _, rfl, rfl, rfl, rfl⟩) (fun h => absurd h (by decide)) (Nat.le_of_ble_eq_true rfl) ?_ ?_
    · refine am_em (d := 13) nm_m234 rfl rfl (Nat.le_of_ble_eq_true rfl) rfl ?_
      refine am_rg (p1_a10 _ _) 11 (b := (41, [some (.ref 20), some (.int 1)], [.int 0], p1_h23)) rfl ?_
      exact am_ri rfl rfl rfl
    refine am_rg (p1_a0 _ _) 6 (b := (27, [some (.retAddr 0), some (.ref 0), some (.ref 20), some (.ref 60), some (.int 3), none, none], [.int 3, .int 3], p1_h23)) rfl ?_
    refine am_rg (p1_a0 _ _) 4 (b := (375, [some (.retAddr 0), some (.ref 0), some (.ref 20), some (.ref 60), some (.int 3), none, none], [.int 1], p1_h23)) rfl ?_
    exact am_ri rfl rfl rfl
  · obtain rfl : a1 = 2 := am_inj d1 rfl
    refine ⟨p1_h23, ?_, Nat.le_of_ble_eq_true rfl, Nat.le_of_ble_eq_true rfl⟩
    refine am_rg (p1_a0 _ _) 3 (b := (27, [some (.retAddr 0), some (.ref 0), some (.ref 20), some (.ref 60), some (.int 0), none, none], [.int 3, .int 0], p1_h23)) rfl ?_
    refine am_rg (p1_a0 _ _) 5 (b := (35, [some (.retAddr 0), some (.ref 0), some (.ref 20), some (.ref 60), some (.int 0), none, none], [.int 0, .retAddr 0], p1_h23)) rfl ?_
    refine am_sl rfl rfl rfl ?_
    refine am_rg (p1_a0 _ _) 1 (b := (38, [some (.retAddr 0), some (.ref 0), some (.ref 20), some (.ref 60), some (.int 0), none, none], [.int 15, .int (xs 0)], p1_h23)) rfl ?_
    refine am_an rfl h0 ?_
    refine am_rg (p1_a0 _ _) 6 (b := (349, [some (.retAddr 0), some (.ref 0), some (.ref 20), some (.ref 60), some (.int 0), none, none], [.int 1, .retAddr 0, .ref 0], p1_h23)) rfl ?_
    refine am_sl rfl rfl h1 ?_
    refine am_cv (N := nm_m37) (as := [.ref 0, .int 2]) (rest := []) (v := .int 0) (h' := p1_h23) rfl (am_kv p1_c74 (by decide)) (by decide) rfl rfl rfl (fun _ => ⟨_, _, _, _, _, rfl, rfl, rfl, rfl⟩) (fun h => absurd h (by decide)) (Nat.le_of_ble_eq_true rfl) ?_ ?_
    · refine am_em (d := 13) nm_m37 rfl rfl (Nat.le_of_ble_eq_true rfl) rfl ?_
      refine am_rg (p1_a1 _ _) 4 (b := (48, [some (.ref 0), some (.int 2)], [.ref 6], p1_h23)) rfl ?_
      refine am_cv (N := nm_m40) (as := [.ref 6]) (rest := []) (v := .int 0) (h' := p1_h23) rfl (am_kv p1_c42 (by decide)) (by decide) rfl rfl rfl (fun _ => ⟨_, _, _, _, _, rfl, rfl, rfl, rfl⟩) (fun h => absurd h (by decide)) (Nat.le_of_ble_eq_true rfl) ?_ ?_
      · refine am_em (d := 12) nm_m40 rfl rfl (Nat.le_of_ble_eq_true rfl) rfl ?_
        refine am_rg (p1_a3 _ _) 2 (b := (4, [some (.ref 6)], [.int 0], p1_h23)) rfl ?_
        exact am_ri rfl rfl rfl
      exact am_ri rfl rfl rfl
    refine am_rg (p1_a0 _ _) 5 (b := (359, [some (.retAddr 0), some (.ref 0), some (.ref 20), some (.ref 60), some (.int 0), none, none], [.int 1, .retAddr 0, .ref 20, .int 0], p1_h23)) rfl ?_
    refine am_sl rfl rfl h1 ?_
    refine am_cv (N := nm_m234) (as := [.ref 20, .int 2]) (rest := [.int 0]) (v := .int 0) (h' := p1_h23) rfl (am_kv p1_c75 (by decide)) (by decide) rfl rfl rfl (fun _ => ⟨_, _, _, _, _, rfl, rfl, rfl, rfl⟩) (fun h => absurd h (by decide)) (Nat.le_of_ble_eq_true rfl) ?_ ?_
    · refine am_em (d := 13) nm_m234 rfl rfl (Nat.le_of_ble_eq_true rfl) rfl ?_
      refine am_rg (p1_a10 _ _) 14 (b := (41, [some (.ref 20), some (.int 2)], [.int 0], p1_h23)) rfl ?_
      exact am_ri rfl rfl rfl
    refine am_rg (p1_a0 _ _) 6 (b := (27, [some (.retAddr 0), some (.ref 0), some (.ref 20), some (.ref 60), some (.int 3), none, none], [.int 3, .int 3], p1_h23)) rfl ?_
    refine am_rg (p1_a0 _ _) 4 (b := (375, [some (.retAddr 0), some (.ref 0), some (.ref 20), some (.ref 60), some (.int 3), none, none], [.int 1], p1_h23)) rfl ?_
    exact am_ri rfl rfl rfl
set_option maxRecDepth 100000 in
set_option maxHeartbeats 4000000 in
theorem p1_od (xs : Nat → Int32) (a1 a2 : Int32) (h1 : xs 1 = a1) (h2 : xs 2 = a2) (y : Int32) (h0 : xs 0 &&& 15 = y) (hy : y.toInt < 0 ∨ 8 < y.toInt) : ∃ hf : am_H, am_Go (nm_F 3 xs) nm_cls nm_ms (am_Ev (nm_F 3 xs) nm_cls nm_ms 14) nm_law (.inl (some (.int 1)), hf) (none, (23, [some (.retAddr 0), some (.ref 0), some (.ref 20), some (.ref 60), some (.int 0), none, none], [], p1_h23)) ∧ hf.length ≤ 600002 ∧ am_sz hf ≤ 7302232 := by
  rcases hy with d0 | d0
  · skip
    refine ⟨p1_h23, ?_, Nat.le_of_ble_eq_true rfl, Nat.le_of_ble_eq_true rfl⟩
    refine am_rg (p1_a0 _ _) 3 (b := (27, [some (.retAddr 0), some (.ref 0), some (.ref 20), some (.ref 60), some (.int 0), none, none], [.int 3, .int 0], p1_h23)) rfl ?_
    refine am_rg (p1_a0 _ _) 5 (b := (35, [some (.retAddr 0), some (.ref 0), some (.ref 20), some (.ref 60), some (.int 0), none, none], [.int 0, .retAddr 0], p1_h23)) rfl ?_
    refine am_sl rfl rfl rfl ?_
    refine am_rg (p1_a0 _ _) 1 (b := (38, [some (.retAddr 0), some (.ref 0), some (.ref 20), some (.ref 60), some (.int 0), none, none], [.int 15, .int (xs 0)], p1_h23)) rfl ?_
    refine am_an rfl h0 ?_
    refine am_td rfl (t := 368) rfl (by omega) ?_
    refine am_rg (p1_a0 _ _) 5 (b := (27, [some (.retAddr 0), some (.ref 0), some (.ref 20), some (.ref 60), some (.int 3), none, none], [.int 3, .int 3], p1_h23)) rfl ?_
    refine am_rg (p1_a0 _ _) 4 (b := (375, [some (.retAddr 0), some (.ref 0), some (.ref 20), some (.ref 60), some (.int 3), none, none], [.int 1], p1_h23)) rfl ?_
    exact am_ri rfl rfl rfl
  · skip
    refine ⟨p1_h23, ?_, Nat.le_of_ble_eq_true rfl, Nat.le_of_ble_eq_true rfl⟩
    refine am_rg (p1_a0 _ _) 3 (b := (27, [some (.retAddr 0), some (.ref 0), some (.ref 20), some (.ref 60), some (.int 0), none, none], [.int 3, .int 0], p1_h23)) rfl ?_
    refine am_rg (p1_a0 _ _) 5 (b := (35, [some (.retAddr 0), some (.ref 0), some (.ref 20), some (.ref 60), some (.int 0), none, none], [.int 0, .retAddr 0], p1_h23)) rfl ?_
    refine am_sl rfl rfl rfl ?_
    refine am_rg (p1_a0 _ _) 1 (b := (38, [some (.retAddr 0), some (.ref 0), some (.ref 20), some (.ref 60), some (.int 0), none, none], [.int 15, .int (xs 0)], p1_h23)) rfl ?_
    refine am_an rfl h0 ?_
    refine am_td rfl (t := 368) rfl (by omega) ?_
    refine am_rg (p1_a0 _ _) 5 (b := (27, [some (.retAddr 0), some (.ref 0), some (.ref 20), some (.ref 60), some (.int 3), none, none], [.int 3, .int 3], p1_h23)) rfl ?_
    refine am_rg (p1_a0 _ _) 4 (b := (375, [some (.retAddr 0), some (.ref 0), some (.ref 20), some (.ref 60), some (.int 3), none, none], [.int 1], p1_h23)) rfl ?_
    exact am_ri rfl rfl rfl
