set_option maxRecDepth 100000 in
set_option maxHeartbeats 4000000 in
/-- the law up to its loop: both objects are made -/
theorem p1_pre (L : Nat) (xs : Nat → Int32) {r : am_O × am_H} (k : am_Go (nm_F L xs) nm_cls nm_ms (am_Ev (nm_F L xs) nm_cls nm_ms 683) nm_law r (none, (23, [some (.retAddr 0), some (.ref 0), some (.ref 20), some (.ref 60), some (.int 0), none, none], [], p1_h23))) : am_Go (nm_F L xs) nm_cls nm_ms (am_Ev (nm_F L xs) nm_cls nm_ms 683) nm_law r (none, 0, am_ent nm_law [.retAddr 0], [], []) := by
  refine am_rg (p1_a0 _ _) 2 (b := (4, [some (.retAddr 0), none, none, none, none, none, none], [.ref 0, .ref 0], p1_h0)) rfl ?_
  refine am_cn (N := nm_m0) (as := [.ref 0]) (rest := [.ref 0]) (h' := p1_h15) rfl (am_ks p1_c0 (by decide)) (by decide) rfl rfl rfl (fun h => absurd h (by decide)) (fun _ => ⟨_, _, rfl⟩) (Nat.le_of_ble_eq_true rfl) ?_ ?_
  · refine am_em (d := 682) nm_m0 rfl rfl (Nat.le_of_ble_eq_true rfl) rfl ?_
    refine am_rg (p1_a1 _ _) 1 (b := (1, [some (.ref 0), none, none], [.ref 0], p1_h0)) rfl ?_
    refine am_ob rfl (am_ks p1_c1 (by decide)) (Nat.le_of_ble_eq_true rfl) ?_
    refine am_rg (p1_a1 _ _) 3 (b := (9, [some (.ref 0), none, none], [.ref 1, .ref 1, .ref 0], p1_h1)) rfl ?_
    refine am_cn (N := nm_m1) (as := [.ref 1]) (rest := [.ref 1, .ref 0]) (h' := p1_h2) rfl (am_ks p1_c2 (by decide)) (by decide) rfl rfl rfl (fun h => absurd h (by decide)) (fun _ => ⟨_, _, rfl⟩) (Nat.le_of_ble_eq_true rfl) ?_ ?_
    · refine am_em (d := 681) nm_m1 rfl rfl (Nat.le_of_ble_eq_true rfl) rfl ?_
      refine am_rg (p1_a2 _ _) 1 (b := (1, [some (.ref 1)], [.ref 1], p1_h1)) rfl ?_
      refine am_ob rfl (am_ks p1_c3 (by decide)) (Nat.le_of_ble_eq_true rfl) ?_
      refine am_rg (p1_a2 _ _) 28 (b := (56, [some (.ref 1)], [], p1_h2)) rfl ?_
      exact am_rv rfl rfl
    refine am_rg (p1_a1 _ _) 4 (b := (20, [some (.ref 0), none, none], [.ref 6, .ref 6, .ref 0], p1_h3)) rfl ?_
    refine am_cn (N := nm_m2) (as := [.ref 6]) (rest := [.ref 6, .ref 0]) (h' := p1_h4) rfl (am_ks p1_c4 (by decide)) (by decide) rfl rfl rfl (fun h => absurd h (by decide)) (fun _ => ⟨_, _, rfl⟩) (Nat.le_of_ble_eq_true rfl) ?_ ?_
    · refine am_em (d := 681) nm_m2 rfl rfl (Nat.le_of_ble_eq_true rfl) rfl ?_
      refine am_rg (p1_a3 _ _) 1 (b := (1, [some (.ref 6)], [.ref 6], p1_h3)) rfl ?_
      refine am_ob rfl (am_ks p1_c5 (by decide)) (Nat.le_of_ble_eq_true rfl) ?_
      refine am_rg (p1_a3 _ _) 16 (b := (33, [some (.ref 6)], [], p1_h4)) rfl ?_
      exact am_rv rfl rfl
    refine am_rg (p1_a1 _ _) 7 (b := (38, [some (.ref 0), none, none], [.ref 6, .ref 1, .ref 8, .ref 8], p1_h5)) rfl ?_
    refine am_cn (N := nm_m3) (as := [.ref 8, .ref 1, .ref 6]) (rest := [.ref 8]) (h' := p1_h6) rfl (am_ks p1_c6 (by decide)) (by decide) rfl rfl rfl (fun h => absurd h (by decide)) (fun _ => ⟨_, _, rfl⟩) (Nat.le_of_ble_eq_true rfl) ?_ ?_
    · refine am_em (d := 681) nm_m3 rfl rfl (Nat.le_of_ble_eq_true rfl) rfl ?_
      refine am_rg (p1_a4 _ _) 1 (b := (1, [some (.ref 8), some (.ref 1), some (.ref 6)], [.ref 8], p1_h5)) rfl ?_
      refine am_ob rfl (am_ks p1_c7 (by decide)) (Nat.le_of_ble_eq_true rfl) ?_
      refine am_rg (p1_a4 _ _) 6 (b := (14, [some (.ref 8), some (.ref 1), some (.ref 6)], [], p1_h6)) rfl ?_
      exact am_rv rfl rfl
    refine am_rg (p1_a1 _ _) 15 (b := (68, [some (.ref 0), some (.ref 8), none], [.ref 8, .ref 6, .ref 1, .ref 10, .ref 10, .ref 8, .ref 6, .ref 1, .ref 9, .ref 9], p1_h7)) rfl ?_
    refine am_cn (N := nm_m4) (as := [.ref 10, .ref 1, .ref 6, .ref 8]) (rest := [.ref 10, .ref 8, .ref 6, .ref 1, .ref 9, .ref 9]) (h' := p1_h8) rfl (am_ks p1_c8 (by decide)) (by decide) rfl rfl rfl (fun h => absurd h (by decide)) (fun _ => ⟨_, _, rfl⟩) (Nat.le_of_ble_eq_true rfl) ?_ ?_
    · refine am_em (d := 681) nm_m4 rfl rfl (Nat.le_of_ble_eq_true rfl) rfl ?_
      refine am_rg (p1_a5 _ _) 1 (b := (1, [some (.ref 10), some (.ref 1), some (.ref 6), some (.ref 8)], [.ref 10], p1_h7)) rfl ?_
      refine am_ob rfl (am_ks p1_c9 (by decide)) (Nat.le_of_ble_eq_true rfl) ?_
      refine am_rg (p1_a5 _ _) 15 (b := (29, [some (.ref 10), some (.ref 1), some (.ref 6), some (.ref 8)], [], p1_h8)) rfl ?_
      exact am_rv rfl rfl
    refine am_cn (N := nm_m5) (as := [.ref 9, .ref 1, .ref 6, .ref 8, .ref 10]) (rest := [.ref 9]) (h' := p1_h9) rfl (am_ks p1_c10 (by decide)) (by decide) rfl rfl rfl (fun h => absurd h (by decide)) (fun _ => ⟨_, _, rfl⟩) (Nat.le_of_ble_eq_true rfl) ?_ ?_
    · refine am_em (d := 681) nm_m5 rfl rfl (Nat.le_of_ble_eq_true rfl) rfl ?_
      refine am_rg (p1_a6 _ _) 1 (b := (1, [some (.ref 9), some (.ref 1), some (.ref 6), some (.ref 8), some (.ref 10)], [.ref 9], p1_h8)) rfl ?_
      refine am_ob rfl (am_ks p1_c11 (by decide)) (Nat.le_of_ble_eq_true rfl) ?_
      refine am_rg (p1_a6 _ _) 12 (b := (25, [some (.ref 9), some (.ref 1), some (.ref 6), some (.ref 8), some (.ref 10)], [], p1_h9)) rfl ?_
      exact am_rv rfl rfl
    refine am_rg (p1_a1 _ _) 17 (b := (103, [some (.ref 0), some (.ref 8), some (.ref 9)], [.ref 8, .ref 6, .ref 1, .ref 12, .ref 12, .ref 9, .ref 8, .ref 6, .ref 1, .ref 11, .ref 11, .ref 0], p1_h10)) rfl ?_
    refine am_cn (N := nm_m6) (as := [.ref 12, .ref 1, .ref 6, .ref 8]) (rest := [.ref 12, .ref 9, .ref 8, .ref 6, .ref 1, .ref 11, .ref 11, .ref 0]) (h' := p1_h11) rfl (am_ks p1_c12 (by decide)) (by decide) rfl rfl rfl (fun h => absurd h (by decide)) (fun _ => ⟨_, _, rfl⟩) (Nat.le_of_ble_eq_true rfl) ?_ ?_
    · refine am_em (d := 681) nm_m6 rfl rfl (Nat.le_of_ble_eq_true rfl) rfl ?_
      refine am_rg (p1_a7 _ _) 1 (b := (1, [some (.ref 12), some (.ref 1), some (.ref 6), some (.ref 8)], [.ref 12], p1_h10)) rfl ?_
      refine am_ob rfl (am_ks p1_c13 (by decide)) (Nat.le_of_ble_eq_true rfl) ?_
      refine am_rg (p1_a7 _ _) 23 (b := (45, [some (.ref 12), some (.ref 1), some (.ref 6), some (.ref 8)], [], p1_h11)) rfl ?_
      exact am_rv rfl rfl
    refine am_cn (N := nm_m7) (as := [.ref 11, .ref 1, .ref 6, .ref 8, .ref 9, .ref 12]) (rest := [.ref 11, .ref 0]) (h' := p1_h14) rfl (am_ks p1_c14 (by decide)) (by decide) rfl rfl rfl (fun h => absurd h (by decide)) (fun _ => ⟨_, _, rfl⟩) (Nat.le_of_ble_eq_true rfl) ?_ ?_
    · refine am_em (d := 681) nm_m7 rfl rfl (Nat.le_of_ble_eq_true rfl) rfl ?_
      refine am_rg (p1_a8 _ _) 1 (b := (1, [some (.ref 11), some (.ref 1), some (.ref 6), some (.ref 8), some (.ref 9), some (.ref 12)], [.ref 11], p1_h11)) rfl ?_
      refine am_ob rfl (am_ks p1_c15 (by decide)) (Nat.le_of_ble_eq_true rfl) ?_
      refine am_rg (p1_a8 _ _) 3 (b := (9, [some (.ref 11), some (.ref 1), some (.ref 6), some (.ref 8), some (.ref 9), some (.ref 12)], [.ref 15, .ref 15, .ref 11], p1_h12)) rfl ?_
      refine am_cn (N := nm_m8) (as := [.ref 15]) (rest := [.ref 15, .ref 11]) (h' := p1_h13) rfl (am_ks p1_c16 (by decide)) (by decide) rfl rfl rfl (fun h => absurd h (by decide)) (fun _ => ⟨_, _, rfl⟩) (Nat.le_of_ble_eq_true rfl) ?_ ?_
      · refine am_em (d := 680) nm_m8 rfl rfl (Nat.le_of_ble_eq_true rfl) rfl ?_
        refine am_rg (p1_a9 _ _) 1 (b := (1, [some (.ref 15)], [.ref 15], p1_h12)) rfl ?_
        refine am_ob rfl (am_ks p1_c17 (by decide)) (Nat.le_of_ble_eq_true rfl) ?_
        refine am_rg (p1_a9 _ _) 19 (b := (41, [some (.ref 15)], [], p1_h13)) rfl ?_
        exact am_rv rfl rfl
      refine am_rg (p1_a8 _ _) 28 (b := (62, [some (.ref 11), some (.ref 1), some (.ref 6), some (.ref 8), some (.ref 9), some (.ref 12)], [], p1_h14)) rfl ?_
      exact am_rv rfl rfl
    refine am_rg (p1_a1 _ _) 1 (b := (112, [some (.ref 0), some (.ref 8), some (.ref 9)], [], p1_h15)) rfl ?_
    exact am_rv rfl rfl
  refine am_rg (p1_a0 _ _) 3 (b := (12, [some (.retAddr 0), some (.ref 0), none, none, none, none, none], [.ref 20, .ref 20], p1_h16)) rfl ?_
  refine am_cn (N := nm_m156) (as := [.ref 20]) (rest := [.ref 20]) (h' := p1_h22) rfl (am_ks p1_c18 (by decide)) (by decide) rfl rfl rfl (fun h => absurd h (by decide)) (fun _ => ⟨_, _, rfl⟩) (Nat.le_of_ble_eq_true rfl) ?_ ?_
  · refine am_em (d := 682) nm_m156 rfl rfl (Nat.le_of_ble_eq_true rfl) rfl ?_
    refine am_rg (p1_a10 _ _) 1 (b := (1, [some (.ref 20)], [.ref 20], p1_h16)) rfl ?_
    refine am_ob rfl (am_ks p1_c19 (by decide)) (Nat.le_of_ble_eq_true rfl) ?_
    refine am_rg (p1_a10 _ _) 30 (b := (69, [some (.ref 20)], [.int 8000, .ref 20], p1_h17)) rfl ?_
    refine am_rg (p1_a10 _ _) 30 (b := (137, [some (.ref 20)], [], p1_h18)) rfl ?_
    refine am_rg (p1_a10 _ _) 30 (b := (199, [some (.ref 20)], [.int 11, .ref 20], p1_h19)) rfl ?_
    refine am_rg (p1_a10 _ _) 30 (b := (263, [some (.ref 20)], [], p1_h20)) rfl ?_
    refine am_rg (p1_a10 _ _) 30 (b := (322, [some (.ref 20)], [.int 64, .ref 20], p1_h21)) rfl ?_
    refine am_rg (p1_a10 _ _) 6 (b := (335, [some (.ref 20)], [], p1_h22)) rfl ?_
    exact am_rv rfl rfl
  refine am_rg (p1_a0 _ _) 6 (b := (23, [some (.retAddr 0), some (.ref 0), some (.ref 20), some (.ref 60), some (.int 0), none, none], [], p1_h23)) rfl ?_
  exact k
