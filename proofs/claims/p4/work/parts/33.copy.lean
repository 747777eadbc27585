/-! Arrays.copyOf on the abstract machine. -/
theorem nm_i {F : am_F} {cl : List vw_C} {ms : Nat → Option am_M} {E : am_EvT} {M : am_M} {r : am_O × am_H} {pc : Nat} {L : am_L} {S : List Value} {h : am_H} {i : Instr} {len : Nat} {z : Nat × am_L × List Value × am_H} (h1 : (am_cd M).lookup pc = some (i, len)) (h2 : am_st F (am_y M).cls (am_ini M) i len pc L S h = some z) (k : am_Go F cl ms E M r (none, z)) : am_Go F cl ms E M r (none, pc, L, S, h) := am_Go.step (Or.inl ⟨pc, L, S, h, i, len, z, rfl, h1, h2, rfl⟩) k
theorem nm_toN {n : Nat} (h : n ≤ 60000000) : (Int32.ofNat n).toNatClampNeg = n := by
  have e : (Int32.ofNat n).toInt = n := Int32.toInt_ofNat_of_lt (by omega)
  show (Int32.ofNat n).toInt.toNat = n
  rw [e]
  rfl
theorem nm_c304 (n : Nat) (xs : Nat → Int32) : am_call (nm_F n xs) "java/util/Arrays" (.invokestatic 304) 3 = some (0, 8) := by
  have e0 : nm_ct.lookup ("java/util/Arrays", 304) = some (0, 8) := by decide +kernel
  have e : am_cl (nm_F n xs) "java/util/Arrays" 304 = some (0, 8) := e0
  simp [am_call, e]
theorem nm_c150 (n : Nat) (xs : Nat → Int32) : am_call (nm_F n xs) "java/util/Arrays" (.invokestatic 150) 3 = some (0, 6) := by
  have e0 : nm_ct.lookup ("java/util/Arrays", 150) = some (0, 6) := by decide +kernel
  have e : am_cl (nm_F n xs) "java/util/Arrays" 150 = some (0, 6) := e0
  simp [am_call, e]
theorem nm_cpy (n : Nat) (xs : Nat → Int32) : a2_cpy (nm_F n xs) nm_cls nm_ms 13 := by
  refine ⟨⟨nm_m13, rfl, rfl⟩, ?_⟩
  intro a m h e hc h1 h2 h3 h4
  obtain ⟨len, f⟩ := e
  have h3 : m.toNatClampNeg ≠ len := h3
  have h4 : len ≤ 60000000 := h4
  have ha := (List.getElem?_eq_some_iff.mp hc).1
  have hm : m ≠ Int32.ofNat len := fun e9 => h3 (by rw [e9]; exact nm_toN h4)
  refine ⟨nm_m13, rfl, rfl, Nat.le_of_ble_eq_true rfl, fun v hv => ?_, ?_⟩
  · cases hv with
    | head => rfl
    | tail _ hv => cases hv with
      | head => rfl
      | tail _ hv => cases hv
  let h0 : am_H := h ++ [(Sum.inr (Sum.inl (false, m.toNatClampNeg, fun _ => 0)) : am_E)]
  have hc0 : h0[a]? = some (Sum.inr (Sum.inl (false, len, f))) := by
    show (h ++ _)[a]? = _
    rw [List.getElem?_append_left ha]
    exact hc
  have hc1 : h0[h.length]? = some (Sum.inr (Sum.inl (false, m.toNatClampNeg, fun _ => 0))) := by
    show (h ++ _)[h.length]? = _
    simp
  refine nm_i (z := (1, [some (.ref a), some (.int m), none], [.int m], h)) rfl rfl ?_
  refine nm_i (z := (2, [some (.ref a), some (.int m), none], [.ref a, .int m], h)) rfl rfl ?_
  refine nm_i (z := (3, [some (.ref a), some (.int m), none], [.int (Int32.ofNat len), .int m], h)) rfl ?_ ?_
  · simp [am_st, hc]
  refine nm_i (z := (14, [some (.ref a), some (.int m), none], [], h)) rfl ?_ ?_
  · simp [am_st, am_to, am_c2, hm]
  refine nm_i (z := (15, [some (.ref a), some (.int m), none], [.int m], h)) rfl rfl ?_
  refine nm_i (z := (17, [some (.ref a), some (.int m), none], [.ref h.length], h0)) rfl ?_ ?_
  · have e9 : ¬ (m < 0 ∨ 60000000 < m.toNatClampNeg) := fun e8 => e8.elim h1 (fun e7 => by omega)
    simp only [am_st, if_neg e9, am_at0]
    rfl
  refine nm_i (z := (18, [some (.ref a), some (.int m), some (.ref h.length)], [], h0)) rfl rfl ?_
  refine nm_i (z := (19, [some (.ref a), some (.int m), some (.ref h.length)], [.ref a], h0)) rfl rfl ?_
  refine nm_i (z := (20, [some (.ref a), some (.int m), some (.ref h.length)], [.int 0, .ref a], h0)) rfl rfl ?_
  refine nm_i (z := (21, [some (.ref a), some (.int m), some (.ref h.length)], [.ref h.length, .int 0, .ref a], h0)) rfl rfl ?_
  refine nm_i (z := (22, [some (.ref a), some (.int m), some (.ref h.length)], [.int 0, .ref h.length, .int 0, .ref a], h0)) rfl rfl ?_
  refine nm_i (z := (23, [some (.ref a), some (.int m), some (.ref h.length)], [.ref a, .int 0, .ref h.length, .int 0, .ref a], h0)) rfl rfl ?_
  refine nm_i (z := (24, [some (.ref a), some (.int m), some (.ref h.length)], [.int (Int32.ofNat len), .int 0, .ref h.length, .int 0, .ref a], h0)) rfl ?_ ?_
  · simp [am_st, hc0]
  refine nm_i (z := (25, [some (.ref a), some (.int m), some (.ref h.length)], [.int m, .int (Int32.ofNat len), .int 0, .ref h.length, .int 0, .ref a], h0)) rfl rfl ?_
  let k : Int32 := if m < Int32.ofNat len then m else Int32.ofNat len
  have hlen : (Int32.ofNat len).toInt = len := Int32.toInt_ofNat_of_lt (by omega)
  have hm0 : 0 ≤ m.toInt := by
    have e9 : ¬ m.toInt < (0 : Int32).toInt := fun e8 => h1 (Int32.lt_iff_toInt_lt.mpr e8)
    have e7 : (0 : Int32).toInt = 0 := rfl
    omega
  have hmN : (m.toNatClampNeg : Int) = m.toInt := by
    show ((m.toInt.toNat : Nat) : Int) = _
    omega
  have hk : ¬ k < 0 ∧ k.toNatClampNeg = (if m.toNatClampNeg < len then m.toNatClampNeg else len) := by
    by_cases hlt : m < Int32.ofNat len
    · have e1 : k = m := if_pos hlt
      have e2 := Int32.lt_iff_toInt_lt.mp hlt
      rw [hlen] at e2
      rw [e1, if_pos (by omega)]
      exact ⟨h1, rfl⟩
    · have e1 : k = Int32.ofNat len := if_neg hlt
      have e2 : ¬ m.toInt < len := fun e8 => hlt (Int32.lt_iff_toInt_lt.mpr (by rw [hlen]; exact e8))
      rw [e1, if_neg (by omega)]
      refine ⟨fun e8 => ?_, nm_toN h4⟩
      have e9 := Int32.lt_iff_toInt_lt.mp e8
      rw [hlen] at e9
      have e7 : (0 : Int32).toInt = 0 := rfl
      omega
  have hfin : am_cp h0 a 0 h.length 0 k = some (h ++ [(Sum.inr (Sum.inl (false, a2_cp m.toNatClampNeg (len, f))) : am_E)]) := by
    have cnd : ¬ (0 : Int32) < 0 ∧ ¬ (0 : Int32) < 0 ∧ ¬ k < 0 ∧ (0 : Int32).toNatClampNeg + k.toNatClampNeg ≤ len ∧ (0 : Int32).toNatClampNeg + k.toNatClampNeg ≤ m.toNatClampNeg ∧ a ≠ h.length := by
      have z0 : (0 : Int32).toNatClampNeg = 0 := rfl
      refine ⟨(by decide), (by decide), hk.1, ?_, ?_, (by omega)⟩
      · rw [hk.2, z0]
        split <;> omega
      · rw [hk.2, z0]
        split <;> omega
    simp only [am_cp, hc0, hc1]
    rw [if_pos cnd, hk.2]
    show some ((h ++ [_]).set h.length _) = _
    simp [a2_cp]
  refine am_Go.step (b := (none, 28, [some (.ref a), some (.int m), some (.ref h.length)], [.int k, .int 0, .ref h.length, .int 0, .ref a], h0)) (Or.inr (Or.inr (Or.inr (Or.inr (Or.inl ⟨25, _, h0, .invokestatic 304, 3, 0, 8, Int32.ofNat len, m, [.int 0, .ref h.length, .int 0, .ref a], rfl, rfl, nm_c304 n xs, Or.inr rfl, Nat.le_of_ble_eq_true rfl, rfl⟩))))) ?_
  refine am_Go.step (b := (none, 31, [some (.ref a), some (.int m), some (.ref h.length)], [], _)) (Or.inr (Or.inr (Or.inr (Or.inl ⟨28, _, h0, .invokestatic 150, 3, 0, a, 0, h.length, 0, k, [], _, rfl, rfl, nm_c150 n xs, Nat.le_of_ble_eq_true rfl, hfin, rfl⟩)))) ?_
  refine nm_i (z := (32, [some (.ref a), some (.int m), some (.ref h.length)], [.ref h.length], _)) rfl rfl ?_
  exact am_Go.fin (Or.inr (Or.inr (Or.inl ⟨32, _, h.length, _, .array .int, rfl, rfl, rfl, Or.inr ⟨_, rfl⟩, rfl⟩)))
