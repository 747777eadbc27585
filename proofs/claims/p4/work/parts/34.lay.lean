/-! The layout of the second machine: the fields of the classes. -/
def nm_YL : List (List (Nat × Nat)) := [[(2, 1), (2, 2), (2, 6)], [(3, 0), (3, 0), (0, 0), (0, 0), (0, 0), (3, 0), (3, 0), (0, 0)], [(3, 0), (0, 0), (0, 0), (0, 0), (0, 0)], [(2, 1), (2, 2)], [(2, 1), (2, 2), (2, 3), (2, 5)], [(2, 1), (2, 2), (2, 3), (0, 0), (0, 0)], [(2, 1), (2, 2), (2, 3), (2, 4), (2, 7), (2, 8), (0, 0), (0, 0), (0, 0), (0, 0)], [(2, 1), (2, 2), (2, 3), (3, 0), (3, 0), (0, 0), (0, 0)], [(3, 0), (3, 0), (3, 0), (3, 0), (0, 0)], [(0, 0), (0, 0), (3, 0), (3, 0), (0, 0), (0, 0), (3, 0), (3, 0), (0, 0), (3, 0), (3, 0), (3, 0), (3, 0), (3, 0), (3, 0), (3, 0), (3, 0), (3, 0), (3, 0), (0, 0), (0, 0), (0, 0), (3, 0), (3, 0), (3, 0), (3, 0), (0, 0), (3, 0), (3, 0), (3, 0), (4, 0), (4, 0), (0, 0), (0, 0), (0, 0), (0, 0), (0, 0), (0, 0), (0, 0), (3, 0), (3, 0), (0, 0), (0, 0), (1, 0), (0, 0), (0, 0), (3, 0), (3, 0), (3, 0), (0, 0), (3, 0), (3, 0), (3, 0), (3, 0), (0, 0), (0, 0), (0, 0), (0, 0), (3, 0), (3, 0), (3, 0), (3, 0), (3, 0), (3, 0), (3, 0)], [], []]
def nm_Y : a2_Y := fun ci => nm_YL.getD ci []
def nm_yk (q : (String × Nat) × (Nat × Nat × FieldType × Bool)) : Bool := match (nm_Y q.2.1)[q.2.2.1]? with
  | some (0, _) => match q.2.2.2.1 with
    | .int => true
    | _ => false
  | some (1, _) => match q.2.2.2.1 with
    | .boolean => true
    | _ => false
  | _ => true
theorem nm_yk_all : nm_fl.all nm_yk = true := by decide +kernel
theorem nm_okY (n : Nat) (xs : Nat → Int32) : a2_okY (nm_F n xs) nm_Y := by
  intro own k ci j ty fin h q
  have h2 : nm_yk ((own, k), (ci, j, ty, fin)) = true := List.all_eq_true.mp nm_yk_all _ (nm_lk h)
  refine ⟨fun h3 => ?_, fun h3 => ?_⟩
  · simp only [nm_yk, h3] at h2
    split at h2
    · rfl
    · cases h2
  · simp only [nm_yk, h3] at h2
    split at h2
    · rfl
    · cases h2
theorem nm_YL_ok : nm_YL.all (fun r => r.all (fun k => k.1 != 2 || decide (k.2 < 9000))) = true := by decide +kernel
theorem nm_okZ : a2_okZ nm_Y := by
  intro ci
  refine ⟨fun h => ?_, fun j q h => ?_⟩
  · by_cases hc : ci < 9000
    · exact hc
    · refine absurd ?_ h
      show nm_YL.getD ci [] = []
      rw [List.getD_eq_getElem?_getD, List.getElem?_eq_none (Nat.le_trans (show nm_YL.length ≤ 9000 by have e : nm_YL.length = 12 := rfl; omega) (Nat.le_of_not_lt hc))]
      rfl
  · have h : (nm_YL.getD ci [])[j]? = some (2, q) := h
    rw [List.getD_eq_getElem?_getD] at h
    cases hr : nm_YL[ci]? with
    | none => rw [hr] at h; cases h
    | some r =>
      rw [hr] at h
      have h1 := List.all_eq_true.mp nm_YL_ok r (List.mem_of_getElem? hr)
      have h2 := List.all_eq_true.mp h1 (2, q) (List.mem_of_getElem? h)
      simpa using h2
/-- which arrays are made anew -/
def nm_RG : List Nat := [100, 101, 200]
/-- a call of the second machine is one of the first -/
theorem nm_sim (n : Nat) (xs : Nat → Int32) (d : Nat) : a2_Cm (nm_F n xs) nm_cls nm_ms nm_Y nm_RG 13 d := a2_sim (nm_okY n xs) nm_okZ (by decide) (nm_cpy n xs) d
