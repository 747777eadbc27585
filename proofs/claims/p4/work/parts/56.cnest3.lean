/-! All that knows its nesting, by how much nesting is left. -/
theorem s_all (L : Nat) (xs : Nat → Int32) {m : Nat} (hm : 4294967296 ≤ m) : ∀ N, spL L xs m N ∧ spF L xs m N ∧ spC L xs m N ∧ spU L xs m N
  | 0 => by
    refine ⟨sS_list L xs hm ?_, ?_, ?_, ?_⟩
    · intro d a1 b bq bx g r hd hn0 hn1 hn2
      exfalso; omega
    · intro d a1 b bq bx g r hd hn0 hn1 hn2
      exfalso; omega
    · intro d a1 b bq bx g r hd hn0 hn1 hn2
      exfalso; omega
    · intro d a1 b bq bx g r hd hn0 hn1 hn2
      exfalso; omega
  | N + 1 => by
    obtain ⟨ihL, ihF, ihC, ihU⟩ := s_all L xs hm N
    exact ⟨sS_list L xs hm (sS_statement L xs hm ihL ihF ihC ihU), sX_factor L xs hm ihL ihF ihC ihU, sX_condition L xs hm ihL ihF ihC ihU, sX_sum L xs hm ihL ihF ihC ihU⟩
theorem s_list (L : Nat) (xs : Nat → Int32) {m : Nat} (hm : 4294967296 ≤ m) (N : Nat) : spL L xs m N := (s_all L xs hm N).1
