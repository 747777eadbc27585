/-! Trees grow at their end. -/
def upTn (d : Nat) (T : Tf) : Tf := T.map fun x => (x.1 + d, x.2)
theorem upTn_up (d : Nat) : ∀ T : Tf, upT (upTn d T) = upTn (d + 1) T
  | [] => rfl
  | x :: T => by
    show (x.1 + d + 1, x.2) :: upT (upTn d T) = (x.1 + (d + 1), x.2) :: upTn (d + 1) T
    rw [upTn_up d T, Nat.add_assoc]
theorem upTn_0 : ∀ T : Tf, upTn 0 T = T
  | [] => rfl
  | x :: T => by
    show (x.1 + 0, x.2) :: upTn 0 T = _
    rw [upTn_0 T]
    rfl
theorem upT_app (A B : Tf) : upT (A ++ B) = upT A ++ upT B := List.map_append
theorem nd_app (d : TD) (A B : Tf) : nd d (A ++ B) = nd d A ++ upT B := by
  show (0, d) :: upT (A ++ B) = (0, d) :: upT A ++ upT B
  rw [upT_app]
  rfl
theorem clp_att : ∀ {i : Nat} {ch : List Ce} {e : Ce}, i < ch.length → clp (attC i ch e) = clp ch ++ upTn (i + 1) (nd e.1 e.2)
  | _, [], _, h => absurd h (Nat.not_lt_zero _)
  | 0, x :: c, e, _ => by
    show nd x.1 ((x.2 ++ clp c) ++ nd e.1 (e.2 ++ [])) = nd x.1 (x.2 ++ clp c) ++ _
    rw [nd_app, List.append_nil, ← upTn_up, upTn_0]
  | i + 1, x :: c, e, h => by
    show nd x.1 (x.2 ++ clp (attC i c e)) = nd x.1 (x.2 ++ clp c) ++ _
    rw [clp_att (Nat.lt_of_succ_lt_succ h), ← List.append_assoc, nd_app, upTn_up]
