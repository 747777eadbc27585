/-! Children, by depths alone. -/
def kid (d : Nat) : Fo → List Nat
  | [] => []
  | e :: t => if e.1 ≤ d then [] else if e.1 = d + 1 then e.2 :: kid d t else kid d t
def ki (d : Nat) : List Nat → Nat → List Nat
  | [], _ => []
  | e :: t, j => if e ≤ d then [] else if e = d + 1 then j :: ki d t (j + 1) else ki d t (j + 1)
theorem kid_ki {num : Nat → Int32} (d : Nat) : ∀ (R : Fo) (j : Nat), (∀ m e, R[m]? = some e → num e.2 = Int32.ofNat (j + m)) → (kid d R).map num = (ki d (R.map Prod.fst) j).map Int32.ofNat
  | [], _, _ => rfl
  | e :: t, j, h => by
    have ih := kid_ki (num := num) d t (j + 1) (fun m e' he => by
      have := h (m + 1) e' he
      rw [this, show j + 1 + m = j + (m + 1) by omega])
    have h0 := h 0 e rfl
    show (if e.1 ≤ d then [] else if e.1 = d + 1 then e.2 :: kid d t else kid d t).map num = (if e.1 ≤ d then [] else if e.1 = d + 1 then j :: ki d (t.map Prod.fst) (j + 1) else ki d (t.map Prod.fst) (j + 1)).map Int32.ofNat
    by_cases c1 : e.1 ≤ d
    · rw [if_pos c1, if_pos c1]
      rfl
    · rw [if_neg c1, if_neg c1]
      by_cases c2 : e.1 = d + 1
      · rw [if_pos c2, if_pos c2, List.map_cons, List.map_cons, ih, h0]
        rfl
      · rw [if_neg c2, if_neg c2, ih]
/-- the trees' own roots -/
def rts : Fo → List Nat
  | [] => []
  | e :: t => if e.1 = 0 then e.2 :: rts t else rts t
theorem rts_app : ∀ A B : Fo, rts (A ++ B) = rts A ++ rts B
  | [], B => rfl
  | e :: t, B => by
    show (if e.1 = 0 then e.2 :: rts (t ++ B) else rts (t ++ B)) = (if e.1 = 0 then e.2 :: rts t else rts t) ++ rts B
    rw [rts_app t B]
    by_cases c : e.1 = 0
    · rw [if_pos c, if_pos c]
      rfl
    · rw [if_neg c, if_neg c]
theorem rts_up : ∀ A : Fo, rts (up1 A) = []
  | [] => rfl
  | e :: t => by
    show (if e.1 + 1 = 0 then e.2 :: rts (up1 t) else rts (up1 t)) = []
    rw [if_neg (by omega), rts_up t]
theorem rts_poL {K : Nat → List Nat} {k : Nat} : ∀ {l : List Nat} {G : Fo}, poL (po K k) l = some G → rts G = l
  | [], G, h => by
    have : G = [] := (Option.some.inj h).symm
    subst this
    rfl
  | x :: l, G, h => by
    obtain ⟨a, b, h1, h2, rfl⟩ := poL_cons.mp h
    obtain ⟨G', rfl⟩ := po_hd h1
    rw [rts_app, rts_poL h2]
    show (if (0 : Nat) = 0 then x :: rts (up1 G') else rts (up1 G')) ++ l = x :: l
    rw [if_pos rfl, rts_up]
    rfl
theorem kid_up (d : Nat) (B : Fo) : ∀ G : Fo, kid d (upn (d + 1) G ++ B) = rts G ++ kid d B
  | [] => rfl
  | e :: t => by
    show (if e.1 + (d + 1) ≤ d then [] else if e.1 + (d + 1) = d + 1 then e.2 :: kid d (upn (d + 1) t ++ B) else kid d (upn (d + 1) t ++ B)) = (if e.1 = 0 then e.2 :: rts t else rts t) ++ kid d B
    rw [if_neg (by omega), kid_up d B t]
    by_cases c : e.1 = 0
    · rw [if_pos c, if_pos (by omega)]
      rfl
    · rw [if_neg c, if_neg (by omega)]
section
variable {K : Nat → List Nat} {F : Fo}
theorem Re.hd : ∀ {S : Sk} {R : Fo}, Re K S R → R = [] ∨ ∃ e t, R = e :: t ∧ e.1 ≤ S.length
  | [], _, h => Or.inl h
  | (u, l) :: S, R, h => by
    obtain ⟨A, B, ⟨k, hA⟩, hB, rfl⟩ := h
    cases l with
    | nil =>
      have : A = [] := (Option.some.inj hA).symm
      subst this
      rcases Re.hd hB with e | ⟨e, t, e1, e2⟩
      · exact Or.inl e
      · refine Or.inr ⟨e, t, e1, ?_⟩
        show e.1 ≤ S.length + 1
        omega
    | cons c l =>
      obtain ⟨a, b, h1, h2, rfl⟩ := poL_cons.mp hA
      obtain ⟨G, rfl⟩ := po_hd h1
      refine Or.inr ⟨(0 + (S.length + 1), c), _, rfl, ?_⟩
      show 0 + (S.length + 1) ≤ S.length + 1
      omega
theorem kid_B {d : Nat} {B : Fo} (h : B = [] ∨ ∃ e t, B = e :: t ∧ e.1 ≤ d) : kid d B = [] := by
  rcases h with rfl | ⟨e, t, rfl, h⟩
  · rfl
  · show (if e.1 ≤ d then [] else _) = []
    rw [if_pos h]
theorem Vi.kid {v : Nat} {S : Sk} {R : Fo} (h : Vi K v S R) : ∃ R', R = (S.length, v) :: R' ∧ K v = kid S.length R' := by
  obtain ⟨hO, A, B, ⟨k, hA⟩, hB, rfl⟩ := h
  cases k with
  | zero => cases hA
  | succ k =>
    obtain ⟨G, hG, rfl⟩ := po_succ.mp hA
    refine ⟨upn (S.length + 1) G ++ B, ?_, ?_⟩
    · show (0 + S.length, v) :: (upn S.length (up1 G) ++ B) = _
      rw [upn_up, Nat.zero_add]
    · rw [kid_up, rts_poL hG, kid_B hB.hd, List.append_nil]
theorem Re.nx : ∀ {S : Sk} {v : Nat} {R : Fo}, Ob K v S → Re K S R → R ≠ [] → ∃ c S', Vi K c S' R
  | [], _, _, _, h, hn => absurd h hn
  | (u, []) :: S, _, _, hO, h, hn => Re.nx hO.2 h.nl hn
  | (u, c :: l) :: S, _, _, hO, h, _ => ⟨c, (u, l) :: S, Re.cn hO h⟩
theorem Vi.at : ∀ {i : Nat} {v : Nat} {S : Sk} {R : Fo}, Vi K v S R → i < R.length → ∃ P c S' R', R = P ++ R' ∧ P.length = i ∧ Vi K c S' R'
  | 0, v, S, R, h, _ => ⟨[], v, S, R, rfl, rfl, h⟩
  | i + 1, v, S, R, h, hi => by
    obtain ⟨R1, rfl, h1, h2⟩ := h.hd
    have hi' : i < R1.length := Nat.lt_of_succ_lt_succ hi
    have hn : R1 ≠ [] := fun e => by
      rw [e] at hi'
      exact absurd hi' (Nat.not_lt_zero _)
    have fin : (∃ c S', Vi K c S' R1) → ∃ P c S' R', (S.length, v) :: R1 = P ++ R' ∧ P.length = i + 1 ∧ Vi K c S' R' := by
      intro ⟨c, S', hV⟩
      obtain ⟨P, c2, S2, R2, e1, e2, e3⟩ := Vi.at hV hi'
      exact ⟨(S.length, v) :: P, c2, S2, R2, by rw [e1]; rfl, by rw [← e2]; rfl, e3⟩
    cases hK : K v with
    | nil => exact fin (Re.nx h.1 (h2 hK) hn)
    | cons c l => exact fin ⟨c, _, h1 c l hK⟩
/-- a node's children stand in the list of all nodes -/
theorem F_kid (hD : Dn K 0 ((0, 0) :: F)) {i d x : Nat} (h : F[i]? = some (d, x)) : K x = kid d (F.drop (i + 1)) := by
  have hi : i < F.length := (List.getElem?_eq_some_iff.mp h).1
  obtain ⟨P, c, S, R, e1, e2, hV⟩ := (Vi.start hD).at (i := i + 1) (by show i + 1 < F.length + 1; omega)
  obtain ⟨R', rfl, hK⟩ := hV.kid
  cases P with
  | nil => cases e2
  | cons a P =>
    have e3 : F = P ++ (S.length, c) :: R' := (List.cons.inj e1).2
    have hP : P.length = i := Nat.succ.inj e2
    rw [e3, List.getElem?_append_right (by omega), hP, Nat.sub_self] at h
    cases h
    rw [hK, e3, List.drop_append, List.drop_eq_nil_of_le (by omega), hP, show i + 1 - i = 1 by omega]
    rfl
end
/-- the numbers of a node's children -/
def nK (ds : List Nat) (i : Nat) : List Int32 := match ds[i]? with
  | none => []
  | some d => (ki d (ds.drop (i + 1)) (i + 1)).map Int32.ofNat
theorem nK_eq {K : Nat → List Nat} {F : Fo} {a b c : Nat → Int32} (hD : Dn K 0 ((0, 0) :: F)) (hT : Tb F a b c) {i d x : Nat} (h : F[i]? = some (d, x)) : (K x).map b = nK (F.map Prod.fst) i := by
  rw [F_kid hD h, kid_ki d (F.drop (i + 1)) (i + 1) (fun m e he => ?_)]
  · unfold nK
    rw [List.getElem?_map, h]
    show _ = (ki d ((F.map Prod.fst).drop (i + 1)) (i + 1)).map Int32.ofNat
    rw [List.map_drop]
  · rw [List.getElem?_drop] at he
    exact (hT _ _ _ he).2.1
/-- what is answered to child -/
def chV (ds : List Nat) (a k : Int32) : Int32 := if 0 ≤ a.toInt ∧ 0 ≤ k.toInt then ((nK ds a.toInt.toNat)[k.toInt.toNat]?).getD (-1) else -1
theorem tr_ds (D : Nat → TD) (F : Fo) : (tr D F).map Prod.fst = F.map Prod.fst := by
  unfold tr
  rw [List.map_map]
  rfl
