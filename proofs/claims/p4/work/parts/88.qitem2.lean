/-! The class's items: which stay open. -/
def kpN (lv : Nat → Int32) (v : Int32) : Nat → Nat
  | 0 => 0
  | i + 1 => if (lv i).toInt < v.toInt then i + 1 else kpN lv v i
theorem kpN_le (lv : Nat → Int32) (v : Int32) : ∀ i, kpN lv v i ≤ i
  | 0 => Nat.le_refl 0
  | i + 1 => by
    unfold kpN
    split
    · exact Nat.le_refl _
    · exact Nat.le_succ_of_le (kpN_le lv v i)
/-- how many of the open items stay open; none: it may not come -/
def oP (c : CU) (v : Int32) : Option Nat := if v = 1 ∨ v = 77 then some 0 else if v = 88 then (if oI c = 0 then none else some (oI c)) else if 1 ≤ v.toInt ∧ v.toInt ≤ 49 then (if kpN (oL c) v (oI c) = 0 then none else some (kpN (oL c) v (oI c))) else none
def pV (x : Option Nat) : Int32 := match x with
  | none => -1
  | some k => Int32.ofNat k
theorem oP_le {c : CU} {v : Int32} {k : Nat} (hi : oI c ≤ 49) (h : oP c v = some k) : k ≤ 49 := by
  unfold oP at h
  have := kpN_le (oL c) v (oI c)
  split at h
  · cases h; omega
  · split at h
    · split at h
      · cases h
      · cases h; exact hi
    · split at h
      · split at h
        · cases h
        · cases h; omega
      · cases h
theorem xI_kept53 (L : Nat) (xs : Nat → Int32) {m d : Nat} {c : CU} {g : a2_G} {r : a2_A} (hc : Cv c g r) (v : Int32) : ∀ (i k : Nat) (x2 : Int32), x2.toInt = i → i ≤ 49 → pl (BI_keptOpen_53 L xs (m + 1) d k v x2 g r) (kE g r (if kpN (oL c) v i = 0 then -1 else Int32.ofNat (kpN (oL c) v i))) kN := by
  intro i
  induction i with
  | zero =>
    intro k x2 hx hi
    unfold BI_keptOpen_53 BI_keptOpen_83
    refine pl_pos (by rw [c2_le]; show x2.toInt ≤ 0; omega) ?_
    exact ⟨rfl, rfl, rfl⟩
  | succ i ih =>
    intro k x2 hx hi
    unfold BI_keptOpen_53 BI_keptOpen_83
    refine pl_neg (by rw [c2_le]; show ¬ x2.toInt ≤ 0; omega) ?_
    refine pl_neg (by rw [c2_gt]; show ¬ (49 : Int) < x2.toInt; omega) ?_
    refine pl_if (fun _ => ?_) (fun _ => trivial)
    have e1 := i32_dec (x := x2) (by omega)
    have e2 : (x2 - 1).toNatClampNeg = i := by
      rw [nc_eq, e1]
      omega
    rw [e2, hc.2.2.2.2.2.2.2.2]
    unfold kpN
    refine pl_if (fun h1 => ?_) (fun h1 => ?_)
    · rw [c2_ge] at h1
      rw [if_neg (by omega : ¬ (oL c i).toInt < v.toInt)]
      cases k with
      | zero => exact pl_l0
      | succ k =>
        rw [lI_keptOpen_53]
        have e3 := i32_dec' (x := x2) (by omega)
        generalize x2 + (-1) = y at e3 ⊢
        exact ih k y (by omega) (by omega)
    · rw [c2_ge] at h1
      rw [if_pos (by omega : (oL c i).toInt < v.toInt), if_neg (by omega : ¬ i + 1 = 0)]
      have e4 : x2 = Int32.ofNat (i + 1) := Int32.toInt_inj.mp (by rw [on_eq (by omega)]; omega)
      rw [e4]
      exact ⟨rfl, rfl, rfl⟩
theorem xI_keptOpen (L : Nat) (xs : Nat → Int32) {m d : Nat} {c : CU} {g : a2_G} {r : a2_A} (hc : Cv c g r) (v : Int32) : pl (ev L xs (m + 1) d nI_keptOpen [.ref cI, .int v] g r) (kE g r (pV (oP c v))) kN := by
  cases d with
  | zero => trivial
  | succ d =>
    rw [qI_keptOpen]
    unfold BI_keptOpen_11 BI_keptOpen_46 BI_keptOpen_34 oP
    obtain ⟨q1, q2, q3, q4, q5, q6, q7, q8, q9⟩ := hc
    refine pl_if (fun h1 => ?_) (fun h1 => ?_)
    · rw [c2_eq] at h1
      rw [if_pos (Or.inl h1)]
      exact ⟨rfl, rfl, rfl⟩
    · rw [c2_eq] at h1
      refine pl_if (fun h2 => ?_) (fun h2 => ?_)
      · rw [c2_ne] at h2
        rw [if_neg (show ¬ (v = 1 ∨ v = 77) from fun e => e.elim h1 h2)]
        refine pl_if (fun h3 => ?_) (fun h3 => ?_)
        · rw [c2_ne] at h3
          rw [if_neg (show ¬ v = 88 from h3)]
          refine pl_if (fun h4 => ?_) (fun h4 => ?_)
          · rw [c2_lt] at h4
            have h4' : v.toInt < 1 := h4
            rw [if_neg (by omega)]
            exact ⟨rfl, rfl, rfl⟩
          · rw [c2_lt] at h4
            have h4' : ¬ v.toInt < 1 := h4
            refine pl_if (fun h5 => ?_) (fun h5 => ?_)
            · rw [c2_le] at h5
              have h5' : v.toInt ≤ 49 := h5
              rw [if_pos (by omega)]
              refine pl_mono (xI_kept53 L xs ⟨q1, q2, q3, q4, q5, q6, q7, q8, q9⟩ v (oI c) m (g fI_openSize) q7 q8) (fun o g' r' e => ?_) (fun _ _ _ e => e)
              obtain ⟨e1, e2, e3⟩ := e
              refine ⟨e1.trans ?_, e2, e3⟩
              by_cases h0 : kpN (oL c) v (oI c) = 0
              · rw [if_pos h0, if_pos h0]
                rfl
              · rw [if_neg h0, if_neg h0]
                rfl
            · rw [c2_le] at h5
              have h5' : ¬ v.toInt ≤ 49 := h5
              rw [if_neg (by omega)]
              exact ⟨rfl, rfl, rfl⟩
        · rw [c2_ne, Decidable.not_not] at h3
          rw [if_pos h3]
          refine pl_if (fun h4 => ?_) (fun h4 => ?_)
          · rw [c2_le] at h4
            have h4' : (g fI_openSize).toInt ≤ 0 := h4
            rw [if_pos (by omega)]
            exact ⟨rfl, rfl, rfl⟩
          · rw [c2_le] at h4
            have h4' : ¬ (g fI_openSize).toInt ≤ 0 := h4
            rw [if_neg (by omega)]
            refine ⟨?_, rfl, rfl⟩
            rw [show g fI_openSize = Int32.ofNat (oI c) from Int32.toInt_inj.mp (by rw [on_eq (by omega)]; omega)]
            rfl
      · rw [c2_ne, Decidable.not_not] at h2
        rw [if_pos (Or.inr h2)]
        exact ⟨rfl, rfl, rfl⟩
/-- an item placed -/
def sP (c : CU) (v : Int32) (k : Nat) : CU := if v = 88 ∨ 49 ≤ k then c else (oN c, oS c, oK c, oM c, oC c, k + 1, upd (oL c) k v)
theorem xI_place (L : Nat) (xs : Nat → Int32) {m d : Nat} {w : Ws} {n : Int32} {p : Nat} {c : CU} {g : a2_G} {r : a2_A} (a v : Int32) {k : Nat} (hk : k ≤ 49) (h : PS w n p c g r) : pl (ev L xs (m + 1) d nI_place [.ref cI, .int a, .int v, .int (Int32.ofNat k)] g r) (fun o g' r' => o = none ∧ PS w n p (sP c v k) g' r') kN := by
  cases d with
  | zero => trivial
  | succ d =>
    have ek : (Int32.ofNat k).toInt = k := on_eq (by omega)
    have en : (Int32.ofNat k).toNatClampNeg = k := by
      rw [nc_eq, ek]
      rfl
    have h41 : ∀ x4 x5, pl (BI_place_41 L xs (m + 1) d m a v (Int32.ofNat k) x4 x5 g r) (fun o g' r' => o = none ∧ PS w n p (sP c v k) g' r') kN := by
      intro x4 x5
      unfold BI_place_41 BI_place_82 sP
      refine ps_ap h (fun g1 r1 h1 _ => ?_)
      refine pl_if (fun e => ?_) (fun e => ?_)
      · rw [c2_eq] at e
        rw [if_pos (Or.inl e)]
        exact ⟨rfl, h1⟩
      · rw [c2_eq] at e
        refine pl_neg (by rw [c2_lt, ek]; show ¬ (k : Int) < 0; omega) ?_
        refine pl_if (fun e2 => ?_) (fun e2 => ?_)
        · rw [c2_ge, ek] at e2
          have e2' : (49 : Int) ≤ k := e2
          rw [if_pos (Or.inr (by omega))]
          exact ⟨rfl, h1⟩
        · rw [c2_ge, ek] at e2
          have e2' : ¬ (49 : Int) ≤ k := e2
          rw [if_neg (show ¬ (v = 88 ∨ 49 ≤ k) from fun e3 => e3.elim e (fun e4 => by omega)), en]
          refine pl_if (fun _ => pl_if (fun _ => ⟨rfl, h1.up (fun q hq => upd_ne (fun e => by rw [e] at hq; exact absurd hq (by decide))) (fun q hq => ?_) ?_⟩) (fun _ => trivial)) (fun _ => trivial)
          · have hne : ∀ j, 7 ≤ j / 100 → q ≠ j := fun j hj e => by rw [e] at hq; omega
            show a2_ua _ _ _ q = _
            simp only [a2_ua, if_neg (hne fI_openHandles (by decide)), if_neg (hne fI_openLevels (by decide))]
          · obtain ⟨q1, q2, q3, q4, q5, q6, q7, q8, q9⟩ := h1.2.2
            have e5 := i32_inc (x := Int32.ofNat k) (by omega)
            refine ⟨q1, q2, q3, q4, q5, q6, ?_, ?_, ?_⟩
            · show (Int32.ofNat k + 1).toInt = ((k + 1 : Nat) : Int)
              omega
            · show k + 1 ≤ 49
              omega
            · show upd (r1 fI_openLevels).2 k v = upd (oL c) k v
              rw [q9]
    rw [qI_place]
    unfold BI_place_14 BI_place_15
    repeat' refine pl_if (fun _ => ?_) (fun _ => ?_)
    all_goals first
      | trivial
      | exact h41 _ _
