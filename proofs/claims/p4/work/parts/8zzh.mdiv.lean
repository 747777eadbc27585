/-! What the model answers to division. -/
theorem uS_uI {D : Nat → TD} {b : Nat → Int32} : ∀ (F : Fo) (j : Nat), (∀ m e, F[m]? = some e → b e.2 = Int32.ofNat (j + m)) → (uS D F).map b = (uI (tr D F) j).map Int32.ofNat
  | [], _, _ => rfl
  | e :: t, j, h => by
    have ih := uS_uI (D := D) (b := b) t (j + 1) (fun m e' he => by
      have := h (m + 1) e' he
      rw [this, show j + 1 + m = j + (m + 1) by omega])
    have h0 := h 0 e rfl
    unfold uS at ih ⊢
    show (List.filter _ (e.2 :: ids t)).map b = (if kd (D e.2).1 = 1 then j :: uI (tr D t) (j + 1) else uI (tr D t) (j + 1)).map Int32.ofNat
    by_cases c : kd (D e.2).1 = 1
    · rw [if_pos c, List.filter_cons_of_pos (by rw [decide_eq_true_eq]; exact c), List.map_cons, List.map_cons, ih, h0]
      rfl
    · rw [if_neg c, List.filter_cons_of_neg (by rw [decide_eq_true_eq]; exact c), ih]
theorem uS_at {D : Nat → TD} : ∀ {F : Fo} {j k x : Nat}, (uS D F)[k]? = some x → ∃ i d, (uI (tr D F) j)[k]? = some (j + i) ∧ F[i]? = some (d, x)
  | [], _, _, _, h => by cases h
  | e :: t, j, k, x, h => by
    unfold uS at h
    have h' : (List.filter (fun x => decide (kd (D x).1 = 1)) (e.2 :: ids t))[k]? = some x := h
    show ∃ i d, (if kd (D e.2).1 = 1 then j :: uI (tr D t) (j + 1) else uI (tr D t) (j + 1))[k]? = some (j + i) ∧ (e :: t)[i]? = some (d, x)
    by_cases c : kd (D e.2).1 = 1
    · rw [List.filter_cons_of_pos (by rw [decide_eq_true_eq]; exact c)] at h'
      rw [if_pos c]
      cases k with
      | zero =>
        cases h'
        exact ⟨0, e.1, rfl, rfl⟩
      | succ k =>
        obtain ⟨i, d, h1, h2⟩ := uS_at (D := D) (F := t) (j := j + 1) (k := k) (x := x) h'
        exact ⟨i + 1, d, by rw [show j + (i + 1) = j + 1 + i by omega]; exact h1, h2⟩
    · rw [List.filter_cons_of_neg (by rw [decide_eq_true_eq]; exact c)] at h'
      rw [if_neg c]
      obtain ⟨i, d, h1, h2⟩ := uS_at (D := D) (F := t) (j := j + 1) (k := k) (x := x) h'
      exact ⟨i + 1, d, by rw [show j + (i + 1) = j + 1 + i by omega]; exact h1, h2⟩
theorem fk_map {D : Nat → TD} {b : Nat → Int32} {kk : Int32} (l : List Nat) : ((l.map (fun y => (b y, (D y).1))).find? (fun y => decide (y.2 = kk))).map Prod.fst = (fk D kk l).map b := by
  unfold fk
  rw [List.find?_map]
  cases h : List.find? ((fun y : Int32 × Int32 => decide (y.2 = kk)) ∘ fun y => (b y, (D y).1)) l with
  | none =>
    have h' : List.find? (fun c => decide ((D c).1 = kk)) l = none := h
    rw [h']
    rfl
  | some c =>
    have h' : List.find? (fun c => decide ((D c).1 = kk)) l = some c := h
    rw [h']
    rfl
section
variable {L : Nat} {xs : Nat → Int32} {m d k : Nat} {n : Nat} {D : Nat → TD} {K : Nat → List Nat} {g : a2_G} {r : a2_A} {F : Fo}
theorem md_75 {x1 x2 : Int32} {o : Option Nat} (ho : ∀ c, o = some c → 0 < c ∧ c < 2147483648) : pl (BM_division_75 L xs (m + 1) d k x1 x2 (o0 o) g r) (kE g r ((o.map (r fM_number).2).getD (-1))) kN := by
  unfold BM_division_75 BM_division_90
  cases o with
  | none => exact pl_pos (by rw [c2_le]; decide) ⟨rfl, rfl, rfl⟩
  | some c =>
    obtain ⟨h1, h2⟩ := ho c rfl
    show pl (if am_c2 .le (Int32.ofNat c) 0 = true then _ else _) _ _
    refine pl_neg (by rw [c2_le, on_eq h2, i32_0]; omega) (pl_if (fun _ => ?_) (fun _ => trivial))
    refine ⟨?_, rfl, rfl⟩
    show some (Value.int ((r fM_number).2 (Int32.ofNat c).toNatClampNeg)) = _
    rw [on_nc h2]
    rfl
theorem xM_division (h : TN n D K F g r) (hu : UU D K F (cQ (tr D F)) r) (hU : (g fM_units).toInt = cQ (tr D F)) (hr0 : kd (D 0).1 = 0) (a1 a2 : Int32) : pl (ev L xs (m + 1) d nM_division [.ref cM, .int a1, .int a2] g r) (kE (upd g fM_thrown 0) r (dvV (tr D F) a1 a2)) kN := by
  have hn8 := h.1.2.2.1
  cases d with
  | zero => trivial
  | succ d =>
    rw [qM_division]
    unfold BM_division_26
    obtain ⟨t1, t2, cc, t3⟩ := h.2.2
    have eS : uS D ((0, 0) :: F) = uS D F := by
      unfold uS
      show List.filter _ (0 :: ids F) = _
      rw [List.filter_cons_of_neg (by rw [decide_eq_true_eq, hr0]; decide)]
    have hmap := uS_uI (D := D) (b := (r fM_number).2) F 0 (fun m e he => by
      rw [(t3 m e.1 e.2 he).2.1, Nat.zero_add])
    have hlen : (uI (tr D F) 0).length = cQ (tr D F) := by
      have := congrArg List.length hmap
      rw [List.length_map, List.length_map] at this
      rw [← this, ← eS]
      exact hu.1
    have hno : ¬ (0 ≤ a1.toInt ∧ a1.toInt < cQ (tr D F)) → dvV (tr D F) a1 a2 = -1 := by
      intro ha
      have e1 : uV (tr D F) a1 = -1 := by
        unfold uV
        by_cases c : 0 ≤ a1.toInt
        · rw [if_pos c, List.getElem?_eq_none (by rw [hlen]; omega)]
          rfl
        · rw [if_neg c]
      have e2 : ∀ kk, ckV (tr D F) (-1) kk = -1 := fun kk => by
        unfold ckV
        rw [if_neg (by decide)]
      unfold dvV
      rw [e1, e2, e2, e2]
      split
      · rfl
      · split
        · rfl
        · split
          · rfl
          · split <;> rfl
    refine pl_if (fun c1 => ⟨?_, rfl, rfl⟩) (fun c1 => pl_if (fun c2 => ⟨?_, rfl, rfl⟩) (fun c2 => ?_))
    · rw [c2_lt, i32_0] at c1
      rw [hno (by omega)]
    · rw [c2_ge, hU] at c2
      rw [hno (by omega)]
    · rw [c2_lt, i32_0] at c1
      rw [c2_ge, hU] at c2
      obtain ⟨k0, hk0⟩ : ∃ i : Nat, a1.toInt = i := ⟨a1.toInt.toNat, by omega⟩
      have hkl : k0 < (uS D F).length := by
        rw [← eS, hu.1]
        omega
      obtain ⟨x, hx⟩ : ∃ x, (uS D F)[k0]? = some x := ⟨_, List.getElem?_eq_getElem hkl⟩
      obtain ⟨i, dd, hi, hF⟩ := uS_at (j := 0) hx
      rw [Nat.zero_add] at hi
      obtain ⟨hxn, hiF⟩ := h.id hF
      have hA := hu.2 k0 x (by rw [eS]; exact hx)
      have ei : a1.toNatClampNeg = k0 := tn_at hk0
      have hI : a1.toInt.toNat = k0 := by rw [hk0]; rfl
      have hlenF : F.length + 1 ≤ n := h.1.len
      have huV : uV (tr D F) a1 = Int32.ofNat i := by
        unfold uV
        rw [if_pos (by omega), hI, hi]
        rfl
      have hxb : (r fM_number).2 x = Int32.ofNat i := (t3 i dd x hF).2.1
      have hNK := nKK_eq (D := D) h.2.1 t3 hF
      have hck : ∀ kk, ckV (tr D F) (uV (tr D F) a1) kk = ((fk D kk (K x)).map (r fM_number).2).getD (-1) := by
        intro kk
        unfold ckV
        rw [huV, if_pos (by rw [on_eq (by omega)]; omega), on_eq (by omega)]
        show (((nKK (tr D F) i).find? (fun y => decide (y.2 = kk))).map Prod.fst).getD (-1) = _
        rw [← hNK, fk_map]
      have hfk : ∀ kk c, fk D kk (K x) = some c → 0 < c ∧ c < 2147483648 := fun kk c hc => by
        have hm : c ∈ K x := List.mem_of_find?_eq_some hc
        have := h.1.1.kid hxn hm
        omega
      have hx0 : 0 < x := by
        have hnd := h.1.2.2.2.1.1
        have hm : x ∈ ids F := List.mem_map.mpr ⟨(dd, x), List.mem_of_getElem? hF, rfl⟩
        have h0 : (0 : Nat) ∉ ids F := (List.nodup_cons.mp hnd).1
        rcases Nat.eq_zero_or_pos x with e | e
        · rw [e] at hm
          exact absurd hm h0
        · exact e
      refine pl_e xM_in (pl_if (fun c3 => ?_) (fun c3 => ⟨?_, rfl, rfl⟩))
      · rw [c2_ne, b2i_ne] at c3
        rw [Bool.and_eq_true, decide_eq_true_eq, decide_eq_true_eq] at c3
        have c3' : 0 ≤ a2.toInt ∧ a2.toInt ≤ 3 := c3
        rw [ei]
        refine pl_in (fun d0 => pl_in (fun d1 => pl_in (fun d2 => ?_) (fun d2 => ?_)) (fun d1 => ?_)) (fun d0 => ?_)
        · have d3 : a2 = 3 := by
            have n0 : a2.toInt ≠ 0 := fun e => d0 (i32e (e.trans rfl))
            have n1 : a2.toInt ≠ 1 := fun e => d1 (i32e (e.trans rfl))
            have n2 : a2.toInt ≠ 2 := fun e => d2 (i32e (e.trans rfl))
            exact i32e (by show a2.toInt = 3; omega)
          have hv : dvV (tr D F) a1 a2 = ((fk D 20 (K x)).map (r fM_number).2).getD (-1) := by
            unfold dvV
            rw [if_neg d0, if_neg d1, if_neg d2, if_pos d3, hck]
          refine pl_if (fun _ => ?_) (fun _ => trivial)
          rw [hv, hA.2.2.2]
          exact md_75 (g := upd g fM_thrown 0) (hfk 20)
        · rw [Decidable.not_not] at d2
          have hv : dvV (tr D F) a1 a2 = ((fk D 7 (K x)).map (r fM_number).2).getD (-1) := by
            unfold dvV
            rw [if_neg d0, if_neg d1, if_pos d2, hck]
          refine pl_if (fun _ => ?_) (fun _ => trivial)
          rw [hv, hA.2.2.1]
          exact md_75 (g := upd g fM_thrown 0) (hfk 7)
        · rw [Decidable.not_not] at d1
          have hv : dvV (tr D F) a1 a2 = ((fk D 3 (K x)).map (r fM_number).2).getD (-1) := by
            unfold dvV
            rw [if_neg d0, if_pos d1, hck]
          refine pl_if (fun _ => ?_) (fun _ => trivial)
          rw [hv, hA.2.1]
          exact md_75 (g := upd g fM_thrown 0) (hfk 3)
        · rw [Decidable.not_not] at d0
          have hv : dvV (tr D F) a1 a2 = (((some x).map (r fM_number).2).getD (-1) : Int32) := by
            unfold dvV
            rw [if_pos d0, huV]
            show Int32.ofNat i = (r fM_number).2 x
            exact hxb.symm
          refine pl_if (fun _ => ?_) (fun _ => trivial)
          rw [hv, hA.1]
          exact md_75 (g := upd g fM_thrown 0) (o := some x) (fun c e => by cases e; omega)
      · rw [c2_ne, b2i_ne] at c3
        have c3' : ¬ (0 ≤ a2.toInt ∧ a2.toInt ≤ 3) := fun q => c3 (by
          rw [Bool.and_eq_true, decide_eq_true_eq, decide_eq_true_eq]
          exact q)
        unfold dvV
        rw [if_neg (fun e => c3' (by rw [e]; decide)), if_neg (fun e => c3' (by rw [e]; decide)), if_neg (fun e => c3' (by rw [e]; decide)), if_neg (fun e => c3' (by rw [e]; decide))]
end
