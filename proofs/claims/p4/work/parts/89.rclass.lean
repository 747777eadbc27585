/-! The class around its clauses; words on both sides. -/
theorem pl_true {z : Option fn_Z} : pl z (fun _ _ _ => True) (fun _ _ _ => True) := by
  match z with
  | none => trivial
  | some (.inl _, _, _) => trivial
  | some (.inr _, _, _) => trivial
section
variable {L : Nat} {xs : Nat → Int32} {m d : Nat} {w : Ws} {n : Int32} {p : Nat} {c : CU} {g : a2_G} {r : a2_A}
theorem PS.ru (h : PS w n p c g r) : Ru w (n, g, r) p g r := ⟨⟨h.1.1, h.1.2.1, h.1.2.2.1, h.1.2.2.2.1, h.1.2.2.2.2.1, h.1.2.2.2.2.2.1, h.1.2.2.2.2.2.2, ⟨fun _ _ => rfl, fun _ _ => rfl⟩⟩, h.2.1⟩
theorem xR_goesOn (h : PS w n p c g r) : pl (ev L xs (m + 1) d nR_goesOn [.ref cR] g r) (kE g r (b2i (decide (p < w.2.2 ∧ n.toInt < 20)))) kN := by
  cases d with
  | zero => trivial
  | succ d =>
    obtain ⟨h1, h2, h3, h4, h5, h6, h7⟩ := h.1
    rw [qR_goesOn]
    unfold BR_goesOn_24 BR_goesOn_25
    refine pl_ih (fun e => pl_pos (by decide) ⟨?_, rfl, rfl⟩) (fun e => pl_ih (fun e2 => pl_pos (by decide) ⟨?_, rfl, rfl⟩) (fun e2 => pl_pos (by decide) ⟨?_, rfl, rfl⟩))
    · rw [h3, h4] at e
      rw [decide_eq_false (by omega)]
      rfl
    · rw [h7] at e2
      have e2' : (20 : Int) ≤ n.toInt := e2
      rw [decide_eq_false (by omega)]
      rfl
    · rw [h3, h4] at e
      rw [h7] at e2
      have e2' : ¬ (20 : Int) ≤ n.toInt := e2
      rw [decide_eq_true (show p < w.2.2 ∧ n.toInt < 20 by omega)]
      rfl
/-- one clause, as the loop sees it -/
theorem xC_turn (h : PS w n p c g r) (hp : p < w.2.2 ∧ n.toInt < 20) : pl (ev L xs (m + 1) d nC_readClause [.ref cC] g r) (fun _ g' r' => ∃ q, (zC w c p).1 = ok q ∧ PS w (nb n (zC w c p).2.2) q (zC w c p).2.1 g' r') (fun _ g' r' => ∃ b, (zC w c p).1 = no b ∧ PS w n b c g' r') :=
  pl_mono (xC_readClause L xs (f := (n, g, r)) h.ru hp.1 h.2.2 hp.2) (fun o g' r' q => q.2) (fun x g' r' q => by
    obtain ⟨-, b, e, hb⟩ := q
    exact ⟨b, e, hb.ps h.2.2⟩)
/-- what finish keeps -/
theorem xP_finish : pl (ev L xs (m + 1) d nP_finish [.ref cP] g r) (fun _ g' r' => g' fR_faultSize = g fR_faultSize ∧ r' fR_kinds = r fR_kinds ∧ r' fR_values = r fR_values) (fun _ g' r' => g' fR_faultSize = g fR_faultSize ∧ r' fR_kinds = r fR_kinds ∧ r' fR_values = r fR_values) := by
  cases d with
  | zero => trivial
  | succ d =>
    rw [qP_finish]
    cases d with
    | zero => trivial
    | succ d =>
      refine pl_n (Q1 := fun _ g1 r1 => g1 = upd (upd g fR_size 0) fR_at 0 ∧ r1 = r) (X1 := kN) (by rw [qR_clear]; exact ⟨rfl, rfl⟩) (fun _ _ _ e => e.elim) (fun g1 r1 e => ?_)
      obtain ⟨rfl, rfl⟩ := e
      refine pl_v (Q1 := fun _ g2 r2 => g2 = upd (upd g fR_size 0) fR_at 0 ∧ r2 = r1) (X1 := kN) (by rw [qR_faultCount]; exact ⟨rfl, rfl⟩) (fun _ _ _ e => e.elim) (fun v g2 r2 e => ?_)
      obtain ⟨rfl, rfl⟩ := e
      refine pl_if (fun _ => ?_) (fun _ => ⟨rfl, rfl, rfl⟩)
      refine pl_n (pl_cp cp_T (cpS.int (by decide) rfl ai0) (pl_true (z := ev L xs (m + 1) (d + 1) nT_number [.ref cT] (upd (upd g fR_size 0) fR_at 0) r2))) (fun x g1 r1 e => ?_) (fun g1 r1 e => ?_)
      · exact ⟨e.2.1 fR_faultSize (by unfold cpTT; decide), e.2.2 fR_kinds (by unfold cpTT; decide), e.2.2 fR_values (by unfold cpTT; decide)⟩
      · rw [qT_unitCount]
        exact ⟨e.2.1 fR_faultSize (by unfold cpTT; decide), e.2.2 fR_kinds (by unfold cpTT; decide), e.2.2 fR_values (by unfold cpTT; decide)⟩
/-- the class's state as the clauses see it -/
def mkC (g : a2_G) (r : a2_A) : CU := ((g fU_size).toInt.toNat, (r fU_states).2, (r fU_kinds).2, (r fU_names).2, decide (g fC_section ≠ -1), (g fI_openSize).toInt.toNat, (r fI_openLevels).2)
theorem mkC_cv (h : CI g r) : Cv (mkC g r) g r := by
  obtain ⟨h1, h2, h3, h4, h5⟩ := h
  refine ⟨?_, ?_, rfl, rfl, rfl, ?_, ?_, ?_, rfl⟩
  · show (g fU_size).toInt = (((g fU_size).toInt.toNat : Nat) : Int)
    omega
  · show (g fU_size).toInt.toNat ≤ 10
    omega
  · show (if decide (g fC_section ≠ -1) = true then _ else _)
    by_cases e : g fC_section = -1
    · rw [decide_eq_false (fun q => q e), if_neg (by decide)]
      exact e
    · rw [decide_eq_true e, if_pos rfl]
      exact e
  · show (g fI_openSize).toInt = (((g fI_openSize).toInt.toNat : Nat) : Int)
    omega
  · show (g fI_openSize).toInt.toNat ≤ 49
    omega
theorem CI.ps (h : CI g r) (ha : g fR_at = 0) (hf : g fR_faultSize = 0) (hw : w = ((r fR_kinds).2, (r fR_values).2, (g fR_size).toInt.toNat)) : PS w 0 0 (mkC g r) g r := by
  subst hw
  have hc := mkC_cv h
  obtain ⟨h1, h2, h3, h4, h5⟩ := h
  refine ⟨⟨rfl, rfl, ?_, ?_, Nat.zero_le _, ?_, hf⟩, ⟨h3.1, h3.2.1, by omega, by omega⟩, hc⟩
  · show (g fR_size).toInt = (((g fR_size).toInt.toNat : Nat) : Int)
    omega
  · rw [ha]
    rfl
  · show (g fR_size).toInt.toNat ≤ 1500
    omega
/-- a word taken, or not -/
def Wst (sz kd vl : Nat) (a1 a2 : Int32) (g : a2_G) (r : a2_A) (g' : a2_G) (r' : a2_A) : Prop := (∀ i, i < (g sz).toNatClampNeg → (r' kd).2 i = (r kd).2 i ∧ (r' vl).2 i = (r vl).2 i) ∧ (g' sz = g sz ∨ g' sz = g sz + 1 ∧ (r' kd).2 (g sz).toNatClampNeg = a1 ∧ (r' vl).2 (g sz).toNatClampNeg = a2)
theorem cp_same {k i : Nat} {e : Nat × (Nat → Int32)} (hi : i < e.1) (hk : e.1 ≤ k) : (a2_cp k e).2 i = e.2 i := by
  show va_cpy e.2 (fun _ => 0) 0 0 (if k < e.1 then k else e.1) i = e.2 i
  rw [if_neg (by omega)]
  unfold va_cpy
  rw [if_pos (by omega), show 0 + (i - 0) = i by omega]
theorem ra_46 (x1 x2 : Int32) {k : Nat} {r' : a2_A} (hk : ∀ i, i < (g fR_size).toNatClampNeg → (r' fR_kinds).2 i = (r fR_kinds).2 i ∧ (r' fR_values).2 i = (r fR_values).2 i) : pl (BR_add_46 L xs (m + 1) d k x1 x2 g r') (fun _ g' r' => Wst fR_size fR_kinds fR_values x1 x2 g r g' r' ∧ g' fR_faultSize = g fR_faultSize) kN := by
  unfold BR_add_46
  refine pl_if (fun c1 => pl_if (fun c2 => ?_) (fun _ => trivial)) (fun _ => trivial)
  refine ⟨⟨fun i hi => ?_, Or.inr ⟨rfl, ?_, ?_⟩⟩, rfl⟩
  · show upd (r' fR_kinds).2 (g fR_size).toNatClampNeg x1 i = _ ∧ upd (r' fR_values).2 (g fR_size).toNatClampNeg x2 i = _
    rw [upd_ne (by omega), upd_ne (by omega)]
    exact hk i hi
  · show upd (r' fR_kinds).2 (g fR_size).toNatClampNeg x1 (g fR_size).toNatClampNeg = x1
    exact upd_eq
  · show upd (r' fR_values).2 (g fR_size).toNatClampNeg x2 (g fR_size).toNatClampNeg = x2
    exact upd_eq
theorem xR_add (a1 a2 : Int32) (hc : CI g r) : pl (ev L xs (m + 1) d nR_add [.ref cR, .int a1, .int a2] g r) (fun _ g' r' => Wst fR_size fR_kinds fR_values a1 a2 g r g' r' ∧ g' fR_faultSize = g fR_faultSize) kN := by
  cases d with
  | zero => trivial
  | succ d =>
    rw [qR_add]
    refine pl_if (fun _ => ra_46 a1 a2 (fun _ _ => ⟨rfl, rfl⟩)) (fun _ => pl_if (fun c1 => pl_if (fun c2 => ?_) (fun _ => trivial)) (fun _ => trivial))
    obtain ⟨-, -, -, -, -, d1⟩ := c1
    obtain ⟨-, -, -, -, -, d2⟩ := c2
    have h1 := hc.1
    refine ra_46 a1 a2 (fun i hi => ⟨?_, ?_⟩)
    · show (a2_cp _ (r fR_kinds)).2 i = _
      rw [nc_eq] at hi
      exact cp_same (by omega) (by omega)
    · show (a2_cp _ (r fR_values)).2 i = _
      rw [nc_eq] at hi
      exact cp_same (by omega) (by omega)
theorem xP_word (a1 a2 : Int32) (hc : CI g r) : pl (ev L xs (m + 1) d nP_word [.ref cP, .int a1, .int a2] g r) (fun _ g' r' => Wst fR_size fR_kinds fR_values a1 a2 g r g' r' ∧ g' fR_faultSize = g fR_faultSize) kN := by
  have hs : Wst fR_size fR_kinds fR_values a1 a2 g r g r ∧ g fR_faultSize = g fR_faultSize := ⟨⟨fun _ _ => ⟨rfl, rfl⟩, Or.inl rfl⟩, rfl⟩
  cases d with
  | zero => trivial
  | succ d =>
    rw [qP_word]
    unfold BP_word_34
    refine pl_v (Q1 := kP g r (fun _ => True)) (X1 := kN) ?_ (fun _ _ _ e => e) (fun v g1 r1 e => ?_)
    · cases d with
      | zero => trivial
      | succ d =>
        rw [qP_isWord]
        simp only [BP_isWord_55, BP_isWord_54, BP_isWord_71, BP_isWord_70, BP_isWord_56, BP_isWord_87, BP_isWord_86, BP_isWord_105, BP_isWord_104]
        repeat' refine pl_if (fun _ => ?_) (fun _ => ?_)
        all_goals first
          | trivial
          | exact ⟨_, rfl, trivial, rfl, rfl⟩
    · obtain ⟨v', -, -, rfl, rfl⟩ := e
      refine pl_if (fun _ => ?_) (fun _ => hs)
      refine pl_v (Q1 := kP g1 r1 (fun _ => True)) (X1 := kN) ?_ (fun _ _ _ e => e) (fun v g2 r2 e => ?_)
      · cases d with
        | zero => trivial
        | succ d =>
          rw [qR_isFull]
          unfold BR_isFull_15
          repeat' refine pl_if (fun _ => ?_) (fun _ => ?_)
          all_goals first
            | trivial
            | exact ⟨_, rfl, trivial, rfl, rfl⟩
      · obtain ⟨v', -, -, rfl, rfl⟩ := e
        refine pl_if (fun _ => ?_) (fun _ => hs)
        exact pl_v (xR_add a1 a2 hc) (fun _ _ _ e => e) (fun v g3 r3 e => e)
theorem xM_word (a1 a2 : Int32) : pl (ev L xs (m + 1) d nM_word [.ref cM, .int a1, .int a2] g r) (fun _ g' r' => Wst fM_size fM_kinds fM_values a1 a2 g r g' r' ∧ g' fM_faults = g fM_faults) kN := by
  have hs : Wst fM_size fM_kinds fM_values a1 a2 g r (upd g fM_thrown 0) r ∧ (upd g fM_thrown 0) fM_faults = g fM_faults := ⟨⟨fun _ _ => ⟨rfl, rfl⟩, Or.inl rfl⟩, rfl⟩
  have h66 : ∀ (k : Nat) (d : Nat) (x3 : Int32), pl (BM_word_66 L xs (m + 1) d k a1 a2 x3 (upd g fM_thrown 0) r) (fun _ g' r' => Wst fM_size fM_kinds fM_values a1 a2 g r g' r' ∧ g' fM_faults = g fM_faults) kN := by
    intro k d x3
    unfold BM_word_66
    refine pl_if (fun _ => pl_if (fun _ => pl_if (fun _ => ?_) (fun _ => trivial)) (fun _ => trivial)) (fun _ => hs)
    refine ⟨⟨fun i hi => ?_, Or.inr ⟨rfl, ?_, ?_⟩⟩, rfl⟩
    · show upd (r fM_kinds).2 (g fM_size).toNatClampNeg a1 i = _ ∧ upd (r fM_values).2 (g fM_size).toNatClampNeg a2 i = _
      rw [upd_ne (by omega), upd_ne (by omega)]
      exact ⟨rfl, rfl⟩
    · show upd (r fM_kinds).2 (g fM_size).toNatClampNeg a1 (g fM_size).toNatClampNeg = a1
      exact upd_eq
    · show upd (r fM_values).2 (g fM_size).toNatClampNeg a2 (g fM_size).toNatClampNeg = a2
      exact upd_eq
  have h48 : ∀ (k : Nat) (d : Nat) (x3 : Int32), pl (BM_word_48 L xs (m + 1) d k a1 a2 x3 (upd g fM_thrown 0) r) (fun _ g' r' => Wst fM_size fM_kinds fM_values a1 a2 g r g' r' ∧ g' fM_faults = g fM_faults) kN := by
    intro k d x3
    unfold BM_word_48
    refine pl_if (fun _ => h66 _ _ _) (fun _ => ?_)
    exact pl_e xM_in (pl_if (fun _ => h66 _ _ _) (fun _ => hs))
  cases d with
  | zero => trivial
  | succ d =>
    rw [qM_word]
    refine pl_e xM_in (pl_if (fun _ => ?_) (fun _ => hs))
    exact pl_if (fun _ => pl_if (fun _ => pl_if (fun _ => h48 _ _ _) (fun _ => h48 _ _ _)) (fun _ => h48 _ _ _)) (fun _ => h48 _ _ _)
theorem xP_faults : pl (ev L xs (m + 1) d nP_faults [.ref cP] g r) (fun o g' r' => o = some (.int (g fR_faultSize)) ∧ g' = g ∧ r' = r) kN := by
  cases d with
  | zero => trivial
  | succ d =>
    rw [qP_faults]
    cases d with
    | zero => trivial
    | succ d =>
      rw [qR_faultCount]
      exact ⟨rfl, rfl, rfl⟩
theorem xM_faults : pl (ev L xs (m + 1) d nM_faults [.ref cM] g r) (fun o g' r' => o = some (.int (g fM_faults)) ∧ g' = upd g fM_thrown 0 ∧ r' = r) kN := by
  cases d with
  | zero => trivial
  | succ d =>
    rw [qM_faults]
    exact ⟨rfl, rfl, rfl⟩
end
/-- both hold the same words, the same number of faults -/
def Wq (g : a2_G) (r : a2_A) : Prop := (∀ i, i < (g fM_size).toNatClampNeg → ((r fR_kinds).2 i = (r fM_kinds).2 i ∧ (r fR_values).2 i = (r fM_values).2 i) ∧ ((r fM_kinds).2 i = 1 → 0 ≤ ((r fM_values).2 i).toInt ∧ ((r fM_values).2 i).toInt ≤ 99)) ∧ g fR_faultSize = g fM_faults
theorem i32_ns (x : Int32) : x + 1 ≠ x := fun e => by
  have h1 : x + 1 - x = x - x := by rw [e]
  rw [Int32.sub_self, Int32.add_comm, Int32.add_sub_cancel] at h1
  exact absurd h1 (by decide)
theorem Wq.word {g g1 g2 : a2_G} {r r1 r2 : a2_A} {a1 a2 : Int32} (h : Wq g r) (hs : g fR_size = g fM_size) (hb : 0 ≤ (g fM_size).toInt ∧ (g fM_size).toInt ≤ 1500) (hc : Wst fR_size fR_kinds fR_values a1 a2 g r g1 r1) (hf : g1 fR_faultSize = g fR_faultSize) (hF1 : (∀ k, k / 100 = 9 → g1 k = g k) ∧ ∀ q, q / 100 = 9 → r1 q = r q) (hm : Wst fM_size fM_kinds fM_values a1 a2 g1 r1 g2 r2) (hf2 : g2 fM_faults = g1 fM_faults) (hF2 : (∀ k, k / 100 < 9 → g2 k = g1 k) ∧ ∀ q, q / 100 < 9 → r2 q = r1 q) (hs' : g1 fR_size = g2 fM_size) (ho : g2 fM_size ≠ g fM_size → okw a1 a2) : Wq g2 r2 := by
  obtain ⟨k1, k5⟩ := h
  have e1 : g1 fM_size = g fM_size := hF1.1 _ (by decide)
  have e2 : g1 fM_faults = g fM_faults := hF1.1 _ (by decide)
  have e3 : r1 fM_kinds = r fM_kinds := hF1.2 _ (by decide)
  have e4 : r1 fM_values = r fM_values := hF1.2 _ (by decide)
  have e5 : g2 fR_faultSize = g1 fR_faultSize := hF2.1 _ (by decide)
  have e6 : r2 fR_kinds = r1 fR_kinds := hF2.2 _ (by decide)
  have e7 : r2 fR_values = r1 fR_values := hF2.2 _ (by decide)
  unfold Wst at hm hc
  rw [e1, e3, e4] at hm
  rw [hs] at hc
  refine ⟨fun i hi => ?_, by rw [e5, hf, hf2, e2]; exact k5⟩
  rw [e6, e7]
  have old : i < (g fM_size).toNatClampNeg → ((r1 fR_kinds).2 i = (r2 fM_kinds).2 i ∧ (r1 fR_values).2 i = (r2 fM_values).2 i) ∧ ((r2 fM_kinds).2 i = 1 → 0 ≤ ((r2 fM_values).2 i).toInt ∧ ((r2 fM_values).2 i).toInt ≤ 99) := by
    intro hi
    obtain ⟨q1, q2⟩ := k1 i hi
    rw [(hc.1 i hi).1, (hc.1 i hi).2, (hm.1 i hi).1, (hm.1 i hi).2]
    exact ⟨q1, q2⟩
  rcases hm.2 with m1 | ⟨m1, m2, m3⟩
  · rw [m1] at hi
    exact old hi
  · rw [m1] at hi
    have ei : (g fM_size + 1).toNatClampNeg = (g fM_size).toNatClampNeg + 1 := by
      rw [nc_eq, nc_eq, i32_inc (by omega)]
      omega
    rw [ei] at hi
    by_cases ci : i = (g fM_size).toNatClampNeg
    · rw [ci, m2, m3]
      rcases hc.2 with c1 | ⟨c1, c2, c3⟩
      · rw [c1, m1] at hs'
        exact absurd hs'.symm (i32_ns _)
      · refine ⟨⟨c2, c3⟩, fun e => ?_⟩
        have hk := ho (by rw [m1]; exact i32_ns _)
        rw [e] at hk
        unfold okw at hk
        have e1 : (1 : Int32).toInt = 1 := rfl
        rw [e1] at hk
        omega
    · exact old (by omega)
