/-! The class around its clauses; words on both sides. -/
theorem pl_true {z : Option fn_Z} : pl z (fun _ _ _ => True) (fun _ _ _ => True) := by
  match z with
  | none => trivial
  | some (.inl _, _, _) => trivial
  | some (.inr _, _, _) => trivial
section
variable {L : Nat} {xs : Nat → Int32} {m d : Nat} {w : Ws} {n : Int32} {p : Nat} {c : CU} {g : a2_G} {r : a2_A}
theorem PS.ru (h : PS w n p c g r) : Ru w (n, g, r) p g r := ⟨⟨h.1.1, h.1.2.1, h.1.2.2.1, h.1.2.2.2.1, h.1.2.2.2.2.1, h.1.2.2.2.2.2.1, h.1.2.2.2.2.2.2, ⟨fun _ _ => rfl, fun _ _ => rfl⟩⟩, h.2.1⟩
theorem xR_goesOn (h : PS w n p c g r) : pl (ev L xs (m + 1) d nR_goesOn [.ref cR] g r) (kE g r (b2i (decide (p < w.2.2 ∧ n.toInt < 20)))) kN := by
  cases d with
  | zero => trivial
  | succ d =>
    obtain ⟨h1, h2, h3, h4, h5, h6, h7⟩ := h.1
    rw [qR_goesOn]
    unfold BR_goesOn_24 BR_goesOn_25
    refine pl_ih (fun e => pl_pos (by decide) ⟨?_, rfl, rfl⟩) (fun e => pl_ih (fun e2 => pl_pos (by decide) ⟨?_, rfl, rfl⟩) (fun e2 => pl_pos (by decide) ⟨?_, rfl, rfl⟩))
    · rw [h3, h4] at e
      rw [decide_eq_false (by omega)]
      rfl
    · rw [h7] at e2
      have e2' : (20 : Int) ≤ n.toInt := e2
      rw [decide_eq_false (by omega)]
      rfl
    · rw [h3, h4] at e
      rw [h7] at e2
      have e2' : ¬ (20 : Int) ≤ n.toInt := e2
      rw [decide_eq_true (show p < w.2.2 ∧ n.toInt < 20 by omega)]
      rfl
/-- one clause, as the loop sees it -/
theorem xC_turn (h : PS w n p c g r) (hp : p < w.2.2 ∧ n.toInt < 20) : pl (ev L xs (m + 1) d nC_readClause [.ref cC] g r) (fun _ g' r' => ∃ q, (zC w c p).1 = ok q ∧ PS w (nb n (zC w c p).2.2) q (zC w c p).2.1 g' r') (fun _ g' r' => ∃ b, (zC w c p).1 = no b ∧ PS w n b c g' r') :=
  pl_mono (xC_readClause L xs (f := (n, g, r)) h.ru hp.1 h.2.2 hp.2) (fun o g' r' q => q.2) (fun x g' r' q => by
    obtain ⟨-, b, e, hb⟩ := q
    exact ⟨b, e, hb.ps h.2.2⟩)
/-- what finish keeps -/
theorem xP_finish : pl (ev L xs (m + 1) d nP_finish [.ref cP] g r) (fun _ g' r' => g' fR_faultSize = g fR_faultSize ∧ r' fR_kinds = r fR_kinds ∧ r' fR_values = r fR_values) (fun _ g' r' => g' fR_faultSize = g fR_faultSize ∧ r' fR_kinds = r fR_kinds ∧ r' fR_values = r fR_values) := by
  cases d with
  | zero => trivial
  | succ d =>
    rw [qP_finish]
    cases d with
    | zero => trivial
    | succ d =>
      refine pl_n (Q1 := fun _ g1 r1 => g1 = upd (upd g fR_size 0) fR_at 0 ∧ r1 = r) (X1 := kN) (by rw [qR_clear]; exact ⟨rfl, rfl⟩) (fun _ _ _ e => e.elim) (fun g1 r1 e => ?_)
      obtain ⟨rfl, rfl⟩ := e
      refine pl_v (Q1 := fun _ g2 r2 => g2 = upd (upd g fR_size 0) fR_at 0 ∧ r2 = r1) (X1 := kN) (by rw [qR_faultCount]; exact ⟨rfl, rfl⟩) (fun _ _ _ e => e.elim) (fun v g2 r2 e => ?_)
      obtain ⟨rfl, rfl⟩ := e
      refine pl_if (fun _ => ?_) (fun _ => ⟨rfl, rfl, rfl⟩)
      refine pl_n (pl_cp cp_T (cpS.int (by decide) rfl ai0) (pl_true (z := ev L xs (m + 1) (d + 1) nT_number [.ref cT] (upd (upd g fR_size 0) fR_at 0) r2))) (fun x g1 r1 e => ?_) (fun g1 r1 e => ?_)
      · exact ⟨e.2.1 fR_faultSize (by unfold cpTT; decide), e.2.2 fR_kinds (by unfold cpTT; decide), e.2.2 fR_values (by unfold cpTT; decide)⟩
      · rw [qT_unitCount]
        exact ⟨e.2.1 fR_faultSize (by unfold cpTT; decide), e.2.2 fR_kinds (by unfold cpTT; decide), e.2.2 fR_values (by unfold cpTT; decide)⟩
/-- the class's state as the clauses see it -/
def mkC (g : a2_G) (r : a2_A) : CU := ((g fU_size).toInt.toNat, (r fU_states).2, (r fU_kinds).2, (r fU_names).2, decide (g fC_section ≠ -1), (g fI_openSize).toInt.toNat, (r fI_openLevels).2)
theorem mkC_cv (h : CI g r) : Cv (mkC g r) g r := by
  obtain ⟨h1, h2, h3, h4, h5⟩ := h
  refine ⟨?_, ?_, rfl, rfl, rfl, ?_, ?_, ?_, rfl⟩
  · show (g fU_size).toInt = (((g fU_size).toInt.toNat : Nat) : Int)
    omega
  · show (g fU_size).toInt.toNat ≤ 10
    omega
  · show (if decide (g fC_section ≠ -1) = true then _ else _)
    by_cases e : g fC_section = -1
    · rw [decide_eq_false (fun q => q e), if_neg (by decide)]
      exact e
    · rw [decide_eq_true e, if_pos rfl]
      exact e
  · show (g fI_openSize).toInt = (((g fI_openSize).toInt.toNat : Nat) : Int)
    omega
  · show (g fI_openSize).toInt.toNat ≤ 49
    omega
theorem CI.ps (h : CI g r) (ha : g fR_at = 0) (hf : g fR_faultSize = 0) (hw : w = ((r fR_kinds).2, (r fR_values).2, (g fR_size).toInt.toNat)) : PS w 0 0 (mkC g r) g r := by
  subst hw
  have hc := mkC_cv h
  obtain ⟨h1, h2, h3, h4, h5⟩ := h
  refine ⟨⟨rfl, rfl, ?_, ?_, Nat.zero_le _, ?_, hf⟩, ⟨h3.1, h3.2.1, by omega, by omega⟩, hc⟩
  · show (g fR_size).toInt = (((g fR_size).toInt.toNat : Nat) : Int)
    omega
  · rw [ha]
    rfl
  · show (g fR_size).toInt.toNat ≤ 1500
    omega
/-- a word taken, or not -/
def Wst (sz kd vl : Nat) (a1 a2 : Int32) (g : a2_G) (r : a2_A) (g' : a2_G) (r' : a2_A) : Prop := (g' sz = g sz ∧ (r' kd).2 = (r kd).2 ∧ (r' vl).2 = (r vl).2) ∨ (g' sz = g sz + 1 ∧ (r' kd).2 = upd (r kd).2 (g sz).toNatClampNeg a1 ∧ (r' vl).2 = upd (r vl).2 (g sz).toNatClampNeg a2)
/-- nothing lies behind a row's end -/
def Zb (r : a2_A) : Prop := (∀ i, (r fR_kinds).1 ≤ i → (r fR_kinds).2 i = 0) ∧ ∀ i, (r fR_values).1 ≤ i → (r fR_values).2 i = 0
theorem cp_same {k : Nat} {e : Nat × (Nat → Int32)} (h : ∀ i, e.1 ≤ i → e.2 i = 0) (hk : e.1 ≤ k) : (a2_cp k e).2 = e.2 := by
  show va_cpy e.2 (fun _ => 0) 0 0 (if k < e.1 then k else e.1) = e.2
  rw [if_neg (by omega)]
  funext j
  unfold va_cpy
  by_cases c : 0 ≤ j ∧ j < 0 + e.1
  · rw [if_pos c]
    rw [show 0 + (j - 0) = j by omega]
  · rw [if_neg c]
    exact (h j (by omega)).symm
theorem ra_46 (x1 x2 : Int32) {k : Nat} {r' : a2_A} (hz : Zb r') (hk : (r' fR_kinds).2 = (r fR_kinds).2) (hv : (r' fR_values).2 = (r fR_values).2) : pl (BR_add_46 L xs (m + 1) d k x1 x2 g r') (fun _ g' r' => Wst fR_size fR_kinds fR_values x1 x2 g r g' r' ∧ Zb r' ∧ g' fR_faultSize = g fR_faultSize) kN := by
  unfold BR_add_46
  refine pl_if (fun c1 => pl_if (fun c2 => ?_) (fun _ => trivial)) (fun _ => trivial)
  rw [inr_eq] at c1 c2
  refine ⟨Or.inr ⟨rfl, ?_, ?_⟩, ⟨fun i hi => ?_, fun i hi => ?_⟩, rfl⟩
  · show upd (r' fR_kinds).2 _ x1 = _
    rw [hk]
  · show upd (r' fR_values).2 _ x2 = _
    rw [hv]
  · have hi' : (r' fR_kinds).1 ≤ i := hi
    show upd (r' fR_kinds).2 (g fR_size).toNatClampNeg x1 i = 0
    rw [upd_ne (by rw [nc_eq]; omega)]
    exact hz.1 i hi'
  · have hi' : (r' fR_values).1 ≤ i := hi
    show upd (r' fR_values).2 (g fR_size).toNatClampNeg x2 i = 0
    rw [upd_ne (by rw [nc_eq]; omega)]
    exact hz.2 i hi'
theorem xR_add (a1 a2 : Int32) (hz : Zb r) : pl (ev L xs (m + 1) d nR_add [.ref cR, .int a1, .int a2] g r) (fun _ g' r' => Wst fR_size fR_kinds fR_values a1 a2 g r g' r' ∧ Zb r' ∧ g' fR_faultSize = g fR_faultSize) kN := by
  cases d with
  | zero => trivial
  | succ d =>
    rw [qR_add]
    refine pl_if (fun _ => ra_46 a1 a2 hz rfl rfl) (fun _ => pl_if (fun c1 => pl_if (fun c2 => ?_) (fun _ => trivial)) (fun _ => trivial))
    obtain ⟨-, -, -, -, -, d1⟩ := c1
    obtain ⟨-, -, -, -, -, d2⟩ := c2
    have e1 := cp_same (k := (2 * g fR_size : Int32).toNatClampNeg) hz.1 (by omega)
    have e2 := cp_same (k := (2 * g fR_size : Int32).toNatClampNeg) hz.2 (by omega)
    refine ra_46 a1 a2 ⟨fun i hi => ?_, fun i hi => ?_⟩ e1 e2
    · have hi' : (2 * g fR_size : Int32).toNatClampNeg ≤ i := hi
      show (a2_cp _ (r fR_kinds)).2 i = 0
      rw [e1]
      exact hz.1 i (by omega)
    · have hi' : (2 * g fR_size : Int32).toNatClampNeg ≤ i := hi
      show (a2_cp _ (r fR_values)).2 i = 0
      rw [e2]
      exact hz.2 i (by omega)
theorem xP_word (a1 a2 : Int32) (hz : Zb r) : pl (ev L xs (m + 1) d nP_word [.ref cP, .int a1, .int a2] g r) (fun _ g' r' => Wst fR_size fR_kinds fR_values a1 a2 g r g' r' ∧ Zb r' ∧ g' fR_faultSize = g fR_faultSize) kN := by
  have hs : Wst fR_size fR_kinds fR_values a1 a2 g r g r ∧ Zb r ∧ g fR_faultSize = g fR_faultSize := ⟨Or.inl ⟨rfl, rfl, rfl⟩, hz, rfl⟩
  cases d with
  | zero => trivial
  | succ d =>
    rw [qP_word]
    unfold BP_word_34
    refine pl_v (Q1 := kP g r (fun _ => True)) (X1 := kN) ?_ (fun _ _ _ e => e) (fun v g1 r1 e => ?_)
    · cases d with
      | zero => trivial
      | succ d =>
        rw [qP_isWord]
        simp only [BP_isWord_55, BP_isWord_54, BP_isWord_71, BP_isWord_70, BP_isWord_56, BP_isWord_87, BP_isWord_86, BP_isWord_105, BP_isWord_104]
        repeat' refine pl_if (fun _ => ?_) (fun _ => ?_)
        all_goals first
          | trivial
          | exact ⟨_, rfl, trivial, rfl, rfl⟩
    · obtain ⟨v', -, -, rfl, rfl⟩ := e
      refine pl_if (fun _ => ?_) (fun _ => hs)
      refine pl_v (Q1 := kP g1 r1 (fun _ => True)) (X1 := kN) ?_ (fun _ _ _ e => e) (fun v g2 r2 e => ?_)
      · cases d with
        | zero => trivial
        | succ d =>
          rw [qR_isFull]
          unfold BR_isFull_15
          repeat' refine pl_if (fun _ => ?_) (fun _ => ?_)
          all_goals first
            | trivial
            | exact ⟨_, rfl, trivial, rfl, rfl⟩
      · obtain ⟨v', -, -, rfl, rfl⟩ := e
        refine pl_if (fun _ => ?_) (fun _ => hs)
        exact pl_v (xR_add a1 a2 hz) (fun _ _ _ e => e) (fun v g3 r3 e => e)
theorem xM_word (a1 a2 : Int32) : pl (ev L xs (m + 1) d nM_word [.ref cM, .int a1, .int a2] g r) (fun _ g' r' => Wst fM_size fM_kinds fM_values a1 a2 g r g' r' ∧ g' fM_faults = g fM_faults) kN := by
  have h66 : ∀ (k : Nat) (d : Nat) (x3 : Int32), pl (BM_word_66 L xs (m + 1) d k a1 a2 x3 (upd g fM_thrown 0) r) (fun _ g' r' => Wst fM_size fM_kinds fM_values a1 a2 g r g' r' ∧ g' fM_faults = g fM_faults) kN := by
    intro k d x3
    unfold BM_word_66
    refine pl_if (fun _ => pl_if (fun _ => pl_if (fun _ => ?_) (fun _ => trivial)) (fun _ => trivial)) (fun _ => ⟨Or.inl ⟨rfl, rfl, rfl⟩, rfl⟩)
    exact ⟨Or.inr ⟨rfl, rfl, rfl⟩, rfl⟩
  have h48 : ∀ (k : Nat) (d : Nat) (x3 : Int32), pl (BM_word_48 L xs (m + 1) d k a1 a2 x3 (upd g fM_thrown 0) r) (fun _ g' r' => Wst fM_size fM_kinds fM_values a1 a2 g r g' r' ∧ g' fM_faults = g fM_faults) kN := by
    intro k d x3
    unfold BM_word_48
    refine pl_if (fun _ => h66 _ _ _) (fun _ => ?_)
    exact pl_e xM_in (pl_if (fun _ => h66 _ _ _) (fun _ => ⟨Or.inl ⟨rfl, rfl, rfl⟩, rfl⟩))
  cases d with
  | zero => trivial
  | succ d =>
    rw [qM_word]
    refine pl_e xM_in (pl_if (fun _ => ?_) (fun _ => ⟨Or.inl ⟨rfl, rfl, rfl⟩, rfl⟩))
    exact pl_if (fun _ => pl_if (fun _ => pl_if (fun _ => h48 _ _ _) (fun _ => h48 _ _ _)) (fun _ => h48 _ _ _)) (fun _ => h48 _ _ _)
theorem xP_faults : pl (ev L xs (m + 1) d nP_faults [.ref cP] g r) (fun o g' r' => o = some (.int (g fR_faultSize)) ∧ g' = g ∧ r' = r) kN := by
  cases d with
  | zero => trivial
  | succ d =>
    rw [qP_faults]
    cases d with
    | zero => trivial
    | succ d =>
      rw [qR_faultCount]
      exact ⟨rfl, rfl, rfl⟩
theorem xM_faults : pl (ev L xs (m + 1) d nM_faults [.ref cM] g r) (fun o g' r' => o = some (.int (g fM_faults)) ∧ g' = upd g fM_thrown 0 ∧ r' = r) kN := by
  cases d with
  | zero => trivial
  | succ d =>
    rw [qM_faults]
    exact ⟨rfl, rfl, rfl⟩
end
/-- both hold the same words, the same number of faults -/
def Wq (g : a2_G) (r : a2_A) : Prop := ((r fR_kinds).2 = (r fM_kinds).2 ∧ (r fR_values).2 = (r fM_values).2) ∧ Zb r ∧ (∀ i, (r fM_kinds).2 i = 1 → 0 ≤ ((r fM_values).2 i).toInt ∧ ((r fM_values).2 i).toInt ≤ 99) ∧ g fR_faultSize = g fM_faults
theorem Wq.word {g g' : a2_G} {r r' : a2_A} {a1 a2 : Int32} (h : Wq g r) (hs : g fR_size = g fM_size) (hc : Wst fR_size fR_kinds fR_values a1 a2 g r g' r') (hm : Wst fM_size fM_kinds fM_values a1 a2 g r g' r') (hs' : g' fR_size = g' fM_size) (hz : Zb r') (hf : g' fR_faultSize = g fR_faultSize) (hf2 : g' fM_faults = g fM_faults) (ho : g' fM_size ≠ g fM_size → okw a1 a2) : Wq g' r' := by
  obtain ⟨⟨k1, k2⟩, -, k4, k5⟩ := h
  have ne : ∀ x : Int32, x + 1 ≠ x := fun x e => by
    have h1 : x + 1 - x = x - x := by rw [e]
    rw [Int32.sub_self, Int32.add_comm, Int32.add_sub_cancel] at h1
    exact absurd h1 (by decide)
  refine ⟨?_, hz, ?_, by rw [hf, hf2]; exact k5⟩
  · rcases hc with ⟨c1, c2, c3⟩ | ⟨c1, c2, c3⟩
    · rcases hm with ⟨m1, m2, m3⟩ | ⟨m1, m2, m3⟩
      · rw [c2, c3, m2, m3]
        exact ⟨k1, k2⟩
      · rw [c1, m1, hs] at hs'
        exact absurd hs'.symm (ne _)
    · rcases hm with ⟨m1, m2, m3⟩ | ⟨m1, m2, m3⟩
      · rw [c1, m1, hs] at hs'
        exact absurd hs' (ne _)
      · rw [c2, c3, m2, m3, k1, k2, hs]
        exact ⟨rfl, rfl⟩
  · intro i hi
    rcases hm with ⟨m1, m2, m3⟩ | ⟨m1, m2, m3⟩
    · rw [m2] at hi
      rw [m3]
      exact k4 i hi
    · rw [m2] at hi
      rw [m3]
      by_cases ci : i = (g fM_size).toNatClampNeg
      · rw [ci, upd_eq] at hi
        rw [ci, upd_eq]
        have hk := ho (by rw [m1]; exact ne _)
        rw [hi] at hk
        unfold okw at hk
        have e1 : (1 : Int32).toInt = 1 := rfl
        rw [e1] at hk
        omega
      · rw [upd_ne ci] at hi ⊢
        exact k4 i hi
