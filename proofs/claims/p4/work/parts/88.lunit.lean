/-! What a clause finds and leaves: open units, open items, is there a section. -/
abbrev CU : Type := Nat × (Nat → Int32) × (Nat → Int32) × (Nat → Int32) × Bool × Nat × (Nat → Int32)
def oN (c : CU) : Nat := c.1
def oS (c : CU) : Nat → Int32 := c.2.1
def oK (c : CU) : Nat → Int32 := c.2.2.1
def oM (c : CU) : Nat → Int32 := c.2.2.2.1
def oC (c : CU) : Bool := c.2.2.2.2.1
def oI (c : CU) : Nat := c.2.2.2.2.2.1
def oL (c : CU) : Nat → Int32 := c.2.2.2.2.2.2
/-- the innermost unit's state -/
def oT (c : CU) : Int32 := if oN c = 0 then -1 else oS c (oN c - 1)
/-- the class's view -/
def Cv (c : CU) (g : a2_G) (r : a2_A) : Prop := (g fU_size).toInt = oN c ∧ oN c ≤ 10 ∧ (r fU_states).2 = oS c ∧ (r fU_kinds).2 = oK c ∧ (r fU_names).2 = oM c ∧ (if oC c then g fC_section ≠ -1 else g fC_section = -1) ∧ (g fI_openSize).toInt = oI c ∧ oI c ≤ 49 ∧ (r fI_openLevels).2 = oL c
theorem Cv.of {c : CU} {g g' : a2_G} {r r' : a2_A} (h : Cv c g r) (hg : ∀ k, 6 ≤ k / 100 → g' k = g k) (hr : ∀ q, 6 ≤ q / 100 → r' q = r q) : Cv c g' r' := by
  unfold Cv at h ⊢
  rw [hg fU_size (by decide), hr fU_states (by decide), hr fU_kinds (by decide), hr fU_names (by decide), hg fC_section (by decide), hg fI_openSize (by decide), hr fI_openLevels (by decide)]
  exact h
theorem Cv.fr {c : CU} {g g' : a2_G} {r r' : a2_A} (h : Cv c g r) (a : cpF cp15 g r g' r') : Cv c g' r' := h.of (fun k hk => a.1 k (by unfold cp15; omega)) (fun k hk => a.2 k (by unfold cp15; omega))
theorem Ru.cv {w : Ws} {f : Gh} {p : Nat} {g : a2_G} {r : a2_A} {c : CU} (h : Ru w f p g r) (hc : Cv c f.2.1 f.2.2) : Cv c g r := hc.fr h.1.2.2.2.2.2.2.2
/-- where the class stands behind a clause's period -/
def Rq (w : Ws) (n : Int32) (p : Nat) (g : a2_G) (r : a2_A) : Prop := (r fR_kinds).2 = w.1 ∧ (r fR_values).2 = w.2.1 ∧ (g fR_size).toInt = w.2.2 ∧ (g fR_at).toInt = p ∧ p ≤ w.2.2 ∧ w.2.2 ≤ 1500 ∧ g fR_faultSize = n
def PS (w : Ws) (n : Int32) (p : Nat) (c : CU) (g : a2_G) (r : a2_A) : Prop := Rq w n p g r ∧ Tm g r ∧ Cv c g r
theorem Ru.ps {w : Ws} {f : Gh} {p : Nat} {g : a2_G} {r : a2_A} {c : CU} (h : Ru w f p g r) (hc : Cv c f.2.1 f.2.2) : PS w f.1 p c g r := by
  obtain ⟨⟨h1, h2, h3, h4, h5, h6, h7, h8⟩, h9⟩ := h
  exact ⟨⟨h1, h2, h3, h4, h5, h6, h7⟩, h9, hc.fr h8⟩
theorem Rq.of {w : Ws} {n : Int32} {p : Nat} {g g' : a2_G} {r r' : a2_A} (h : Rq w n p g r) (hg : ∀ k, k / 100 = 1 → g' k = g k) (hr : ∀ q, q / 100 = 1 → r' q = r q) : Rq w n p g' r' := by
  unfold Rq at h ⊢
  rw [hr fR_kinds (by decide), hr fR_values (by decide), hg fR_size (by decide), hg fR_at (by decide), hg fR_faultSize (by decide)]
  exact h
theorem PS.t {w : Ws} {n : Int32} {p : Nat} {c : CU} {g g' : a2_G} {r r' : a2_A} (h : PS w n p c g r) (a : cpF cpTT g r g' r') (ht : Tm g' r') : PS w n p c g' r' := ⟨h.1.of (fun k hk => a.1 k (by unfold cpTT; omega)) (fun k hk => a.2 k (by unfold cpTT; omega)), ht, h.2.2.of (fun k hk => a.1 k (by unfold cpTT; omega)) (fun k hk => a.2 k (by unfold cpTT; omega))⟩
/-- what is changed outside Row and Tree -/
theorem PS.up {w : Ws} {n : Int32} {p : Nat} {c c' : CU} {g g' : a2_G} {r r' : a2_A} (h : PS w n p c g r) (hg : ∀ k, k / 100 ≤ 5 → g' k = g k) (hr : ∀ q, q / 100 ≤ 5 → r' q = r q) (hc : Cv c' g' r') : PS w n p c' g' r' := by
  refine ⟨h.1.of (fun k hk => hg k (by omega)) (fun k hk => hr k (by omega)), ?_, hc⟩
  unfold Tm
  rw [hg fT_made (by decide), hr fT_cells (by decide)]
  exact h.2.1
section
variable {L : Nat} {xs : Nat → Int32} {m d : Nat} {w : Ws} {n : Int32} {p : Nat} {c : CU} {g : a2_G} {r : a2_A} {k : Int32 → a2_G → a2_A → Option fn_Z} {kn : a2_G → a2_A → Option fn_Z} {Q : Option Value → a2_G → a2_A → Prop} {X : Nat → a2_G → a2_A → Prop}
theorem Cv.top (h : Cv c g r) (h0 : ¬ (g fU_size).toInt ≤ 0) : (g fU_size - 1).toNatClampNeg = oN c - 1 ∧ ¬ oN c = 0 := by
  have e := i32_dec (x := g fU_size) (by omega)
  rw [nc_eq, e, h.1]
  have := h.1
  omega
theorem xU_state (h : Cv c g r) : pl (ev L xs (m + 1) d nU_state [.ref cU] g r) (kE g r (oT c)) kN := by
  cases d with
  | zero => trivial
  | succ d =>
    rw [qU_state]
    unfold BU_state_22 oT
    refine pl_if (fun hc => ?_) (fun hc => ?_)
    · rw [c2_le] at hc
      have hc' : (g fU_size).toInt ≤ 0 := hc
      rw [if_pos (by have := h.1; omega)]
      exact ⟨rfl, rfl, rfl⟩
    · rw [c2_le] at hc
      obtain ⟨e1, e2⟩ := h.top hc
      rw [if_neg e2, e1, h.2.2.1]
      exact pl_if (fun _ => ⟨rfl, rfl, rfl⟩) (fun _ => trivial)
theorem xU_kind (h : Cv c g r) : pl (ev L xs (m + 1) d nU_kind [.ref cU] g r) (kE g r (if oN c = 0 then -1 else oK c (oN c - 1))) kN := by
  cases d with
  | zero => trivial
  | succ d =>
    rw [qU_kind]
    unfold BU_kind_22
    refine pl_if (fun hc => ?_) (fun hc => ?_)
    · rw [c2_le] at hc
      have hc' : (g fU_size).toInt ≤ 0 := hc
      rw [if_pos (by have := h.1; omega)]
      exact ⟨rfl, rfl, rfl⟩
    · rw [c2_le] at hc
      obtain ⟨e1, e2⟩ := h.top hc
      rw [if_neg e2, e1, h.2.2.2.1]
      exact pl_if (fun _ => ⟨rfl, rfl, rfl⟩) (fun _ => trivial)
theorem xU_name (h : Cv c g r) : pl (ev L xs (m + 1) d nU_name [.ref cU] g r) (kE g r (if oN c = 0 then -1 else oM c (oN c - 1))) kN := by
  cases d with
  | zero => trivial
  | succ d =>
    rw [qU_name]
    unfold BU_name_22
    refine pl_if (fun hc => ?_) (fun hc => ?_)
    · rw [c2_le] at hc
      have hc' : (g fU_size).toInt ≤ 0 := hc
      rw [if_pos (by have := h.1; omega)]
      exact ⟨rfl, rfl, rfl⟩
    · rw [c2_le] at hc
      obtain ⟨e1, e2⟩ := h.top hc
      rw [if_neg e2, e1, h.2.2.2.2.1]
      exact pl_if (fun _ => ⟨rfl, rfl, rfl⟩) (fun _ => trivial)
theorem xU_openCount : pl (ev L xs (m + 1) d nU_openCount [.ref cU] g r) (kE g r (g fU_size)) kN := by
  cases d with
  | zero => trivial
  | succ d =>
    rw [qU_openCount]
    exact ⟨rfl, rfl, rfl⟩
theorem xU_isFull (h : Cv c g r) : pl (ev L xs (m + 1) d nU_isFull [.ref cU] g r) (kE g r (b2i (decide (10 ≤ oN c)))) kN := by
  cases d with
  | zero => trivial
  | succ d =>
    rw [qU_isFull]
    unfold BU_isFull_14
    have e := h.1
    refine pl_if (fun hc => ?_) (fun hc => ?_)
    · rw [c2_lt] at hc
      have hc' : (g fU_size).toInt < 10 := hc
      rw [decide_eq_false (by omega : ¬ 10 ≤ oN c)]
      exact pl_pos (by decide) ⟨rfl, rfl, rfl⟩
    · rw [c2_lt] at hc
      have hc' : ¬ (g fU_size).toInt < 10 := hc
      rw [decide_eq_true (by omega : 10 ≤ oN c)]
      exact pl_pos (by decide) ⟨rfl, rfl, rfl⟩
theorem xU_handle : pl (ev L xs (m + 1) d nU_handle [.ref cU] g r) (kP g r (fun _ => True)) kN := by
  cases d with
  | zero => trivial
  | succ d =>
    rw [qU_handle]
    unfold BU_handle_22
    refine pl_if (fun _ => ⟨_, rfl, trivial, rfl, rfl⟩) (fun _ => pl_if (fun _ => ⟨_, rfl, trivial, rfl, rfl⟩) (fun _ => trivial))
/-- the innermost unit's state set -/
def sS (c : CU) (a : Int32) : CU := if oN c = 0 then c else (oN c, upd (oS c) (oN c - 1) a, oK c, oM c, oC c, oI c, oL c)
theorem xU_setState (a : Int32) (h : PS w n p c g r) : pl (ev L xs (m + 1) d nU_setState [.ref cU, .int a] g r) (fun o g' r' => o = none ∧ PS w n p (sS c a) g' r') kN := by
  cases d with
  | zero => trivial
  | succ d =>
    rw [qU_setState]
    unfold BU_setState_19 sS
    have hc0 := h.2.2
    refine pl_if (fun hc => ?_) (fun hc => ?_)
    · rw [c2_le] at hc
      have hc' : (g fU_size).toInt ≤ 0 := hc
      rw [if_pos (by have := hc0.1; omega)]
      exact ⟨rfl, h⟩
    · rw [c2_le] at hc
      obtain ⟨e1, e2⟩ := hc0.top hc
      rw [if_neg e2, e1]
      refine pl_if (fun _ => ⟨rfl, h.up (fun _ _ => rfl) (fun q hq => if_neg (fun e => by rw [e] at hq; exact absurd hq (by decide))) ?_⟩) (fun _ => trivial)
      obtain ⟨q1, q2, q3, q4⟩ := hc0
      refine ⟨q1, q2, ?_, q4⟩
      show upd (r fU_states).2 (oN c - 1) a = upd (oS c) (oN c - 1) a
      rw [q3]
end
