/-! The class's clauses: what they leave behind their period. -/
def nb (n : Int32) (b : Bool) : Int32 := if b then n + 1 else n
/-- read as A says; then the state is C, with one more fault or none -/
def kQ (w : Ws) (f : Gh) (C : CU × Bool) (A : Option RR) : Option Value → a2_G → a2_A → Prop := fun o g r => o = none ∧ ∃ q, A = ok q ∧ PS w (nb f.1 C.2) q C.1 g r
section
variable {L : Nat} {xs : Nat → Int32} {m d : Nat} {w : Ws} {f : Gh} {n : Int32} {p : Nat} {c : CU} {g : a2_G} {r : a2_A} {k : Int32 → a2_G → a2_A → Option fn_Z} {kn : a2_G → a2_A → Option fn_Z} {Q : Option Value → a2_G → a2_A → Prop} {X : Nat → a2_G → a2_A → Prop}
theorem ps_ap {a1 a2 : Int32} (h : PS w n p c g r) (hk : ∀ g' r', PS w n p c g' r' → cpF cpTT g r g' r' → pl (kn g' r') Q X) : pl (fn_n (ev L xs (m + 1) d nT_append [.ref cT, .int a1, .int a2] g r) kn) Q X := pl_n (xT_append L xs a1 a2 h.2.1) (fun _ _ _ e => e.1.elim) (fun g' r' e => hk g' r' (h.t e.2 e.1.2) e.2)
theorem ps_st {a1 a2 a3 : Int32} (h : PS w n p c g r) (hk : ∀ g' r', PS w n p c g' r' → cpF cpTT g r g' r' → pl (kn g' r') Q X) : pl (fn_n (ev L xs (m + 1) d nT_set [.ref cT, .int a1, .int a2, .int a3] g r) kn) Q X := pl_n (xT_set L xs a1 a2 a3 h.2.1) (fun _ _ _ e => e.1.elim) (fun g' r' e => hk g' r' (h.t e.2 e.1.2) e.2)
theorem ps_ss {a : Int32} (h : PS w n p c g r) (hk : ∀ g' r', PS w n p (sS c a) g' r' → pl (kn g' r') Q X) : pl (fn_n (ev L xs (m + 1) d nU_setState [.ref cU, .int a] g r) kn) Q X := pl_n (xU_setState a h) (fun _ _ _ e => e.elim) (fun g' r' e => hk g' r' e.2)
theorem pl_hd (hk : ∀ v, pl (k v g r) Q X) : pl (fn_v (ev L xs (m + 1) d nU_handle [.ref cU] g r) k) Q X := pl_v xU_handle (fun _ _ _ e => e.elim) (fun v g' r' e => by
  obtain ⟨v', e1, -, rfl, rfl⟩ := e
  exact hk v)
/-- a register of Clauses that says no more than where nodes hang -/
theorem PS.cl (h : PS w n p c g r) {j : Nat} (x : Int32) (hj : j = fC_openDivision ∨ j = fC_declaratives ∨ j = fC_paragraph) : PS w n p c (upd g j x) r := by
  have hn : ∀ q, q ≠ j → upd g j x q = g q := fun q hq => upd_ne hq
  have h6 : j / 100 = 6 ∧ j ≠ fC_section := by
    rcases hj with e | e | e <;> subst e <;> decide
  refine h.up (fun q hq => hn q (fun e => by rw [e] at hq; omega)) (fun _ _ => rfl) ?_
  obtain ⟨q1, q2, q3, q4, q5, q6, q7, q8⟩ := h.2.2
  refine ⟨?_, q2, q3, q4, q5, ?_, ?_, q8⟩
  · rw [hn fU_size (fun e => by rw [← e] at h6; exact absurd h6.1 (by decide))]
    exact q1
  · rw [hn fC_section (fun e => h6.2 e.symm)]
    exact q6
  · rw [hn fI_openSize (fun e => by rw [← e] at h6; exact absurd h6.1 (by decide))]
    exact q7
/-- is there a section -/
def sC (c : CU) (b : Bool) : CU := (oN c, oS c, oK c, oM c, b, oI c, oL c)
theorem PS.sc (h : PS w n p c g r) (x : Int32) {b : Bool} (hb : if b then x ≠ -1 else x = -1) : PS w n p (sC c b) (upd g fC_section x) r := by
  have hn : ∀ q, q ≠ fC_section → upd g fC_section x q = g q := fun q hq => upd_ne hq
  refine h.up (fun q hq => hn q (fun e => by rw [e] at hq; exact absurd hq (by decide))) (fun _ _ => rfl) ?_
  obtain ⟨q1, q2, q3, q4, q5, q6, q7, q8⟩ := h.2.2
  refine ⟨?_, q2, q3, q4, q5, ?_, ?_, q8⟩
  · rw [hn fU_size (by decide)]
    exact q1
  · rw [upd_eq]
    exact hb
  · rw [hn fI_openSize (by decide)]
    exact q7
/-- a unit opened -/
def sO (c : CU) : CU := (oN c + 1, upd (oS c) (oN c) 0, upd (oK c) (oN c) 0, upd (oM c) (oN c) (-1), oC c, oI c, oL c)
theorem xU_open (a : Int32) (h : PS w n p c g r) (hf : oN c < 10) : pl (ev L xs (m + 1) d nU_open [.ref cU, .int a] g r) (fun o g' r' => o = none ∧ PS w n p (sO c) g' r') kN := by
  cases d with
  | zero => trivial
  | succ d =>
    rw [qU_open]
    unfold BU_open_59
    obtain ⟨q1, q2, q3, q4, q5, q6, q7, q8⟩ := h.2.2
    refine pl_neg (by rw [c2_ge]; show ¬ (10 : Int) ≤ (g fU_size).toInt; omega) ?_
    have e1 : (g fU_size).toNatClampNeg = oN c := by rw [nc_eq, q1]; rfl
    have e2 := i32_inc (x := g fU_size) (by omega)
    rw [e1]
    refine pl_if (fun _ => ?_) (fun _ => trivial)
    refine pl_if (fun _ => ?_) (fun _ => trivial)
    refine pl_if (fun _ => ?_) (fun _ => trivial)
    refine pl_if (fun _ => ?_) (fun _ => trivial)
    refine ⟨rfl, h.up (fun q hq => upd_ne (fun e => by rw [e] at hq; exact absurd hq (by decide))) (fun q hq => ?_) ?_⟩
    · have hne : ∀ j, 8 ≤ j / 100 → q ≠ j := fun j hj e => by rw [e] at hq; omega
      show a2_ua _ _ _ q = _
      simp only [a2_ua, if_neg (hne fU_handles (by decide)), if_neg (hne fU_names (by decide)), if_neg (hne fU_kinds (by decide)), if_neg (hne fU_states (by decide))]
    · refine ⟨?_, ?_, ?_, ?_, ?_, q6, q7, q8⟩
      · show (g fU_size + 1).toInt = ((oN c + 1 : Nat) : Int)
        omega
      · show oN c + 1 ≤ 10
        omega
      · show upd (r fU_states).2 (oN c) 0 = upd (oS c) (oN c) 0
        rw [q3]
      · show upd (r fU_kinds).2 (oN c) 0 = upd (oK c) (oN c) 0
        rw [q4]
      · show upd (r fU_names).2 (oN c) (-1) = upd (oM c) (oN c) (-1)
        rw [q5]
/-- the innermost unit closed -/
def sX (c : CU) : CU := (oN c - 1, oS c, oK c, oM c, oC c, oI c, oL c)
theorem xU_close (h : PS w n p c g r) : pl (ev L xs (m + 1) d nU_close [.ref cU] g r) (fun o g' r' => o = none ∧ PS w n p (sX c) g' r') kN := by
  cases d with
  | zero => trivial
  | succ d =>
    rw [qU_close]
    unfold BU_close_17
    obtain ⟨q1, q2, q3, q4, q5, q6, q7, q8⟩ := h.2.2
    refine pl_if (fun hc => ?_) (fun hc => ?_)
    · rw [c2_le] at hc
      have hc' : (g fU_size).toInt ≤ 0 := hc
      refine ⟨rfl, h.1, h.2.1, ?_, ?_, q3, q4, q5, q6, q7, q8⟩
      · show (g fU_size).toInt = ((oN c - 1 : Nat) : Int)
        omega
      · show oN c - 1 ≤ 10
        omega
    · rw [c2_le] at hc
      have hc' : ¬ (g fU_size).toInt ≤ 0 := hc
      have e2 := i32_dec (x := g fU_size) (by omega)
      refine ⟨rfl, h.up (fun q hq => upd_ne (fun e => by rw [e] at hq; exact absurd hq (by decide))) (fun _ _ => rfl) ⟨?_, ?_, q3, q4, q5, q6, q7, q8⟩⟩
      · show (g fU_size - 1).toInt = ((oN c - 1 : Nat) : Int)
        omega
      · show oN c - 1 ≤ 10
        omega
/-- the innermost unit named -/
def sI (c : CU) (a b : Int32) : CU := if oN c = 0 then c else (oN c, oS c, upd (oK c) (oN c - 1) a, upd (oM c) (oN c - 1) b, oC c, oI c, oL c)
theorem xU_identify (a b : Int32) (h : PS w n p c g r) : pl (ev L xs (m + 1) d nU_identify [.ref cU, .int a, .int b] g r) (fun o g' r' => o = none ∧ PS w n p (sI c a b) g' r') kN := by
  cases d with
  | zero => trivial
  | succ d =>
    rw [qU_identify]
    unfold BU_identify_31 sI
    have hc0 := h.2.2
    refine pl_if (fun hc => ?_) (fun hc => ?_)
    · rw [c2_le] at hc
      have hc' : (g fU_size).toInt ≤ 0 := hc
      rw [if_pos (by have := hc0.1; omega)]
      exact ⟨rfl, h⟩
    · rw [c2_le] at hc
      obtain ⟨e1, e2⟩ := hc0.top hc
      rw [if_neg e2, e1]
      refine pl_if (fun _ => pl_if (fun _ => ⟨rfl, h.up (fun _ _ => rfl) (fun q hq => ?_) ?_⟩) (fun _ => trivial)) (fun _ => trivial)
      · have hne : ∀ j, 8 ≤ j / 100 → q ≠ j := fun j hj e => by rw [e] at hq; omega
        show a2_ua _ _ _ q = _
        simp only [a2_ua, if_neg (hne fU_names (by decide)), if_neg (hne fU_kinds (by decide))]
      · obtain ⟨q1, q2, q3, q4, q5, q6⟩ := hc0
        refine ⟨q1, q2, q3, ?_, ?_, q6⟩
        · show upd (r fU_kinds).2 (oN c - 1) a = upd (oK c) (oN c - 1) a
          rw [q4]
        · show upd (r fU_names).2 (oN c - 1) b = upd (oM c) (oN c - 1) b
          rw [q5]
/-- no items open -/
def sZ (c : CU) : CU := (oN c, oS c, oK c, oM c, oC c, 0, oL c)
theorem xI_startIn (a : Int32) (h : PS w n p c g r) : pl (ev L xs (m + 1) d nI_startIn [.ref cI, .int a] g r) (fun o g' r' => o = none ∧ PS w n p (sZ c) g' r') kN := by
  cases d with
  | zero => trivial
  | succ d =>
    rw [qI_startIn]
    obtain ⟨q1, q2, q3, q4, q5, q6, q7, q8, q9⟩ := h.2.2
    exact ⟨rfl, h.up (fun q hq => (upd_ne (fun e => by rw [e] at hq; exact absurd hq (by decide))).trans (upd_ne (fun e => by rw [e] at hq; exact absurd hq (by decide)))) (fun _ _ => rfl) ⟨q1, q2, q3, q4, q5, q6, rfl, by show 0 ≤ 49; omega, q9⟩⟩
theorem xC_unitName (a : Int32) (h : Ru w f p g r) (hp : p < w.2.2) (hc : Cv c f.2.1 f.2.2) : pl (ev L xs (m + 1) d nC_unitName [.ref cC, .int a] g r) (kQ w f (sS (sI c a (w.2.1 (p + 1))) 1, false) (if wk w (p + 1) 1 then (if wk w (p + 2) 4 then ok (p + 3) else no (p + 2)) else no (p + 1))) (kRx w f (if wk w (p + 1) 1 then (if wk w (p + 2) 4 then ok (p + 3) else no (p + 2)) else no (p + 1))) := by
  cases d with
  | zero => trivial
  | succ d =>
    rw [qC_unitName]
    refine pl_adv h hp (fun g1 h1 _ => ?_)
    refine pl_rk h1 (fun _ g2 h2 _ => ?_)
    refine pl_rk h2 (fun _ g3 h3 _ => ?_)
    refine pl_n (xU_identify a _ (h3.ps hc)) (fun _ _ _ e => e.elim) (fun g4 r4 e4 => ?_)
    refine ps_ss e4.2 (fun g5 r5 h5 => ?_)
    refine pl_hd (fun v => ?_)
    refine ps_st h5 (fun g6 r6 h6 _ => ?_)
    refine pl_hd (fun v => ?_)
    exact ps_st h6 (fun g7 r7 h7 _ => ⟨rfl, _, rfl, h7⟩)
theorem xC_procedure (l : Nat) (h : Ru w f p g r) (hp : p < w.2.2) (hc : Cv c f.2.1 f.2.2) : pl (ev L xs (m + 1) d nC_procedure [.ref cC] g r) (kQ w f (sS (sC c false) 8, false) (rv w 32 p l false)) (kRx w f (rv w 32 p l false)) := by
  cases d with
  | zero => trivial
  | succ d =>
    have h55 : ∀ x1 q g r, Ru w f q g r → pl (BC_procedure_55 L xs (m + 1) d m x1 g r) (kQ w f (sS (sC c false) 8, false) (rv w 31 q l false)) (kRx w f (rv w 31 q l false)) := by
      intro x1 q g r h
      rw [rv_t31]
      unfold BC_procedure_55
      refine pl_rk h (fun _ g1 h1 _ => ?_)
      refine pl_hd (fun v => ?_)
      refine ps_ap (h1.ps hc) (fun g2 r2 h2 _ => ?_)
      refine ps_ss (((h2.cl x1 (Or.inl rfl)).sc (-1) (b := false) rfl).cl (-1) (Or.inr (Or.inr rfl))) (fun g3 r3 h3 => ?_)
      exact ⟨rfl, _, rfl, h3⟩
    rw [qC_procedure, rv_t32]
    refine pl_e (xR_place L xs) ?_
    refine pl_mk h (fun g1 r1 h1 _ => ?_)
    refine pl_adv h1 hp (fun g2 h2 _ => ?_)
    refine pl_rq h2 (fun _ g3 h3 _ => ?_)
    refine pl_sk h3 (fun _ g4 h4 _ => pl_neg (by decide) ?_) (fun _ => pl_pos (by decide) (h55 _ _ _ _ h3))
    exact pl_nR (K := fun q => rv w 31 q l false) (xL_namesIn L xs l _ 21 h4) (fun q g5 r5 _ h5 => h55 _ _ _ _ h5)
theorem xC_beginDeclaratives (h : Ru w f p g r) (hp : p < w.2.2) (hc : Cv c f.2.1 f.2.2) : pl (ev L xs (m + 1) d nC_beginDeclaratives [.ref cC] g r) (kQ w f (sS c 9, false) (if wk w (p + 1) 4 then ok (p + 2) else no (p + 1))) (kRx w f (if wk w (p + 1) 4 then ok (p + 2) else no (p + 1))) := by
  cases d with
  | zero => trivial
  | succ d =>
    rw [qC_beginDeclaratives]
    refine pl_e (xR_place L xs) ?_
    refine pl_mk h (fun g1 r1 h1 _ => ?_)
    refine pl_adv h1 hp (fun g2 h2 _ => ?_)
    refine pl_rk h2 (fun _ g3 h3 _ => ?_)
    refine ps_ap (h3.ps hc) (fun g4 r4 h4 _ => ?_)
    exact ps_ss (h4.cl _ (Or.inr (Or.inl rfl))) (fun g5 r5 h5 => ⟨rfl, _, rfl, h5⟩)
theorem xC_endDeclaratives (h : Ru w f p g r) (hp : p < w.2.2) (hc : Cv c f.2.1 f.2.2) : pl (ev L xs (m + 1) d nC_endDeclaratives [.ref cC] g r) (kQ w f (sS (sC c false) 10, false) (if ww w (p + 1) 32 then (if wk w (p + 2) 4 then ok (p + 3) else no (p + 2)) else no (p + 1))) (kRx w f (if ww w (p + 1) 32 then (if wk w (p + 2) 4 then ok (p + 3) else no (p + 2)) else no (p + 1))) := by
  cases d with
  | zero => trivial
  | succ d =>
    rw [qC_endDeclaratives]
    refine pl_adv h hp (fun g1 h1 _ => ?_)
    refine pl_rq h1 (fun _ g2 h2 _ => ?_)
    refine pl_rk h2 (fun _ g3 h3 _ => ?_)
    exact ps_ss (((h3.ps hc).sc (-1) (b := false) rfl).cl (-1) (Or.inr (Or.inr rfl))) (fun g5 r5 h5 => ⟨rfl, _, rfl, h5⟩)
end
