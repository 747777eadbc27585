/-! All clauses, one after the other; the model's parse. -/
def mb (p : Nat) (x : Option RR) : Prop := mp p x ∧ ∀ b, x = some (.inr b) → p ≤ b
theorem mb_ok {p q : Nat} (h : p ≤ q) : mb p (ok q) := ⟨mp_ok h, fun b e => by cases e⟩
theorem mb_in {p q : Nat} {s : Bool} (h : p ≤ q) : mb p (some (.inl (q, s))) := ⟨mp_in h, fun b e => by cases e⟩
theorem mb_no {p q : Nat} (h : p ≤ q) : mb p (no q) := ⟨mp_no, fun b e => by cases e; exact h⟩
theorem mb_nr {p q : Nat} (h : p ≤ q) : mb p (some (.inr q)) := mb_no h
theorem mb_none {p : Nat} : mb p none := ⟨mp_none, fun b e => by cases e⟩
theorem mb_ite {c : Prop} [Decidable c] {p : Nat} {a b : Option RR} (ha : mb p a) (hb : mb p b) : mb p (if c then a else b) := by
  by_cases h : c
  · rw [if_pos h]; exact ha
  · rw [if_neg h]; exact hb
theorem mb_bd {p : Nat} {x : Option RR} {k : Nat → Bool → Option RR} (hx : mb p x) (hk : ∀ q s, p ≤ q → mb p (k q s)) : mb p (bd x k) := by
  match x, hx with
  | none, _ => exact mb_none
  | some (.inl y), hx => exact hk y.1 y.2 (hx.1 y.1 y.2 rfl)
  | some (.inr b), hx => exact hx
theorem mb_wk {p p' : Nat} {x : Option RR} (h : mb p' x) (hp : p ≤ p') : mb p x := ⟨fun q s e => Nat.le_trans hp (h.1 q s e), fun b e => Nat.le_trans hp (h.2 b e)⟩
def mB (F : FT) : Prop := ∀ t p l s, mb p (F t p l s)
theorem mB.at {F : FT} (h : mB F) {p p' : Nat} (t l : Nat) (s : Bool) (hp : p ≤ p') : mb p (F t p' l s) := mb_wk (h t p' l s) hp
theorem mb_ropd {w : Ws} {p p' : Nat} (h : p ≤ p') : mb p (some (ropd w p')) := by
  unfold ropd
  by_cases h2 : wo w p' = true
  · rw [if_pos h2]; exact mb_in (by omega)
  · rw [if_neg h2]; exact mb_nr h
theorem mb_rcmp {w : Ws} {p p' : Nat} (h : p ≤ p') : mb p (some (rcmp w p')) := by
  unfold rcmp rcmp1 rcmp2
  have h2 := sk_le' (ww w (sk (ww w p' 67) p') 64) (sk_le' (ww w p' 67) h)
  simp only [some_ite]
  repeat' first
    | exact mb_ropd (by omega)
    | exact mb_ropd (sk_le' _ (by omega))
    | exact mb_nr h2
    | refine mb_ite ?_ ?_
theorem mb_rel {w : Ws} {p : Nat} {s : Bool} : mb p (some (rel w p s)) := by
  unfold rel
  simp only [some_ite]
  repeat' first
    | exact mb_rcmp (by omega)
    | exact mb_ropd (by omega)
    | exact mb_in (by omega)
    | exact mb_nr (by omega)
    | refine mb_ite ?_ ?_
theorem mB_stp {w : Ws} {F : FT} (h : mB F) : mB (stp w F) := by
  intro t p l s
  unfold stp
  split
  all_goals
    repeat' first
      | exact mb_none
      | exact mb_rel
      | exact mb_ok (by omega)
      | exact mb_ok (sk_le' _ (by omega))
      | exact mb_ok (Nat.le_succ_of_le (sk_le' _ (by omega)))
      | exact mb_no (by omega)
      | exact mb_no (sk_le' _ (by omega))
      | exact mb_in (by omega)
      | exact h.at _ _ _ (by omega)
      | exact h.at _ _ _ (sk_le' _ (by omega))
      | refine mb_bd ?_ (fun _ _ _ => ?_)
      | refine mb_ite ?_ ?_
theorem rit_mB (w : Ws) : ∀ n, mB (rit w n)
  | 0 => fun _ _ _ _ => mb_none
  | n + 1 => mB_stp (rit_mB w n)
theorem rv_mB (w : Ws) : mB (rv w) := fun t p l s => ⟨rv_mo w t p l s, fun b e => by
  obtain ⟨n, hn⟩ := rv_ex e
  exact (rit_mB w n t p l s).2 b hn⟩
theorem fst_ite {α β : Type} {c : Prop} [Decidable c] {a b : α × β} : (if c then a else b).1 = if c then a.1 else b.1 := by
  by_cases h : c
  · rw [if_pos h, if_pos h]
  · rw [if_neg h, if_neg h]
theorem qN_le (w : Ws) (p : Nat) : p ≤ qN w p := by
  unfold qN
  split
  · omega
  · exact sk_le _ _
/-- a clause takes a word; a bad one lies no further back -/
def mc (p : Nat) (x : Option RR) : Prop := mp (p + 1) x ∧ ∀ b, x = some (.inr b) → p ≤ b
theorem mc_ok {p q : Nat} (h : p + 1 ≤ q) : mc p (ok q) := ⟨mp_ok h, fun b e => by cases e⟩
theorem mc_no {p q : Nat} (h : p ≤ q) : mc p (no q) := ⟨mp_no, fun b e => by cases e; exact h⟩
theorem mc_ite {c : Prop} [Decidable c] {p : Nat} {a b : Option RR} (ha : mc p a) (hb : mc p b) : mc p (if c then a else b) := by
  by_cases h : c
  · rw [if_pos h]; exact ha
  · rw [if_neg h]; exact hb
theorem mc_rv {w : Ws} {p q t l : Nat} {s : Bool} (h : p + 1 ≤ q) : mc p (rv w t q l s) := ⟨(rv_mo w).at _ _ _ h, fun b e => Nat.le_trans (by omega) ((rv_mB w t q l s).2 b e)⟩
theorem mc_bd {p : Nat} {x : Option RR} {k : Nat → Bool → Option RR} (hx : mb p x) (hk : ∀ q s, p ≤ q → mc p (k q s)) : mc p (bd x k) := by
  match x, hx with
  | none, _ => exact ⟨mp_none, fun b e => by cases e⟩
  | some (.inl y), hx => exact hk y.1 y.2 (hx.1 y.1 y.2 rfl)
  | some (.inr b), hx => exact ⟨mp_no, hx.2⟩
theorem zC_mc (w : Ws) (c : CU) (p : Nat) : mc p (zC w c p).1 := by
  have hs : p + 1 ≤ sk (ww w (p + 1) 16) (p + 1) := sk_le _ _
  have hI : mc p (zIt w c p).1 := by
    unfold zIt
    cases oP c (w.2.1 p) with
    | none => exact mc_no (by omega)
    | some j => exact mc_rv (Nat.le_trans (by omega) (qN_le w (p + 1)))
  have h28 : mc p (rv w 28 p 0 false) := by
    rw [rv_t28]
    exact mc_ite (mc_ite (mc_rv (sk_le' _ (by omega))) (mc_no (by omega))) (mc_no (by omega))
  have h32 : mc p (rv w 32 p 0 false) := by
    rw [rv_t32]
    refine mc_ite (mc_ite (mc_bd (mb_wk (rv_mB w _ _ _ _) (show p ≤ p + 3 by omega)) (fun q s hq => ?_)) (mc_rv (by omega))) (mc_no (by omega))
    rw [rv_t31]
    exact mc_ite (mc_ok (by omega)) (mc_no hq)
  have hz : ∀ b, mc p (zH w p b) := by
    intro b
    unfold zH
    exact mc_ite (mc_ite (mc_ok (by omega)) (mc_no (by omega))) (mc_no (by omega))
  unfold zC zR zE zD
  simp only [fst_ite]
  repeat' first
    | exact hI
    | exact h28
    | exact h32
    | exact hz _
    | exact mc_ok (by omega)
    | exact mc_no (by omega)
    | refine mc_bd (rv_mB w _ _ _ _) (fun _ _ _ => ?_)
    | refine mc_ite ?_ ?_
theorem rc_ge {w : Ws} : ∀ (k p : Nat), w.2.2 - p = k → p ≤ rc w p ∧ (p < w.2.2 → p + 1 ≤ rc w p) := by
  intro k
  induction k with
  | zero =>
    intro p h
    rw [rc_out (by omega)]
    exact ⟨Nat.le_refl _, fun e => absurd e (by omega)⟩
  | succ k ih =>
    intro p h
    by_cases h4 : w.1 p = 4
    · rw [rc_per (by omega) h4]
      omega
    · have := ih (p + 1) (by omega)
      rw [rc_on (by omega) h4]
      omega
theorem rc_le {w : Ws} : ∀ (k p : Nat), w.2.2 - p = k → p ≤ w.2.2 → rc w p ≤ w.2.2 := by
  intro k
  induction k with
  | zero =>
    intro p h hp
    rw [rc_out (by omega)]
    exact hp
  | succ k ih =>
    intro p h hp
    by_cases h4 : w.1 p = 4
    · rw [rc_per (by omega) h4]
      omega
    · rw [rc_on (by omega) h4]
      exact ih (p + 1) (by omega) (by omega)
/-- ALL CLAUSES: what they leave, and how many faults -/
noncomputable def zL (w : Ws) : Nat → CU → Nat → Int32 → Option (CU × Int32)
  | 0, _, _, _ => none
  | k + 1, c, p, n => if p < w.2.2 ∧ n.toInt < 20 then (match (zC w c p).1 with
      | none => none
      | some (.inl q) => zL w k (zC w c p).2.1 q.1 (nb n (zC w c p).2.2)
      | some (.inr b) => zL w k c (rc w b) (n + 1)) else some (c, n)
theorem zL_ok {w : Ws} {k p q : Nat} {c : CU} {n : Int32} (h : p < w.2.2 ∧ n.toInt < 20) (hz : (zC w c p).1 = ok q) : zL w (k + 1) c p n = zL w k (zC w c p).2.1 q (nb n (zC w c p).2.2) := by
  show (if p < w.2.2 ∧ n.toInt < 20 then (match (zC w c p).1 with
      | none => none
      | some (.inl q) => zL w k (zC w c p).2.1 q.1 (nb n (zC w c p).2.2)
      | some (.inr b) => zL w k c (rc w b) (n + 1)) else some (c, n)) = _
  rw [if_pos h, hz]
  rfl
theorem zL_no {w : Ws} {k p b : Nat} {c : CU} {n : Int32} (h : p < w.2.2 ∧ n.toInt < 20) (hz : (zC w c p).1 = no b) : zL w (k + 1) c p n = zL w k c (rc w b) (n + 1) := by
  show (if p < w.2.2 ∧ n.toInt < 20 then (match (zC w c p).1 with
      | none => none
      | some (.inl q) => zL w k (zC w c p).2.1 q.1 (nb n (zC w c p).2.2)
      | some (.inr b) => zL w k c (rc w b) (n + 1)) else some (c, n)) = _
  rw [if_pos h, hz]
  rfl
theorem zL_end {w : Ws} {k p : Nat} {c : CU} {n : Int32} (h : ¬ (p < w.2.2 ∧ n.toInt < 20)) : zL w (k + 1) c p n = some (c, n) := by
  show (if p < w.2.2 ∧ n.toInt < 20 then _ else some (c, n)) = _
  rw [if_neg h]
theorem zL_up {w : Ws} : ∀ (k : Nat) {c : CU} {p : Nat} {n : Int32} {x : CU × Int32}, zL w k c p n = some x → zL w (k + 1) c p n = some x
  | 0, _, _, _, _, h => nomatch h
  | k + 1, c, p, n, x, h => by
    by_cases hc : p < w.2.2 ∧ n.toInt < 20
    · match hz : (zC w c p).1 with
      | none =>
        have h' : (if p < w.2.2 ∧ n.toInt < 20 then (match (zC w c p).1 with
          | none => none
          | some (.inl q) => zL w k (zC w c p).2.1 q.1 (nb n (zC w c p).2.2)
          | some (.inr b) => zL w k c (rc w b) (n + 1)) else some (c, n)) = some x := h
        rw [if_pos hc, hz] at h'
        cases h'
      | some (.inl (q, s)) =>
        have h' : (if p < w.2.2 ∧ n.toInt < 20 then (match (zC w c p).1 with
          | none => none
          | some (.inl q) => zL w k (zC w c p).2.1 q.1 (nb n (zC w c p).2.2)
          | some (.inr b) => zL w k c (rc w b) (n + 1)) else some (c, n)) = some x := h
        show (if p < w.2.2 ∧ n.toInt < 20 then (match (zC w c p).1 with
          | none => none
          | some (.inl q) => zL w (k + 1) (zC w c p).2.1 q.1 (nb n (zC w c p).2.2)
          | some (.inr b) => zL w (k + 1) c (rc w b) (n + 1)) else some (c, n)) = some x
        rw [if_pos hc, hz] at h' ⊢
        exact zL_up k h'
      | some (.inr b) =>
        rw [zL_no hc hz] at h ⊢
        exact zL_up k h
    · rw [zL_end hc] at h ⊢
      exact h
def zX (w : Ws) (c : CU) (p : Nat) (n : Int32) (x : CU × Int32) : Prop := ∃ k, zL w k c p n = some x
theorem zL_le {w : Ws} {k k' : Nat} {c : CU} {p : Nat} {n : Int32} {x : CU × Int32} (h : zL w k c p n = some x) (hk : k ≤ k') : zL w k' c p n = some x := by
  induction hk with
  | refl => exact h
  | step _ ih => exact zL_up _ ih
theorem zX.det {w : Ws} {c : CU} {p : Nat} {n : Int32} {x y : CU × Int32} (h : zX w c p n x) (h2 : zX w c p n y) : x = y := by
  obtain ⟨k, h⟩ := h
  obtain ⟨k2, h2⟩ := h2
  have e1 := zL_le h (Nat.le_max_left k k2)
  have e2 := zL_le h2 (Nat.le_max_right k k2)
  rw [e1] at e2
  exact Option.some.inj e2
theorem zX.ok {w : Ws} {c : CU} {p q : Nat} {n : Int32} {x : CU × Int32} (h : p < w.2.2 ∧ n.toInt < 20) (hz : (zC w c p).1 = some (.inl (q, false))) (hx : zX w (zC w c p).2.1 q (nb n (zC w c p).2.2) x) : zX w c p n x := by
  obtain ⟨k, hx⟩ := hx
  exact ⟨k + 1, by rw [zL_ok h hz]; exact hx⟩
theorem zX.no {w : Ws} {c : CU} {p b : Nat} {n : Int32} {x : CU × Int32} (h : p < w.2.2 ∧ n.toInt < 20) (hz : (zC w c p).1 = some (.inr b)) (hx : zX w c (rc w b) (n + 1) x) : zX w c p n x := by
  obtain ⟨k, hx⟩ := hx
  exact ⟨k + 1, by rw [zL_no h hz]; exact hx⟩
theorem zX.fin {w : Ws} {c : CU} {p : Nat} {n : Int32} (h : ¬ (p < w.2.2 ∧ n.toInt < 20)) : zX w c p n (c, n) := ⟨1, zL_end h⟩
/-- the number of faults at the end -/
def zN (x : CU × Int32) : Int32 := if oE x.1 then nx x.2 else x.2
section
variable {L : Nat} {xs : Nat → Int32} {m d k : Nat} {w : Ws}
/-- numbering keeps words and faults -/
def NUL (L : Nat) (xs : Nat → Int32) (m d k : Nat) (g0 : a2_G) (r0 : a2_A) : Prop := (∀ (x1 x2 x3 : Int32) (g : a2_G) (r : a2_A), Fm [fM_told, fM_deepest] [fM_number, fM_order] g0 r0 g r → pl (lp L xs nM_numberAll nm_m225 (m + 1) d k 9 [some (.ref cM), some (.int x1), some (.int x2), some (.int x3)] g r) (fun o g' r' => o = none ∧ Fm [fM_told, fM_deepest] [fM_number, fM_order] g0 r0 g' r') kN) ∧
  (∀ (x1 x2 x3 : Int32) (g : a2_G) (r : a2_A), Fm [fM_told, fM_deepest] [fM_number, fM_order] g0 r0 g r → pl (lp L xs nM_numberAll nm_m225 (m + 1) d k 85 [some (.ref cM), some (.int x1), some (.int x2), some (.int x3)] g r) (fun o g' r' => o = none ∧ Fm [fM_told, fM_deepest] [fM_number, fM_order] g0 r0 g' r') kN)
theorem nu_85 {g0 : a2_G} {r0 : a2_A} (H : NUL L xs m d k g0 r0) (x1 x2 x3 : Int32) {g : a2_G} {r : a2_A} (h : Fm [fM_told, fM_deepest] [fM_number, fM_order] g0 r0 g r) : pl (BM_numberAll_85 L xs (m + 1) d k x1 x2 x3 g r) (fun o g' r' => o = none ∧ Fm [fM_told, fM_deepest] [fM_number, fM_order] g0 r0 g' r') kN := by
  unfold BM_numberAll_85 BM_numberAll_117
  refine pl_if (fun _ => pl_if (fun _ => ?_) (fun _ => pl_if (fun _ => pl_if (fun _ => ?_) (fun _ => pl_if (fun _ => ?_) (fun _ => trivial))) (fun _ => trivial))) (fun _ => trivial)
  · exact pl_if (fun _ => H.1 _ _ _ _ _ h) (fun _ => trivial)
  · exact pl_if (fun _ => H.1 _ _ _ _ _ h) (fun _ => trivial)
  · exact H.2 _ _ _ _ _ h
theorem nu_9 {g0 : a2_G} {r0 : a2_A} (H : NUL L xs m d k g0 r0) (x1 x2 x3 : Int32) {g : a2_G} {r : a2_A} (h : Fm [fM_told, fM_deepest] [fM_number, fM_order] g0 r0 g r) : pl (BM_numberAll_9 L xs (m + 1) d k x1 x2 x3 g r) (fun o g' r' => o = none ∧ Fm [fM_told, fM_deepest] [fM_number, fM_order] g0 r0 g' r') kN := by
  unfold BM_numberAll_9 BM_numberAll_60
  refine pl_if (fun _ => ⟨rfl, h⟩) (fun _ => pl_if (fun _ => pl_if (fun _ => ?_) (fun _ => trivial)) (fun _ => trivial))
  refine pl_if (fun _ => pl_if (fun _ => pl_if (fun _ => ?_) (fun _ => pl_if (fun _ => ?_) (fun _ => trivial))) (fun _ => trivial)) (fun _ => pl_if (fun _ => pl_if (fun _ => ?_) (fun _ => pl_if (fun _ => ?_) (fun _ => trivial))) (fun _ => trivial))
  · exact nu_85 H _ _ _ ((((h.up (by decide)).up (by decide)).ua (by decide)).ua (by decide))
  · exact H.1 _ _ _ _ _ ((((h.up (by decide)).up (by decide)).ua (by decide)).ua (by decide))
  · exact nu_85 H _ _ _ ((((h.up (by decide)).up (by decide)).ua (by decide)).ua (by decide))
  · exact H.1 _ _ _ _ _ ((((h.up (by decide)).up (by decide)).ua (by decide)).ua (by decide))
theorem nu_l {g0 : a2_G} {r0 : a2_A} : ∀ k, NUL L xs m d k g0 r0
  | 0 => ⟨fun _ _ _ _ _ _ => pl_l0, fun _ _ _ _ _ _ => pl_l0⟩
  | k + 1 => ⟨fun x1 x2 x3 g r h => by
      rw [lM_numberAll_9]
      exact nu_9 (nu_l k) x1 x2 x3 h, fun x1 x2 x3 g r h => by
      rw [lM_numberAll_85]
      exact nu_85 (nu_l k) x1 x2 x3 h⟩
theorem xM_numberAll (a : Int32) {g : a2_G} {r : a2_A} : pl (ev L xs (m + 1) d nM_numberAll [.ref cM, .int a] g r) (fun o g' r' => o = none ∧ Fm [fM_told, fM_deepest] [fM_number, fM_order] g r g' r') kN := by
  cases d with
  | zero => trivial
  | succ d =>
    rw [qM_numberAll]
    exact pl_if (fun _ => nu_9 (nu_l m) _ _ _ Fm.rf) (fun _ => trivial)
/-- how the model's parse ends -/
def kPz (w : Ws) (c : CU) (p : Nat) (n : Int32) : Option Value → a2_G → a2_A → Prop := fun _ g r => (∃ x, zX w c p n x ∧ g fM_faults = zN x) ∧ (r fM_kinds).2 = w.1 ∧ (r fM_values).2 = w.2.1
/-- between two clauses; behind the last word it may stand anywhere -/
def MSx (w : Ws) (n : Int32) (p : Nat) (c : CU) (g : a2_G) (r : a2_A) : Prop := Mrd w g r ∧ ML r ∧ 1 ≤ (g fM_nodes).toInt ∧ ((g fM_at).toInt = p ∨ w.2.2 ≤ p ∧ (w.2.2 : Int) ≤ (g fM_at).toInt) ∧ g fM_faults = n ∧ Mc c g r ∧ 0 ≤ n.toInt ∧ n.toInt ≤ 20
theorem pa_225 (x1 x2 : Int32) {c : CU} {p : Nat} {n : Int32} {g : a2_G} {r : a2_A} (hx : ∃ x, zX w c p n x ∧ g fM_faults = zN x) (hk : (r fM_kinds).2 = w.1) (hv : (r fM_values).2 = w.2.1) : pl (BM_parse_225 L xs (m + 1) d k x1 x2 g r) (kPz w c p n) kN := by
  have h238 : ∀ x3, pl (BM_parse_238 L xs (m + 1) d k x1 x2 x3 g r) (kPz w c p n) kN := by
    intro x3
    unfold BM_parse_238
    refine pl_if (fun _ => ?_) (fun _ => ⟨hx, hk, hv⟩)
    refine pl_n (xM_numberAll x1) (fun _ _ _ e => e) (fun g2 r2 e2 => ?_)
    refine ⟨?_, ?_, ?_⟩
    · obtain ⟨x, h1, h2⟩ := hx
      refine ⟨x, h1, ?_⟩
      rw [e2.2.1 fM_faults (by decide)]
      exact h2
    · rw [e2.2.2 fM_kinds (by decide)]
      exact hk
    · rw [e2.2.2 fM_values (by decide)]
      exact hv
  unfold BM_parse_225
  exact pl_if (fun _ => h238 _) (fun _ => h238 _)
theorem pa_153 (x1 : Int32) {c : CU} {p : Nat} {n : Int32} {g : a2_G} {r : a2_A} (h : MSx w n p c g r) (he : ¬ (p < w.2.2 ∧ n.toInt < 20)) : pl (BM_parse_153 L xs (m + 1) d k x1 g r) (kPz w c p n) kN := by
  obtain ⟨hr, hL, hno, ha, hf, hM, hn0, hn2⟩ := h
  have hZ := zX.fin (c := c) he
  have h1 := hM.1
  have h195 : ∀ x2 : Int32, ((0 < oN c ∧ x2 = 0) ↔ oE c = true) → pl (BM_parse_195 L xs (m + 1) d k x1 x2 g r) (kPz w c p n) kN := by
    intro x2 hE
    have hno : ¬ (0 < oN c ∧ x2 = 0) → pl (BM_parse_225 L xs (m + 1) d k x1 x2 g r) (kPz w c p n) kN := by
      intro hc
      refine pa_225 _ _ ⟨_, hZ, ?_⟩ hr.1 hr.2.1
      rw [hf]
      unfold zN
      rw [if_neg (fun e => hc (hE.mpr e))]
    unfold BM_parse_195
    refine pl_ih (fun e20 => ?_) (fun e20 => ?_)
    · have e20' : (20 : Int) ≤ (g fM_faults).toInt := e20
      rw [hf] at e20'
      refine pa_225 _ _ ⟨_, hZ, ?_⟩ hr.1 hr.2.1
      rw [hf]
      unfold zN nx
      rw [if_neg (show ¬ n.toInt < 20 by omega)]
      split <;> rfl
    · have e20' : ¬ (20 : Int) ≤ (g fM_faults).toInt := e20
      rw [hf] at e20'
      refine pl_il (fun eo => hno (fun q => ?_)) (fun eo => ?_)
      · rw [i32_0] at eo
        omega
      · rw [i32_0] at eo
        refine pl_in (fun ex => hno (fun q => ex q.2)) (fun ex => ?_)
        rw [Decidable.not_not] at ex
        cases d with
        | zero => trivial
        | succ d =>
          rw [qM_note]
          refine pl_n (Q1 := fun o g' r' => o = none ∧ g' fM_faults = n + 1 ∧ (r' fM_kinds).2 = w.1 ∧ (r' fM_values).2 = w.2.1) (X1 := kN) ?_ (fun _ _ _ e => e) (fun g2 r2 e2 => ?_)
          · refine pl_pos ?_ (pl_if (fun _ => pl_if (fun _ => ⟨rfl, ?_, hr.1, hr.2.1⟩) (fun _ => trivial)) (fun _ => trivial))
            · rw [c2_ne, hf]
              intro e
              rw [e] at e20'
              exact absurd e20' (by decide)
            · show g fM_faults + 1 = n + 1
              rw [hf]
          · refine pa_225 _ _ ⟨_, hZ, ?_⟩ e2.2.2.1 e2.2.2.2
            rw [e2.2.1]
            unfold zN nx
            rw [if_pos (hE.mp ⟨by omega, ex⟩), if_pos (show n.toInt < 20 by omega)]
  unfold BM_parse_153 BM_parse_194
  refine pl_in (fun e1 => h195 0 ⟨fun q => ?_, fun q => ⟨?_, rfl⟩⟩) (fun e1 => ?_)
  · have hN : oN c ≠ 1 := fun e => e1 (i32e (by rw [h1, e]; rfl))
    unfold oE
    rw [decide_eq_true (show 1 < oN c by omega)]
    rfl
  · unfold oE at q
    rw [Bool.or_eq_true, Bool.and_eq_true, decide_eq_true_eq, decide_eq_true_eq] at q
    omega
  · rw [Decidable.not_not] at e1
    have hN : oN c = 1 := by
      rw [e1] at h1
      have : (1 : Int) = oN c := h1
      omega
    have hu := hM.2.2.1 0 (by omega)
    have hT : oT c = oS c 0 := by
      rw [oT_pos (by omega), hN]
    rw [← hT] at hu
    have eE : oE c = (decide (oT c = 0) || decide (oT c = 9) || decide (oT c = 12)) := by
      unfold oE
      rw [decide_eq_false (show ¬ 1 < oN c by omega), decide_eq_true hN, Bool.false_or, Bool.true_and]
    have ez : (0 : Int32).toNatClampNeg = 0 := rfl
    refine pl_if (fun _ => ?_) (fun _ => trivial)
    rw [ez, hu.1]
    refine pl_iq (fun s0 => h195 0 ⟨fun _ => ?_, fun _ => ⟨by omega, rfl⟩⟩) (fun s0 => ?_)
    · rw [eE, decide_eq_true s0]
      rfl
    · refine pl_if (fun _ => ?_) (fun _ => trivial)
      refine pl_iq (fun s9 => h195 0 ⟨fun _ => ?_, fun _ => ⟨by omega, rfl⟩⟩) (fun s9 => ?_)
      · rw [eE, decide_eq_true s9, Bool.or_true]
        rfl
      · refine pl_if (fun _ => ?_) (fun _ => trivial)
        rw [hu.2.2.2.2]
        refine pl_in (fun s12 => h195 0 ⟨fun _ => ?_, fun _ => ⟨by omega, rfl⟩⟩) (fun s12 => h195 1 ⟨fun q => absurd q.2 (by decide), fun q => ?_⟩)
        · have e12 : oT c = 12 := by
            by_cases e : oT c = 12
            · exact e
            · rw [decide_eq_false e] at s12
              exact absurd rfl s12
          rw [eE, decide_eq_true e12, Bool.or_true]
        · have e12 : ¬ oT c = 12 := fun e => by
            rw [decide_eq_true e] at s12
            exact s12 (by decide)
          rw [eE, decide_eq_false s0, decide_eq_false s9, decide_eq_false e12] at q
          cases q
/-- the model's loops over clauses and over words -/
def PAL (L : Nat) (xs : Nat → Int32) (m d k : Nat) (w : Ws) : Prop := (∀ (x1 : Int32) (c : CU) (p : Nat) (n : Int32) (g : a2_G) (r : a2_A), MSx w n p c g r → pl (lp L xs nM_parse nm_m159 (m + 1) d k 56 [some (.ref cM), some (.int x1), none] g r) (kPz w c p n) kN) ∧
  (∀ (x1 : Int32) (c : CU) (q : Nat) (n : Int32) (g : a2_G) (r : a2_A), MSx w n q c g r → (g fM_at).toInt = q → q ≤ w.2.2 → pl (lp L xs nM_parse nm_m159 (m + 1) d k 103 [some (.ref cM), some (.int x1), none] g r) (kPz w c (rc w q) n) kN)
theorem pa_103 (H : PAL L xs m d k w) (x1 : Int32) {c : CU} {q : Nat} {n : Int32} {g : a2_G} {r : a2_A} (h : MSx w n q c g r) (ha : (g fM_at).toInt = q) (hqn : q ≤ w.2.2) : pl (BM_parse_103 L xs (m + 1) d k x1 g r) (kPz w c (rc w q) n) kN := by
  obtain ⟨hr, hL, hno, ha', hf, hM, hn0, hn2⟩ := h
  have en : (g fM_at).toNatClampNeg = q := by rw [nc_eq, ha]; rfl
  have hb := hr.2.2.2
  have hi : (g fM_at + 1).toInt = ((q + 1 : Nat) : Int) := by
    rw [i32_inc (by omega), ha]
    rfl
  unfold BM_parse_103 BM_parse_140
  refine pl_ih (fun e => ?_) (fun e => ?_)
  · rw [hr.2.2.1, ha] at e
    have hq : ¬ q < w.2.2 := by omega
    rw [rc_out hq]
    refine H.1 _ _ _ _ _ _ ⟨hr, hL, hno, Or.inr ⟨by omega, ?_⟩, hf, hM, hn0, hn2⟩
    show (w.2.2 : Int) ≤ (g fM_at + 1).toInt
    omega
  · rw [hr.2.2.1, ha] at e
    have hq : q < w.2.2 := by omega
    refine pl_if (fun _ => ?_) (fun _ => trivial)
    rw [en, hr.1]
    refine pl_iq (fun e4 => ?_) (fun e4 => ?_)
    · rw [rc_per hq e4]
      exact H.1 _ _ _ _ _ _ ⟨hr, hL, hno, Or.inl hi, hf, hM, hn0, hn2⟩
    · rw [rc_on hq e4]
      exact H.2 _ _ _ _ _ _ ⟨hr, hL, hno, Or.inl hi, hf, hM, hn0, hn2⟩ hi (by omega)
theorem pa_56 (hw : Wv w) (H : PAL L xs m d k w) (x1 : Int32) {c : CU} {p : Nat} {n : Int32} {g : a2_G} {r : a2_A} (h : MSx w n p c g r) : pl (BM_parse_56 L xs (m + 1) d k x1 g r) (kPz w c p n) kN := by
  have h' := h
  obtain ⟨hr, hL, hno, ha, hf, hM, hn0, hn2⟩ := h
  unfold BM_parse_56
  refine pl_ih (fun e => pa_153 x1 h' ?_) (fun e => ?_)
  · rw [hr.2.2.1] at e
    omega
  · rw [hr.2.2.1] at e
    refine pl_ih (fun e20 => pa_153 x1 h' ?_) (fun e20 => ?_)
    · have e20' : (20 : Int) ≤ (g fM_faults).toInt := e20
      rw [hf] at e20'
      omega
    · have e20' : ¬ (20 : Int) ≤ (g fM_faults).toInt := e20
      rw [hf] at e20'
      have hat : (g fM_at).toInt = p := by omega
      have hp : p < w.2.2 := by omega
      have hpn : p < w.2.2 ∧ n.toInt < 20 := ⟨hp, by omega⟩
      have hG : Gd w (n, upd g fM_bad 0, r) p (upd g fM_bad 0) r := ⟨⟨⟨hr, hn0, hpn.2⟩, hL, Fm.rf, hno⟩, hf, rfl, hat, by omega⟩
      have hMg : Mc c (upd g fM_bad 0) r := hM
      refine pl_n (xM_clause (f := (n, upd g fM_bad 0, r)) hMg hw hG hp) (fun _ _ _ e => e) (fun g8 r9 e8 => ?_)
      rcases e8.2 with ⟨q, eq, hb, hS⟩ | ⟨b, b', eq, hrc, hB⟩
      · refine pl_neg (by rw [c2_ne, hb]; decide) ?_
        obtain ⟨s1, s2, s3, s4, s5, s6⟩ := hS
        have hnb : 0 ≤ (nb n (zC w c p).2.2).toInt ∧ (nb n (zC w c p).2.2).toInt ≤ 20 := by
          unfold nb
          split
          · rw [i32_inc (by omega)]
            omega
          · omega
        refine pl_mono (H.1 x1 _ q _ g8 r9 ⟨s1, s2, s3, Or.inl s4, s5, s6, hnb.1, hnb.2⟩) (fun o g2 r2 hq => ?_) (fun _ _ _ e => e)
        obtain ⟨⟨x, hx, hfx⟩, hk, hv⟩ := hq
        exact ⟨⟨x, zX.ok hpn eq hx, hfx⟩, hk, hv⟩
      · refine pl_pos (by rw [c2_ne, hB.2.2.1]; decide) ?_
        have hn1 : (n + 1).toInt = n.toInt + 1 := i32_inc (by omega)
        refine pl_mono (pa_103 H x1 (c := c) (q := b') (n := n + 1) (g := upd g8 fM_at (g8 fM_failed)) (r := r9) ⟨hB.1.mrd, hB.1.2.1, hB.1.2.2.2, Or.inl hB.2.2.2.1, hB.2.1, (hMg.fr hB.1.2.2.1 : Mc c g8 r9), by omega, by omega⟩ hB.2.2.2.1 hB.2.2.2.2) (fun o g2 r2 hq => ?_) (fun _ _ _ e => e)
        obtain ⟨⟨x, hx, hfx⟩, hk, hv⟩ := hq
        rw [hrc] at hx
        exact ⟨⟨x, zX.no hpn eq hx, hfx⟩, hk, hv⟩
theorem pa_l (hw : Wv w) : ∀ k, PAL L xs m d k w
  | 0 => ⟨fun _ _ _ _ _ _ _ => pl_l0, fun _ _ _ _ _ _ _ _ _ => pl_l0⟩
  | k + 1 => ⟨fun x1 c p n g r h => by
      rw [lM_parse_56]
      exact pa_56 hw (pa_l hw k) x1 h, fun x1 c q n g r h ha hq => by
      rw [lM_parse_103]
      exact pa_103 (pa_l hw k) x1 h ha hq⟩
theorem xA_mk0 (a1 a2 a3 : Int32) {g : a2_G} {r : a2_A} (hL : ML r) : pl (ev L xs (m + 1) d nM_make [.ref cM, .int a1, .int a2, .int a3] g r) (fun o g' r' => (∃ v : Int32, o = some (.int v)) ∧ ML r' ∧ Fm [fM_nodes] WEa g r g' r' ∧ 1 ≤ (g' fM_nodes).toInt) kN := by
  cases d with
  | zero => trivial
  | succ d =>
    rw [qM_make]
    refine pl_if (fun c => ?_) (fun _ => trivial)
    refine pl_if (fun _ => pl_if (fun _ => pl_if (fun _ => pl_if (fun _ => pl_if (fun _ => pl_if (fun _ => pl_if (fun _ => ?_) (fun _ => trivial)) (fun _ => trivial)) (fun _ => trivial)) (fun _ => trivial)) (fun _ => trivial)) (fun _ => trivial)) (fun _ => trivial)
    rw [inr_eq, hL.at 4] at c
    have hi := i32_inc (x := g fM_nodes) (by omega)
    refine ⟨⟨_, rfl⟩, hL.ln ((((((((Ln.rf.ua rfl).ua rfl).ua rfl).ua rfl).ua rfl).ua rfl).ua rfl).ua rfl), ((((((((Fm.rf.up (by decide)).ua (by decide)).ua (by decide)).ua (by decide)).ua (by decide)).ua (by decide)).ua (by decide)).ua (by decide)).ua (by decide), ?_⟩
    show 1 ≤ (g fM_nodes + 1).toInt
    omega
/-- THE MODEL'S PARSE: its faults are the clauses' -/
theorem xM_parse (hw : Wv w) {g : a2_G} {r : a2_A} (hk : (r fM_kinds).2 = w.1) (hv : (r fM_values).2 = w.2.1) (hs : (g fM_size).toInt = w.2.2) (hn : w.2.2 ≤ 1500) (hL : ML r) {c : CU} (hc : oN c = 0) : pl (ev L xs (m + 1) d nM_parse [.ref cM] g r) (kPz w c 0 0) kN := by
  cases d with
  | zero => trivial
  | succ d =>
    rw [qM_parse]
    have hm0 : ∀ (g' : a2_G) (r' : a2_A), g' fM_open = 0 → Mc c g' r' := by
      intro g' r' ho
      have eT : (oT c).toInt = -1 := by
        rw [oT_0 hc]
        rfl
      refine ⟨?_, by omega, fun i hi => absurd hi (by omega), fun e => ?_, fun e => ?_, fun i hi => absurd hi (by omega)⟩
      · rw [ho, hc]
        rfl
      · omega
      · omega
    refine pl_v (xA_mk0 0 0 0 hL) (fun _ _ _ e => e) (fun v g1 r1 e1 => ?_)
    obtain ⟨-, hL1, F, hno⟩ := e1
    refine pa_56 hw (pa_l hw m) v ⟨⟨?_, ?_, ?_, hn⟩, hL1, hno, Or.inl ?_, ?_, hm0 g1 r1 ?_, by decide, by decide⟩
    · rw [F.2 fM_kinds (by decide)]
      exact hk
    · rw [F.2 fM_values (by decide)]
      exact hv
    · rw [F.1 fM_n (by decide)]
      exact hs
    · rw [F.1 fM_at (by decide)]
      rfl
    · rw [F.1 fM_faults (by decide)]
      rfl
    · rw [F.1 fM_open (by decide)]
      rfl
end
