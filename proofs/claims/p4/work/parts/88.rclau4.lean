/-! The class's items read; END. -/
theorem rv_25lt {w : Ws} {p l q : Nat} {s : Bool} (h : rv w 25 p l false = some (.inl (q, s))) : p + 1 ≤ q := by
  rw [rv_t25] at h
  refine (?_ : mp (p + 1) _) q s h
  repeat' first
    | exact mp_no
    | exact mp_ok (by omega)
    | exact mp_ok (sk_le' _ (by omega))
    | exact mp_ok (Nat.le_succ_of_le (sk_le' _ (by omega)))
    | exact (rv_mo w).at _ _ _ (by omega)
    | exact (rv_mo w).at _ _ _ (sk_le' _ (by omega))
    | refine mp_bd ?_ (fun _ _ _ => ?_)
    | refine mp_ite ?_ ?_
theorem xI_read_t (L : Nat) (xs : Nat → Int32) {m d k : Nat} {w : Ws} {f : Gh} {c : CU} (hc : Cv c f.2.1 f.2.2) (l : Nat) (v : Int32) {j : Nat} (hj : j ≤ 49) (H : ∀ (x3 x4 : Int32) (p : Nat) (g : a2_G) (r : a2_A), Ru w f p g r → 0 ≤ x4.toInt → x4.toInt ≤ p → pl (lp L xs nI_readItem nm_m66 (m + 1) d k 74 [some (.ref cI), some (.int v), some (.int (Int32.ofNat j)), some (.int x3), some (.int x4)] g r) (kQ w f (sP c v j, false) (rv w 24 p l false)) (kRx w f (rv w 24 p l false))) (x3 x4 : Int32) {p : Nat} {g : a2_G} {r : a2_A} (h : Ru w f p g r) (h0 : 0 ≤ x4.toInt) (hx : x4.toInt ≤ p) : pl (BI_readItem_74 L xs (m + 1) d k v (Int32.ofNat j) x3 x4 g r) (kQ w f (sP c v j, false) (rv w 24 p l false)) (kRx w f (rv w 24 p l false)) := by
  have hle := h.le
  have h104 : ∀ A : Option RR, A = (if wk w p 4 then ok (p + 1) else no p) → pl (BI_readItem_104 L xs (m + 1) d k v (Int32.ofNat j) x3 x4 g r) (kQ w f (sP c v j, false) A) (kRx w f A) := by
    intro A hA
    rw [hA]
    unfold BI_readItem_104
    refine pl_rk h (fun _ g1 h1 _ => ?_)
    exact pl_n (xI_place L xs x3 v hj (h1.ps hc)) (fun _ _ _ e => e.elim) (fun g2 r2 e => ⟨rfl, _, rfl, e.2⟩)
  rw [rv_t24]
  unfold BI_readItem_74
  refine pl_if (fun e => ?_) (fun e => ?_)
  · rw [c2_ge] at e
    have e' : (1500 : Int) ≤ x4.toInt := e
    have hn : ¬ p < w.2.2 := by omega
    refine h104 _ ?_
    rw [wk_f (fun e => hn e.1), if_neg (by decide), if_neg (by decide), rv_t25, ww_out hn, ww_out hn, ww_out hn, ww_out hn, ww_out hn]
    rfl
  · have h15 : x4.toInt < 1500 := by
      rw [c2_ge] at e
      have e' : ¬ (1500 : Int) ≤ x4.toInt := e
      omega
    refine pl_t (xR_isKind L xs 4 h.1) (fun e4 => pl_pos (by decide) ?_) (fun e4 => pl_neg (by decide) ?_)
    · exact h104 _ (by rw [e4]; rfl)
    · refine pl_nR (K := fun q => rv w 24 q l false) (xI_itemClause L xs x3 h) (fun q g1 r1 e1 h1 => ?_)
      have e5 := i32_inc (x := x4) (by omega)
      have e6 := rv_25lt e1
      exact H _ _ q _ _ h1 (by omega) (by omega)
theorem xI_read_l (L : Nat) (xs : Nat → Int32) {m d : Nat} {w : Ws} {f : Gh} {c : CU} (hc : Cv c f.2.1 f.2.2) (l : Nat) (v : Int32) {j : Nat} (hj : j ≤ 49) : ∀ (k : Nat) (x3 x4 : Int32) (p : Nat) (g : a2_G) (r : a2_A), Ru w f p g r → 0 ≤ x4.toInt → x4.toInt ≤ p → pl (lp L xs nI_readItem nm_m66 (m + 1) d k 74 [some (.ref cI), some (.int v), some (.int (Int32.ofNat j)), some (.int x3), some (.int x4)] g r) (kQ w f (sP c v j, false) (rv w 24 p l false)) (kRx w f (rv w 24 p l false)) := by
  intro k
  induction k with
  | zero => exact fun _ _ _ _ _ _ _ _ => pl_l0
  | succ k ih =>
    intro x3 x4 p g r h h0 hx
    rw [lI_readItem_74]
    exact xI_read_t L xs hc l v hj ih x3 x4 h h0 hx
/-- behind a level's number: a name, FILLER, or neither -/
def qN (w : Ws) (p : Nat) : Nat := if wk w p 1 then p + 1 else sk (ww w p 18) p
theorem xI_nameOrFiller (L : Nat) (xs : Nat → Int32) {m d : Nat} {w : Ws} {f : Gh} {p : Nat} {g : a2_G} {r : a2_A} (h : Ru w f p g r) : pl (ev L xs (m + 1) d nI_nameOrFiller [.ref cI] g r) (fun o g' r' => (∃ v : Int32, o = some (.int v)) ∧ Ru w f (qN w p) g' r') kN := by
  cases d with
  | zero => trivial
  | succ d =>
    rw [qI_nameOrFiller]
    unfold qN
    refine pl_u (xR_isKind L xs 1 h.1) (fun e => pl_neg (by decide) ?_) (fun e => pl_pos (by decide) ?_)
    · rw [e, if_pos rfl]
      exact pl_v (xR_requireKind 1 h) (fun x g' r' q => by rw [e] at q; cases q.2.1) (fun v g' r' q => ⟨⟨_, rfl⟩, q.2.2.1⟩)
    · rw [e, if_neg (by decide)]
      exact pl_mb h (fun v g1 h1 _ => ⟨⟨_, rfl⟩, h1⟩)
noncomputable def zI (w : Ws) (c : CU) (p : Nat) : Option Nat → Option RR × (CU × Bool)
  | none => (no p, c, false)
  | some j => (rv w 24 (qN w (p + 1)) 0 false, sP c (w.2.1 p) j, false)
noncomputable def zIt (w : Ws) (c : CU) (p : Nat) : Option RR × (CU × Bool) := zI w c p (oP c (w.2.1 p))
theorem xI_readItem (L : Nat) (xs : Nat → Int32) {m d : Nat} {w : Ws} {f : Gh} {c : CU} {p : Nat} {g : a2_G} {r : a2_A} (h : Ru w f p g r) (hp : p < w.2.2) (hc : Cv c f.2.1 f.2.2) : pl (ev L xs (m + 1) d nI_readItem [.ref cI] g r) (kQ w f (zIt w c p).2 (zIt w c p).1) (kRx w f (zIt w c p).1) := by
  cases d with
  | zero => trivial
  | succ d =>
    have hcv := h.cv hc
    have hi : oI c ≤ 49 := hcv.2.2.2.2.2.2.2.1
    rw [qI_readItem]
    refine pl_e (xR_value L xs h.1) ?_
    rw [if_pos hp]
    refine pl_e (xI_keptOpen L xs hcv _) ?_
    unfold zIt
    cases e : oP c (w.2.1 p) with
    | none => exact pl_neg (by decide) (pl_rf h)
    | some j =>
      have hj := oP_le hi e
      have ej : (Int32.ofNat j).toInt = j := on_eq (by omega)
      refine pl_pos (by
        rw [c2_ne]
        intro e2
        have e3 : (Int32.ofNat j).toInt = (-1 : Int32).toInt := congrArg _ e2
        rw [ej, i32_n1] at e3
        omega) ?_
      show pl (BI_readItem_27 L xs (m + 1) d m (w.2.1 p) (Int32.ofNat j) g r) (kQ w f (sP c (w.2.1 p) j, false) (rv w 24 (qN w (p + 1)) 0 false)) (kRx w f (rv w 24 (qN w (p + 1)) 0 false))
      unfold BI_readItem_27
      refine pl_e (xR_place L xs) ?_
      refine pl_mk h (fun g1 r1 h1 _ => ?_)
      refine pl_adv h1 hp (fun g2 h2 _ => ?_)
      refine pl_v (xI_nameOrFiller L xs h2) (fun _ _ _ e => e.elim) (fun v g3 r3 e3 => ?_)
      refine pl_st e3.2 (fun g4 r4 h4 _ => ?_)
      exact xI_read_t L xs hc 0 _ hj (xI_read_l L xs hc 0 _ hj _) _ 0 h4 (by decide) (by show (0 : Int) ≤ _; omega)
