/-! The class's data descriptions. -/
section
variable {L : Nat} {xs : Nat → Int32} {m d : Nat} {w : Ws} {f : Gh} {p : Nat} {g : a2_G} {r : a2_A} {k : Int32 → a2_G → a2_A → Option fn_Z} {kn : a2_G → a2_A → Option fn_Z} {Q : Option Value → a2_G → a2_A → Prop} {X : Nat → a2_G → a2_A → Prop}
theorem xI_beginIn (a b : Int32) (h : Ru w f p g r) (hp : p < w.2.2) : pl (ev L xs (m + 1) d nI_beginIn [.ref cI, .int a, .int b] g r) (fun o g' r' => (∃ v : Int32, o = some (.int v)) ∧ Ru w f (p + 1) g' r') kN := by
  cases d with
  | zero => trivial
  | succ d =>
    rw [qI_beginIn]
    refine pl_e (xR_place L xs) ?_
    refine pl_mk h (fun g1 r1 h1 _ => ?_)
    refine pl_ap h1 (fun g2 r2 h2 _ => ?_)
    exact pl_adv h2 hp (fun g3 h3 _ => ⟨⟨_, rfl⟩, h3⟩)
theorem pl_bi {a b : Int32} (h : Ru w f p g r) (hp : p < w.2.2) (hk : ∀ v g' r', Ru w f (p + 1) g' r' → pl (k v g' r') Q X) : pl (fn_v (ev L xs (m + 1) d nI_beginIn [.ref cI, .int a, .int b] g r) k) Q X := pl_v (xI_beginIn a b h hp) (fun _ _ _ e => e.elim) (fun v g' r' e => hk v g' r' e.2)
theorem xI_literal (a : Int32) (h : Ru w f p g r) : pl (ev L xs (m + 1) d nI_literal [.ref cI, .int a] g r) (fun o g' r' => o = none ∧ (wk w p 2 || wk w p 3) = true ∧ Ru w f (p + 1) g' r') (fun x g' r' => x = 10 ∧ (wk w p 2 || wk w p 3) = false ∧ Ru w f p g' r') := by
  cases d with
  | zero => trivial
  | succ d =>
    rw [qI_literal]
    refine pl_u (xR_isKind L xs 1 h.1) (fun e => pl_neg (by decide) ?_) (fun e => pl_pos (by decide) ?_)
    · have e2 : (wk w p 2 || wk w p 3) = false := by
        rw [Bool.or_eq_false_iff]
        have h3 := (wk_iff.mp e).2
        exact ⟨wk_f (fun e => absurd (h3.symm.trans e.2) (by decide)), wk_f (fun e => absurd (h3.symm.trans e.2) (by decide))⟩
      exact pl_n (xR_refuse 1 h) (fun x g' r' q => ⟨q.1, e2, q.2.1⟩) (fun _ _ q => q.elim)
    · have e2 : wo w p = (wk w p 2 || wk w p 3) := by
        unfold wo
        rw [e, Bool.false_or]
      unfold BI_literal_19
      refine pl_v (xL_operand h) (fun x g' r' q => ⟨q.1, e2 ▸ q.2.1, q.2.2⟩) (fun v g1 r1 q => ?_)
      exact pl_ap q.2.2.1 (fun g2 r2 h2 _ => ⟨rfl, e2 ▸ q.2.1, h2⟩)
theorem pl_li {PQ : Option RR → Option Value → a2_G → a2_A → Prop} {A : Option RR} {a : Int32} (h : Ru w f p g r) (hk : ∀ g' r', Ru w f (p + 1) g' r' → pl (kn g' r') (PQ A) (kRx w f A)) : pl (fn_n (ev L xs (m + 1) d nI_literal [.ref cI, .int a] g r) kn) (PQ (if (wk w p 2 || wk w p 3) = true then A else no p)) (kRx w f (if (wk w p 2 || wk w p 3) = true then A else no p)) := pl_n (xI_literal a h) (fun x g' r' e => by
    obtain ⟨rfl, e2, e3⟩ := e
    rw [e2]
    exact ⟨rfl, p, rfl, e3⟩) (fun g' r' e => by
    obtain ⟨-, e2, e3⟩ := e
    rw [e2, if_pos rfl]
    exact hk g' r' e3)
end
/-- a piece of a description -/
def IP (L : Nat) (xs : Nat → Int32) (m d : Nat) (w : Ws) (f : Gh) (j : Nat) (z : Nat → Nat → Option RR) : Prop := ∀ (l p : Nat) (a : Int32) (g : a2_G) (r : a2_A), Ru w f p g r → p < w.2.2 → pl (ev L xs (m + 1) d j [.ref cI, .int a] g r) (kRn w f (z l p)) (kRx w f (z l p))
theorem xI_picture (L : Nat) (xs : Nat → Int32) {m d : Nat} {w : Ws} {f : Gh} : IP L xs m d w f nI_picture (fun _ p => if wk w (sk (ww w (p + 1) 67) (p + 1)) 3 then ok (sk (ww w (p + 1) 67) (p + 1) + 1) else no (sk (ww w (p + 1) 67) (p + 1))) := by
  intro l p a g r h hp
  cases d with
  | zero => trivial
  | succ d =>
    rw [qI_picture]
    refine pl_bi h hp (fun v g1 r1 h1 => ?_)
    refine pl_mb h1 (fun v2 g2 h2 _ => ?_)
    refine pl_rk h2 (fun _ g3 h3 _ => ?_)
    exact pl_st h3 (fun g4 r4 h4 _ => ⟨rfl, _, rfl, h4⟩)
theorem xI_literals (L : Nat) (xs : Nat → Int32) {m d : Nat} {w : Ws} {f : Gh} : IP L xs m d w f nI_literals (fun l p => rv w 33 (sk (ww w (p + 1) 67) (p + 1)) l false) := by
  intro l p a g r h hp
  cases d with
  | zero => trivial
  | succ d =>
    show pl _ (kRn w f (rv w 33 (sk (ww w (p + 1) 67) (p + 1)) l false)) (kRx w f (rv w 33 (sk (ww w (p + 1) 67) (p + 1)) l false))
    rw [qI_literals, rv_t33]
    refine pl_bi h hp (fun v g1 r1 h1 => ?_)
    refine pl_mb h1 (fun v2 g2 h2 _ => ?_)
    refine pl_li h2 (fun g3 r3 h3 => ?_)
    unfold BI_literals_40
    refine pl_sk h3 (fun _ g4 h4 _ => pl_neg (by decide) ?_) (fun _ => pl_pos (by decide) ⟨rfl, _, rfl, h3⟩)
    exact pl_li h4 (fun g5 r5 h5 => ⟨rfl, _, rfl, h5⟩)
theorem xI_occurs (L : Nat) (xs : Nat → Int32) {m d : Nat} {w : Ws} {f : Gh} : IP L xs m d w f nI_occurs (fun l p => if wk w (p + 1) 2 then rv w 26 (sk (ww w (p + 2) 23) (p + 2)) l false else no (p + 1)) := by
  intro l p a g r h hp
  cases d with
  | zero => trivial
  | succ d =>
    rw [qI_occurs]
    have h57 : ∀ x2 q g r, Ru w f q g r → pl (BI_occurs_57 L xs (m + 1) d m a x2 g r) (kRn w f (rv w 27 q l false)) (kRx w f (rv w 27 q l false)) := by
      intro x2 q g r h
      rw [rv_t27]
      unfold BI_occurs_57 BI_occurs_89
      refine pl_sk h (fun _ g1 h1 _ => pl_neg (by decide) ?_) (fun _ => pl_pos (by decide) ⟨rfl, _, rfl, h⟩)
      refine pl_mb h1 (fun v2 g2 h2 _ => ?_)
      exact pl_n (xL_namesIn L xs l x2 17 h2) (fun _ _ _ q => q) (fun g3 r3 q => q)
    refine pl_bi h hp (fun v g1 r1 h1 => ?_)
    refine pl_rk h1 (fun _ g2 h2 _ => ?_)
    refine pl_st h2 (fun g3 r3 h3 _ => ?_)
    refine pl_mb h3 (fun v4 g4 h4 _ => ?_)
    rw [rv_t26]
    refine pl_sk h4 (fun _ g5 h5 _ => pl_neg (by decide) ?_) (fun _ => pl_pos (by decide) (h57 _ _ _ _ h4))
    exact pl_ni h5 (fun _ g6 r6 h6 => h57 _ _ _ _ h6)
theorem xI_redefines (L : Nat) (xs : Nat → Int32) {m d : Nat} {w : Ws} {f : Gh} : IP L xs m d w f nI_redefines (fun _ p => if wk w (p + 1) 1 then ok (p + 2) else no (p + 1)) := by
  intro l p a g r h hp
  cases d with
  | zero => trivial
  | succ d =>
    rw [qI_redefines]
    refine pl_bi h hp (fun v g1 r1 h1 => ?_)
    refine pl_rk h1 (fun _ g2 h2 _ => ?_)
    exact pl_st h2 (fun g4 r4 h4 _ => ⟨rfl, _, rfl, h4⟩)
theorem xI_usage (L : Nat) (xs : Nat → Int32) {m d : Nat} {w : Ws} {f : Gh} : IP L xs m d w f nI_usage (fun l p => rv w 34 (sk (ww w (p + 1) 67) (p + 1)) l false) := by
  intro l p a g r h hp
  cases d with
  | zero => trivial
  | succ d =>
    show pl _ (kRn w f (rv w 34 (sk (ww w (p + 1) 67) (p + 1)) l false)) (kRx w f (rv w 34 (sk (ww w (p + 1) 67) (p + 1)) l false))
    rw [qI_usage, rv_t34]
    refine pl_bi h hp (fun v g1 r1 h1 => ?_)
    refine pl_mb h1 (fun v2 g2 h2 _ => ?_)
    unfold BI_usage_52
    refine pl_sk h2 (fun _ g3 h3 _ => pl_neg (by decide) ?_) (fun _ => pl_pos (by decide) ?_)
    · exact pl_st h3 (fun g4 r4 h4 _ => ⟨rfl, _, rfl, h4⟩)
    · exact pl_rq h2 (fun _ g3 h3 _ => ⟨rfl, _, rfl, h3⟩)
theorem ww_val {w : Ws} {p : Nat} {v : Int32} {n : Int} (h0 : p < w.2.2) (h1 : w.1 p = 0) (hv : v.toInt = n) : ww w p v = decide ((w.2.1 p).toInt = n) := by
  by_cases e : (w.2.1 p).toInt = n
  · rw [decide_eq_true e]
    exact ww_iff.mpr ⟨h0, h1, Int32.toInt_inj.mp (e.trans hv.symm)⟩
  · rw [decide_eq_false e]
    exact Bool.eq_false_iff.mpr (fun q => e (by rw [(ww_iff.mp q).2.2]; exact hv))
theorem xI_itemClause (L : Nat) (xs : Nat → Int32) {m d : Nat} {w : Ws} {f : Gh} {l p : Nat} (a : Int32) {g : a2_G} {r : a2_A} (h : Ru w f p g r) : pl (ev L xs (m + 1) d nI_itemClause [.ref cI, .int a] g r) (kRn w f (rv w 25 p l false)) (kRx w f (rv w 25 p l false)) := by
  cases d with
  | zero => trivial
  | succ d =>
    rw [qI_itemClause, rv_t25]
    refine pl_u (xR_isKind L xs 0 h.1) (fun e => pl_pos (by decide) ?_) (fun e => pl_neg (by decide) ?_)
    · obtain ⟨hp, hk⟩ := wk_iff.mp e
      rw [ww_val hp hk (n := 19) rfl, ww_val hp hk (n := 20) rfl, ww_val hp hk (n := 22) rfl, ww_val hp hk (n := 26) rfl, ww_val hp hk (n := 27) rfl]
      simp only [decide_eq_true_eq]
      unfold BI_itemClause_19 BI_itemClause_124 BI_itemClause_116
      refine pl_e (xR_value L xs h.1) ?_
      rw [if_pos hp]
      have hno : pl (fn_n (ev L xs (m + 1) d nR_refuse [.ref cR, .int 1] g r) fun g11 r12 => BI_itemClause_124 L xs (m + 1) d m a g11 r12) (kRn w f (no p)) (kRx w f (no p)) := pl_rf h
      by_cases e19 : (w.2.1 p).toInt = 19
      · simp only [e19]
        exact pl_n (xI_picture L xs l p a g r h hp) (fun _ _ _ q => q) (fun _ _ q => q)
      by_cases e20 : (w.2.1 p).toInt = 20
      · simp only [e20]
        exact pl_n (xI_literals L xs l p a g r h hp) (fun _ _ _ q => q) (fun _ _ q => q)
      by_cases e22 : (w.2.1 p).toInt = 22
      · simp only [e22]
        exact pl_n (xI_occurs L xs l p a g r h hp) (fun _ _ _ q => q) (fun _ _ q => q)
      by_cases e26 : (w.2.1 p).toInt = 26
      · simp only [e26]
        exact pl_n (xI_redefines L xs l p a g r h hp) (fun _ _ _ q => q) (fun _ _ q => q)
      by_cases e27 : (w.2.1 p).toInt = 27
      · simp only [e27]
        exact pl_n (xI_usage L xs l p a g r h hp) (fun _ _ _ q => q) (fun _ _ q => q)
      simp only [if_neg e19, if_neg e20, if_neg e22, if_neg e26, if_neg e27]
      repeat' refine pl_if (fun _ => ?_) (fun _ => ?_)
      all_goals exact pl_rf h
    · have e2 : ∀ v, ww w p v = false := fun v => by unfold ww; rw [e]; rfl
      rw [e2, e2, e2, e2, e2]
      exact pl_rf h
