/-! The reader never goes back. -/
def mp (p : Nat) (x : Option RR) : Prop := ∀ q s, x = some (.inl (q, s)) → p ≤ q
theorem mp_ok {p q : Nat} (h : p ≤ q) : mp p (ok q) := fun q' s e => by cases e; exact h
theorem mp_in {p q : Nat} {s : Bool} (h : p ≤ q) : mp p (some (.inl (q, s))) := fun q' s e => by cases e; exact h
theorem mp_no {p q : Nat} : mp p (no q) := fun q' s e => by cases e
theorem mp_none {p : Nat} : mp p none := fun q' s e => by cases e
theorem mp_ite {c : Prop} [Decidable c] {p : Nat} {a b : Option RR} (ha : mp p a) (hb : mp p b) : mp p (if c then a else b) := by
  by_cases h : c
  · rw [if_pos h]; exact ha
  · rw [if_neg h]; exact hb
theorem mp_bd {p : Nat} {x : Option RR} {k : Nat → Bool → Option RR} (hx : mp p x) (hk : ∀ q s, p ≤ q → mp p (k q s)) : mp p (bd x k) := by
  intro q s e
  match x, hx, e with
  | some (.inl y), hx, e => exact hk y.1 y.2 (hx y.1 y.2 rfl) q s e
theorem sk_le (t : Bool) (p : Nat) : p ≤ sk t p := by
  unfold sk
  split <;> omega
theorem sk_le' {p q : Nat} (t : Bool) (h : p ≤ q) : p ≤ sk t q := Nat.le_trans h (sk_le t q)
def mo (F : FT) : Prop := ∀ t p l s, mp p (F t p l s)
theorem mo.at {F : FT} (h : mo F) {p p' : Nat} (t l : Nat) (s : Bool) (hp : p ≤ p') : mp p (F t p' l s) := fun q s' e => Nat.le_trans hp (h t p' l s q s' e)
theorem mp_ropd {w : Ws} {p p' : Nat} (h : p ≤ p') : mp p (some (ropd w p')) := by
  unfold ropd
  by_cases h2 : wo w p' = true
  · rw [if_pos h2]; exact mp_in (by omega)
  · rw [if_neg h2]; exact fun q s e => by cases e
theorem some_ite {c : Prop} [Decidable c] {a b : RR} : some (if c then a else b) = if c then some a else some b := by
  by_cases h : c
  · rw [if_pos h, if_pos h]
  · rw [if_neg h, if_neg h]
theorem mp_rcmp {w : Ws} {p p' : Nat} (h : p ≤ p') : mp p (some (rcmp w p')) := by
  unfold rcmp rcmp1 rcmp2
  have h2 := sk_le' (ww w (sk (ww w p' 67) p') 64) (sk_le' (ww w p' 67) h)
  simp only [some_ite]
  repeat' first
    | exact mp_ropd (by omega)
    | exact mp_ropd (sk_le' _ (by omega))
    | exact mp_no
    | refine mp_ite ?_ ?_
theorem mp_rel {w : Ws} {p : Nat} {s : Bool} : mp p (some (rel w p s)) := by
  unfold rel
  simp only [some_ite]
  repeat' first
    | exact mp_rcmp (by omega)
    | exact mp_ropd (by omega)
    | exact mp_in (by omega)
    | exact mp_no
    | refine mp_ite ?_ ?_
theorem mo_stp {w : Ws} {F : FT} (h : mo F) : mo (stp w F) := by
  intro t p l s
  unfold stp
  split
  all_goals
    repeat' first
      | exact mp_no
      | exact mp_none
      | exact mp_rel
      | exact mp_ok (by omega)
      | exact mp_ok (sk_le' _ (by omega))
      | exact mp_ok (Nat.le_succ_of_le (sk_le' _ (by omega)))
      | exact mp_in (by omega)
      | exact h.at _ _ _ (by omega)
      | exact h.at _ _ _ (sk_le' _ (by omega))
      | refine mp_bd ?_ (fun _ _ _ => ?_)
      | refine mp_ite ?_ ?_
theorem rit_mo (w : Ws) : ∀ n, mo (rit w n)
  | 0 => fun _ _ _ _ => mp_none
  | n + 1 => mo_stp (rit_mo w n)
theorem rv_mo (w : Ws) : mo (rv w) := fun t p l s q s' e => by
  obtain ⟨n, hn⟩ := rv_ex e
  exact rit_mo w n t p l s q s' hn
theorem rv_le {w : Ws} {t p l : Nat} {s : Bool} {q : Nat} (h : rv w t p l s = ok q) : p ≤ q := rv_mo w t p l s q false h
/-! The class's sums. -/
theorem xX_join (L : Nat) (xs : Nat → Int32) {m d : Nat} {w : Ws} {f : Gh} {p : Nat} {g : a2_G} {r : a2_A} (a b c : Int32) (h : Ru w f p g r) : pl (ev L xs (m + 1) d nX_join [.ref cX, .int a, .int b, .int c] g r) (fun o g' r' => (∃ v : Int32, o = some (.int v)) ∧ Ru w f p g' r' ∧ g' fX_subject = g fX_subject) kN := by
  cases d with
  | zero => trivial
  | succ d =>
    rw [qX_join]
    refine pl_gt (fun v => ?_)
    refine pl_mk h (fun g1 r1 h1 q1 => ?_)
    refine pl_ap h1 (fun g2 r2 h2 q2 => ?_)
    exact ⟨⟨_, rfl⟩, h2, q2.trans q1⟩
theorem pl_jn {L : Nat} {xs : Nat → Int32} {m d : Nat} {w : Ws} {f : Gh} {p : Nat} {g : a2_G} {r : a2_A} {k : Int32 → a2_G → a2_A → Option fn_Z} {Q : Option Value → a2_G → a2_A → Prop} {X : Nat → a2_G → a2_A → Prop} {a b c : Int32} (h : Ru w f p g r) (hk : ∀ v g' r', Ru w f p g' r' → g' fX_subject = g fX_subject → pl (k v g' r') Q X) : pl (fn_v (ev L xs (m + 1) d nX_join [.ref cX, .int a, .int b, .int c] g r) k) Q X := pl_v (xX_join L xs a b c h) (fun _ _ _ e => e.elim) (fun v g' r' e => hk v g' r' e.2.1 e.2.2)
theorem wg_out {w : Ws} {p : Nat} {v : Int32} (h : ¬ p < w.2.2) : wg w p v = false := Bool.eq_false_iff.mpr (fun e => h (wg_iff.mp e).1)
theorem ww_out {w : Ws} {p : Nat} {v : Int32} (h : ¬ p < w.2.2) : ww w p v = false := Bool.eq_false_iff.mpr (fun e => h (ww_iff.mp e).1)
theorem wo_out {w : Ws} {p : Nat} (h : ¬ p < w.2.2) : wo w p = false := Bool.eq_false_iff.mpr (fun e => h (wo_iff.mp e).1)
theorem wb_out {w : Ws} {p : Nat} (h : ¬ p < w.2.2) : wb w p = false := Bool.eq_false_iff.mpr (fun e => h (wb_iff.mp e).1)
/-- the contracts of sum, product, unit at depth d -/
def XS (L : Nat) (xs : Nat → Int32) (m d : Nat) (w : Ws) (f : Gh) : Prop := ∀ (l p : Nat) (a : Int32) (g : a2_G) (r : a2_A), a.toInt = l → l ≤ 41 → Ru w f p g r →
  pl (ev L xs (m + 1) d nX_sum [.ref cX, .int a] g r) (kRv w f (rv w 0 p l false)) (kRx w f (rv w 0 p l false)) ∧
  pl (ev L xs (m + 1) d nX_product [.ref cX, .int a] g r) (kRv w f (rv w 2 p l false)) (kRx w f (rv w 2 p l false)) ∧
  pl (ev L xs (m + 1) d nX_sumUnit [.ref cX, .int a] g r) (kRv w f (rv w 4 p l false)) (kRx w f (rv w 4 p l false))
theorem xX_goDeeper (L : Nat) (xs : Nat → Int32) {m d : Nat} {w : Ws} {f : Gh} {p : Nat} {g : a2_G} {r : a2_A} (a : Int32) (h : Ru w f p g r) (hp : p < w.2.2) : pl (ev L xs (m + 1) d nX_goDeeper [.ref cX, .int a] g r) (fun o g' r' => o = none ∧ a.toInt ≤ 40 ∧ Ru w f (p + 1) g' r' ∧ g' fX_subject = g fX_subject) (fun x g' r' => x = 10 ∧ ¬ a.toInt ≤ 40 ∧ Ru w f p g' r') := by
  cases d with
  | zero => trivial
  | succ d =>
    rw [qX_goDeeper]
    refine pl_if (fun hc => ?_) (fun hc => ?_)
    · rw [c2_le] at hc
      unfold BX_goDeeper_14
      exact pl_adv h hp (fun g' h' q => ⟨rfl, hc, h', q⟩)
    · rw [c2_le] at hc
      exact pl_n (xR_refuse 3 h) (fun x g' r' q => ⟨q.1, hc, q.2.1⟩) (fun _ _ q => q.elim)
/-- one deeper, or the fault of it -/
theorem pl_gd {L : Nat} {xs : Nat → Int32} {m d : Nat} {w : Ws} {f : Gh} {p l : Nat} {g : a2_G} {r : a2_A} {kn : a2_G → a2_A → Option fn_Z} {PQ : Option RR → Option Value → a2_G → a2_A → Prop} {A : Option RR} {a : Int32} (h : Ru w f p g r) (hp : p < w.2.2) (ha : a.toInt = l) (hl : l ≤ 41) (hk : l < 40 → ∀ g' r', Ru w f (p + 1) g' r' → g' fX_subject = g fX_subject → pl (kn g' r') (PQ A) (kRx w f A)) : pl (fn_n (ev L xs (m + 1) d nX_goDeeper [.ref cX, .int (a + 1)] g r) kn) (PQ (if 40 ≤ l then no p else A)) (kRx w f (if 40 ≤ l then no p else A)) := by
  have e1 : (a + 1).toInt = a.toInt + 1 := i32_inc (by omega)
  refine pl_n (xX_goDeeper L xs (a + 1) h hp) (fun x g' r' e => ?_) (fun g' r' e => ?_)
  · rw [if_pos (by omega)]
    exact ⟨e.1, p, rfl, e.2.2⟩
  · rw [if_neg (by omega)]
    exact hk (by omega) g' r' e.2.2.1 e.2.2.2
theorem xX_sum_t (L : Nat) (xs : Nat → Int32) {m d k : Nat} {w : Ws} {f : Gh} (hS : XS L xs m d w f) {l : Nat} {a : Int32} (ha : a.toInt = l) (hl : l ≤ 41) (H : ∀ (x2 x3 x4 : Int32) (p : Nat) (g : a2_G) (r : a2_A), Ru w f p g r → 0 ≤ x3.toInt → x3.toInt ≤ p → pl (lp L xs nX_sum nm_m121 (m + 1) d k 8 [some (.ref cX), some (.int a), some (.int x2), some (.int x3), some (.int x4)] g r) (kRv w f (rv w 1 p l false)) (kRx w f (rv w 1 p l false))) (x2 x3 : Int32) {p : Nat} {g : a2_G} {r : a2_A} (h : Ru w f p g r) (h0 : 0 ≤ x3.toInt) (hx : x3.toInt ≤ p) : pl (BX_sum_8 L xs (m + 1) d k a x2 x3 g r) (kRv w f (rv w 1 p l false)) (kRx w f (rv w 1 p l false)) := by
  have hle := h.le
  rw [rv_eq]
  show pl _ (kRv w f (if wg w p 5 || wg w p 6 then bd (rv w 2 (p + 1) l false) (fun q _ => rv w 1 q l false) else ok p)) (kRx w f (if wg w p 5 || wg w p 6 then bd (rv w 2 (p + 1) l false) (fun q _ => rv w 1 q l false) else ok p))
  unfold BX_sum_8
  refine pl_if (fun hc => ?_) (fun hc => ?_)
  · rw [c2_ge] at hc
    have hc' : (1500 : Int) ≤ x3.toInt := hc
    have hn : ¬ p < w.2.2 := by omega
    rw [wg_out hn, wg_out hn]
    exact ⟨⟨_, rfl⟩, p, rfl, h⟩
  · have h15 : x3.toInt < 1500 := by
      rw [c2_ge] at hc
      have hc' : ¬ (1500 : Int) ≤ x3.toInt := hc
      omega
    have h40 : p < w.2.2 → pl (BX_sum_40 L xs (m + 1) d k a x2 x3 g r) (kRv w f (bd (rv w 2 (p + 1) l false) fun q _ => rv w 1 q l false)) (kRx w f (bd (rv w 2 (p + 1) l false) fun q _ => rv w 1 q l false)) := by
      intro hp
      unfold BX_sum_40
      refine pl_e (xR_value L xs h.1) ?_
      refine pl_jn h (fun v g1 r1 h1 _ => ?_)
      refine pl_adv h1 hp (fun g2 h2 _ => ?_)
      refine pl_vR (hS l (p + 1) a g2 r1 ha hl h2).2.1 (fun v q g3 r3 e3 h3 => ?_)
      refine pl_ap h3 (fun g4 r4 h4 _ => ?_)
      have e5 := i32_inc (x := x3) (by omega)
      have e6 := rv_le e3
      exact H _ (x3 + 1) _ q g4 r4 h4 (by omega) (by omega)
    refine pl_u (xR_isSign L xs 5 0 (j := 0) rfl (by decide) h.1) (fun e => pl_pos (by decide) ?_) (fun e => pl_neg (by decide) ?_)
    · rw [show (wg w p 5 || wg w p 6) = true by rw [show wg w p 5 = true from e]; rfl]
      exact h40 (wg_iff.mp e).1
    · refine pl_u (xR_isSign L xs 6 0 (j := 0) rfl (by decide) h.1) (fun e2 => pl_neg (by decide) ?_) (fun e2 => pl_pos (by decide) ?_)
      · rw [show (wg w p 5 || wg w p 6) = true by rw [show wg w p 6 = true from e2]; exact Bool.or_true _]
        exact h40 (wg_iff.mp e2).1
      · rw [show wg w p 5 = false from e, show wg w p 6 = false from e2]
        exact ⟨⟨_, rfl⟩, p, rfl, h⟩
theorem xX_sum_t_1 (L : Nat) (xs : Nat → Int32) {m d k : Nat} {w : Ws} {f : Gh} (hS : XS L xs m d w f) {l : Nat} {a : Int32} (ha : a.toInt = l) (hl : l ≤ 41) (H : ∀ (x2 x3 x4 : Int32) (p : Nat) (g : a2_G) (r : a2_A), Ru w f p g r → 0 ≤ x3.toInt → x3.toInt ≤ p → pl (lp L xs nX_sum nm_m121 (m + 1) d k 8 [some (.ref cX), some (.int a), some (.int x2), some (.int x3), some (.int x4)] g r) (kRv w f (rv w 1 p l false)) (kRx w f (rv w 1 p l false))) (x2 x3 x4 : Int32) {p : Nat} {g : a2_G} {r : a2_A} (h : Ru w f p g r) (h0 : 0 ≤ x3.toInt) (hx : x3.toInt ≤ p) : pl (BX_sum_8_1 L xs (m + 1) d k a x2 x3 x4 g r) (kRv w f (rv w 1 p l false)) (kRx w f (rv w 1 p l false)) := by
  have hle := h.le
  rw [rv_eq]
  show pl _ (kRv w f (if wg w p 5 || wg w p 6 then bd (rv w 2 (p + 1) l false) (fun q _ => rv w 1 q l false) else ok p)) (kRx w f (if wg w p 5 || wg w p 6 then bd (rv w 2 (p + 1) l false) (fun q _ => rv w 1 q l false) else ok p))
  unfold BX_sum_8_1
  refine pl_if (fun hc => ?_) (fun hc => ?_)
  · rw [c2_ge] at hc
    have hc' : (1500 : Int) ≤ x3.toInt := hc
    have hn : ¬ p < w.2.2 := by omega
    rw [wg_out hn, wg_out hn]
    exact ⟨⟨_, rfl⟩, p, rfl, h⟩
  · have h15 : x3.toInt < 1500 := by
      rw [c2_ge] at hc
      have hc' : ¬ (1500 : Int) ≤ x3.toInt := hc
      omega
    have h40 : p < w.2.2 → pl (BX_sum_40_1 L xs (m + 1) d k a x2 x3 x4 g r) (kRv w f (bd (rv w 2 (p + 1) l false) fun q _ => rv w 1 q l false)) (kRx w f (bd (rv w 2 (p + 1) l false) fun q _ => rv w 1 q l false)) := by
      intro hp
      unfold BX_sum_40_1
      refine pl_e (xR_value L xs h.1) ?_
      refine pl_jn h (fun v g1 r1 h1 _ => ?_)
      refine pl_adv h1 hp (fun g2 h2 _ => ?_)
      refine pl_vR (hS l (p + 1) a g2 r1 ha hl h2).2.1 (fun v q g3 r3 e3 h3 => ?_)
      refine pl_ap h3 (fun g4 r4 h4 _ => ?_)
      have e5 := i32_inc (x := x3) (by omega)
      have e6 := rv_le e3
      exact H _ (x3 + 1) _ q g4 r4 h4 (by omega) (by omega)
    refine pl_u (xR_isSign L xs 5 0 (j := 0) rfl (by decide) h.1) (fun e => pl_pos (by decide) ?_) (fun e => pl_neg (by decide) ?_)
    · rw [show (wg w p 5 || wg w p 6) = true by rw [show wg w p 5 = true from e]; rfl]
      exact h40 (wg_iff.mp e).1
    · refine pl_u (xR_isSign L xs 6 0 (j := 0) rfl (by decide) h.1) (fun e2 => pl_neg (by decide) ?_) (fun e2 => pl_pos (by decide) ?_)
      · rw [show (wg w p 5 || wg w p 6) = true by rw [show wg w p 6 = true from e2]; exact Bool.or_true _]
        exact h40 (wg_iff.mp e2).1
      · rw [show wg w p 5 = false from e, show wg w p 6 = false from e2]
        exact ⟨⟨_, rfl⟩, p, rfl, h⟩
theorem xX_sum_l (L : Nat) (xs : Nat → Int32) {m d : Nat} {w : Ws} {f : Gh} (hS : XS L xs m d w f) {l : Nat} {a : Int32} (ha : a.toInt = l) (hl : l ≤ 41) : ∀ (k : Nat) (x2 x3 x4 : Int32) (p : Nat) (g : a2_G) (r : a2_A), Ru w f p g r → 0 ≤ x3.toInt → x3.toInt ≤ p → pl (lp L xs nX_sum nm_m121 (m + 1) d k 8 [some (.ref cX), some (.int a), some (.int x2), some (.int x3), some (.int x4)] g r) (kRv w f (rv w 1 p l false)) (kRx w f (rv w 1 p l false)) := by
  intro k
  induction k with
  | zero => exact fun _ _ _ _ _ _ _ _ _ => pl_l0
  | succ k ih =>
    intro x2 x3 x4 p g r h h0 hx
    rw [lX_sum_8_1]
    exact xX_sum_t_1 L xs hS ha hl ih x2 x3 x4 h h0 hx
theorem xX_product_t (L : Nat) (xs : Nat → Int32) {m d k : Nat} {w : Ws} {f : Gh} (hS : XS L xs m d w f) {l : Nat} {a : Int32} (ha : a.toInt = l) (hl : l ≤ 41) (H : ∀ (x2 x3 x4 : Int32) (p : Nat) (g : a2_G) (r : a2_A), Ru w f p g r → 0 ≤ x3.toInt → x3.toInt ≤ p → pl (lp L xs nX_product nm_m122 (m + 1) d k 8 [some (.ref cX), some (.int a), some (.int x2), some (.int x3), some (.int x4)] g r) (kRv w f (rv w 3 p l false)) (kRx w f (rv w 3 p l false))) (x2 x3 : Int32) {p : Nat} {g : a2_G} {r : a2_A} (h : Ru w f p g r) (h0 : 0 ≤ x3.toInt) (hx : x3.toInt ≤ p) : pl (BX_product_8 L xs (m + 1) d k a x2 x3 g r) (kRv w f (rv w 3 p l false)) (kRx w f (rv w 3 p l false)) := by
  have hle := h.le
  rw [rv_eq]
  show pl _ (kRv w f (if wg w p 7 || wg w p 8 then bd (rv w 4 (p + 1) l false) (fun q _ => rv w 3 q l false) else ok p)) (kRx w f (if wg w p 7 || wg w p 8 then bd (rv w 4 (p + 1) l false) (fun q _ => rv w 3 q l false) else ok p))
  unfold BX_product_8
  refine pl_if (fun hc => ?_) (fun hc => ?_)
  · rw [c2_ge] at hc
    have hc' : (1500 : Int) ≤ x3.toInt := hc
    have hn : ¬ p < w.2.2 := by omega
    rw [wg_out hn, wg_out hn]
    exact ⟨⟨_, rfl⟩, p, rfl, h⟩
  · have h15 : x3.toInt < 1500 := by
      rw [c2_ge] at hc
      have hc' : ¬ (1500 : Int) ≤ x3.toInt := hc
      omega
    have h40 : p < w.2.2 → pl (BX_product_41 L xs (m + 1) d k a x2 x3 g r) (kRv w f (bd (rv w 4 (p + 1) l false) fun q _ => rv w 3 q l false)) (kRx w f (bd (rv w 4 (p + 1) l false) fun q _ => rv w 3 q l false)) := by
      intro hp
      unfold BX_product_41
      refine pl_e (xR_value L xs h.1) ?_
      refine pl_jn h (fun v g1 r1 h1 _ => ?_)
      refine pl_adv h1 hp (fun g2 h2 _ => ?_)
      refine pl_vR (hS l (p + 1) a g2 r1 ha hl h2).2.2 (fun v q g3 r3 e3 h3 => ?_)
      refine pl_ap h3 (fun g4 r4 h4 _ => ?_)
      have e5 := i32_inc (x := x3) (by omega)
      have e6 := rv_le e3
      exact H _ (x3 + 1) _ q g4 r4 h4 (by omega) (by omega)
    refine pl_u (xR_isSign L xs 7 0 (j := 0) rfl (by decide) h.1) (fun e => pl_pos (by decide) ?_) (fun e => pl_neg (by decide) ?_)
    · rw [show (wg w p 7 || wg w p 8) = true by rw [show wg w p 7 = true from e]; rfl]
      exact h40 (wg_iff.mp e).1
    · refine pl_u (xR_isSign L xs 8 0 (j := 0) rfl (by decide) h.1) (fun e2 => pl_neg (by decide) ?_) (fun e2 => pl_pos (by decide) ?_)
      · rw [show (wg w p 7 || wg w p 8) = true by rw [show wg w p 8 = true from e2]; exact Bool.or_true _]
        exact h40 (wg_iff.mp e2).1
      · rw [show wg w p 7 = false from e, show wg w p 8 = false from e2]
        exact ⟨⟨_, rfl⟩, p, rfl, h⟩
theorem xX_product_t_1 (L : Nat) (xs : Nat → Int32) {m d k : Nat} {w : Ws} {f : Gh} (hS : XS L xs m d w f) {l : Nat} {a : Int32} (ha : a.toInt = l) (hl : l ≤ 41) (H : ∀ (x2 x3 x4 : Int32) (p : Nat) (g : a2_G) (r : a2_A), Ru w f p g r → 0 ≤ x3.toInt → x3.toInt ≤ p → pl (lp L xs nX_product nm_m122 (m + 1) d k 8 [some (.ref cX), some (.int a), some (.int x2), some (.int x3), some (.int x4)] g r) (kRv w f (rv w 3 p l false)) (kRx w f (rv w 3 p l false))) (x2 x3 x4 : Int32) {p : Nat} {g : a2_G} {r : a2_A} (h : Ru w f p g r) (h0 : 0 ≤ x3.toInt) (hx : x3.toInt ≤ p) : pl (BX_product_8_1 L xs (m + 1) d k a x2 x3 x4 g r) (kRv w f (rv w 3 p l false)) (kRx w f (rv w 3 p l false)) := by
  have hle := h.le
  rw [rv_eq]
  show pl _ (kRv w f (if wg w p 7 || wg w p 8 then bd (rv w 4 (p + 1) l false) (fun q _ => rv w 3 q l false) else ok p)) (kRx w f (if wg w p 7 || wg w p 8 then bd (rv w 4 (p + 1) l false) (fun q _ => rv w 3 q l false) else ok p))
  unfold BX_product_8_1
  refine pl_if (fun hc => ?_) (fun hc => ?_)
  · rw [c2_ge] at hc
    have hc' : (1500 : Int) ≤ x3.toInt := hc
    have hn : ¬ p < w.2.2 := by omega
    rw [wg_out hn, wg_out hn]
    exact ⟨⟨_, rfl⟩, p, rfl, h⟩
  · have h15 : x3.toInt < 1500 := by
      rw [c2_ge] at hc
      have hc' : ¬ (1500 : Int) ≤ x3.toInt := hc
      omega
    have h40 : p < w.2.2 → pl (BX_product_41_1 L xs (m + 1) d k a x2 x3 x4 g r) (kRv w f (bd (rv w 4 (p + 1) l false) fun q _ => rv w 3 q l false)) (kRx w f (bd (rv w 4 (p + 1) l false) fun q _ => rv w 3 q l false)) := by
      intro hp
      unfold BX_product_41_1
      refine pl_e (xR_value L xs h.1) ?_
      refine pl_jn h (fun v g1 r1 h1 _ => ?_)
      refine pl_adv h1 hp (fun g2 h2 _ => ?_)
      refine pl_vR (hS l (p + 1) a g2 r1 ha hl h2).2.2 (fun v q g3 r3 e3 h3 => ?_)
      refine pl_ap h3 (fun g4 r4 h4 _ => ?_)
      have e5 := i32_inc (x := x3) (by omega)
      have e6 := rv_le e3
      exact H _ (x3 + 1) _ q g4 r4 h4 (by omega) (by omega)
    refine pl_u (xR_isSign L xs 7 0 (j := 0) rfl (by decide) h.1) (fun e => pl_pos (by decide) ?_) (fun e => pl_neg (by decide) ?_)
    · rw [show (wg w p 7 || wg w p 8) = true by rw [show wg w p 7 = true from e]; rfl]
      exact h40 (wg_iff.mp e).1
    · refine pl_u (xR_isSign L xs 8 0 (j := 0) rfl (by decide) h.1) (fun e2 => pl_neg (by decide) ?_) (fun e2 => pl_pos (by decide) ?_)
      · rw [show (wg w p 7 || wg w p 8) = true by rw [show wg w p 8 = true from e2]; exact Bool.or_true _]
        exact h40 (wg_iff.mp e2).1
      · rw [show wg w p 7 = false from e, show wg w p 8 = false from e2]
        exact ⟨⟨_, rfl⟩, p, rfl, h⟩
theorem xX_product_l (L : Nat) (xs : Nat → Int32) {m d : Nat} {w : Ws} {f : Gh} (hS : XS L xs m d w f) {l : Nat} {a : Int32} (ha : a.toInt = l) (hl : l ≤ 41) : ∀ (k : Nat) (x2 x3 x4 : Int32) (p : Nat) (g : a2_G) (r : a2_A), Ru w f p g r → 0 ≤ x3.toInt → x3.toInt ≤ p → pl (lp L xs nX_product nm_m122 (m + 1) d k 8 [some (.ref cX), some (.int a), some (.int x2), some (.int x3), some (.int x4)] g r) (kRv w f (rv w 3 p l false)) (kRx w f (rv w 3 p l false)) := by
  intro k
  induction k with
  | zero => exact fun _ _ _ _ _ _ _ _ _ => pl_l0
  | succ k ih =>
    intro x2 x3 x4 p g r h h0 hx
    rw [lX_product_8_1]
    exact xX_product_t_1 L xs hS ha hl ih x2 x3 x4 h h0 hx
theorem xX_sums (L : Nat) (xs : Nat → Int32) {m : Nat} (w : Ws) (f : Gh) : ∀ d, XS L xs m d w f := by
  intro d
  induction d with
  | zero => exact fun _ _ _ _ _ _ _ _ => ⟨trivial, trivial, trivial⟩
  | succ d ih =>
    intro l p a g r ha hl h
    refine ⟨?_, ?_, ?_⟩
    · rw [qX_sum, rv_t0]
      refine pl_vR (ih l p a g r ha hl h).2.1 (fun v q g1 r1 e1 h1 => ?_)
      exact xX_sum_t L xs ih ha hl (xX_sum_l L xs ih ha hl _) v 0 h1 (by decide) (by show (0 : Int) ≤ _; omega)
    · rw [qX_product, rv_t2]
      refine pl_vR (ih l p a g r ha hl h).2.2 (fun v q g1 r1 e1 h1 => ?_)
      exact xX_product_t L xs ih ha hl (xX_product_l L xs ih ha hl _) v 0 h1 (by decide) (by show (0 : Int) ≤ _; omega)
    · rw [qX_sumUnit, rv_t4]
      refine pl_t (xR_isSign L xs 0 0 (j := 0) rfl (by decide) h.1) (fun e => pl_neg (by decide) ?_) (fun e => pl_pos (by decide) ?_)
      · have e1 : (a + 1).toInt = a.toInt + 1 := i32_inc (by omega)
        refine pl_gd h (wg_iff.mp e).1 ha hl (fun hl2 g1 r1 h1 _ => ?_)
        refine pl_vR (ih (l + 1) (p + 1) (a + 1) g1 r1 (by omega) (by omega) h1).1 (fun v q g2 r2 e2 h2 => ?_)
        exact pl_rs h2 (fun _ g3 h3 _ => ⟨⟨_, rfl⟩, _, rfl, h3⟩)
      · have h56 : pl (BX_sumUnit_56 L xs (m + 1) d m a g r) (kRv w f (if wo w p then ok (p + 1) else no p)) (kRx w f (if wo w p then ok (p + 1) else no p)) := by
          unfold BX_sumUnit_56
          exact pl_op h (fun _ v g1 r1 _ h1 _ => ⟨⟨_, rfl⟩, _, rfl, h1⟩)
        show pl _ (kRv w f (if wk w p 1 || wk w p 2 then ok (p + 1) else no p)) (kRx w f (if wk w p 1 || wk w p 2 then ok (p + 1) else no p))
        refine pl_u (xR_isKind L xs 3 h.1) (fun e3 => pl_neg (by decide) ?_) (fun e3 => pl_pos (by decide) ?_)
        · rw [show (wk w p 1 || wk w p 2) = false by
            rw [Bool.or_eq_false_iff]
            have h3 := (wk_iff.mp e3).2
            exact ⟨wk_f (fun e => absurd (h3.symm.trans e.2) (by decide)), wk_f (fun e => absurd (h3.symm.trans e.2) (by decide))⟩]
          exact pl_rf h
        · rw [show (wk w p 1 || wk w p 2) = wo w p by
            unfold wo
            rw [e3, Bool.or_false]]
          exact h56
