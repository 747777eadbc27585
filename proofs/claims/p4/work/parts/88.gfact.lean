/-! The class's conditions: what calls itself. -/
def XC (L : Nat) (xs : Nat → Int32) (m d : Nat) (w : Ws) (f : Gh) : Prop := ∀ (l p : Nat) (a : Int32) (g : a2_G) (r : a2_A), a.toInt = l → l ≤ 41 → Ru w f p g r →
  pl (ev L xs (m + 1) d nX_condition [.ref cX, .int a] g r) (kC w f (rv w 5 p l false)) (kRx w f (rv w 5 p l false)) ∧
  (∀ s, Sb s g → pl (ev L xs (m + 1) d nX_conjunction [.ref cX, .int a] g r) (kC w f (rv w 7 p l s)) (kRx w f (rv w 7 p l s))) ∧
  ∀ s, Sb s g → pl (ev L xs (m + 1) d nX_factor [.ref cX, .int a] g r) (kC w f (rv w 9 p l s)) (kRx w f (rv w 9 p l s))
theorem rv_le' {w : Ws} {t p l : Nat} {s : Bool} {q : Nat} {s' : Bool} (h : rv w t p l s = some (.inl (q, s'))) : p ≤ q := rv_mo w t p l s q s' h
theorem xX_condition_t (L : Nat) (xs : Nat → Int32) {m d k : Nat} {w : Ws} {f : Gh} (hC : XC L xs m d w f) {l : Nat} {a : Int32} (ha : a.toInt = l) (hl : l ≤ 41) (H : ∀ (x2 x3 x4 : Int32) (p : Nat) (s : Bool) (g : a2_G) (r : a2_A), Ru w f p g r → Sb s g → 0 ≤ x4.toInt → x4.toInt ≤ p → pl (lp L xs nX_condition nm_m96 (m + 1) d k 38 [some (.ref cX), some (.int a), some (.int x2), some (.int x3), some (.int x4)] g r) (kC w f (rv w 6 p l s)) (kRx w f (rv w 6 p l s))) (x2 x3 x4 : Int32) {p : Nat} {s : Bool} {g : a2_G} {r : a2_A} (h : Ru w f p g r) (hs : Sb s g) (h0 : 0 ≤ x4.toInt) (hx : x4.toInt ≤ p) : pl (BX_condition_38 L xs (m + 1) d k a x2 x3 x4 g r) (kC w f (rv w 6 p l s)) (kRx w f (rv w 6 p l s)) := by
  have hle := h.le
  rw [rv_eq]
  show pl _ (kC w f (if ww w p 66 then bd (rv w 7 (p + 1) l s) (fun q s => rv w 6 q l s) else some (.inl (p, s)))) (kRx w f (if ww w p 66 then bd (rv w 7 (p + 1) l s) (fun q s => rv w 6 q l s) else some (.inl (p, s))))
  unfold BX_condition_38
  refine pl_if (fun hc => ?_) (fun hc => ?_)
  · rw [c2_ge] at hc
    have hc' : (1500 : Int) ≤ x4.toInt := hc
    have hn : ¬ p < w.2.2 := by omega
    rw [ww_out hn]
    exact ⟨⟨_, rfl⟩, p, s, rfl, h, hs⟩
  · have h15 : x4.toInt < 1500 := by
      rw [c2_ge] at hc
      have hc' : ¬ (1500 : Int) ≤ x4.toInt := hc
      omega
    refine pl_sk h (fun e g1 h1 q1 => pl_neg (by decide) ?_) (fun e => pl_pos (by decide) ⟨⟨_, rfl⟩, p, s, rfl, h, hs⟩)
    refine pl_vC ((hC l (p + 1) a g1 r ha hl h1).2.1 s (hs.of q1)) (fun v q s2 g2 r2 e2 h2 s2' => ?_)
    refine pl_ap h2 (fun g3 r3 h3 q3 => ?_)
    have e5 := i32_inc (x := x4) (by omega)
    have e6 := rv_le' e2
    exact H _ _ (x4 + 1) q s2 g3 r3 h3 (s2'.of q3) (by omega) (by omega)
theorem xX_condition_l (L : Nat) (xs : Nat → Int32) {m d : Nat} {w : Ws} {f : Gh} (hC : XC L xs m d w f) {l : Nat} {a : Int32} (ha : a.toInt = l) (hl : l ≤ 41) : ∀ (k : Nat) (x2 x3 x4 : Int32) (p : Nat) (s : Bool) (g : a2_G) (r : a2_A), Ru w f p g r → Sb s g → 0 ≤ x4.toInt → x4.toInt ≤ p → pl (lp L xs nX_condition nm_m96 (m + 1) d k 38 [some (.ref cX), some (.int a), some (.int x2), some (.int x3), some (.int x4)] g r) (kC w f (rv w 6 p l s)) (kRx w f (rv w 6 p l s)) := by
  intro k
  induction k with
  | zero => exact fun _ _ _ _ _ _ _ _ _ _ _ => pl_l0
  | succ k ih =>
    intro x2 x3 x4 p s g r h hs h0 hx
    rw [lX_condition_38]
    exact xX_condition_t L xs hC ha hl ih x2 x3 x4 h hs h0 hx
theorem xX_conjunction_t (L : Nat) (xs : Nat → Int32) {m d k : Nat} {w : Ws} {f : Gh} (hC : XC L xs m d w f) {l : Nat} {a : Int32} (ha : a.toInt = l) (hl : l ≤ 41) (H : ∀ (x2 x3 x4 : Int32) (p : Nat) (s : Bool) (g : a2_G) (r : a2_A), Ru w f p g r → Sb s g → 0 ≤ x4.toInt → x4.toInt ≤ p → pl (lp L xs nX_conjunction nm_m97 (m + 1) d k 33 [some (.ref cX), some (.int a), some (.int x2), some (.int x3), some (.int x4)] g r) (kC w f (rv w 8 p l s)) (kRx w f (rv w 8 p l s))) (x2 x3 x4 : Int32) {p : Nat} {s : Bool} {g : a2_G} {r : a2_A} (h : Ru w f p g r) (hs : Sb s g) (h0 : 0 ≤ x4.toInt) (hx : x4.toInt ≤ p) : pl (BX_conjunction_33 L xs (m + 1) d k a x2 x3 x4 g r) (kC w f (rv w 8 p l s)) (kRx w f (rv w 8 p l s)) := by
  have hle := h.le
  rw [rv_eq]
  show pl _ (kC w f (if ww w p 65 then bd (rv w 9 (p + 1) l s) (fun q s => rv w 8 q l s) else some (.inl (p, s)))) (kRx w f (if ww w p 65 then bd (rv w 9 (p + 1) l s) (fun q s => rv w 8 q l s) else some (.inl (p, s))))
  unfold BX_conjunction_33
  refine pl_if (fun hc => ?_) (fun hc => ?_)
  · rw [c2_ge] at hc
    have hc' : (1500 : Int) ≤ x4.toInt := hc
    have hn : ¬ p < w.2.2 := by omega
    rw [ww_out hn]
    exact ⟨⟨_, rfl⟩, p, s, rfl, h, hs⟩
  · have h15 : x4.toInt < 1500 := by
      rw [c2_ge] at hc
      have hc' : ¬ (1500 : Int) ≤ x4.toInt := hc
      omega
    refine pl_sk h (fun e g1 h1 q1 => pl_neg (by decide) ?_) (fun e => pl_pos (by decide) ⟨⟨_, rfl⟩, p, s, rfl, h, hs⟩)
    refine pl_vC ((hC l (p + 1) a g1 r ha hl h1).2.2 s (hs.of q1)) (fun v q s2 g2 r2 e2 h2 s2' => ?_)
    refine pl_ap h2 (fun g3 r3 h3 q3 => ?_)
    have e5 := i32_inc (x := x4) (by omega)
    have e6 := rv_le' e2
    exact H _ _ (x4 + 1) q s2 g3 r3 h3 (s2'.of q3) (by omega) (by omega)
theorem xX_conjunction_l (L : Nat) (xs : Nat → Int32) {m d : Nat} {w : Ws} {f : Gh} (hC : XC L xs m d w f) {l : Nat} {a : Int32} (ha : a.toInt = l) (hl : l ≤ 41) : ∀ (k : Nat) (x2 x3 x4 : Int32) (p : Nat) (s : Bool) (g : a2_G) (r : a2_A), Ru w f p g r → Sb s g → 0 ≤ x4.toInt → x4.toInt ≤ p → pl (lp L xs nX_conjunction nm_m97 (m + 1) d k 33 [some (.ref cX), some (.int a), some (.int x2), some (.int x3), some (.int x4)] g r) (kC w f (rv w 8 p l s)) (kRx w f (rv w 8 p l s)) := by
  intro k
  induction k with
  | zero => exact fun _ _ _ _ _ _ _ _ _ _ _ => pl_l0
  | succ k ih =>
    intro x2 x3 x4 p s g r h hs h0 hx
    rw [lX_conjunction_33]
    exact xX_conjunction_t L xs hC ha hl ih x2 x3 x4 h hs h0 hx
theorem xX_conds (L : Nat) (xs : Nat → Int32) {m : Nat} (w : Ws) (f : Gh) : ∀ d, XC L xs m d w f := by
  intro d
  induction d with
  | zero => exact fun _ _ _ _ _ _ _ _ => ⟨trivial, fun _ _ => trivial, fun _ _ => trivial⟩
  | succ d ih =>
    intro l p a g r ha hl h
    refine ⟨?_, fun s hs => ?_, fun s hs => ?_⟩
    · rw [qX_condition, rv_t5]
      refine pl_vC ((ih l p a (upd g fX_subject (-1)) r ha hl (h.x (-1) rfl)).2.1 false rfl) (fun v q s g1 r1 e1 h1 s1 => ?_)
      refine pl_u (xR_isReserved L xs 66 0 (j := 0) rfl (by decide) h1.1) (fun e => pl_pos (by decide) ?_) (fun e => pl_neg (by decide) ?_)
      · refine pl_jn h1 (fun v2 g2 r2 h2 q2 => ?_)
        exact xX_condition_t L xs ih ha hl (xX_condition_l L xs ih ha hl _) v v2 0 h2 (s1.of q2) (by decide) (by show (0 : Int) ≤ _; omega)
      · rw [rv_eq]
        show kC w f (if ww w q 66 then bd (rv w 7 (q + 1) l s) (fun q s => rv w 6 q l s) else some (.inl (q, s))) _ _ _
        rw [show ww w q 66 = false from e]
        exact ⟨⟨_, rfl⟩, q, s, rfl, h1, s1⟩
    · rw [qX_conjunction, rv_t7]
      refine pl_vC ((ih l p a g r ha hl h).2.2 s hs) (fun v q s g1 r1 e1 h1 s1 => ?_)
      refine pl_u (xR_isReserved L xs 65 0 (j := 0) rfl (by decide) h1.1) (fun e => pl_pos (by decide) ?_) (fun e => pl_neg (by decide) ?_)
      · refine pl_jn h1 (fun v2 g2 r2 h2 q2 => ?_)
        exact xX_conjunction_t L xs ih ha hl (xX_conjunction_l L xs ih ha hl _) v v2 0 h2 (s1.of q2) (by decide) (by show (0 : Int) ≤ _; omega)
      · rw [rv_eq]
        show kC w f (if ww w q 65 then bd (rv w 9 (q + 1) l s) (fun q s => rv w 8 q l s) else some (.inl (q, s))) _ _ _
        rw [show ww w q 65 = false from e]
        exact ⟨⟨_, rfl⟩, q, s, rfl, h1, s1⟩
    · have ea : (a + 1).toInt = a.toInt + 1 := i32_inc (by omega)
      rw [qX_factor, rv_eq]
      show pl _ (kC w f (if (ww w p 64 && !wc w (p + 1)) = true then (if 40 ≤ l then no p else rv w 9 (p + 1) (l + 1) s) else if wg w p 0 = true then (if 40 ≤ l then no p else bd (rv w 5 (p + 1) (l + 1) false) fun q _ => if wg w q 1 then ok (q + 1) else no q) else some (rel w p s))) (kRx w f (if (ww w p 64 && !wc w (p + 1)) = true then (if 40 ≤ l then no p else rv w 9 (p + 1) (l + 1) s) else if wg w p 0 = true then (if 40 ≤ l then no p else bd (rv w 5 (p + 1) (l + 1) false) fun q _ => if wg w q 1 then ok (q + 1) else no q) else some (rel w p s)))
      have h66 : (ww w p 64 && !wc w (p + 1)) = false → pl (BX_factor_66 L xs (m + 1) d m a g r) (kC w f (if (ww w p 64 && !wc w (p + 1)) = true then (if 40 ≤ l then no p else rv w 9 (p + 1) (l + 1) s) else if wg w p 0 = true then (if 40 ≤ l then no p else bd (rv w 5 (p + 1) (l + 1) false) fun q _ => if wg w q 1 then ok (q + 1) else no q) else some (rel w p s))) (kRx w f (if (ww w p 64 && !wc w (p + 1)) = true then (if 40 ≤ l then no p else rv w 9 (p + 1) (l + 1) s) else if wg w p 0 = true then (if 40 ≤ l then no p else bd (rv w 5 (p + 1) (l + 1) false) fun q _ => if wg w q 1 then ok (q + 1) else no q) else some (rel w p s))) := by
        intro e
        rw [e, if_neg (by decide)]
        unfold BX_factor_66
        refine pl_t (xR_isSign L xs 0 0 (j := 0) rfl (by decide) h.1) (fun e0 => pl_neg (by decide) ?_) (fun e0 => pl_pos (by decide) ?_)
        · refine pl_gd h (wg_iff.mp e0).1 ha hl (fun hl2 g1 r1 h1 _ => ?_)
          refine pl_vC (K := fun q _ => if wg w q 1 then ok (q + 1) else no q) (ih (l + 1) (p + 1) (a + 1) g1 r1 (by omega) (by omega) h1).1 (fun v q s2 g2 r2 e2 h2 _ => ?_)
          exact pl_rs h2 (fun _ g3 h3 _ => ⟨⟨_, rfl⟩, _, _, rfl, h3.x (-1) rfl, rfl⟩)
        · refine pl_v (xX_relation L xs h hs) (fun _ _ _ q => q) (fun v g1 r1 q => ?_)
          exact q
      refine pl_u (xR_isReserved L xs 64 0 (j := 0) rfl (by decide) h.1) (fun e => pl_neg (by decide) ?_) (fun e => pl_pos (by decide) (h66 (by rw [show ww w p 64 = false from e]; rfl)))
      refine pl_u (xR_isComparingWord L xs 1 (j := 1) rfl (by decide) h.1) (fun e2 => pl_pos (by decide) (h66 (by rw [e2, Bool.not_true, Bool.and_false]))) (fun e2 => pl_neg (by decide) ?_)
      rw [show ww w p 64 = true from e, e2, Bool.not_false, Bool.and_self, if_pos rfl]
      refine pl_e (xR_place L xs) ?_
      refine pl_mk h (fun g1 r1 h1 q1 => ?_)
      refine pl_gd h1 (ww_iff.mp e).1 ha hl (fun hl2 g2 r2 h2 q2 => ?_)
      refine pl_v ((ih (l + 1) (p + 1) (a + 1) g2 r2 (by omega) (by omega) h2).2.2 s (hs.of (q2.trans q1))) (fun _ _ _ q => q) (fun v g3 r3 q => ?_)
      obtain ⟨-, q3, s3, e3, e4, e5⟩ := q
      exact pl_ap e4 (fun g4 r4 h4 q4 => ⟨⟨_, rfl⟩, q3, s3, e3, h4, e5.of q4⟩)
