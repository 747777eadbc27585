/-! The class's PERFORM, statement, list. -/
noncomputable def zP (w : Ws) (l : Nat) (x3 : Int32) (q : Nat) : Option RR := if x3 = 0 then (bd (rv w 10 q (l + 1) false) fun q _ => if ww w q 74 then ok (q + 1) else no q) else ok q
theorem xS_perform (L : Nat) (xs : Nat → Int32) {m d : Nat} {w : Ws} {f : Gh} (hL0 : ∀ e, e < d → SL L xs m e w f) : SG L xs m d w f nS_perform 139 := by
  intro l p a g r ha hl h hp
  cases d with
  | zero => trivial
  | succ d =>
    have hL := hL0 d (by omega)
    have ea : (a + 1).toInt = ((l + 1 : Nat) : Int) := by rw [i32_inc (by omega), ha]; rfl
    have h213 : ∀ x2 x3 q g r, Ru w f q g r → pl (BS_perform_213 L xs (m + 1) d m a x2 x3 g r) (kRv w f (zP w l x3 q)) (kRx w f (zP w l x3 q)) := by
      intro x2 x3 q g r h
      unfold BS_perform_213 BS_perform_263 zP
      refine pl_if (fun hc => ?_) (fun hc => ?_)
      · rw [c2_ne] at hc
        rw [if_neg hc]
        exact ⟨⟨_, rfl⟩, q, rfl, h⟩
      · rw [c2_ne, Decidable.not_not] at hc
        rw [if_pos hc]
        refine pl_vR (K := fun q => if ww w q 74 then ok (q + 1) else no q) (hL (l + 1) q 40 (a + 1) g r ea (by omega) h) (fun v q1 g1 r1 _ h1 => ?_)
        refine pl_ap h1 (fun g2 r2 h2 _ => ?_)
        refine pl_rq h2 (fun _ g3 h3 _ => ?_)
        refine pl_st h3 (fun g4 r4 h4 _ => ?_)
        exact pl_st h4 (fun g5 r5 h5 _ => ⟨⟨_, rfl⟩, _, rfl, h5⟩)
    have h213' : ∀ x2 x3 x4 q g r, Ru w f q g r → pl (BS_perform_213_1 L xs (m + 1) d m a x2 x3 x4 g r) (kRv w f (zP w l x3 q)) (kRx w f (zP w l x3 q)) := by
      intro x2 x3 x4 q g r h
      unfold BS_perform_213_1 BS_perform_263_1 zP
      refine pl_if (fun hc => ?_) (fun hc => ?_)
      · rw [c2_ne] at hc
        rw [if_neg hc]
        exact ⟨⟨_, rfl⟩, q, rfl, h⟩
      · rw [c2_ne, Decidable.not_not] at hc
        rw [if_pos hc]
        refine pl_vR (K := fun q => if ww w q 74 then ok (q + 1) else no q) (hL (l + 1) q 40 (a + 1) g r ea (by omega) h) (fun v q1 g1 r1 _ h1 => ?_)
        refine pl_ap h1 (fun g2 r2 h2 _ => ?_)
        refine pl_rq h2 (fun _ g3 h3 _ => ?_)
        refine pl_st h3 (fun g4 r4 h4 _ => ?_)
        exact pl_st h4 (fun g5 r5 h5 _ => ⟨⟨_, rfl⟩, _, rfl, h5⟩)
    have h73 : ∀ x2 x3 q g r, Ru w f q g r → pl (BS_perform_73 L xs (m + 1) d m a x2 x3 g r) (kRv w f (bd (rv w 22 q l false) fun q _ => zP w l x3 q)) (kRx w f (bd (rv w 22 q l false) fun q _ => zP w l x3 q)) := by
      intro x2 x3 q g r h
      have e22 : bd (rv w 22 q l false) (fun q _ => zP w l x3 q) = if (wk w q 2 || wk w q 1 && ww w (q + 1) 23) = true then bd (if ww w (q + 1) 23 then ok (q + 2) else no (q + 1)) (fun q _ => zP w l x3 q) else if ww w q 56 = true then (if ww w q 56 then bd (rv w 5 (q + 1) l false) (fun q _ => zP w l x3 q) else no q) else if ww w q 57 = true then bd (if wk w (q + 1) 1 then (if ww w (q + 2) 58 then (if wo w (q + 3) then (if ww w (q + 4) 25 then (if wo w (q + 5) then ok (q + 6) else no (q + 5)) else no (q + 4)) else no (q + 3)) else no (q + 2)) else no (q + 1)) (fun q _ => if ww w q 56 then bd (rv w 5 (q + 1) l false) (fun q _ => zP w l x3 q) else no q) else zP w l x3 q := by
        rw [rv_eq]
        show bd (if (wk w q 2 || wk w q 1 && ww w (q + 1) 23) = true then (if ww w (q + 1) 23 then ok (q + 2) else no (q + 1)) else if ww w q 56 then bd (rv w 5 (q + 1) l false) (fun q _ => ok q) else if ww w q 57 then (if wk w (q + 1) 1 then (if ww w (q + 2) 58 then (if wo w (q + 3) then (if ww w (q + 4) 25 then (if wo w (q + 5) then (if ww w (q + 6) 56 then bd (rv w 5 (q + 7) l false) (fun q _ => ok q) else no (q + 6)) else no (q + 5)) else no (q + 4)) else no (q + 3)) else no (q + 2)) else no (q + 1)) else ok q) (fun q _ => zP w l x3 q) = _
        simp only [bd_ite, bd_as, bd_ok, bd_no]
        by_cases h56 : ww w q 56 = true
        · simp only [h56, if_true]
        · simp only [h56]
          rfl
      rw [e22]
      have h108 : wo w q = true → pl (BS_perform_108 L xs (m + 1) d m a x2 x3 g r) (kRv w f (bd (if ww w (q + 1) 23 then ok (q + 2) else no (q + 1)) fun q _ => zP w l x3 q)) (kRx w f (bd (if ww w (q + 1) 23 then ok (q + 2) else no (q + 1)) fun q _ => zP w l x3 q)) := by
        intro e
        unfold BS_perform_108
        exact pl_nR (xS_times L xs x2 h e) (fun q1 g1 r1 _ h1 => h213 _ _ _ _ _ h1)
      have h116 : pl (BS_perform_116 L xs (m + 1) d m a x2 x3 g r) (kRv w f (if ww w q 56 = true then (if ww w q 56 then bd (rv w 5 (q + 1) l false) (fun q _ => zP w l x3 q) else no q) else if ww w q 57 = true then bd (if wk w (q + 1) 1 then (if ww w (q + 2) 58 then (if wo w (q + 3) then (if ww w (q + 4) 25 then (if wo w (q + 5) then ok (q + 6) else no (q + 5)) else no (q + 4)) else no (q + 3)) else no (q + 2)) else no (q + 1)) (fun q _ => if ww w q 56 then bd (rv w 5 (q + 1) l false) (fun q _ => zP w l x3 q) else no q) else zP w l x3 q)) (kRx w f (if ww w q 56 = true then (if ww w q 56 then bd (rv w 5 (q + 1) l false) (fun q _ => zP w l x3 q) else no q) else if ww w q 57 = true then bd (if wk w (q + 1) 1 then (if ww w (q + 2) 58 then (if wo w (q + 3) then (if ww w (q + 4) 25 then (if wo w (q + 5) then ok (q + 6) else no (q + 5)) else no (q + 4)) else no (q + 3)) else no (q + 2)) else no (q + 1)) (fun q _ => if ww w q 56 then bd (rv w 5 (q + 1) l false) (fun q _ => zP w l x3 q) else no q) else zP w l x3 q)) := by
        unfold BS_perform_116
        refine pl_t (xR_isReserved L xs 56 0 (j := 0) rfl (by decide) h.1) (fun e => pl_neg (by decide) ?_) (fun e => pl_pos (by decide) ?_)
        · refine pl_ph h (fun v g1 r1 h1 => ?_)
          refine pl_rq h1 (fun _ g2 h2 _ => ?_)
          refine pl_vC (K := fun q _ => zP w l x3 q) (xX_conds L xs w f d l (q + 1) a g2 r1 ha (by omega) h2).1 (fun v2 q2 s g3 r3 _ h3 _ => ?_)
          exact pl_ap h3 (fun g4 r4 h4 _ => h213' _ _ _ _ _ _ h4)
        · refine pl_t (xR_isReserved L xs 57 0 (j := 0) rfl (by decide) h.1) (fun e2 => pl_neg (by decide) ?_) (fun e2 => pl_pos (by decide) (h213 _ _ _ _ _ h))
          refine pl_vR (K := fun q => if ww w q 56 then bd (rv w 5 (q + 1) l false) (fun q _ => zP w l x3 q) else no q) (xS_varying L xs x2 h (ww_iff.mp e2).1) (fun v q1 g1 r1 _ h1 => ?_)
          refine pl_rq h1 (fun _ g2 h2 _ => ?_)
          refine pl_vC (K := fun q _ => zP w l x3 q) (xX_conds L xs w f d l (q1 + 1) a g2 r1 ha (by omega) h2).1 (fun v2 q2 s g3 r3 _ h3 _ => ?_)
          exact pl_ap h3 (fun g4 r4 h4 _ => h213' _ _ _ _ _ _ h4)
      unfold BS_perform_73
      refine pl_u (xR_isKind L xs 2 h.1) (fun e => pl_pos (by decide) ?_) (fun e => pl_neg (by decide) ?_)
      · rw [show (wk w q 2 || wk w q 1 && ww w (q + 1) 23) = true by rw [e]; rfl, if_pos rfl]
        exact h108 (by unfold wo; rw [e, Bool.or_true]; rfl)
      · refine pl_u (xR_isKind L xs 1 h.1) (fun e1 => pl_neg (by decide) ?_) (fun e1 => pl_pos (by decide) ?_)
        · refine pl_u (xR_isReserved L xs 23 1 (j := 1) rfl (by decide) h.1) (fun e2 => pl_neg (by decide) ?_) (fun e2 => pl_pos (by decide) ?_)
          · rw [show (wk w q 2 || wk w q 1 && ww w (q + 1) 23) = true by rw [e, e1, e2]; rfl, if_pos rfl]
            exact h108 (by unfold wo; rw [e1]; rfl)
          · rw [show (wk w q 2 || wk w q 1 && ww w (q + 1) 23) = false by rw [e, e1, e2]; rfl, if_neg (by decide)]
            exact h116
        · rw [show (wk w q 2 || wk w q 1 && ww w (q + 1) 23) = false by rw [e, e1]; rfl, if_neg (by decide)]
          exact h116
    rw [qS_perform, rv_eq]
    show pl _ (kRv w f (if (wk w (p + 1) 1 && !ww w (p + 2) 23) = true then (if ww w (p + 2) 21 then (if wk w (p + 3) 1 then bd (rv w 22 (p + 4) l false) (fun q _ => zP w l 1 q) else no (p + 3)) else bd (rv w 22 (p + 2) l false) (fun q _ => zP w l 1 q)) else bd (rv w 22 (p + 1) l false) fun q _ => zP w l 0 q)) (kRx w f (if (wk w (p + 1) 1 && !ww w (p + 2) 23) = true then (if ww w (p + 2) 21 then (if wk w (p + 3) 1 then bd (rv w 22 (p + 4) l false) (fun q _ => zP w l 1 q) else no (p + 3)) else bd (rv w 22 (p + 2) l false) (fun q _ => zP w l 1 q)) else bd (rv w 22 (p + 1) l false) fun q _ => zP w l 0 q))
    refine pl_bg h hp (fun v g1 r1 h1 => ?_)
    refine pl_u (xR_isKind L xs 1 h1.1) (fun e => pl_neg (by decide) ?_) (fun e => pl_pos (by decide) ?_)
    · refine pl_u (xR_isReserved L xs 23 1 (j := 1) rfl (by decide) h1.1) (fun e2 => pl_pos (by decide) ?_) (fun e2 => pl_neg (by decide) ?_)
      · rw [show (wk w (p + 1) 1 && !ww w (p + 2) 23) = false by rw [e, show ww w (p + 2) 23 = true from e2]; rfl, if_neg (by decide)]
        unfold BS_perform_35 BS_perform_36
        exact pl_pos (by decide) (h73 _ _ _ _ _ h1)
      · rw [show (wk w (p + 1) 1 && !ww w (p + 2) 23) = true by rw [e, show ww w (p + 2) 23 = false from e2]; rfl, if_pos rfl]
        unfold BS_perform_36
        refine pl_neg (by decide) ?_
        refine pl_n (xL_nameIn v 41 h1) (fun x g' r' q => by rw [e] at q; cases q.2.1) (fun g2 r2 q => ?_)
        refine pl_sk q.2.2 (fun _ g3 h3 _ => pl_neg (by decide) ?_) (fun _ => pl_pos (by decide) (h73 _ _ _ _ _ q.2.2))
        exact pl_ni h3 (fun _ g4 r4 h4 => h73 _ _ _ _ _ h4)
    · rw [show (wk w (p + 1) 1 && !ww w (p + 2) 23) = false by rw [e]; rfl, if_neg (by decide)]
      unfold BS_perform_35 BS_perform_36
      exact pl_pos (by decide) (h73 _ _ _ _ _ h1)
theorem stp_lt {w : Ws} {t p l : Nat} {s : Bool} (ht : 100 ≤ t) : mp (p + 1) (stp w (rv w) t p l s) := by
  unfold stp
  split
  all_goals first
    | (exfalso; omega)
    | (repeat' first
        | exact mp_no
        | exact mp_none
        | exact mp_ok (by omega)
        | exact mp_ok (sk_le' _ (by omega))
        | exact mp_ok (Nat.le_succ_of_le (sk_le' _ (by omega)))
        | exact (rv_mo w).at _ _ _ (by omega)
        | exact (rv_mo w).at _ _ _ (sk_le' _ (by omega))
        | refine mp_bd ?_ (fun _ _ _ => ?_)
        | refine mp_ite ?_ ?_)
theorem rv_stlt {w : Ws} {t p l q : Nat} {s : Bool} (ht : 100 ≤ t) (h : rv w t p l false = some (.inl (q, s))) : p + 1 ≤ q := by
  rw [rv_eq] at h
  exact stp_lt ht q s h
theorem xS_statement (L : Nat) (xs : Nat → Int32) {m d : Nat} {w : Ws} {f : Gh} (hL : ∀ e, e < d → SL L xs m e w f) {l p : Nat} {a : Int32} {g : a2_G} {r : a2_A} (ha : a.toInt = l) (hl : l ≤ 40) (h : Ru w f p g r) (hb : wb w p = true) : pl (ev L xs (m + 1) d nS_statement [.ref cS, .int a] g r) (kRv w f (rv w (100 + (w.2.1 p).toInt.toNat) p l false)) (kRx w f (rv w (100 + (w.2.1 p).toInt.toNat) p l false)) := by
  cases d with
  | zero => trivial
  | succ d =>
    have hL' : ∀ e, e < d → SL L xs m e w f := fun e he => hL e (by omega)
    obtain ⟨hp, h0, hv⟩ := wb_iff.mp hb
    have hv' : 36 ≤ (w.2.1 p).toInt ∧ (w.2.1 p).toInt ≤ 47 ∨ (w.2.1 p).toInt = 29 := hv.imp id (fun e => by rw [e]; rfl)
    rw [qS_statement]
    refine pl_e (xR_value L xs h.1) ?_
    rw [if_pos hp]
    refine pl_if (fun hc => ?_) (fun hc1 => ?_)
    · rw [show 100 + (w.2.1 p).toInt.toNat = 129 by omega]
      exact pl_v (xS_display L xs l p g r h hp) (fun _ _ _ q => q) (fun _ _ _ q => q)
    refine pl_if (fun hc => by exfalso; omega) (fun _ => ?_)
    refine pl_if (fun hc => by exfalso; omega) (fun _ => ?_)
    refine pl_if (fun hc => by exfalso; omega) (fun _ => ?_)
    refine pl_if (fun hc => by exfalso; omega) (fun _ => ?_)
    refine pl_if (fun hc => by exfalso; omega) (fun _ => ?_)
    refine pl_if (fun hc => by exfalso; omega) (fun _ => ?_)
    refine pl_if (fun hc => ?_) (fun hc2 => ?_)
    · rw [show 100 + (w.2.1 p).toInt.toNat = 136 by omega]
      exact pl_v (xS_move L xs l p g r h hp) (fun _ _ _ q => q) (fun _ _ _ q => q)
    refine pl_if (fun hc => ?_) (fun hc3 => ?_)
    · rw [show 100 + (w.2.1 p).toInt.toNat = 137 by omega]
      exact pl_v (xS_add L xs hL' l p a g r ha hl h hp) (fun _ _ _ q => q) (fun _ _ _ q => q)
    refine pl_if (fun hc => ?_) (fun hc4 => ?_)
    · rw [show 100 + (w.2.1 p).toInt.toNat = 138 by omega]
      exact pl_v (xS_ifElse L xs hL' l p a g r ha hl h hp) (fun _ _ _ q => q) (fun _ _ _ q => q)
    refine pl_if (fun hc => ?_) (fun hc5 => ?_)
    · rw [show 100 + (w.2.1 p).toInt.toNat = 139 by omega]
      exact pl_v (xS_perform L xs hL' l p a g r ha hl h hp) (fun _ _ _ q => q) (fun _ _ _ q => q)
    refine pl_if (fun hc => ?_) (fun hc6 => ?_)
    · rw [show 100 + (w.2.1 p).toInt.toNat = 140 by omega]
      exact pl_v (xS_evaluate L xs hL' l p a g r ha hl h hp) (fun _ _ _ q => q) (fun _ _ _ q => q)
    refine pl_if (fun hc => ?_) (fun hc7 => ?_)
    · rw [show 100 + (w.2.1 p).toInt.toNat = 141 by omega]
      exact pl_v (xS_read L xs hL' l p a g r ha hl h hp) (fun _ _ _ q => q) (fun _ _ _ q => q)
    refine pl_if (fun hc => ?_) (fun hc8 => ?_)
    · rw [show 100 + (w.2.1 p).toInt.toNat = 142 by omega]
      exact pl_v (xS_call L xs hL' l p a g r ha hl h hp) (fun _ _ _ q => q) (fun _ _ _ q => q)
    refine pl_if (fun hc => ?_) (fun hc9 => ?_)
    · rw [show 100 + (w.2.1 p).toInt.toNat = 143 by omega]
      exact pl_v (xS_goTo L xs l p g r h hp) (fun _ _ _ q => q) (fun _ _ _ q => q)
    refine pl_if (fun hc => ?_) (fun hc10 => ?_)
    · rw [show 100 + (w.2.1 p).toInt.toNat = 144 by omega]
      exact pl_v (xS_stop L xs l p g r h hp) (fun _ _ _ q => q) (fun _ _ _ q => q)
    refine pl_if (fun hc => ?_) (fun hc11 => ?_)
    · rw [show 100 + (w.2.1 p).toInt.toNat = 145 by omega, rv_eq]
      exact pl_bg h hp (fun v g1 r1 h1 => ⟨⟨_, rfl⟩, _, rfl, h1⟩)
    refine pl_if (fun hc => ?_) (fun hc12 => ?_)
    · rw [show 100 + (w.2.1 p).toInt.toNat = 146 by omega, rv_eq]
      exact pl_bg h hp (fun v g1 r1 h1 => ⟨⟨_, rfl⟩, _, rfl, h1⟩)
    rw [show 100 + (w.2.1 p).toInt.toNat = 147 by omega]
    unfold BS_statement_162
    exact pl_v (xS_compute L xs l p a g r ha hl h hp) (fun _ _ _ q => q) (fun _ _ _ q => q)
theorem xS_list_t (L : Nat) (xs : Nat → Int32) {m d k : Nat} {w : Ws} {f : Gh} (hL : ∀ e, e < d → SL L xs m e w f) {l : Nat} {a : Int32} (ha : a.toInt = l) (hl : l ≤ 40) (H : ∀ (x1 x3 x4 : Int32) (p : Nat) (g : a2_G) (r : a2_A), Ru w f p g r → 0 ≤ x4.toInt → x4.toInt ≤ p → pl (lp L xs nS_list nm_m87 (m + 1) d k 49 [some (.ref cS), some (.int x1), some (.int a), some (.int x3), some (.int x4)] g r) (kRv w f (rv w 11 p l false)) (kRx w f (rv w 11 p l false))) (x1 x3 x4 : Int32) {p : Nat} {g : a2_G} {r : a2_A} (h : Ru w f p g r) (h0 : 0 ≤ x4.toInt) (hx : x4.toInt ≤ p) : pl (BS_list_49 L xs (m + 1) d k x1 a x3 x4 g r) (kRv w f (rv w 11 p l false)) (kRx w f (rv w 11 p l false)) := by
  have hle := h.le
  rw [rv_eq]
  show pl _ (kRv w f (if wb w p then bd (rv w (100 + (w.2.1 p).toInt.toNat) p l false) (fun q _ => rv w 11 q l false) else ok p)) (kRx w f (if wb w p then bd (rv w (100 + (w.2.1 p).toInt.toNat) p l false) (fun q _ => rv w 11 q l false) else ok p))
  unfold BS_list_49
  refine pl_if (fun hc => ?_) (fun hc => ?_)
  · rw [c2_ge] at hc
    have hc' : (1500 : Int) ≤ x4.toInt := hc
    rw [wb_out (by omega : ¬ p < w.2.2)]
    exact ⟨⟨_, rfl⟩, p, rfl, h⟩
  · have h15 : x4.toInt < 1500 := by
      rw [c2_ge] at hc
      have hc' : ¬ (1500 : Int) ≤ x4.toInt := hc
      omega
    refine pl_t (xS_isNext L xs h.1) (fun e => pl_neg (by decide) ?_) (fun e => pl_pos (by decide) ⟨⟨_, rfl⟩, p, rfl, h⟩)
    refine pl_vR (xS_statement L xs hL ha hl h e) (fun v q g1 r1 e1 h1 => ?_)
    refine pl_ap h1 (fun g2 r2 h2 _ => ?_)
    have e5 := i32_inc (x := x4) (by omega)
    have e6 := rv_stlt (by omega) e1
    exact H _ _ (x4 + 1) q g2 r2 h2 (by omega) (by omega)
theorem xS_list_l (L : Nat) (xs : Nat → Int32) {m d : Nat} {w : Ws} {f : Gh} (hL : ∀ e, e < d → SL L xs m e w f) {l : Nat} {a : Int32} (ha : a.toInt = l) (hl : l ≤ 40) : ∀ (k : Nat) (x1 x3 x4 : Int32) (p : Nat) (g : a2_G) (r : a2_A), Ru w f p g r → 0 ≤ x4.toInt → x4.toInt ≤ p → pl (lp L xs nS_list nm_m87 (m + 1) d k 49 [some (.ref cS), some (.int x1), some (.int a), some (.int x3), some (.int x4)] g r) (kRv w f (rv w 11 p l false)) (kRx w f (rv w 11 p l false)) := by
  intro k
  induction k with
  | zero => exact fun _ _ _ _ _ _ _ _ _ => pl_l0
  | succ k ih =>
    intro x1 x3 x4 p g r h h0 hx
    rw [lS_list_49]
    exact xS_list_t L xs hL ha hl ih x1 x3 x4 h h0 hx
/-- THE CLASS'S STATEMENTS ARE THE READER'S -/
theorem xS_list (L : Nat) (xs : Nat → Int32) {m : Nat} (w : Ws) (f : Gh) : ∀ d, SL L xs m d w f := by
  intro d
  induction d using Nat.strongRecOn with
  | _ d ih =>
    intro l p b a g r ha hl h
    cases d with
    | zero => trivial
    | succ d =>
      have ih' : ∀ e, e < d → SL L xs m e w f := fun e he => ih e (by omega)
      rw [qS_list, rv_t10]
      refine pl_t (xS_isNext L xs h.1) (fun e => pl_pos (by decide) ?_) (fun e => pl_neg (by decide) (pl_rf h))
      unfold BS_list_15 BS_list_29
      refine pl_if (fun hc => ?_) (fun hc => ?_)
      · rw [c2_le] at hc
        have hc' : a.toInt ≤ 40 := hc
        rw [if_neg (by omega)]
        refine pl_e (xR_place L xs) ?_
        refine pl_mk h (fun g1 r1 h1 _ => ?_)
        exact xS_list_t L xs ih' ha (by omega) (xS_list_l L xs ih' ha (by omega) _) _ _ 0 h1 (by decide) (by show (0 : Int) ≤ _; omega)
      · rw [c2_le] at hc
        have hc' : ¬ a.toInt ≤ 40 := hc
        rw [if_pos (by omega)]
        exact pl_rf h
