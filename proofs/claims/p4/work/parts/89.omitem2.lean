/-! The model's items. -/
theorem kpN_lt {lv : Nat → Int32} {v : Int32} : ∀ {i k : Nat}, kpN lv v i = k + 1 → (lv k).toInt < v.toInt
  | 0, _, h => nomatch h
  | i + 1, k, h => by
    unfold kpN at h
    split at h
    · rename_i hc
      have e : i = k := by omega
      subst e
      exact hc
    · exact kpN_lt h
section
variable {L : Nat} {xs : Nat → Int32} {m d k : Nat} {w : Ws} {f : Gh} {p : Nat} {g : a2_G} {r : a2_A} {c : CU} {kn : a2_G → a2_A → Option fn_Z} {kv : Int32 → a2_G → a2_A → Option fn_Z} {Q : Option Value → a2_G → a2_A → Prop} {X : Nat → a2_G → a2_A → Prop}
def kWi (g : a2_G) (r : a2_A) (n : Nat) : Option Value → a2_G → a2_A → Prop := fun o g' r' => ∃ v : Int32, o = some (.int v) ∧ v.toInt = (n : Int) - 1 ∧ g' = g ∧ r' = r
def WIL (L : Nat) (xs : Nat → Int32) (m d k : Nat) (g : a2_G) (r : a2_A) (lw : Nat → Int32) : Prop := ∀ (x1 x2 : Int32) (j : Nat), x2.toInt = (j : Int) - 1 → (∀ t, t < j → (r fM_levels).2 t = lw t) → pl (lp L xs nM_within nm_m163 (m + 1) d k 7 [some (.ref cM), some (.int x1), some (.int x2)] g r) (kWi g r (kpN lw x1 j)) kN
theorem wi_1 {lw : Nat → Int32} (H : WIL L xs m d k g r lw) {x1 x2 : Int32} {j : Nat} (h2 : x2.toInt = (j : Int) - 1) (hl : ∀ t, t < j → (r fM_levels).2 t = lw t) : pl (BM_within_7 L xs (m + 1) d k x1 x2 g r) (kWi g r (kpN lw x1 j)) kN := by
  unfold BM_within_7 BM_within_27
  refine pl_it (fun e => ?_) (fun e => ?_)
  · rw [i32_0] at e
    have hj : j = 0 := by omega
    subst hj
    exact ⟨_, rfl, h2, rfl, rfl⟩
  · rw [i32_0] at e
    cases j with
    | zero => exact absurd h2 (by omega)
    | succ j =>
      have en : x2.toNatClampNeg = j := by
        rw [nc_eq, h2]
        omega
      refine pl_if (fun _ => ?_) (fun _ => trivial)
      rw [en, hl j (by omega)]
      unfold kpN
      refine pl_it (fun e2 => ?_) (fun e2 => ?_)
      · rw [if_pos e2]
        exact ⟨_, rfl, h2, rfl, rfl⟩
      · rw [if_neg e2]
        refine H x1 (x2 + (-1)) j ?_ (fun t ht => hl t (by omega))
        rw [i32_dec' (by omega), h2]
        omega
theorem wi_l {lw : Nat → Int32} : ∀ k, WIL L xs m d k g r lw
  | 0 => fun _ _ _ _ _ => pl_l0
  | k + 1 => fun x1 x2 j h2 hl => by
    rw [lM_within_7]
    exact wi_1 (wi_l k) h2 hl
theorem xM_within (a : Int32) {i : Nat} {lw : Nat → Int32} (h : (g fM_items).toInt = i) (hl : ∀ t, t < i → (r fM_levels).2 t = lw t) : pl (ev L xs (m + 1) d nM_within [.ref cM, .int a] g r) (kWi g r (kpN lw a i)) kN := by
  cases d with
  | zero => trivial
  | succ d =>
    rw [qM_within]
    refine wi_1 (wi_l m) ?_ hl
    rw [i32_dec (by omega), h]
/-- what may be placed, and where -/
def Pl (c : CU) (v x3 : Int32) (j : Nat) : Prop := ((v = 1 ∨ v = 77) ∧ x3 = 1 ∧ j = 0) ∨ (v = 88 ∧ x3 = 0 ∧ 0 < oI c) ∨ (2 ≤ v.toInt ∧ v.toInt ≤ 49 ∧ x3 = 0 ∧ j = kpN (oL c) v (oI c) ∧ 0 < j)
theorem it_300 (hM : Mc c f.2.1 f.2.2) (x1 x3 x4 x6 x7 : Int32) {x2 x5 : Int32} {q j : Nat} (hT : 5 ≤ (oT c).toInt) (hT2 : (oT c).toInt ≤ 7) (hj : j ≤ oI c) (h5 : 0 < x5.toInt) (h2 : (j : Int) + 1 ≤ x2.toInt) (h49 : j < 49) (h88 : ¬ x2 = 88) (h : Gd w f q g r) {y : Int32} (hy : y.toInt = j) : pl (BM_item_300 L xs (m + 1) d k x1 x2 x3 x4 x5 x6 x7 (upd g fM_items y) r) (kZ w f (sP c x2 j, false) (ok q)) kN := by
  have hm := hM.gd h
  have hI := hm.2.2.2.2.1 ⟨hT, hT2⟩
  unfold BM_item_300
  refine pl_n (Q1 := fun o g' r' => o = none ∧ Fm [fM_nodes] WEa (upd g fM_items y) r g' r' ∧ ML r' ∧ 1 ≤ (g' fM_nodes).toInt) (X1 := kN) ?_ (fun _ _ _ e => e) (fun g2 r2 e2 => ?_)
  · cases d with
    | zero => trivial
    | succ d =>
      rw [qM_attach]
      simp only [BM_attach_45]
      repeat' refine pl_if (fun _ => ?_) (fun _ => ?_)
      all_goals first
        | trivial
        | exact ⟨rfl, (((Fm.rf.ua (by decide)).ua (by decide)).ua (by decide)).ua (by decide), h.1.2.1.ln ((((Ln.rf.ua rfl).ua rfl).ua rfl).ua rfl), h.1.2.2.2⟩
  · obtain ⟨-, F, hL, hno⟩ := e2
    have e1 : g2 fM_items = y := F.1 fM_items (by decide)
    have en : (g2 fM_items).toNatClampNeg = j := by
      rw [e1, nc_eq, hy]
      rfl
    refine pl_if (fun _ => pl_if (fun _ => ?_) (fun _ => trivial)) (fun _ => trivial)
    rw [en]
    obtain ⟨m1, m2, m3, m4⟩ := h.1.mrd
    refine ⟨rfl, Or.inl ⟨q, rfl, ?_, ⟨?_, ?_, ?_, m4⟩, (hL.ua (by rfl)).ua (by rfl), hno, ?_, ?_, ?_⟩⟩
    · show g2 fM_bad = 0
      rw [F.1 fM_bad (by decide)]
      exact h.2.2.1
    · show (r2 fM_kinds).2 = w.1
      rw [F.2 fM_kinds (by decide)]
      exact m1
    · show (r2 fM_values).2 = w.2.1
      rw [F.2 fM_values (by decide)]
      exact m2
    · show (g2 fM_n).toInt = w.2.2
      rw [F.1 fM_n (by decide)]
      exact m3
    · show (g2 fM_at).toInt = q
      rw [F.1 fM_at (by decide)]
      exact h.2.2.2.1
    · show g2 fM_faults = f.1
      rw [F.1 fM_faults (by decide)]
      exact h.2.1
    · show MC (sP c x2 j) (g2 fM_open) (r2 fM_state).2 (r2 fM_unit).2 (r2 fM_function).2 (r2 fM_had).2 (g2 fM_section) (g2 fM_items + 1) x5 (upd (r2 fM_levels).2 j x2)
      rw [F.1 fM_open (by decide), F.1 fM_section (by decide), F.2 fM_state (by decide), F.2 fM_unit (by decide), F.2 fM_function (by decide), F.2 fM_had (by decide), F.2 fM_levels (by decide), e1]
      unfold sP
      rw [if_neg (show ¬ (x2 = 88 ∨ 49 ≤ j) from fun e => e.elim h88 (fun e => absurd e (by omega)))]
      refine ⟨hm.1, hm.2.1, hm.2.2.1, fun e => ?_, fun _ => ⟨?_, ⟨fun _ => Nat.succ_pos _, fun _ => h5⟩, fun t ht => ?_⟩, hm.2.2.2.2.2⟩
      · have e' : 8 ≤ (oT c).toInt ∧ (oT c).toInt ≤ 11 := e
        omega
      · rw [i32_inc (by omega), hy]
        rfl
      · show upd (r fM_levels).2 j x2 t = upd (oL c) j x2 t ∧ (t : Int) + 1 ≤ (upd (oL c) j x2 t).toInt
        have ht' : t < j + 1 := ht
        by_cases ct : t = j
        · subst ct
          rw [upd_eq, upd_eq]
          exact ⟨rfl, h2⟩
        · rw [upd_ne ct, upd_ne ct]
          exact hI.2.2 t (by omega)
theorem it_223 (hM : Mc c f.2.1 f.2.2) (x1 x4 x6 : Int32) {x2 x3 x5 : Int32} {q j : Nat} (hT : 5 ≤ (oT c).toInt) (hT2 : (oT c).toInt ≤ 7) (hP : Pl c x2 x3 j) (h5 : 0 < x5.toInt) (h : Gd w f q g r) (hq : q < w.2.2) : pl (BM_item_223 L xs (m + 1) d k x1 x2 x3 x4 x5 x6 g r) (kZ w f (sP c x2 j, false) (ok (q + 1))) kN := by
  have h1 := h.up hq
  have hm := hM.gd h1
  have hI := hm.2.2.2.2.1 ⟨hT, hT2⟩
  unfold BM_item_223 BM_item_274
  refine pl_pos (by rw [c2_eq]; exact h.2.2.1) ?_
  rcases hP with ⟨hv, rfl, rfl⟩ | ⟨rfl, rfl, hi⟩ | ⟨hv1, hv2, rfl, hj, hj0⟩
  · have n88 : ¬ x2 = 88 := by rcases hv with rfl | rfl <;> decide
    have h2 : (0 : Int) + 1 ≤ x2.toInt := by rcases hv with rfl | rfl <;> decide
    refine pl_pos (by rw [c2_ne]; exact n88) (pl_neg (by decide) (pl_neg (by decide) ?_))
    exact it_300 hM _ _ _ _ _ hT hT2 (Nat.zero_le _) h5 h2 (by decide) n88 h1 rfl
  · refine pl_neg (by decide) ?_
    refine pm_na h1 (fun g2 r2 h2 f2 => ?_)
    have es : sP c 88 j = c := by
      unfold sP
      rw [if_pos (Or.inl rfl)]
    rw [es]
    exact kZ.k0 h2 h2.1.2.1 (hM.gd h2)
  · have n88 : ¬ x2 = 88 := fun e => by rw [e] at hv2; exact absurd hv2 (by decide)
    refine pl_pos (by rw [c2_ne]; exact n88) (pl_pos (by decide) ?_)
    refine pl_v (xM_within x2 (lw := oL c) hI.1 (fun t ht => (hI.2.2 t ht).1)) (fun _ _ _ e => e) (fun v g2 r2 e2 => ?_)
    obtain ⟨v', ev, hvv, rfl, rfl⟩ := e2
    cases ev
    rw [← hj] at hvv
    have hjI : j ≤ oI c := by
      rw [hj]
      exact kpN_le _ _ _
    obtain ⟨t, rfl⟩ : ∃ t, j = t + 1 := ⟨j - 1, by omega⟩
    have hlt := kpN_lt hj.symm
    have hge := (hI.2.2 t (by omega)).2
    refine pl_pos (by decide) (pl_if (fun _ => ?_) (fun _ => trivial))
    refine it_300 hM _ _ _ _ _ hT hT2 hjI h5 (by omega) (by omega) n88 h1 ?_
    rw [i32_inc (by omega), hvv]
    omega
theorem it_78 (hM : Mc c f.2.1 f.2.2) (hw : Wv w) (x1 : Int32) {x2 x3 : Int32} {j : Nat} (hT : 5 ≤ (oT c).toInt) (hT2 : (oT c).toInt ≤ 7) (hP : Pl c x2 x3 j) (h : Gd w f p g r) (hp : p < w.2.2) : pl (BM_item_78 L xs (m + 1) d k x1 x2 x3 g r) (kZ w f (sP c x2 j, false) (rv w 24 (qN w (p + 1)) 0 false)) kN := by
  have h158 : ∀ (x4 : Int32) (q : Nat) (g' : a2_G) (r' : a2_A), Gd w f q g' r' → pl (BM_item_158 L xs (m + 1) d k x1 x2 x3 x4 g' r') (kZ w f (sP c x2 j, false) (rv w 24 q 0 false)) kN := by
    intro x4 q g' r' h'
    unfold BM_item_158
    refine pm_nm h' (fun v g2 r2 hv h2 f2 => ?_)
    refine it_1 (g0 := g2) (r0 := r2) (it_l (fun k q x6 g3 r3 h3 e3 _ => ?_) (fun k b x6 g3 r3 h3 => ?_) k) h2 Fm.rf
    · exact it_223 hM _ _ _ hT hT2 hP hv h3 (wk_iff.mp e3).1
    · unfold BM_item_223
      exact pl_neg (by rw [c2_eq, h3.2.2.1]; decide) (kZ.n0 h3)
  have h1 := h.up hp
  unfold BM_item_78
  have ea : (g fM_at + 1).toInt = ((p + 1 : Nat) : Int) := h.add
  unfold qN
  refine pl_u (xM_isKind L xs 1 h1.1.mrd ea) (fun e => pl_neg (by decide) ?_) (fun e => pl_pos (by decide) ?_)
  · refine pl_if (fun _ => ?_) (fun _ => trivial)
    rw [e, if_pos rfl]
    have hk := wk_iff.mp e
    have hb := hw (p + 1) hk.1 hk.2
    rw [h1.nat, h1.1.mrd.2.1]
    unfold BM_item_115
    refine pl_neg (by rw [c2_le, i32_inc (by omega), i32_0]; omega) ?_
    exact h158 _ _ _ _ (h1.up hk.1)
  · rw [e, if_neg (show ¬ false = true by decide)]
    unfold BM_item_115
    refine pl_pos (by decide) ?_
    refine pl_u (xM_isWord L xs 18 h1.1.mrd h1.2.2.2.1) (fun e2 => pl_neg (by decide) ?_) (fun e2 => pl_pos (by decide) ?_)
    · rw [e2]
      exact h158 _ _ _ _ (h1.up (ww_iff.mp e2).1)
    · rw [e2]
      exact h158 _ _ _ _ h1
theorem xM_item (hM : Mc c f.2.1 f.2.2) (hw : Wv w) (hT : 5 ≤ (oT c).toInt) (hT2 : (oT c).toInt ≤ 7) (h : Gd w f p g r) (hp : p < w.2.2) : pl (ev L xs (m + 1) d nM_item [.ref cM] g r) (kZ w f (zIt w c p).2 (zIt w c p).1) kN := by
  cases d with
  | zero => trivial
  | succ d =>
    have hm := hM.gd h
    have hI := hm.2.2.2.2.1 ⟨hT, hT2⟩
    rw [qM_item, h.nat, h.1.mrd.2.1]
    unfold zIt
    generalize hv : w.2.1 p = v
    have go : ∀ (x3 : Int32) (j : Nat), Pl c v x3 j → oP c v = some j → pl (BM_item_78 L xs (m + 1) d m (g fM_at) v x3 g r) (kZ w f (zI w c p (oP c v)).2 (zI w c p (oP c v)).1) kN := by
      intro x3 j hP ho
      rw [ho]
      show pl _ (kZ w f (sP c (w.2.1 p) j, false) (rv w 24 (qN w (p + 1)) 0 false)) kN
      rw [hv]
      exact it_78 hM hw _ hT hT2 hP h hp
    have bad : ∀ x3 : Int32, oP c v = none → pl (BM_item_67 L xs (m + 1) d m (g fM_at) v x3 g r) (kZ w f (zI w c p (oP c v)).2 (zI w c p (oP c v)).1) kN := by
      intro x3 ho
      rw [ho]
      unfold BM_item_67
      exact pm_fa h h.2.2.2.1 h.2.2.2.2 (fun g2 r2 h2 f2 => kZ.n0 h2)
    have b49 : ¬ (v = 1 ∨ v = 77) → (v = 88 → oI c = 0) → pl (BM_item_49 L xs (m + 1) d m (g fM_at) v 0 g r) (kZ w f (zI w c p (oP c v)).2 (zI w c p (oP c v)).1) kN := by
      intro n1 n88
      unfold BM_item_49
      refine pl_u xM_in (fun e => pl_neg (by decide) ?_) (fun e => pl_pos (by decide) ?_)
      · rw [Bool.and_eq_true, decide_eq_true_eq, decide_eq_true_eq] at e
        have e' : 2 ≤ v.toInt ∧ v.toInt ≤ 49 := e
        have h88 : ¬ v = 88 := fun e => by rw [e] at e'; exact absurd e'.2 (by decide)
        refine pl_v (xM_within v (lw := oL c) hI.1 (fun t ht => (hI.2.2 t ht).1)) (fun _ _ _ e => e) (fun u g2 r2 e2 => ?_)
        obtain ⟨u', eu, huv, rfl, rfl⟩ := e2
        cases eu
        have eo : oP c v = if kpN (oL c) v (oI c) = 0 then none else some (kpN (oL c) v (oI c)) := by
          unfold oP
          rw [if_neg n1, if_neg h88, if_pos ⟨by omega, e'.2⟩]
        refine pl_ih (fun e3 => ?_) (fun e3 => ?_)
        · rw [i32_0] at e3
          have hk : ¬ kpN (oL c) v (oI c) = 0 := by omega
          refine go 0 (kpN (oL c) v (oI c)) (Or.inr (Or.inr ⟨e'.1, e'.2, rfl, rfl, by omega⟩)) ?_
          rw [eo, if_neg hk]
        · rw [i32_0] at e3
          refine bad 0 ?_
          rw [eo, if_pos (by omega)]
      · rw [Bool.and_eq_false_iff, decide_eq_false_iff_not, decide_eq_false_iff_not] at e
        have e' : ¬ 2 ≤ v.toInt ∨ ¬ v.toInt ≤ 49 := e
        refine bad 0 ?_
        unfold oP
        rw [if_neg n1]
        by_cases c88 : v = 88
        · rw [if_pos c88, if_pos (n88 c88)]
        · have n1' : v.toInt ≠ 1 := fun e => n1 (Or.inl (i32e (e.trans rfl)))
          rw [if_neg c88, if_neg (by omega)]
    unfold BM_item_26 BM_item_31
    have eT : (v = 1 ∨ v = 77) → oP c v = some 0 := by
      intro e
      unfold oP
      rw [if_pos e]
    refine pl_if (fun _ => ?_) (fun _ => trivial)
    refine pl_iq (fun e1 => pl_pos (by decide) (go 1 0 (Or.inl ⟨Or.inl e1, rfl, rfl⟩) (eT (Or.inl e1)))) (fun e1 => ?_)
    refine pl_in (fun e77 => ?_) (fun e77 => ?_)
    · have n1 : ¬ (v = 1 ∨ v = 77) := fun e => e.elim e1 e77
      refine pl_neg (by decide) ?_
      refine pl_in (fun e88 => b49 n1 (fun e => absurd e e88)) (fun e88 => ?_)
      rw [Decidable.not_not] at e88
      refine pl_ig (fun el => ?_) (fun el => ?_)
      · rw [i32_0] at el
        have hi := hI.2.1.mp el
        refine go 0 (oI c) (Or.inr (Or.inl ⟨e88, rfl, hi⟩)) ?_
        unfold oP
        rw [if_neg n1, if_pos e88, if_neg (by omega)]
      · rw [i32_0] at el
        refine b49 n1 (fun _ => ?_)
        have : ¬ 0 < oI c := fun e => el (hI.2.1.mpr e)
        omega
    · rw [Decidable.not_not] at e77
      exact pl_pos (by decide) (go 1 0 (Or.inl ⟨Or.inr e77, rfl, rfl⟩) (eT (Or.inr e77)))
end
