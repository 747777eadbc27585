/-! The model's factors and what follows them. -/
/-- rows as long as they were -/
def Ln (r r' : a2_A) : Prop := ∀ k, (r' k).1 = (r k).1
theorem Ln.rf {r : a2_A} : Ln r r := fun _ => rfl
theorem Ln.ua {r r' : a2_A} (h : Ln r r') {j : Nat} {n : Nat} {y : Nat → Int32} (hn : n = (r j).1) : Ln r (a2_ua r' j (n, y)) := fun k => by
  unfold a2_ua
  by_cases c : k = j
  · rw [if_pos c, c]
    exact hn
  · rw [if_neg c]
    exact h k
theorem ML.ln {r r' : a2_A} (h : ML r) (hl : Ln r r') : ML r' := fun e he => (hl e.1).trans (h e he)
theorem Gd.ln {w : Ws} {f : Gh} {p : Nat} {g : a2_G} {r r' : a2_A} (h : Gd w f p g r) (hl : Ln r r') (hF : Fm [] WSa g r g r') : Gd w f p g r' := ⟨⟨h.1.1, h.1.2.1.ln hl, h.1.2.2.1.trans (hF.sub (fun _ e => nomatch e) (fun _ e => e)), h.1.2.2.2⟩, h.2⟩
section
variable {L : Nat} {xs : Nat → Int32} {m d k : Nat} {w : Ws} {f : Gh} {lb : Nat} {g0 : a2_G} {r0 : a2_A}
theorem xA_joint {g : a2_G} {r : a2_A} (hL : ML r) : pl (ev L xs (m + 1) d nM_joint [.ref cM] g r) (fun o g' r' => o = none ∧ (0 ≤ (g fM_joints).toInt ∧ (g fM_joints).toInt < 64) ∧ g' = upd (upd g fM_joints (g fM_joints + 1)) fM_subject 0 ∧ r' = a2_ua (a2_ua r fM_andMany ((r fM_andMany).1, (upd (r fM_andMany).2 (g fM_joints).toNatClampNeg 0))) fM_orMany ((r fM_orMany).1, (upd (r fM_orMany).2 (g fM_joints).toNatClampNeg 0))) kN := by
  cases d with
  | zero => trivial
  | succ d =>
    rw [qM_joint]
    refine pl_if (fun c => pl_if (fun _ => ?_) (fun _ => trivial)) (fun _ => trivial)
    rw [inr_eq, hL.at 35] at c
    exact ⟨rfl, c, rfl, rfl⟩
theorem Jx.ps {g : a2_G} {r : a2_A} (h : Jx g r) (hb : 0 ≤ (g fM_joints).toInt ∧ (g fM_joints).toInt < 64) : Jx (upd (upd g fM_joints (g fM_joints + 1)) fM_subject 0) (a2_ua (a2_ua r fM_andMany ((r fM_andMany).1, (upd (r fM_andMany).2 (g fM_joints).toNatClampNeg 0))) fM_orMany ((r fM_orMany).1, (upd (r fM_orMany).2 (g fM_joints).toNatClampNeg 0))) := by
  show JF (g fM_joints + 1).toInt (upd (r fM_andMany).2 (g fM_joints).toNatClampNeg 0) (r fM_andFirst).2 (upd (r fM_orMany).2 (g fM_joints).toNatClampNeg 0) (r fM_orFirst).2
  rw [i32_inc (by omega), nc_eq]
  have e : (g fM_joints).toInt = (((g fM_joints).toInt.toNat : Nat) : Int) := by omega
  have h' : JF (((g fM_joints).toInt.toNat : Nat) : Int) (r fM_andMany).2 (r fM_andFirst).2 (r fM_orMany).2 (r fM_orFirst).2 := by
    rw [← e]
    exact h
  have h2 := h'.ps
  rw [← e] at h2
  exact h2
/-- what factor leaves: read, or deeper, or bad -/
def kFa (w : Ws) (f : Gh) (lb : Nat) (g0 : a2_G) (r0 : a2_A) (A : Option RR) : Option Value → a2_G → a2_A → Prop := fun o g r => ∃ v : Int32, o = some (.int v) ∧ Fc g0 r0 g r ∧
  ((0 < v.toInt ∧ ∃ c q s, Gd w f q g r ∧ Dx lb c g r ∧ Sj s g ∧ A = cd w lb (r fM_mark).2 c q s) ∨
   (v = 0 ∧ ∃ c q s, Gd w f q g r ∧ Dx lb c g r ∧ Sj s g ∧ A = bd (rv w 9 q (lb + c) s) fun q s => cd w lb (r fM_mark).2 c q s) ∨
   (∃ b, A = no b ∧ Bd w f b g r))
theorem xM_deeper (a : Int32) {c p : Nat} {g : a2_G} {r : a2_A} (h : Gd w f p g r) (hp : p < w.2.2) (hD : Dx lb c g r) : pl (ev L xs (m + 1) d nM_deeper [.ref cM, .int a] g r) (fun o g' r' => o = none ∧ ((lb + c < 40 ∧ g' = upd (upd (upd g fM_level (g fM_level + 1)) fM_marks (g fM_marks + 1)) fM_at (g fM_at + 1) ∧ r' = a2_ua r fM_mark ((r fM_mark).1, (upd (r fM_mark).2 c a)) ∧ Gd w f (p + 1) g' r' ∧ Dx lb (c + 1) g' r') ∨ (40 ≤ lb + c ∧ Bd w f p g' r' ∧ Fe g r g' r'))) kN := by
  cases d with
  | zero => trivial
  | succ d =>
    obtain ⟨d1, d2, d3, d4⟩ := hD
    rw [qM_deeper]
    refine pl_in (fun c4 => ?_) (fun c4 => ?_)
    · have hl : lb + c < 40 := by
        have n1 : (g fM_level).toInt ≠ 40 := fun e => c4 (i32e (e.trans rfl))
        omega
      refine pl_if (fun ci => ?_) (fun _ => trivial)
      rw [inr_eq, h.1.2.1.at 32] at ci
      have en : (g fM_marks).toNatClampNeg = c := by rw [nc_eq, d1]; rfl
      rw [en]
      refine ⟨rfl, Or.inl ⟨hl, rfl, rfl, ?_, ?_, ?_, by omega, d4⟩⟩
      · exact (((h.ug (by decide)).ug (by decide)).up hp).ua (by decide) (by rfl)
      · show (g fM_marks + 1).toInt = _
        rw [i32_inc (by omega), d1]
        rfl
      · show (g fM_level + 1).toInt = _
        rw [i32_inc (by omega), d2]
        omega
    · rw [Decidable.not_not] at c4
      rw [c4] at d2
      have d2' : (40 : Int) = ((lb + c : Nat) : Int) := d2
      refine pm_fa h h.2.2.2.1 h.2.2.2.2 (fun g1 r1 h1 f1 => ?_)
      exact ⟨rfl, Or.inr ⟨by omega, h1, f1⟩⟩
theorem wm_wo {p : Nat} (h : wm w p = true) : wo w p = false := by
  refine Bool.eq_false_iff.mpr (fun e => ?_)
  have hk := (wo_iff.mp e).2
  have h05 : w.1 p = 0 ∨ w.1 p = 5 := by
    unfold wm at h
    rw [Bool.or_eq_true, Bool.or_eq_true, Bool.and_eq_true] at h
    rcases h with (h | h) | h
    · exact Or.inl (ww_iff.mp h).2.1
    · rcases (wc_iff.mp h).2 with h | h
      · exact Or.inr h.1
      · exact Or.inl h.1
    · exact Or.inl (ww_iff.mp h.1).2.1
  rcases h05 with e0 | e0 <;> rw [e0] at hk <;> exact absurd hk (by decide)
theorem wk1_wo {p : Nat} (h : wk w p 1 = true) : wo w p = true := by
  unfold wo
  rw [h]
  rfl
theorem Dx.cm {lb c : Nat} {g g' : a2_G} {r r' : a2_A} (h : Dx lb c g r) (hF : Fm (fM_compared :: WE) WEa g r g' r') : Dx lb c g' r' := by
  unfold Dx Jx
  rw [hF.1 fM_marks (by decide), hF.1 fM_level (by decide), hF.1 fM_joints (by decide), hF.2 fM_andMany (by decide), hF.2 fM_andFirst (by decide), hF.2 fM_orMany (by decide), hF.2 fM_orFirst (by decide)]
  exact h
theorem ropd_sub {q q' : Nat} {s : Bool} (h : ropd w q = .inl (q', s)) : s = true := by
  unfold ropd at h
  split at h
  · cases h
    rfl
  · cases h
theorem rcmp_sub {q q' : Nat} {s : Bool} (h : rcmp w q = .inl (q', s)) : s = true := by
  unfold rcmp rcmp1 rcmp2 at h
  repeat' split at h
  all_goals first
    | exact ropd_sub h
    | cases h
/-- behind a comparison -/
theorem fa_cmp {c q : Nat} {s : Bool} {g g1 g2 : a2_G} {r r1 r2 : a2_A} {A : Option RR} {v : Int32} (hv : 0 < v.toInt) (hS : 0 < (g1 fM_subject).toInt) (hD : Dx lb c g1 r1) (hF : Fc g0 r0 g1 r1) (hA : A = bd (some (rcmp w q)) fun q s => cd w lb (r1 fM_mark).2 c q s) (h2 : sM w f (some (rcmp w q)) g2 r2) (f2 : Fm (fM_compared :: WE) WEa g1 r1 g2 r2) : kFa w f lb g0 r0 A (some (.int v)) g2 r2 := by
  refine ⟨v, rfl, hF.trans (f2.sub (by decide) (by decide)), ?_⟩
  cases hr : rcmp w q with
  | inl qs =>
    obtain ⟨q', s'⟩ := qs
    rw [hr] at hA h2
    have hs := rcmp_sub hr
    refine Or.inl ⟨hv, c, q', s', h2, hD.cm f2, ?_, ?_⟩
    · unfold Sj
      rw [if_pos hs, f2.1 fM_subject (by decide)]
      exact hS
    · rw [f2.2 fM_mark (by decide)]
      exact hA
  | inr b =>
    rw [hr] at hA h2
    exact Or.inr (Or.inr ⟨b, hA, h2⟩)
theorem fa_36 {c p : Nat} {s : Bool} {g : a2_G} {r : a2_A} (h : Gd w f p g r) (hD : Dx lb c g r) (hS : Sj s g) (hF : Fc g0 r0 g r) (h0 : (ww w p 64 && !wc w (p + 1)) = false) : pl (BM_factor_36 L xs (m + 1) d k g r) (kFa w f lb g0 r0 (bd (rv w 9 p (lb + c) s) fun q s => cd w lb (r fM_mark).2 c q s)) kN := by
  have h0' : ¬ (ww w p 64 && !wc w (p + 1)) = true := by rw [h0]; decide
  unfold BM_factor_36
  refine pl_u (xM_isSign L xs 0 h.1.mrd h.2.2.2.1) (fun e => pl_neg (by decide) ?_) (fun e => pl_pos (by decide) ?_)
  · have hp := (wg_iff.mp e).1
    refine pl_n (xM_deeper (-1) h hp hD) (fun _ _ _ e => e) (fun g1 r1 e1 => ?_)
    rcases e1.2 with ⟨hl, rfl, rfl, h1, hD1⟩ | ⟨hl, h1, f1⟩
    · rw [rv9_par (K' := upd (r fM_mark).2 c (-1)) h0 e (by omega) (fun i hi => upd_ne (by omega)) upd_eq]
      refine pl_n (xA_joint h1.1.2.1) (fun _ _ _ e => e) (fun g2 r2 e2 => ?_)
      obtain ⟨-, hb, rfl, rfl⟩ := e2
      refine ⟨0, rfl, ?_, Or.inr (Or.inl ⟨rfl, c + 1, p + 1, false, ?_, ⟨hD1.1, hD1.2.1, hD1.2.2.1, hD1.2.2.2.ps hb⟩, rfl, rfl⟩)⟩
      · exact (((((((hF.up (by decide)).up (by decide)).up (by decide)).ua (by decide)).up (by decide)).up (by decide)).ua (by decide)).ua (by decide)
      · exact (((h1.ug (by decide)).ug (by decide)).ua (by decide) (by rfl)).ua (by decide) (by rfl)
    · rw [rv_t9, if_neg h0', if_pos e, if_pos hl, bd_no]
      refine pl_n (xA_joint h1.1.2.1) (fun _ _ _ e => e) (fun g2 r2 e2 => ?_)
      obtain ⟨-, hb, rfl, rfl⟩ := e2
      refine ⟨0, rfl, ?_, Or.inr (Or.inr ⟨p, rfl, ?_⟩)⟩
      · exact ((((hF.trans f1.c).up (by decide)).up (by decide)).ua (by decide)).ua (by decide)
      · exact (((h1.ug (by decide)).ug (by decide)).ua (by decide) (by rfl)).ua (by decide) (by rfl)
  · have e' : ¬ wg w p 0 = true := by rw [e]; decide
    rw [rv_t9, if_neg h0', if_neg e']
    refine pl_u (xM_isBehind h) (fun eb => pl_neg (by decide) ?_) (fun eb => pl_pos (by decide) ?_)
    · have ho := wm_wo eb
      have hn : ¬ (wo w p && wm w (p + 1)) = true := by
        rw [ho, Bool.false_and]
        decide
      have hno : ¬ wo w p = true := by
        rw [ho]
        decide
      have hk1 : ¬ wk w p 1 = true := fun e => hno (wk1_wo e)
      cases s with
      | true =>
        have hrel : rel w p true = rcmp w p := by
          unfold rel
          rw [if_neg hn, if_pos rfl, if_pos eb]
        rw [hrel]
        have hS' : 0 < (g fM_subject).toInt := hS
        refine pl_pos (by rw [c2_ne]; exact fun e => by rw [e] at hS'; exact absurd hS' (by decide)) ?_
        refine pm_nm h (fun v g1 r1 hv h1 f1 => ?_)
        refine pl_if (fun _ => ?_) (fun _ => trivial)
        have h2 : Gd w f p g1 (a2_ua r1 fM_extra ((r1 fM_extra).1, (upd (r1 fM_extra).2 v.toNatClampNeg (g1 fM_subject)))) := h1.ua (by decide) (by rfl)
        have f2 : Fe g r g1 (a2_ua r1 fM_extra ((r1 fM_extra).1, (upd (r1 fM_extra).2 v.toNatClampNeg (g1 fM_subject)))) := f1.ua (by decide)
        generalize (a2_ua r1 fM_extra ((r1 fM_extra).1, (upd (r1 fM_extra).2 v.toNatClampNeg (g1 fM_subject)))) = r2 at h2 f2
        refine pl_n (xM_compare v h2) (fun _ _ _ e => e) (fun g3 r3 e3 => ?_)
        refine fa_cmp (q := p) (g := g) (r := r) (s := true) hv ?_ (hD.e f2) (hF.trans f2.c) ?_ e3.2.1 e3.2.2
        · rw [f2.1 fM_subject (by decide)]
          exact hS'
        · rw [f2.2 fM_mark (by decide)]
      | false =>
        have hrel : rel w p false = .inr p := by
          unfold rel
          rw [if_neg hn, if_neg (show ¬ false = true by decide), if_neg hk1, if_neg hno]
        rw [hrel]
        have hS' : g fM_subject = 0 := hS
        refine pl_neg (by rw [c2_ne]; exact fun e => e hS') ?_
        refine pm_fa h h.2.2.2.1 h.2.2.2.2 (fun g1 r1 h1 f1 => ?_)
        exact ⟨0, rfl, hF.trans f1.c, Or.inr (Or.inr ⟨p, rfl, h1⟩)⟩
    · refine pl_v (xM_operand h) (fun _ _ _ e => e) (fun v g1 r1 e1 => ?_)
      obtain ⟨⟨v', ev, hv⟩, e2, f1⟩ := e1
      cases ev
      by_cases ho : wo w p = true
      · rw [if_pos ho] at e2
        have hv' := hv ho
        have hp := (wo_iff.mp ho).1
        refine pl_pos (by rw [c2_eq]; exact e2.2.2.1) ?_
        refine pl_u (xM_isBehind e2) (fun eb2 => pl_neg (by decide) ?_) (fun eb2 => pl_pos (by decide) ?_)
        · have hrel : rel w p s = rcmp w (p + 1) := by
            unfold rel
            rw [if_pos (by rw [ho, eb2]; decide)]
          rw [hrel]
          refine pl_if (fun _ => ?_) (fun _ => trivial)
          refine pm_nm e2 (fun v2 g2 r2 hv2 h2 f2 => ?_)
          refine pm_na h2 (fun g3 r3 h3 f3 => ?_)
          refine pl_if (fun _ => ?_) (fun _ => trivial)
          have h4 : Gd w f (p + 1) (upd g3 fM_subject v) (a2_ua r3 fM_extra ((r3 fM_extra).1, (upd (r3 fM_extra).2 v2.toNatClampNeg v))) := (h3.ug (by decide)).ua (by decide) (by rfl)
          have f4 : Fm (fM_subject :: WE) WEa g r (upd g3 fM_subject v) (a2_ua r3 fM_extra ((r3 fM_extra).1, (upd (r3 fM_extra).2 v2.toNatClampNeg v))) := ((((f1.trans f2).trans f3).sub (fun k hk => List.mem_cons_of_mem _ hk) (fun _ e => e)).up (by decide)).ua (by decide)
          have hs4 : (upd g3 fM_subject v) fM_subject = v := upd_eq
          generalize (upd g3 fM_subject v) = g4 at h4 f4 hs4
          generalize (a2_ua r3 fM_extra ((r3 fM_extra).1, (upd (r3 fM_extra).2 v2.toNatClampNeg v))) = r4 at h4 f4
          have hD4 : Dx lb c g4 r4 := by
            unfold Dx Jx
            rw [f4.1 fM_marks (by decide), f4.1 fM_level (by decide), f4.1 fM_joints (by decide), f4.2 fM_andMany (by decide), f4.2 fM_andFirst (by decide), f4.2 fM_orMany (by decide), f4.2 fM_orFirst (by decide)]
            exact hD
          refine pl_n (xM_compare v2 h4) (fun _ _ _ e => e) (fun g5 r5 e5 => ?_)
          refine fa_cmp (q := p + 1) (g := g) (r := r) (s := true) hv2 ?_ hD4 (hF.trans (f4.sub (by decide) (by decide))) ?_ e5.2.1 e5.2.2
          · rw [hs4]
            exact hv'
          · rw [f4.2 fM_mark (by decide)]
        · have hn : ¬ (wo w p && wm w (p + 1)) = true := by
            rw [eb2, Bool.and_false]
            decide
          cases s with
          | true =>
            have hrel : rel w p true = .inl (p + 1, true) := by
              unfold rel ropd
              rw [if_neg hn, if_pos rfl, if_neg (show ¬ wm w p = true by rw [eb]; decide), if_pos ho]
            rw [hrel, bd_so]
            have hS' : 0 < (g1 fM_subject).toInt := by
              rw [f1.1 fM_subject (by decide)]
              exact hS
            refine pl_neg (by rw [c2_le, i32_0]; omega) (pl_if (fun _ => ?_) (fun _ => trivial))
            refine pm_nm e2 (fun v2 g2 r2 hv2 h2 f2 => ?_)
            refine pl_if (fun _ => ?_) (fun _ => trivial)
            have h3 : Gd w f (p + 1) g2 (a2_ua r2 fM_extra ((r2 fM_extra).1, (upd (r2 fM_extra).2 v2.toNatClampNeg (g2 fM_subject)))) := h2.ua (by decide) (by rfl)
            refine pm_na h3 (fun g3 r3 h4 f4 => ?_)
            have fA : Fe g r g3 r3 := ((f1.trans f2).ua (by decide)).trans f4
            refine ⟨v2, rfl, hF.trans fA.c, Or.inl ⟨hv2, c, p + 1, true, h4, hD.e fA, hS.e fA, ?_⟩⟩
            rw [fA.2 fM_mark (by decide)]
          | false =>
            have hrel : rel w p false = if wk w p 1 then .inl (p + 1, false) else .inr (p + 1) := by
              unfold rel
              rw [if_neg hn, if_neg (show ¬ false = true by decide), if_pos ho]
            rw [hrel]
            have hS' : g1 fM_subject = 0 := by
              rw [f1.1 fM_subject (by decide)]
              exact hS
            refine pl_pos (by rw [c2_le, hS']; decide) ?_
            have e1' : (g1 fM_at - 1).toInt = p := by
              have := e2.2.2.2.1
              rw [i32_dec (by omega), this]
              omega
            refine pl_u (xM_isKind L xs 1 e2.1.mrd e1') (fun e3 => pl_pos (by decide) ?_) (fun e3 => pl_neg (by decide) ?_)
            · refine pl_if (fun _ => ?_) (fun _ => trivial)
              refine pb_t xA_passed (fun v3 => ?_)
              refine pl_if (fun _ => ?_) (fun _ => trivial)
              have fA : Fe g r g1 (a2_ua (a2_ua r1 fM_kind ((r1 fM_kind).1, (upd (r1 fM_kind).2 v.toNatClampNeg 54))) fM_value ((r1 fM_value).1, (upd (r1 fM_value).2 v.toNatClampNeg v3))) := (f1.ua (by decide)).ua (by decide)
              refine ⟨v, rfl, hF.trans fA.c, Or.inl ⟨hv', c, p + 1, false, (e2.ua (by decide) (by rfl)).ua (by decide) (by rfl), hD.e fA, hS.e fA, ?_⟩⟩
              rw [e3, if_pos rfl, bd_so]
              exact congrArg (fun K => cd w lb K c (p + 1) false) (congrArg Prod.snd (fA.2 fM_mark (by decide))).symm
            · refine pm_fa e2 e2.2.2.2.1 e2.2.2.2.2 (fun g2 r2 h2 f2 => ?_)
              rw [e3, if_neg (show ¬ false = true by decide)]
              exact ⟨0, rfl, hF.trans (f1.trans f2).c, Or.inr (Or.inr ⟨p + 1, rfl, h2⟩)⟩
      · rw [if_neg ho] at e2
        refine pl_neg (by rw [c2_eq, e2.2.2.1]; decide) ?_
        have hno : wo w p = false := Bool.eq_false_iff.mpr ho
        have hk1 : wk w p 1 = false := Bool.eq_false_iff.mpr (fun e => ho (wk1_wo e))
        have hn : ¬ (wo w p && wm w (p + 1)) = true := by
          rw [hno, Bool.false_and]
          decide
        have hrel : rel w p s = .inr p := by
          unfold rel ropd
          rw [if_neg hn]
          cases s with
          | true => rw [if_pos rfl, if_neg (show ¬ wm w p = true by rw [eb]; decide), if_neg ho]
          | false => rw [if_neg (show ¬ false = true by decide), if_neg (show ¬ wk w p 1 = true by rw [hk1]; decide), if_neg ho]
        rw [hrel]
        exact ⟨0, rfl, hF.trans f1.c, Or.inr (Or.inr ⟨p, rfl, e2⟩)⟩
theorem xM_factor {c p : Nat} {s : Bool} {g : a2_G} {r : a2_A} (h : Gd w f p g r) (hD : Dx lb c g r) (hS : Sj s g) (hF : Fc g0 r0 g r) : pl (ev L xs (m + 1) d nM_factor [.ref cM] g r) (kFa w f lb g0 r0 (bd (rv w 9 p (lb + c) s) fun q s => cd w lb (r fM_mark).2 c q s)) kN := by
  cases d with
  | zero => trivial
  | succ d =>
    rw [qM_factor]
    refine pl_u (xM_isWord L xs 64 h.1.mrd h.2.2.2.1) (fun e => pl_neg (by decide) ?_) (fun e => pl_pos (by decide) (fa_36 h hD hS hF (by rw [e]; rfl)))
    refine pl_u (xM_isComparing h.1.mrd h.add) (fun e2 => pl_pos (by decide) (fa_36 h hD hS hF (by rw [e, e2]; rfl))) (fun e2 => pl_neg (by decide) ?_)
    have h0 : (ww w p 64 && !wc w (p + 1)) = true := by rw [e, e2]; rfl
    refine pl_n (xM_deeper (g fM_at) h (ww_iff.mp e).1 hD) (fun _ _ _ e => e) (fun g1 r1 e1 => ?_)
    rcases e1.2 with ⟨hl, rfl, rfl, h1, hD1⟩ | ⟨hl, h1, f1⟩
    · rw [rv9_not (K' := upd (r fM_mark).2 c (g fM_at)) h0 (by omega) (fun i hi => upd_ne (by omega)) (by
        rw [upd_eq]
        intro e
        have := h.2.2.2.1
        rw [e] at this
        have : (-1 : Int) = (p : Int) := this
        omega)]
      refine ⟨0, rfl, ?_, Or.inr (Or.inl ⟨rfl, c + 1, p + 1, s, h1, hD1, hS, rfl⟩)⟩
      exact (((hF.up (by decide)).up (by decide)).up (by decide)).ua (by decide)
    · rw [rv_t9, if_pos h0, if_pos hl, bd_no]
      exact ⟨0, rfl, hF.trans f1.c, Or.inr (Or.inr ⟨p, rfl, h1⟩)⟩
/-- the conjunction at hand closed -/
theorem xM_closeAnds {p : Nat} {g : a2_G} {r : a2_A} (h : Gd w f p g r) (hJ : Jx g r) (ha : 0 < ((r fM_andFirst).2 (g fM_joints - 1).toNatClampNeg).toInt) (hj : 0 ≤ (g fM_joints - 1).toInt → (((g fM_joints - 1).toNatClampNeg : Nat) : Int) < (g fM_joints).toInt) : pl (ev L xs (m + 1) d nM_closeAnds [.ref cM] g r) (fun o g' r' => o = none ∧ Gd w f p g' r' ∧ Fm [fM_nodes] (fM_andMany :: fM_orFirst :: fM_orLast :: fM_orMany :: WEa) g r g' r' ∧ Jx g' r' ∧ 0 < ((r' fM_orFirst).2 (g fM_joints - 1).toNatClampNeg).toInt) kN := by
  cases d with
  | zero => trivial
  | succ d =>
    rw [qM_closeAnds]
    refine pl_if (fun cj => pl_if (fun _ => pl_if (fun _ => ?_) (fun _ => trivial)) (fun _ => trivial)) (fun _ => trivial)
    rw [inr_eq] at cj
    have hj' := hj cj.1
    generalize g fM_joints - 1 = y at ha hj' cj
    refine pl_v (xA_whole 51 _ _ h.1 ha) (fun _ _ _ e => e) (fun v g1 r1 e => ?_)
    obtain ⟨⟨v', ev, hv⟩, e2, f1⟩ := e
    cases ev
    have h1 : Gd w f p g1 r1 := h.fr e2 f1
    have hJ1 : Jx g1 r1 := by
      unfold Jx
      rw [f1.1 fM_joints (by decide), f1.2 fM_andMany (by decide), f1.2 fM_andFirst (by decide), f1.2 fM_orMany (by decide), f1.2 fM_orFirst (by decide)]
      exact hJ
    have hj1 : ((y.toNatClampNeg : Nat) : Int) < (g1 fM_joints).toInt := by
      rw [f1.1 fM_joints (by decide)]
      exact hj'
    have f1' : Fm [fM_nodes] (fM_andMany :: fM_orFirst :: fM_orLast :: fM_orMany :: WEa) g r g1 r1 := f1.sub (fun _ e => e) (by decide)
    refine pl_if (fun _ => pl_if (fun _ => pl_if (fun _ => ?_) (fun _ => trivial)) (fun _ => trivial)) (fun _ => trivial)
    unfold BM_closeAnds_77
    refine pl_in (fun co => ?_) (fun co => ?_)
    · refine pl_if (fun _ => pl_if (fun _ => pl_if (fun _ => pl_if (fun _ => pl_if (fun _ => ?_) (fun _ => trivial)) (fun _ => trivial)) (fun _ => trivial)) (fun _ => trivial)) (fun _ => trivial)
      have ho := (hJ1 _ hj1).2 co
      refine ⟨rfl, ?_, ?_, ?_, ho⟩
      · exact h1.ln (((((Ln.rf.ua rfl).ua rfl).ua rfl).ua rfl).ua rfl) (((((Fm.rf.ua (by decide)).ua (by decide)).ua (by decide)).ua (by decide)).ua (by decide))
      · exact ((((f1'.ua (by decide)).ua (by decide)).ua (by decide)).ua (by decide)).ua (by decide)
      · exact JF.om (JF.am hJ1 (Or.inl rfl)) (Or.inr ho)
    · refine pl_if (fun _ => pl_if (fun _ => pl_if (fun _ => pl_if (fun _ => ?_) (fun _ => trivial)) (fun _ => trivial)) (fun _ => trivial)) (fun _ => trivial)
      have ho : 0 < (upd (r1 fM_orFirst).2 y.toNatClampNeg v y.toNatClampNeg).toInt := by
        rw [upd_eq]
        exact hv
      refine ⟨rfl, ?_, ?_, ?_, ho⟩
      · exact h1.ln (((((Ln.rf.ua rfl).ua rfl).ua rfl).ua rfl).ua rfl) (((((Fm.rf.ua (by decide)).ua (by decide)).ua (by decide)).ua (by decide)).ua (by decide))
      · exact ((((f1'.ua (by decide)).ua (by decide)).ua (by decide)).ua (by decide)).ua (by decide)
      · exact JF.om (JF.of (JF.am hJ1 (Or.inl rfl)) hv) (Or.inr ho)
def BFL (L : Nat) (xs : Nat → Int32) (m d k : Nat) (w : Ws) (f : Gh) (lb : Nat) (g0 : a2_G) (r0 : a2_A) : Prop := ∀ (x1 x2 x3 : Int32) (x4 : Option Value) (c q : Nat) (s : Bool) (g : a2_G) (r : a2_A), (x4 = none ∨ ∃ y : Int32, x4 = some (.int y)) → Gd w f q g r → Dx lb c g r → Sj s g → Fc g0 r0 g r → 0 < x2.toInt → pl (lp L xs nM_behindFactor nm_m206 (m + 1) d k 2 [some (.ref cM), some (.int x1), some (.int x2), some (.int x3), x4] g r) (kF w f lb g0 r0 (cd w lb (r fM_mark).2 c q s)) kN
theorem bf_117 (H : BFL L xs m d k w f lb g0 r0) (x1 x2 x3 x4 : Int32) {c q : Nat} {s : Bool} {g : a2_G} {r : a2_A} (h : Gd w f q g r) (hD : Dx lb c g r) (hS : Sj s g) (hF : Fc g0 r0 g r) (h3 : x3 = g fM_joints - 1) (ha : 0 < ((r fM_andFirst).2 x3.toNatClampNeg).toInt) (ht : tp (r fM_mark).2 c) : pl (BM_behindFactor_117_1 L xs (m + 1) d k x1 x2 x3 x4 g r) (kF w f lb g0 r0 (cd w lb (r fM_mark).2 c q s)) kN := by
  unfold BM_behindFactor_117_1
  refine pl_if (fun cj => pl_if (fun _ => pl_if (fun _ => ?_) (fun _ => trivial)) (fun _ => trivial)) (fun _ => trivial)
  rw [inr_eq, h.1.2.1.at 34] at cj
  have hjo : (g fM_joints - 1).toInt = (g fM_joints).toInt - 1 := by
    rw [h3] at cj
    have := i32_lo (g fM_joints)
    by_cases e : (g fM_joints).toInt = -2147483648
    · exfalso
      have e2 : g fM_joints = -2147483648 := i32e (e.trans rfl)
      rw [e2] at cj
      exact absurd cj.2 (by decide)
    · exact i32_dec (by omega)
  have h1 : Gd w f q g (a2_ua (a2_ua r fM_andLast ((r fM_andLast).1, (upd (r fM_andLast).2 x3.toNatClampNeg x2))) fM_andMany ((r fM_andMany).1, (upd (r fM_andMany).2 x3.toNatClampNeg (((r fM_andMany).2 x3.toNatClampNeg) + 1)))) := (h.ua (by decide) (by rfl)).ua (by decide) (by rfl)
  have hF1 : Fc g0 r0 g (a2_ua (a2_ua r fM_andLast ((r fM_andLast).1, (upd (r fM_andLast).2 x3.toNatClampNeg x2))) fM_andMany ((r fM_andMany).1, (upd (r fM_andMany).2 x3.toNatClampNeg (((r fM_andMany).2 x3.toNatClampNeg) + 1)))) := (hF.ua (by decide)).ua (by decide)
  have hD1 : Dx lb c g (a2_ua (a2_ua r fM_andLast ((r fM_andLast).1, (upd (r fM_andLast).2 x3.toNatClampNeg x2))) fM_andMany ((r fM_andMany).1, (upd (r fM_andMany).2 x3.toNatClampNeg (((r fM_andMany).2 x3.toNatClampNeg) + 1)))) := ⟨hD.1, hD.2.1, hD.2.2.1, JF.am hD.2.2.2 (Or.inr ha)⟩
  have hm1 : (a2_ua (a2_ua r fM_andLast ((r fM_andLast).1, (upd (r fM_andLast).2 x3.toNatClampNeg x2))) fM_andMany ((r fM_andMany).1, (upd (r fM_andMany).2 x3.toNatClampNeg (((r fM_andMany).2 x3.toNatClampNeg) + 1)))) fM_mark = r fM_mark := rfl
  have ha1 : 0 < (((a2_ua (a2_ua r fM_andLast ((r fM_andLast).1, (upd (r fM_andLast).2 x3.toNatClampNeg x2))) fM_andMany ((r fM_andMany).1, (upd (r fM_andMany).2 x3.toNatClampNeg (((r fM_andMany).2 x3.toNatClampNeg) + 1)))) fM_andFirst).2 x3.toNatClampNeg).toInt := ha
  generalize (a2_ua (a2_ua r fM_andLast ((r fM_andLast).1, (upd (r fM_andLast).2 x3.toNatClampNeg x2))) fM_andMany ((r fM_andMany).1, (upd (r fM_andMany).2 x3.toNatClampNeg (((r fM_andMany).2 x3.toNatClampNeg) + 1)))) = r1 at h1 hF1 hD1 hm1 ha1
  refine pl_v (xM_meets 65 h1) (fun _ _ _ e => e) (fun v2 g2 r2 e2 => ?_)
  obtain ⟨ev, rfl, h2, f2⟩ := e2
  cases h65 : ww w q 65 with
  | true =>
    rw [h65] at ev h2
    cases ev
    refine pl_neg (by decide) ?_
    rw [cd_and ht h65, ← hm1]
    exact ⟨0, rfl, hF1.trans f2.c, Or.inr (Or.inl ⟨rfl, c, q + 1, s, h2, hD1.e f2, hS.e f2, by rw [f2.2 fM_mark (by decide)]⟩)⟩
  | false =>
    rw [h65] at ev h2
    cases ev
    refine pl_pos (by decide) ?_
    have h2' : Gd w f q g2 r2 := h2
    have hD2 := hD1.e f2
    have ej : g2 fM_joints = g fM_joints := f2.1 fM_joints (by decide)
    refine pl_n (xM_closeAnds h2' hD2.2.2.2 (by rw [ej, ← h3]; exact ha1) (fun e0 => by
      rw [ej, nc_eq]
      rw [ej] at e0
      omega)) (fun _ _ _ e => e) (fun g3 r3 e3 => ?_)
    obtain ⟨-, h3', f3, hJ3, ho3⟩ := e3
    rw [ej, ← h3] at ho3
    have hF3 : Fc g0 r0 g3 r3 := (hF1.trans f2.c).trans (f3.sub (by decide) (by decide))
    have hD3 : Dx lb c g3 r3 := by
      refine ⟨?_, ?_, hD2.2.2.1, hJ3⟩
      · rw [f3.1 fM_marks (by decide)]
        exact hD2.1
      · rw [f3.1 fM_level (by decide)]
        exact hD2.2.1
    have hS3 : Sj s g3 := (hS.e f2).eq (f3.1 fM_subject (by decide))
    have em3 : r3 fM_mark = r fM_mark := (f3.2 fM_mark (by decide)).trans hm1
    refine pl_v (xM_meets 66 h3') (fun _ _ _ e => e) (fun v4 g4 r4 e4 => ?_)
    obtain ⟨ev4, rfl, h4, f4⟩ := e4
    cases h66 : ww w q 66 with
    | true =>
      rw [h66] at ev4 h4
      cases ev4
      refine pl_neg (by decide) ?_
      rw [cd_or ht h65 h66]
      exact ⟨0, rfl, hF3.trans f4.c, Or.inr (Or.inl ⟨rfl, c, q + 1, s, h4, hD3.e f4, hS3.e f4, by rw [em3]⟩)⟩
    | false =>
      rw [h66] at ev4 h4
      cases ev4
      have h4' : Gd w f q g4 r4 := h4
      have hD4 := hD3.e f4
      refine pl_pos (by decide) ?_
      refine pl_if (fun _ => pl_if (fun _ => pl_if (fun _ => ?_) (fun _ => trivial)) (fun _ => trivial)) (fun _ => trivial)
      refine pl_v (xA_whole 50 _ _ h4'.1 ho3) (fun _ _ _ e => e) (fun v5 g5 r5 e5 => ?_)
      obtain ⟨⟨v5', ev5, hv5⟩, e5s, f5⟩ := e5
      cases ev5
      have h5 : Gd w f q g5 r5 := h4'.fr e5s f5
      have f5' := Fn.e f5
      have hD5 := hD4.e f5'
      have hF5 := (hF3.trans f4.c).trans f5'.c
      have em5 : r5 fM_mark = r fM_mark := (f5.2 fM_mark (by decide)).trans em3
      rcases ht with rfl | ⟨j, rfl, hj⟩
      · refine pl_neg (by rw [c2_ne]; exact fun e => e (i32e (hD5.1.trans rfl))) ?_
        rw [cd_e0 h65 h66]
        exact ⟨_, rfl, hF5, Or.inl ⟨hv5, hD5.2.1, q, s, rfl, h5⟩⟩
      · have hmk : ¬ g5 fM_marks = 0 := fun e => by
          have := hD5.1
          rw [e] at this
          have : (0 : Int) = ((j + 1 : Nat) : Int) := this
          omega
        refine pl_pos (by rw [c2_ne]; exact hmk) ?_
        rw [cd_e1 hj h65 h66]
        refine pm_t (xM_isSign L xs 1 h5.1.mrd h5.2.2.2.1) (fun e => pl_pos (by decide) ?_) (fun e => pl_neg (by decide) ?_)
        · rw [← em5]
          obtain ⟨d1, d2, d3, d4⟩ := hD5
          have e5 : g5 fM_joints = g fM_joints := by
            rw [f5.1 fM_joints (by decide), f4.1 fM_joints (by decide), f3.1 fM_joints (by decide), f2.1 fM_joints (by decide)]
          have := H x1 v5 x3 (some (.int v5)) j (q + 1) false (upd (upd (upd (upd (upd g5 fM_at (g5 fM_at + 1)) fM_marks (g5 fM_marks - 1)) fM_level (g5 fM_level - 1)) fM_joints (g5 fM_joints - 1)) fM_subject 0) r5 (Or.inr ⟨_, rfl⟩) ?_ ⟨?_, ?_, by omega, ?_⟩ rfl ?_ hv5
          · exact this
          · exact ((((h5.up (wg_iff.mp e).1).ug (by decide)).ug (by decide)).ug (by decide)).ug (by decide)
          · show (g5 fM_marks - 1).toInt = _
            rw [i32_dec (by omega), d1]
            omega
          · show (g5 fM_level - 1).toInt = _
            rw [i32_dec (by omega), d2]
            omega
          · refine JF.le d4 ?_
            show (g5 fM_joints - 1).toInt ≤ (g5 fM_joints).toInt
            rw [e5]
            omega
          · exact ((((hF5.up (by decide)).up (by decide)).up (by decide)).up (by decide)).up (by decide)
        · refine pm_fa h5 h5.2.2.2.1 h5.2.2.2.2 (fun g6 r6 h6 f6 => ?_)
          exact ⟨0, rfl, hF5.trans f6.c, Or.inr (Or.inr ⟨rfl, q, rfl, h6⟩)⟩
theorem bf_72 (H : BFL L xs m d k w f lb g0 r0) (x1 x2 x3 x4 : Int32) {c q : Nat} {s : Bool} {g : a2_G} {r : a2_A} (h : Gd w f q g r) (hD : Dx lb c g r) (hS : Sj s g) (hF : Fc g0 r0 g r) (hx : 0 < x2.toInt) (ht : tp (r fM_mark).2 c) : pl (BM_behindFactor_72_1 L xs (m + 1) d k x1 x2 x3 x4 g r) (kF w f lb g0 r0 (cd w lb (r fM_mark).2 c q s)) kN := by
  unfold BM_behindFactor_72_1
  refine pl_if (fun _ => pl_if (fun cj => ?_) (fun _ => trivial)) (fun _ => trivial)
  rw [inr_eq, h.1.2.1.at 35] at cj
  have hjo : (g fM_joints - 1).toInt = (g fM_joints).toInt - 1 := by
    have := i32_lo (g fM_joints)
    by_cases e : (g fM_joints).toInt = -2147483648
    · exfalso
      have e2 : g fM_joints = -2147483648 := i32e (e.trans rfl)
      rw [e2] at cj
      exact absurd cj.2 (by decide)
    · exact i32_dec (by omega)
  have hj : (((g fM_joints - 1).toNatClampNeg : Nat) : Int) < (g fM_joints).toInt := by
    rw [nc_eq]
    omega
  refine pl_in (fun ca => ?_) (fun ca => ?_)
  · refine pl_if (fun _ => pl_if (fun _ => ?_) (fun _ => trivial)) (fun _ => trivial)
    have ha := (hD.2.2.2 _ hj).1 ca
    exact bf_117 H x1 x2 (g fM_joints - 1) x4 (c := c) (q := q) (s := s) ((h.ua (by decide) (by rfl)).ua (by decide) (by rfl)) hD hS ((hF.ua (by decide)).ua (by decide)) rfl ha ht
  · refine pl_if (fun _ => ?_) (fun _ => trivial)
    refine bf_117 H x1 x2 (g fM_joints - 1) x4 (c := c) (q := q) (s := s) ((h.ua (by decide) (by rfl)).ua (by decide) (by rfl)) ⟨hD.1, hD.2.1, hD.2.2.1, JF.af hD.2.2.2 hx⟩ hS ((hF.ua (by decide)).ua (by decide)) rfl ?_ ht
    show 0 < (upd (r fM_andFirst).2 (g fM_joints - 1).toNatClampNeg x2 (g fM_joints - 1).toNatClampNeg).toInt
    rw [upd_eq]
    exact hx
/-- a NOT that ends here -/
theorem bf_not (H : BFL L xs m d k w f lb g0 r0) (x1 x2 : Int32) (x4 : Option Value) (h4 : x4 = none ∨ ∃ y : Int32, x4 = some (.int y)) {c q : Nat} {s : Bool} {g : a2_G} {r : a2_A} (h : Gd w f q g r) (hD : Dx lb (c + 1) g r) (hS : Sj s g) (hF : Fc g0 r0 g r) (hc : (r fM_mark).2 c ≠ -1) (a3 : Int32) : pl (fn_v (ev L xs (m + 1) d nM_make [.ref cM, .int 52, .int 0, .int a3] (upd (upd g fM_marks ((g fM_marks) - 1)) fM_level ((g fM_level) - 1)) r) fun v42 g40 r41 => (fn_n (ev L xs (m + 1) d nM_attach [.ref cM, .int v42, .int x2] g40 r41) fun g43 r44 => (lp L xs nM_behindFactor nm_m206 (m + 1) d k 2 [some (.ref cM), some (.int x1), some (.int v42), some (.int v42), x4] g43 r44))) (kF w f lb g0 r0 (cd w lb (r fM_mark).2 (c + 1) q s)) kN := by
  rw [cd_1, if_neg hc]
  obtain ⟨d1, d2, d3, d4⟩ := hD
  have h1 : Gd w f q (upd (upd g fM_marks ((g fM_marks) - 1)) fM_level ((g fM_level) - 1)) r := (h.ug (by decide)).ug (by decide)
  have hD1 : Dx lb c (upd (upd g fM_marks ((g fM_marks) - 1)) fM_level ((g fM_level) - 1)) r := by
    refine ⟨?_, ?_, by omega, d4⟩
    · show (g fM_marks - 1).toInt = _
      rw [i32_dec (by omega), d1]
      omega
    · show (g fM_level - 1).toInt = _
      rw [i32_dec (by omega), d2]
      omega
  have hS1 : Sj s (upd (upd g fM_marks ((g fM_marks) - 1)) fM_level ((g fM_level) - 1)) := hS
  have hF1 : Fc g0 r0 (upd (upd g fM_marks ((g fM_marks) - 1)) fM_level ((g fM_level) - 1)) r := (hF.up (by decide)).up (by decide)
  generalize (upd (upd g fM_marks ((g fM_marks) - 1)) fM_level ((g fM_level) - 1)) = g1 at h1 hD1 hS1 hF1
  refine pm_nm h1 (fun v g2 r2 hv h2 f2 => ?_)
  refine pm_na h2 (fun g3 r3 h3 f3 => ?_)
  have fA := f2.trans f3
  have em : r3 fM_mark = r fM_mark := fA.2 fM_mark (by decide)
  rw [← em]
  exact H x1 v v x4 c q s g3 r3 h4 h3 (hD1.e fA) (hS1.e fA) (hF1.trans fA.c) hv
theorem bf_top {c : Nat} {g : a2_G} {r : a2_A} (hD : Dx lb c g r) (hn : ¬ (g fM_marks).toInt ≤ 0) : ∃ j, c = j + 1 ∧ (g fM_marks - 1).toNatClampNeg = j := by
  obtain ⟨d1, -⟩ := hD
  cases c with
  | zero => exact absurd (d1 ▸ Int.le_refl _ : (g fM_marks).toInt ≤ 0) hn
  | succ c =>
    refine ⟨c, rfl, ?_⟩
    rw [nc_eq, i32_dec (by omega), d1]
    omega
theorem bf_2 (H : BFL L xs m d k w f lb g0 r0) (x1 x2 x3 x4 : Int32) {c q : Nat} {s : Bool} {g : a2_G} {r : a2_A} (h : Gd w f q g r) (hD : Dx lb c g r) (hS : Sj s g) (hF : Fc g0 r0 g r) (hx : 0 < x2.toInt) : pl (BM_behindFactor_2_1 L xs (m + 1) d k x1 x2 x3 x4 g r) (kF w f lb g0 r0 (cd w lb (r fM_mark).2 c q s)) kN ∧ pl (BM_behindFactor_2_2 L xs (m + 1) d k x1 x2 x3 g r) (kF w f lb g0 r0 (cd w lb (r fM_mark).2 c q s)) kN := by
  by_cases cm : (g fM_marks).toInt ≤ 0
  · have ht : tp (r fM_mark).2 c := Or.inl (by have := hD.1; omega)
    refine ⟨?_, ?_⟩
    · unfold BM_behindFactor_2_1
      exact pl_pos (by rw [c2_le]; exact cm) (bf_72 H x1 x2 x3 x4 h hD hS hF hx ht)
    · unfold BM_behindFactor_2_2
      exact pl_pos (by rw [c2_le]; exact cm) (bf_72 H x1 x2 x3 0 h hD hS hF hx ht)
  · obtain ⟨j, rfl, ej⟩ := bf_top hD cm
    by_cases c1 : (r fM_mark).2 j = -1
    · have ht : tp (r fM_mark).2 (j + 1) := Or.inr ⟨j, rfl, c1⟩
      refine ⟨?_, ?_⟩
      · unfold BM_behindFactor_2_1
        refine pl_neg (by rw [c2_le]; exact cm) (pl_if (fun _ => pl_pos (by rw [ej, c2_eq]; exact c1) ?_) (fun _ => trivial))
        exact bf_72 H x1 x2 x3 x4 h hD hS hF hx ht
      · unfold BM_behindFactor_2_2
        refine pl_neg (by rw [c2_le]; exact cm) (pl_if (fun _ => pl_pos (by rw [ej, c2_eq]; exact c1) ?_) (fun _ => trivial))
        exact bf_72 H x1 x2 x3 0 h hD hS hF hx ht
    · refine ⟨?_, ?_⟩
      · unfold BM_behindFactor_2_1
        refine pl_neg (by rw [c2_le]; exact cm) (pl_if (fun _ => pl_neg (by rw [ej, c2_eq]; exact c1) (pl_if (fun _ => ?_) (fun _ => trivial))) (fun _ => trivial))
        exact bf_not H x1 x2 (some (.int x4)) (Or.inr ⟨_, rfl⟩) h hD hS hF c1 _
      · unfold BM_behindFactor_2_2
        refine pl_neg (by rw [c2_le]; exact cm) (pl_if (fun _ => pl_neg (by rw [ej, c2_eq]; exact c1) (pl_if (fun _ => ?_) (fun _ => trivial))) (fun _ => trivial))
        exact bf_not H x1 x2 none (Or.inl rfl) h hD hS hF c1 _
theorem bf_l : ∀ k, BFL L xs m d k w f lb g0 r0
  | 0 => fun _ _ _ _ _ _ _ _ _ _ _ _ _ _ _ => pl_l0
  | k + 1 => fun x1 x2 x3 x4 c q s g r h4 h hD hS hF hx => by
    rcases h4 with rfl | ⟨y, rfl⟩
    · rw [lM_behindFactor_2_2]
      exact (bf_2 (bf_l k) x1 x2 x3 0 h hD hS hF hx).2
    · rw [lM_behindFactor_2_1]
      exact (bf_2 (bf_l k) x1 x2 x3 y h hD hS hF hx).1
theorem xM_behindFactor {c q : Nat} {s : Bool} {g : a2_G} {r : a2_A} {a : Int32} (h : Gd w f q g r) (hD : Dx lb c g r) (hS : Sj s g) (hF : Fc g0 r0 g r) (hx : 0 < a.toInt) : pl (ev L xs (m + 1) d nM_behindFactor [.ref cM, .int a] g r) (kF w f lb g0 r0 (cd w lb (r fM_mark).2 c q s)) kN := by
  cases d with
  | zero => trivial
  | succ d =>
    rw [qM_behindFactor]
    exact (bf_2 (bf_l m) a a 0 0 h hD hS hF hx).2
/-- a condition read -/
def kSc (w : Ws) (f : Gh) (lb : Nat) (g0 : a2_G) (r0 : a2_A) (A : Option RR) : Option Value → a2_G → a2_A → Prop := fun o g r => (∃ v : Int32, o = some (.int v)) ∧ Fc g0 r0 g r ∧ ((∃ q s, A = some (.inl (q, s)) ∧ Gd w f q g r ∧ (g fM_level).toInt = lb) ∨ ∃ b, A = no b ∧ Bd w f b g r)
def COL (L : Nat) (xs : Nat → Int32) (m d k : Nat) (w : Ws) (f : Gh) (lb : Nat) (g0 : a2_G) (r0 : a2_A) : Prop := (∀ (x1 x2 : Int32) (b : Nat) (g : a2_G) (r : a2_A), Bd w f b g r → Fc g0 r0 g r → pl (lp L xs nM_condition nm_m198 (m + 1) d k 16 [some (.ref cM), some (.int x1), some (.int x2)] g r) (kSc w f lb g0 r0 (no b)) kN) ∧
  (∀ (x1 x2 : Int32) (q : Nat) (s : Bool) (g : a2_G) (r : a2_A), Gd w f q g r → Fc g0 r0 g r → 0 < x1.toInt → (g fM_level).toInt = lb → pl (lp L xs nM_condition nm_m198 (m + 1) d k 16 [some (.ref cM), some (.int x1), some (.int x2)] g r) (kSc w f lb g0 r0 (some (.inl (q, s)))) kN) ∧
  (∀ (x2 : Int32) (c p : Nat) (s : Bool) (g : a2_G) (r : a2_A), Gd w f p g r → Dx lb c g r → Sj s g → Fc g0 r0 g r → pl (lp L xs nM_condition nm_m198 (m + 1) d k 16 [some (.ref cM), some (.int 0), some (.int x2)] g r) (kSc w f lb g0 r0 (bd (rv w 9 p (lb + c) s) fun q s => cd w lb (r fM_mark).2 c q s)) kN)
theorem co_b (x1 x2 : Int32) {b : Nat} {g : a2_G} {r : a2_A} (h : Bd w f b g r) (hF : Fc g0 r0 g r) : pl (BM_condition_16_1 L xs (m + 1) d k x1 x2 g r) (kSc w f lb g0 r0 (no b)) kN := by
  unfold BM_condition_16_1 BM_condition_52_1
  exact pl_if (fun _ => ⟨⟨_, rfl⟩, hF, Or.inr ⟨b, rfl, h⟩⟩) (fun _ => pl_pos (by rw [c2_ne, h.2.2.1]; decide) ⟨⟨_, rfl⟩, hF, Or.inr ⟨b, rfl, h⟩⟩)
theorem co_v (x1 x2 : Int32) {q : Nat} {s : Bool} {g : a2_G} {r : a2_A} (h : Gd w f q g r) (hF : Fc g0 r0 g r) (hx : 0 < x1.toInt) (hl : (g fM_level).toInt = lb) : pl (BM_condition_16_1 L xs (m + 1) d k x1 x2 g r) (kSc w f lb g0 r0 (some (.inl (q, s)))) kN := by
  unfold BM_condition_16_1 BM_condition_52_1
  refine pl_pos ?_ ⟨⟨_, rfl⟩, hF, Or.inl ⟨q, s, rfl, h, hl⟩⟩
  rw [c2_ne]
  intro e
  rw [e] at hx
  exact absurd hx (by decide)
theorem co_1 (H : COL L xs m d k w f lb g0 r0) (x2 : Int32) {c p : Nat} {s : Bool} {g : a2_G} {r : a2_A} (h : Gd w f p g r) (hD : Dx lb c g r) (hS : Sj s g) (hF : Fc g0 r0 g r) : pl (BM_condition_16_1 L xs (m + 1) d k 0 x2 g r) (kSc w f lb g0 r0 (bd (rv w 9 p (lb + c) s) fun q s => cd w lb (r fM_mark).2 c q s)) kN := by
  unfold BM_condition_16_1 BM_condition_49
  refine pl_neg (by decide) (pl_neg (by rw [c2_ne, h.2.2.1]; decide) ?_)
  refine pl_v (xM_factor (g0 := g0) (r0 := r0) h hD hS hF) (fun _ _ _ e => e) (fun v1 g1 r1 e1 => ?_)
  obtain ⟨v1', ev, hF1, e2⟩ := e1
  cases ev
  rcases e2 with ⟨hv, c1, q1, s1, h1, hD1, hS1, eA⟩ | ⟨rfl, c1, q1, s1, h1, hD1, hS1, eA⟩ | ⟨b, eA, h1⟩
  · rw [eA]
    refine pl_neg (by rw [c2_le, i32_0]; omega) (pl_neg (by rw [c2_ne, h1.2.2.1]; decide) ?_)
    refine pl_v (xM_behindFactor (g0 := g0) (r0 := r0) h1 hD1 hS1 hF1 hv) (fun _ _ _ e => e) (fun v3 g3 r3 e3 => ?_)
    obtain ⟨v3', ev3, hF3, e4⟩ := e3
    cases ev3
    rcases e4 with ⟨hv3, hl, q3, s3, eq, h3⟩ | ⟨rfl, c3, q3, s3, h3, hD3, hS3, eq⟩ | ⟨rfl, b, eq, h3⟩
    · rw [eq]
      exact H.2.1 v3 v1 q3 s3 g3 r3 h3 hF3 hv3 hl
    · rw [eq]
      exact H.2.2 v1 c3 q3 s3 g3 r3 h3 hD3 hS3 hF3
    · rw [eq]
      exact H.1 0 v1 b g3 r3 h3 hF3
  · rw [eA]
    refine pl_pos (by decide) ?_
    exact H.2.2 0 c1 q1 s1 g1 r1 h1 hD1 hS1 hF1
  · rw [eA]
    refine pl_if (fun _ => H.1 0 v1 b g1 r1 h1 hF1) (fun _ => pl_pos (by rw [c2_ne, h1.2.2.1]; decide) (H.1 0 v1 b g1 r1 h1 hF1))
theorem co_l : ∀ k, COL L xs m d k w f lb g0 r0
  | 0 => ⟨fun _ _ _ _ _ _ _ => pl_l0, fun _ _ _ _ _ _ _ _ _ _ => pl_l0, fun _ _ _ _ _ _ _ _ _ _ => pl_l0⟩
  | k + 1 => ⟨fun x1 x2 b g r h hF => by
      rw [lM_condition_16_1]
      exact co_b x1 x2 h hF, fun x1 x2 q s g r h hF hx hl => by
      rw [lM_condition_16_1]
      exact co_v x1 x2 h hF hx hl, fun x2 c p s g r h hD hS hF => by
      rw [lM_condition_16_1]
      exact co_1 (co_l k) x2 h hD hS hF⟩
theorem xM_condition {p : Nat} {g : a2_G} {r : a2_A} (h : Gd w f p g r) (hl : (g fM_level).toInt = lb) (hl4 : lb ≤ 40) : pl (ev L xs (m + 1) d nM_condition [.ref cM] g r) (kSc w f lb g r (rv w 5 p lb false)) kN := by
  cases d with
  | zero => trivial
  | succ d =>
    rw [qM_condition]
    have h1 : Gd w f p (upd (upd g fM_marks 0) fM_joints 0) r := (h.ug (by decide)).ug (by decide)
    refine pl_n (xA_joint h1.1.2.1) (fun _ _ _ e => e) (fun g2 r2 e2 => ?_)
    obtain ⟨-, hb, rfl, rfl⟩ := e2
    rw [rv_cd w p lb ((a2_ua (a2_ua r fM_andMany ((r fM_andMany).1, (upd (r fM_andMany).2 ((upd (upd g fM_marks 0) fM_joints 0) fM_joints).toNatClampNeg 0))) fM_orMany ((r fM_orMany).1, (upd (r fM_orMany).2 ((upd (upd g fM_marks 0) fM_joints 0) fM_joints).toNatClampNeg 0))) fM_mark).2]
    refine co_1 (c := 0) (s := false) (co_l m) 0 ?_ ⟨rfl, ?_, by omega, ?_⟩ rfl ?_
    · exact (((h1.ug (by decide)).ug (by decide)).ua (by decide) (by rfl)).ua (by decide) (by rfl)
    · show (g fM_level).toInt = _
      rw [hl]
      rfl
    · refine Jx.ps (g := upd (upd g fM_marks 0) fM_joints 0) (r := r) (fun i hi => ?_) hb
      have hi' : (i : Int) < 0 := hi
      omega
    · exact (((((Fm.rf.up (by decide)).up (by decide)).up (by decide)).up (by decide)).ua (by decide)).ua (by decide)
/-- a condition's node hung somewhere -/
def kSd (w : Ws) (f : Gh) (lb : Nat) (g0 : a2_G) (r0 : a2_A) (A : Option RR) : Option Value → a2_G → a2_A → Prop := fun o g r => o = none ∧ Fc g0 r0 g r ∧ ((∃ q s, A = some (.inl (q, s)) ∧ Gd w f q g r ∧ (g fM_level).toInt = lb) ∨ ∃ b, A = no b ∧ Bd w f b g r)
theorem xM_conditionOf (a : Int32) {p : Nat} {g : a2_G} {r : a2_A} (h : Gd w f p g r) (hl : (g fM_level).toInt = lb) (hl4 : lb ≤ 40) : pl (ev L xs (m + 1) d nM_conditionOf [.ref cM, .int a] g r) (kSd w f lb g r (rv w 5 p lb false)) kN := by
  cases d with
  | zero => trivial
  | succ d =>
    rw [qM_conditionOf]
    refine pl_pos (by rw [c2_eq]; exact h.2.2.1) ?_
    refine pl_v (xM_condition h hl hl4) (fun _ _ _ e => e) (fun v g1 r1 e => ?_)
    obtain ⟨-, hF, ⟨q, s, eq, h1, l1⟩ | ⟨b, eq, h1⟩⟩ := e
    · refine pl_neg (by rw [c2_ne, h1.2.2.1]; decide) ?_
      refine pm_na h1 (fun g2 r2 h2 f2 => ?_)
      exact ⟨rfl, hF.trans f2.c, Or.inl ⟨q, s, eq, h2, by rw [f2.1 fM_level (by decide)]; exact l1⟩⟩
    · refine pl_pos (by rw [c2_ne, h1.2.2.1]; decide) ?_
      exact ⟨rfl, hF, Or.inr ⟨b, eq, h1⟩⟩
theorem xB_conditionOf (a : Int32) {b : Nat} {g : a2_G} {r : a2_A} (h : Bd w f b g r) : pl (ev L xs (m + 1) d nM_conditionOf [.ref cM, .int a] g r) (kBn w f b g r) kN := by
  cases d with
  | zero => trivial
  | succ d =>
    rw [qM_conditionOf]
    exact pl_neg (by rw [c2_eq, h.2.2.1]; decide) ⟨rfl, h, Fm.rf⟩
end
