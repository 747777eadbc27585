/-! The model's statements, one by one. -/
noncomputable def kk (w : Ws) (r : a2_A) (n : Nat) : Nat → Bool → Option RR := fun q _ => ck w (r fM_pileKind).2 (r fM_pilePhase).2 n q
/-- where a statement begins: behind its verb -/
def Sb0 (w : Ws) (f : Gh) (n l p : Nat) (g : a2_G) (r : a2_A) : Prop := Gd w f p g r ∧ Pb n n g r ∧ 0 < n ∧ cz (r fM_pileKind).2 n = l + 1
/-- what has been read of it since: the pile, the level as they were -/
def Fz (g : a2_G) (r : a2_A) (g' : a2_G) (r' : a2_A) : Prop := Fy g r g' r' ∧ g' fM_level = g fM_level
theorem Fz.rf {g : a2_G} {r : a2_A} : Fz g r g r := ⟨Fm.rf, rfl⟩
theorem Fz.tr {g g' g2 : a2_G} {r r' r2 : a2_A} (h : Fz g r g' r') (h2 : Fz g' r' g2 r2) : Fz g r g2 r2 := ⟨h.1.trans h2.1, h2.2.trans h.2⟩
theorem Fm.z {g g' : a2_G} {r r' : a2_A} (h : Fm WE WEa g r g' r') : Fz g r g' r' := ⟨h.y, h.1 fM_level (by decide)⟩
theorem Fz.e {g g' g2 : a2_G} {r r' r2 : a2_A} (h : Fz g r g' r') (h2 : Fe g' r' g2 r2) : Fz g r g2 r2 := h.tr h2.z
section
variable {L : Nat} {xs : Nat → Int32} {m d k : Nat} {w : Ws} {f : Gh} {n l p : Nat} {g g' : a2_G} {r r' : a2_A}
theorem Sb0.lv (h : Sb0 w f n l p g r) : (g fM_level).toInt = l ∧ l ≤ 40 := by
  obtain ⟨-, hP, hn, hl⟩ := h
  have := hP.2.2.1 hn
  rw [hl] at this
  omega
theorem Sb0.se (h : Sb0 w f n l p g r) {A : Option RR} (h' : sM w f A g' r') (hF : Fz g r g' r') : kWb w f (kk w r n) A none g' r' := by
  match A, h' with
  | some (.inl (q, s)), h' =>
    refine ⟨rfl, Or.inl ⟨n, q, h', h.2.1.y hF.1 hF.2, ?_⟩⟩
    rw [hF.1.2 fM_pileKind (by decide), hF.1.2 fM_pilePhase (by decide)]
    rfl
  | some (.inr b), h' => exact ⟨rfl, Or.inr ⟨b, rfl, h'⟩⟩
theorem Sb0.fin (h : Sb0 w f n l p g r) {q : Nat} (h' : Gd w f q g' r') (hF : Fz g r g' r') : kWb w f (kk w r n) (ok q) none g' r' := h.se (A := ok q) h' hF
theorem Sb0.pi (h : Sb0 w f n l p g r) {q : Nat} {c t : Int32} {kn : a2_G → a2_A → Option fn_Z} {Q : Option Value → a2_G → a2_A → Prop} {X : Nat → a2_G → a2_A → Prop} (h' : Gd w f q g' r') (hF : Fz g r g' r') (hc : c = 37 ∨ c = 38 ∨ c = 39 ∨ c = 40 ∨ c = 41 ∨ c = 42) {A : Option RR} (hA : A = pc w c 0 l q) (hk : ∀ g' r', kWb w f (kk w r n) A none g' r' → pl (kn g' r') Q X) : pl (fn_n (ev L xs (m + 1) d nM_pile [.ref cM, .int c, .int t] g' r') kn) Q X := by
  have e3 : r' fM_pileKind = r fM_pileKind := hF.1.2 fM_pileKind (by decide)
  have e4 : r' fM_pilePhase = r fM_pilePhase := hF.1.2 fM_pilePhase (by decide)
  refine pm_pi (A := bd A (kk w r n)) h' (h.2.1.y hF.1 hF.2) h.2.2.1 (by rw [e3]; exact h.2.2.2) hc ?_ hk
  rw [hA, e3, e4]
  rfl
theorem ww_x {q : Nat} {a b : Int32} (h : ww w q a = true) (hab : a ≠ b) : ww w q b = false := Bool.eq_false_iff.mpr (fun e => hab ((ww_iff.mp h).2.2.symm.trans (ww_iff.mp e).2.2))
/-- DISPLAY's operands -/
def OPL (L : Nat) (xs : Nat → Int32) (m d k : Nat) (w : Ws) (f : Gh) (n l p : Nat) (g : a2_G) (r : a2_A) : Prop := (∀ (x1 x2 x3 x4 : Int32) (q : Nat) (g' : a2_G) (r' : a2_A), Gd w f q g' r' → Fz g r g' r' → pl (lp L xs nM_statement nm_m195 (m + 1) d k 444 [some (.ref cM), some (.int x1), some (.int x2), some (.int x3), some (.int x4), none] g' r') (kWb w f (kk w r n) (rv w 19 q l false)) kN) ∧
  (∀ (x1 x2 x3 x4 : Int32) (b : Nat) (g' : a2_G) (r' : a2_A), Bd w f b g' r' → pl (lp L xs nM_statement nm_m195 (m + 1) d k 444 [some (.ref cM), some (.int x1), some (.int x2), some (.int x3), some (.int x4), none] g' r') (kWb w f (kk w r n) (no b)) kN)
theorem op_b (x1 x2 x3 x4 : Int32) {b : Nat} (h : Bd w f b g' r') : pl (BM_statement_444 L xs (m + 1) d k x1 x2 x3 x4 g' r') (kWb w f (kk w r n) (no b)) kN := by
  unfold BM_statement_444
  exact pl_pos (by rw [c2_ne, h.2.2.1]; decide) (kWb.bad h)
theorem op_1 (hS : Sb0 w f n l p g r) (H : OPL L xs m d k w f n l p g r) (x1 x2 x3 x4 : Int32) {q : Nat} (h : Gd w f q g' r') (hF : Fz g r g' r') : pl (BM_statement_444 L xs (m + 1) d k x1 x2 x3 x4 g' r') (kWb w f (kk w r n) (rv w 19 q l false)) kN := by
  unfold BM_statement_444 BM_statement_521
  rw [rv_t19]
  refine pl_neg (by rw [c2_ne, h.2.2.1]; decide) ?_
  refine pm_t (xM_isOperand L xs h.1.mrd h.2.2.2.1) (fun e => pl_neg (by decide) ?_) (fun e => pl_pos (by decide) (hS.fin h hF))
  refine pl_n (xM_operandOf x4 h) (fun _ _ _ e => e) (fun g2 r2 e2 => ?_)
  obtain ⟨-, e3, f3⟩ := e2
  rw [if_pos e] at e3
  exact H.1 x1 x2 x3 x4 (q + 1) g2 r2 e3 (hF.e f3)
theorem op_l (hS : Sb0 w f n l p g r) : ∀ k, OPL L xs m d k w f n l p g r
  | 0 => ⟨fun _ _ _ _ _ _ _ _ _ => pl_l0, fun _ _ _ _ _ _ _ _ => pl_l0⟩
  | k + 1 => ⟨fun x1 x2 x3 x4 q g' r' h hF => by
      rw [lM_statement_444]
      exact op_1 hS (op_l hS k) x1 x2 x3 x4 h hF, fun x1 x2 x3 x4 b g' r' h => by
      rw [lM_statement_444]
      exact op_b x1 x2 x3 x4 h⟩
/-- ADD -/
noncomputable def adt (w : Ws) (l q : Nat) : Option RR := if ww w q 49 then (if wk w (q + 1) 1 then rv w 21 (q + 2) l false else no (q + 1)) else if ww w q 48 then bd (rv w 17 (q + 1) l false) (fun q _ => rv w 21 q l false) else no q
theorem ad_94 (hS : Sb0 w f n l p g r) (x1 : Int32) {q : Nat} (h : Gd w f q g' r') (hF : Fz g r g' r') : pl (BM_add_94 L xs (m + 1) d k x1 g' r') (kWb w f (kk w r n) (rv w 21 q l false)) kN := by
  unfold BM_add_94
  refine hS.pi h hF (Or.inl rfl) ?_ (fun _ _ e => e)
  rw [pc_37, if_neg (show ¬ 0 < (0 : Int32).toInt by decide), rv_t21]
  rfl
theorem ad_94b (x1 : Int32) {b : Nat} (h : Bd w f b g' r') : pl (BM_add_94 L xs (m + 1) d k x1 g' r') (kWb w f (kk w r n) (no b)) kN := by
  unfold BM_add_94
  exact pb_pi h (fun _ _ e => kWb.bad e)
theorem ad_31 (hS : Sb0 w f n l p g r) (x1 : Int32) {q : Nat} (h : Gd w f q g' r') (hF : Fz g r g' r') : pl (BM_add_31 L xs (m + 1) d k x1 g' r') (kWb w f (kk w r n) (adt w l q)) kN := by
  unfold BM_add_31 adt
  refine pl_v (xM_meets 48 h) (fun _ _ _ e => e) (fun v g2 r2 e2 => ?_)
  obtain ⟨ev, rfl, h2, f2⟩ := e2
  have hF2 := hF.e f2
  cases h48 : ww w q 48 with
  | true =>
    rw [h48] at ev h2
    cases ev
    refine pl_neg (by decide) ?_
    rw [if_neg (show ¬ ww w q 49 = true by rw [ww_x h48 (by decide)]; decide), if_pos rfl]
    refine pm_nS (xM_names L xs l x1 41 h2) (fun q s g3 r3 _ h3 f3 => ?_) (fun b g3 r3 _ h3 f3 => ?_)
    · exact ad_94 hS x1 h3 (hF2.e f3)
    · exact ad_94b x1 h3
  | false =>
    rw [h48] at ev h2
    cases ev
    refine pl_pos (by decide) ?_
    rw [if_neg (show ¬ false = true by decide)]
    have h2' : Gd w f q g2 r2 := h2
    refine pm_mu h2' (fun e g3 r3 h3 f3 => pl_neg (by decide) ?_) (fun e g3 r3 h3 f3 => pl_pos (by decide) (ad_94b x1 h3))
    refine pl_if (fun _ => ?_) (fun _ => trivial)
    have h4 : Gd w f (q + 1) g3 (a2_ua r3 fM_value ((r3 fM_value).1, (upd (r3 fM_value).2 x1.toNatClampNeg 1))) := h3.ua (by decide) (by rfl)
    have f4 : Fe g2 r2 g3 (a2_ua r3 fM_value ((r3 fM_value).1, (upd (r3 fM_value).2 x1.toNatClampNeg 1))) := f3.ua (by decide)
    generalize (a2_ua r3 fM_value ((r3 fM_value).1, (upd (r3 fM_value).2 x1.toNatClampNeg 1))) = r4 at h4 f4
    refine pm_mk h4 (fun e g5 r5 h5 f5 => pl_neg (by decide) ?_) (fun e g5 r5 h5 f5 => pl_pos (by decide) (ad_94b x1 h5))
    refine pb_t xA_passed (fun v => ?_)
    refine pm_ch h5 (fun g6 r6 h6 f6 => ?_)
    exact ad_94 hS x1 h6 (((hF2.e f4).e f5).e f6)
theorem ad_31b (x1 : Int32) {b : Nat} (h : Bd w f b g' r') : pl (BM_add_31 L xs (m + 1) d k x1 g' r') (kWb w f (kk w r n) (no b)) kN := by
  unfold BM_add_31
  refine pl_e (xB_meets 48 h) (pl_pos (by decide) ?_)
  exact pb_mu h (fun g2 r2 h2 f2 => pl_pos (by decide) (ad_94b x1 h2))
def ADL (L : Nat) (xs : Nat → Int32) (m d k : Nat) (w : Ws) (f : Gh) (n l p : Nat) (g : a2_G) (r : a2_A) : Prop := (∀ (x1 : Int32) (q : Nat) (g' : a2_G) (r' : a2_A), Gd w f q g' r' → Fz g r g' r' → pl (lp L xs nM_add nm_m196 (m + 1) d k 5 [some (.ref cM), some (.int x1)] g' r') (kWb w f (kk w r n) (bd (rv w 19 q l false) fun q _ => adt w l q)) kN)
theorem ad_1 (hS : Sb0 w f n l p g r) (H : ADL L xs m d k w f n l p g r) (x1 : Int32) {q : Nat} (h : Gd w f q g' r') (hF : Fz g r g' r') : pl (BM_add_5 L xs (m + 1) d k x1 g' r') (kWb w f (kk w r n) (bd (rv w 19 q l false) fun q _ => adt w l q)) kN := by
  unfold BM_add_5
  rw [rv_t19]
  refine pl_neg (by rw [c2_ne, h.2.2.1]; decide) ?_
  refine pm_t (PQ := fun A => kWb w f (kk w r n) (bd A fun q _ => adt w l q)) (xM_isOperand L xs h.1.mrd h.2.2.2.1) (fun e => pl_neg (by decide) ?_) (fun e => pl_pos (by decide) (ad_31 hS x1 h hF))
  refine pl_n (xM_operandOf x1 h) (fun _ _ _ e => e) (fun g2 r2 e2 => ?_)
  obtain ⟨-, e3, f3⟩ := e2
  rw [if_pos e] at e3
  exact H x1 (q + 1) g2 r2 e3 (hF.e f3)
theorem ad_l (hS : Sb0 w f n l p g r) : ∀ k, ADL L xs m d k w f n l p g r
  | 0 => fun _ _ _ _ _ _ => pl_l0
  | k + 1 => fun x1 q g' r' h hF => by
      rw [lM_add_5]
      exact ad_1 hS (ad_l hS k) x1 h hF
theorem xM_add (a : Int32) (hS : Sb0 w f n l (p + 1) g r) : pl (ev L xs (m + 1) d nM_add [.ref cM, .int a] g r) (kWb w f (kk w r n) (rv w 137 p l false)) kN := by
  cases d with
  | zero => trivial
  | succ d =>
    rw [qM_add, rv_t137]
    refine pm_oi hS.1 (fun e g2 r2 h2 f2 => ?_) (fun e g2 r2 h2 f2 => ?_)
    · exact ad_1 hS (ad_l hS m) a h2 f2.z
    · unfold BM_add_5
      exact pl_pos (by rw [c2_ne, h2.2.2.1]; decide) (ad_31b a h2)
/-- CALL -/
theorem ca_65 (hS : Sb0 w f n l p g r) (x1 : Int32) {q : Nat} (h : Gd w f q g' r') (hF : Fz g r g' r') : pl (BM_call_65 L xs (m + 1) d k x1 g' r') (kWb w f (kk w r n) (rv w 23 q l false)) kN := by
  unfold BM_call_65
  refine hS.pi h hF (by decide) ?_ (fun _ _ e => e)
  rw [pc_42, if_neg (show ¬ 0 < (0 : Int32).toInt by decide), rv_t23]
  rfl
theorem ca_65b (x1 : Int32) {b : Nat} (h : Bd w f b g' r') : pl (BM_call_65 L xs (m + 1) d k x1 g' r') (kWb w f (kk w r n) (no b)) kN := by
  unfold BM_call_65
  exact pb_pi h (fun _ _ e => kWb.bad e)
theorem xM_call (a : Int32) (hS : Sb0 w f n l (p + 1) g r) : pl (ev L xs (m + 1) d nM_call [.ref cM, .int a] g r) (kWb w f (kk w r n) (rv w 142 p l false)) kN := by
  cases d with
  | zero => trivial
  | succ d =>
    rw [qM_call, rv_t142]
    have h := hS.1
    refine pl_neg (by rw [c2_ne, h.2.2.1]; decide) ?_
    have h44 : (wk w (p + 1) 1 || wk w (p + 1) 3) = true → pl (BM_call_44 L xs (m + 1) d m a g r) (kWb w f (kk w r n) (if ww w (p + 2) 31 then bd (rv w 17 (p + 3) l false) (fun q _ => rv w 23 q l false) else rv w 23 (p + 2) l false)) kN := by
      intro e
      have ho : wo w (p + 1) = true := by
        unfold wo
        rw [Bool.or_eq_true] at e
        rcases e with e | e <;> rw [e] <;> simp
      unfold BM_call_44
      refine pl_n (xM_operandOf a h) (fun _ _ _ e => e) (fun g2 r2 e2 => ?_)
      obtain ⟨-, h2, f2⟩ := e2
      rw [if_pos ho] at h2
      unfold BM_call_49
      refine pm_ms h2 (fun e3 g3 h3 f3 => pl_neg (by decide) ?_) (fun e3 g3 h3 f3 => pl_pos (by decide) (ca_65 hS a h3 (f2.z.e f3)))
      refine pm_nS (xM_names L xs l a 21 h3) (fun q s g4 r4 _ h4 f4 => ?_) (fun b g4 r4 _ h4 f4 => ?_)
      · exact ca_65 hS a h4 ((f2.z.e f3).e f4)
      · exact ca_65b a h4
    refine pl_u (xM_isKind L xs 1 h.1.mrd h.2.2.2.1) (fun e => pl_pos (by decide) ?_) (fun e => pl_neg (by decide) ?_)
    · have e1 : (wk w (p + 1) 1 || wk w (p + 1) 3) = true := by rw [e]; rfl
      rw [if_pos e1]
      exact h44 e1
    · refine pl_u (xM_isKind L xs 3 h.1.mrd h.2.2.2.1) (fun e2 => pl_pos (by decide) ?_) (fun e2 => pl_neg (by decide) ?_)
      · have e1 : (wk w (p + 1) 1 || wk w (p + 1) 3) = true := by rw [e, e2]; rfl
        rw [if_pos e1]
        exact h44 e1
      · rw [if_neg (show ¬ (wk w (p + 1) 1 || wk w (p + 1) 3) = true by rw [e, e2]; decide)]
        refine pm_fa h h.2.2.2.1 h.2.2.2.2 (fun g2 r2 h2 f2 => ?_)
        unfold BM_call_49
        exact pl_e (xB_meets 31 h2) (pl_pos (by decide) (ca_65b a h2))
/-- COMPUTE -/
theorem xM_compute (a : Int32) (hS : Sb0 w f n l (p + 1) g r) : pl (ev L xs (m + 1) d nM_compute [.ref cM, .int a] g r) (kWb w f (kk w r n) (rv w 147 p l false)) kN := by
  cases d with
  | zero => trivial
  | succ d =>
    rw [qM_compute, rv_t147]
    obtain ⟨hl, hl4⟩ := hS.lv
    refine pm_mk hS.1 (fun e g1 r1 h1 f1 => pl_pos (by decide) ?_) (fun e g1 r1 h1 f1 => pl_neg (by decide) (kWb.bad h1))
    refine pb_t xA_passed (fun v => ?_)
    refine pl_if (fun _ => ?_) (fun _ => trivial)
    have h2 : Gd w f (p + 2) g1 (a2_ua r1 fM_value ((r1 fM_value).1, (upd (r1 fM_value).2 a.toNatClampNeg v))) := h1.ua (by decide) (by rfl)
    have f2 : Fe g r g1 (a2_ua r1 fM_value ((r1 fM_value).1, (upd (r1 fM_value).2 a.toNatClampNeg v))) := f1.ua (by decide)
    generalize (a2_ua r1 fM_value ((r1 fM_value).1, (upd (r1 fM_value).2 a.toNatClampNeg v))) = r2 at h2 f2
    refine pm_t (xM_isSign L xs 2 h2.1.mrd h2.2.2.2.1) (fun e2 => pl_pos (by decide) ?_) (fun e2 => pl_neg (by decide) ?_)
    · have h3 := h2.up (wg_iff.mp e2).1
      have f3 : Fe g r (upd g1 fM_at (g1 fM_at + 1)) r2 := f2.up (by decide)
      generalize (upd g1 fM_at (g1 fM_at + 1)) = g3 at h3 f3
      have hl3 : (g3 fM_level).toInt = l := by
        rw [f3.1 fM_level (by decide)]
        exact hl
      refine pl_v (xM_sum h3 hl3 hl4) (fun _ _ _ e => e) (fun v4 g4 r4 e4 => ?_)
      obtain ⟨-, fx, e5⟩ := e4
      rcases e5 with ⟨q, eq, h5, l5⟩ | ⟨b, eq, h5⟩
      · rw [eq, bd_ok]
        refine pl_pos (by rw [c2_eq]; exact h5.2.2.1) ?_
        have hz : Fz g r g4 r4 := f3.z.tr ⟨Fx.y fx, i32e (l5.trans hl3.symm)⟩
        refine pm_na h5 (fun g6 r6 h6 f6 => ?_)
        refine pm_mb h6 (fun v7 g7 h7 f7 => ?_)
        have hz7 := (hz.e f6).e f7
        unfold BM_compute_90
        have hend : ∀ x : Int32, pl (if am_inr a (r6 fM_extra).1 = true then (some (.inl none, g7, (a2_ua r6 fM_extra ((r6 fM_extra).1, (upd (r6 fM_extra).2 (a : Int32).toNatClampNeg x))))) else none) (kWb w f (kk w r n) (ok (sk (ww w q 78) q))) kN := by
          intro x
          refine pl_if (fun _ => ?_) (fun _ => trivial)
          exact hS.fin (h7.ua (by decide) (by rfl)) (hz7.e (Fm.rf.ua (by decide)))
        exact pl_if (fun _ => hend 0) (fun _ => hend 1)
      · rw [eq, bd_no]
        exact pl_neg (by rw [c2_eq, h5.2.2.1]; decide) (kWb.bad h5)
    · refine pm_fa h2 h2.2.2.2.1 h2.2.2.2.2 (fun g3 r3 h3 f3 => ?_)
      exact kWb.bad h3
/-- PERFORM's phrase -/
theorem xM_isTimes {q : Nat} (h : Gd w f q g r) : pl (ev L xs (m + 1) d nM_isTimes [.ref cM] g r) (kE g r (b2i (wk w q 2 || wk w q 1 && ww w (q + 1) 23))) kN := by
  cases d with
  | zero => trivial
  | succ d =>
    rw [qM_isTimes]
    unfold BM_isTimes_39 BM_isTimes_43 BM_isTimes_44
    refine pl_u (xM_isKind L xs 2 h.1.mrd h.2.2.2.1) (fun e => pl_pos (by decide) (pl_pos (by decide) ⟨by rw [e]; rfl, rfl, rfl⟩)) (fun e => pl_neg (by decide) ?_)
    refine pl_u (xM_isKind L xs 1 h.1.mrd h.2.2.2.1) (fun e2 => pl_neg (by decide) ?_) (fun e2 => pl_pos (by decide) (pl_pos (by decide) ⟨by rw [e, e2]; rfl, rfl, rfl⟩))
    exact pl_u (xM_isWord L xs 23 h.1.mrd h.add) (fun e3 => pl_neg (by decide) (pl_pos (by decide) ⟨by rw [e, e2, e3]; rfl, rfl, rfl⟩)) (fun e3 => pl_pos (by decide) (pl_pos (by decide) ⟨by rw [e, e2, e3]; rfl, rfl, rfl⟩))
def kPh (w : Ws) (f : Gh) (g0 : a2_G) (r0 : a2_A) (A : Option RR) : Option Value → a2_G → a2_A → Prop := fun o g r => o = none ∧ ((∃ q s, A = some (.inl (q, s)) ∧ Gd w f q g r ∧ Fz g0 r0 g r) ∨ ∃ b, A = no b ∧ Bd w f b g r)
theorem kPh.ok {q : Nat} (h : Gd w f q g' r') (hF : Fz g r g' r') : kPh w f g r (ok q) none g' r' := ⟨rfl, Or.inl ⟨q, false, rfl, h, hF⟩⟩
theorem kPh.no {b : Nat} (h : Bd w f b g' r') : kPh w f g r (no b) none g' r' := ⟨rfl, Or.inr ⟨b, rfl, h⟩⟩
theorem ph_co {q lb : Nat} (x3 : Int32) (h : Gd w f q g' r') (hF : Fz g r g' r') (hl : (g fM_level).toInt = lb) (hl4 : lb ≤ 40) {kn : a2_G → a2_A → Option fn_Z} (hk : ∀ g2 r2, kn g2 r2 = some (.inl none, g2, r2)) : pl (fn_n (ev L xs (m + 1) d nM_conditionOf [.ref cM, .int x3] g' r') kn) (kPh w f g r (bd (rv w 5 q lb false) fun q _ => ok q)) kN := by
  have hl' : (g' fM_level).toInt = lb := by
    rw [hF.2]
    exact hl
  refine pl_n (xM_conditionOf x3 h hl' hl4) (fun _ _ _ e => e) (fun g2 r2 e2 => ?_)
  obtain ⟨-, fc, e3⟩ := e2
  rw [hk]
  rcases e3 with ⟨q2, s2, eq, h2, l2⟩ | ⟨b, eq, h2⟩
  · rw [eq, bd_so]
    exact kPh.ok h2 (hF.tr ⟨Fc.y fc, i32e (l2.trans hl'.symm)⟩)
  · rw [eq, bd_no]
    exact kPh.no h2
theorem ph_163b (x1 x2 x3 : Int32) {b : Nat} (h : Bd w f b g' r') : pl (BM_phrase_163 L xs (m + 1) d k x1 x2 x3 g' r') (kPh w f g r (no b)) kN := by
  unfold BM_phrase_163 BM_phrase_177_1
  exact pb_mu h (fun g2 r2 h2 f2 => pl_pos (by decide) (kPh.no h2))
theorem ph_149b (x1 x2 x3 : Int32) {b : Nat} (h : Bd w f b g' r') : pl (BM_phrase_149 L xs (m + 1) d k x1 x2 x3 g' r') (kPh w f g r (no b)) kN := by
  unfold BM_phrase_149
  exact pb_mu h (fun g2 r2 h2 f2 => pl_pos (by decide) (ph_163b x1 x2 x3 h2))
theorem ph_135b (x1 x2 x3 : Int32) {b : Nat} (h : Bd w f b g' r') : pl (BM_phrase_135 L xs (m + 1) d k x1 x2 x3 g' r') (kPh w f g r (no b)) kN := by
  unfold BM_phrase_135
  exact pb_mu h (fun g2 r2 h2 f2 => pl_pos (by decide) (ph_149b x1 x2 x3 h2))
theorem xM_phrase (a : Int32) {q lb : Nat} (h : Gd w f q g r) (hl : (g fM_level).toInt = lb) (hl4 : lb ≤ 40) : pl (ev L xs (m + 1) d nM_phrase [.ref cM, .int a] g r) (kPh w f g r (rv w 22 q lb false)) kN := by
  cases d with
  | zero => trivial
  | succ d =>
    rw [qM_phrase, rv_t22]
    refine pl_pos (by rw [c2_eq]; exact h.2.2.1) ?_
    refine pm_t (xM_isTimes h) (fun e => pl_neg (by decide) ?_) (fun e => pl_pos (by decide) ?_)
    · have ho : wo w q = true := by
        unfold wo
        rw [Bool.or_eq_true, Bool.and_eq_true] at e
        rcases e with e | e
        · rw [e]
          simp
        · rw [e.1]
          rfl
      refine pm_nm h (fun v g2 r2 hv h2 f2 => ?_)
      refine pm_na h2 (fun g3 r3 h3 f3 => ?_)
      refine pl_n (xM_operandOf v h3) (fun _ _ _ e => e) (fun g4 r4 e4 => ?_)
      obtain ⟨-, h4, f4⟩ := e4
      rw [if_pos ho] at h4
      unfold BM_phrase_177_2
      refine pm_mu h4 (fun e5 g5 r5 h5 f5 => ?_) (fun e5 g5 r5 h5 f5 => kPh.no h5)
      exact kPh.ok h5 (((f2.trans f3).trans f4).trans f5).z
    · refine pm_ms h (fun e2 g2 h2 f2 => pl_neg (by decide) ?_) (fun e2 g2 h2 f2 => pl_pos (by decide) ?_)
      · refine pm_nm h2 (fun v g3 r3 hv h3 f3 => ?_)
        refine pm_na h3 (fun g4 r4 h4 f4 => ?_)
        unfold BM_phrase_177_1
        exact ph_co v h4 ((f2.trans f3).trans f4).z hl hl4 (fun _ _ => rfl)
      · refine pm_ms h2 (fun e3 g3 h3 f3 => pl_neg (by decide) ?_) (fun e3 g3 h3 f3 => pl_pos (by decide) (kPh.ok h3 (f2.trans f3).z))
        refine pm_nm h3 (fun v g4 r4 hv h4 f4 => ?_)
        refine pm_na h4 (fun g5 r5 h5 f5 => ?_)
        refine pm_mk h5 (fun e6 g6 r6 h6 f6 => pl_neg (by decide) ?_) (fun e6 g6 r6 h6 f6 => pl_pos (by decide) (ph_135b _ _ _ h6))
        refine pb_t xA_passed (fun v7 => ?_)
        refine pm_ch h6 (fun g7 r7 h7 f7 => ?_)
        have hz7 := (((((f2.trans f3).trans f4).trans f5).trans f6).trans f7).z
        unfold BM_phrase_135
        refine pm_mu h7 (fun e8 g8 r8 h8 f8 => pl_neg (by decide) ?_) (fun e8 g8 r8 h8 f8 => pl_pos (by decide) (ph_149b _ _ _ h8))
        refine pm_oi h8 (fun e9 g9 r9 h9 f9 => ?_) (fun e9 g9 r9 h9 f9 => ph_149b _ _ _ h9)
        unfold BM_phrase_149
        refine pm_mu h9 (fun e10 g10 r10 h10 f10 => pl_neg (by decide) ?_) (fun e10 g10 r10 h10 f10 => pl_pos (by decide) (ph_163b _ _ _ h10))
        refine pm_oi h10 (fun e11 g11 r11 h11 f11 => ?_) (fun e11 g11 r11 h11 f11 => ph_163b _ _ _ h11)
        unfold BM_phrase_163 BM_phrase_177_1
        refine pm_mu h11 (fun e12 g12 r12 h12 f12 => pl_neg (by decide) ?_) (fun e12 g12 r12 h12 f12 => pl_pos (by decide) (kPh.no h12))
        exact ph_co v h12 (((((hz7.e f8).e f9).e f10).e f11).e f12) hl hl4 (fun _ _ => rfl)
theorem xB_phrase (a : Int32) {b : Nat} (h : Bd w f b g r) : pl (ev L xs (m + 1) d nM_phrase [.ref cM, .int a] g r) (fun o g' r' => o = none ∧ Bd w f b g' r') kN := by
  cases d with
  | zero => trivial
  | succ d =>
    rw [qM_phrase]
    exact pl_neg (by rw [c2_eq, h.2.2.1]; decide) ⟨rfl, h⟩
/-- PERFORM -/
theorem pf_79 (hS : Sb0 w f n l p g r) (x1 : Int32) {q : Nat} (h : Gd w f q g' r') (hF : Fz g r g' r') : pl (BM_perform_79 L xs (m + 1) d k x1 1 g' r') (kWb w f (kk w r n) (bd (rv w 22 q l false) fun q _ => ok q)) kN ∧ pl (BM_perform_79 L xs (m + 1) d k x1 0 g' r') (kWb w f (kk w r n) (bd (rv w 22 q l false) fun q _ => pc w 39 0 l q)) kN := by
  obtain ⟨hl, hl4⟩ := hS.lv
  have hl' : (g' fM_level).toInt = l := by
    rw [hF.2]
    exact hl
  refine ⟨?_, ?_⟩
  · unfold BM_perform_79
    refine pl_n (xM_phrase x1 h hl' hl4) (fun _ _ _ e => e) (fun g2 r2 e2 => ?_)
    refine pl_neg (by decide) ?_
    rcases e2.2 with ⟨q2, s2, eq, h2, f2⟩ | ⟨b, eq, h2⟩
    · rw [eq, bd_so]
      exact hS.fin h2 (hF.tr f2)
    · rw [eq, bd_no]
      exact kWb.bad h2
  · unfold BM_perform_79
    refine pl_n (xM_phrase x1 h hl' hl4) (fun _ _ _ e => e) (fun g2 r2 e2 => ?_)
    refine pl_pos (by decide) (pl_if (fun _ => ?_) (fun _ => trivial))
    rcases e2.2 with ⟨q2, s2, eq, h2, f2⟩ | ⟨b, eq, h2⟩
    · rw [eq, bd_so]
      exact hS.pi (h2.ua (by decide) (by rfl)) ((hF.tr f2).e (Fm.rf.ua (by decide))) (by decide) rfl (fun _ _ e => e)
    · rw [eq, bd_no]
      exact pb_pi (h2.ua (by decide) (by rfl)) (fun _ _ e => kWb.bad e)
theorem pf_79b (x1 : Int32) {b : Nat} (h : Bd w f b g' r') : pl (BM_perform_79 L xs (m + 1) d k x1 1 g' r') (kWb w f (kk w r n) (no b)) kN := by
  unfold BM_perform_79
  refine pl_n (xB_phrase x1 h) (fun _ _ _ e => e) (fun g2 r2 e2 => ?_)
  exact pl_neg (by decide) (kWb.bad e2.2)
theorem pc_39z {q : Nat} : pc w 39 0 l q = (bd (rv w 10 q (l + 1) false) fun q _ => if ww w q 74 then ok (q + 1) else no q) := by
  rw [pc_39, if_pos rfl]
  rfl
theorem xM_perform (a : Int32) (hS : Sb0 w f n l (p + 1) g r) : pl (ev L xs (m + 1) d nM_perform [.ref cM, .int a] g r) (kWb w f (kk w r n) (rv w 139 p l false)) kN := by
  cases d with
  | zero => trivial
  | succ d =>
    have h := hS.1
    rw [qM_perform, rv_t139]
    have h31 : (wk w (p + 1) 1 && !ww w (p + 2) 23) = false → pl (BM_perform_31 L xs (m + 1) d m a g r) (kWb w f (kk w r n) (if wk w (p + 1) 1 && !ww w (p + 2) 23 then (if ww w (p + 2) 21 then (if wk w (p + 3) 1 then bd (rv w 22 (p + 4) l false) (fun q _ => ok q) else no (p + 3)) else bd (rv w 22 (p + 2) l false) (fun q _ => ok q)) else bd (rv w 22 (p + 1) l false) fun q _ => bd (rv w 10 q (l + 1) false) fun q _ => if ww w q 74 then ok (q + 1) else no q)) kN := by
      intro e
      rw [if_neg (by rw [e]; decide)]
      unfold BM_perform_31 BM_perform_32
      refine pl_pos (by decide) ?_
      have := (pf_79 (L := L) (xs := xs) (m := m) (d := d) (k := m) hS a h Fz.rf).2
      have eK : (fun (q : Nat) (_ : Bool) => pc w 39 0 l q) = fun q _ => bd (rv w 10 q (l + 1) false) fun q _ => if ww w q 74 then ok (q + 1) else no q := funext fun q => funext fun s => pc_39z
      rw [eK] at this
      exact this
    refine pl_u (xM_isKind L xs 1 h.1.mrd h.2.2.2.1) (fun e => pl_neg (by decide) ?_) (fun e => pl_pos (by decide) (h31 (by rw [e]; rfl)))
    refine pl_u (xM_isWord L xs 23 h.1.mrd h.add) (fun e2 => pl_pos (by decide) (h31 (by rw [e2, Bool.not_true, Bool.and_false]))) (fun e2 => pl_neg (by decide) ?_)
    rw [if_pos (show (wk w (p + 1) 1 && !ww w (p + 2) 23) = true by rw [e, show ww w (p + 2) 23 = false from e2]; rfl)]
    unfold BM_perform_32
    refine pl_neg (by decide) ?_
    refine pl_n (xM_operandOf a h) (fun _ _ _ e => e) (fun g2 r2 e3 => ?_)
    obtain ⟨-, h2, f2⟩ := e3
    rw [if_pos (wk1_wo e)] at h2
    refine pm_ms h2 (fun e4 g4 h4 f4 => pl_neg (by decide) ?_) (fun e4 g4 h4 f4 => pl_pos (by decide) ?_)
    · refine pm_mk h4 (fun e5 g5 r5 h5 f5 => pl_neg (by decide) ?_) (fun e5 g5 r5 h5 f5 => pl_pos (by decide) (pf_79b a h5))
      refine pb_t xA_passed (fun v6 => ?_)
      refine pm_ch h5 (fun g7 r7 h7 f7 => ?_)
      exact (pf_79 hS a h7 (((f2.z.e f4).e f5).e f7)).1
    · exact (pf_79 hS a h4 (f2.z.e f4)).1
end
