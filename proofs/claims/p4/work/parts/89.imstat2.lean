/-! The model's statement(), and its loop over the pile. -/
section
variable {L : Nat} {xs : Nat → Int32} {m d k : Nat} {w : Ws} {f : Gh} {n l p : Nat} {g g' : a2_G} {r r' : a2_A}
theorem st_sw (hS : Sb0 w f n l (p + 1) g r) (x1 x2 v3 : Int32) {x3 : Int32} (hv : 36 ≤ x3.toInt ∧ x3.toInt ≤ 47 ∨ x3 = 29) : pl (if (x3 : Int32).toInt = 29 then (fn_n (ev L xs (m + 1) d nM_operandOf [.ref cM, .int v3] g r) fun g6 r7 => (BM_statement_444 L xs (m + 1) d k x1 x2 x3 v3 g6 r7)) else (if (x3 : Int32).toInt = 30 then (BM_statement_521 L xs (m + 1) d k x1 x2 x3 v3 g r) else (if (x3 : Int32).toInt = 31 then (BM_statement_521 L xs (m + 1) d k x1 x2 x3 v3 g r) else (if (x3 : Int32).toInt = 32 then (BM_statement_521 L xs (m + 1) d k x1 x2 x3 v3 g r) else (if (x3 : Int32).toInt = 33 then (BM_statement_521 L xs (m + 1) d k x1 x2 x3 v3 g r) else (if (x3 : Int32).toInt = 34 then (BM_statement_521 L xs (m + 1) d k x1 x2 x3 v3 g r) else (if (x3 : Int32).toInt = 35 then (BM_statement_521 L xs (m + 1) d k x1 x2 x3 v3 g r) else (if (x3 : Int32).toInt = 36 then (fn_n (ev L xs (m + 1) d nM_operandOf [.ref cM, .int v3] g r) fun g13 r14 => (fn_v (ev L xs (m + 1) d nM_must [.ref cM, .int 48] g13 r14) fun v17 g15 r16 => (if am_c2 .eq v17 0 = true then (BM_statement_521 L xs (m + 1) d k x1 x2 x3 v3 g15 r16) else (fn_n (ev L xs (m + 1) d nM_names [.ref cM, .int v3, .int 41] g15 r16) fun g18 r19 => (BM_statement_521 L xs (m + 1) d k x1 x2 x3 v3 g18 r19))))) else (if (x3 : Int32).toInt = 37 then (fn_n (ev L xs (m + 1) d nM_add [.ref cM, .int v3] g r) fun g20 r21 => (BM_statement_521 L xs (m + 1) d k x1 x2 x3 v3 g20 r21)) else (if (x3 : Int32).toInt = 38 then (fn_n (ev L xs (m + 1) d nM_conditionOf [.ref cM, .int v3] g r) fun g22 r23 => (if am_c2 .ne (g22 fM_bad) 0 = true then (BM_statement_335 L xs (m + 1) d k x1 x2 x3 v3 g22 r23) else (fn_v (ev L xs (m + 1) d nM_isWord [.ref cM, .int (g22 fM_at), .int 52] g22 r23) fun v28 g26 r27 => (if am_c2 .eq v28 0 = true then (BM_statement_335 L xs (m + 1) d k x1 x2 x3 v3 g26 r27) else (BM_statement_335 L xs (m + 1) d k x1 x2 x3 v3 (upd g26 fM_at ((g26 fM_at) + 1)) r27))))) else (if (x3 : Int32).toInt = 39 then (fn_n (ev L xs (m + 1) d nM_perform [.ref cM, .int v3] g r) fun g29 r30 => (BM_statement_521 L xs (m + 1) d k x1 x2 x3 v3 g29 r30)) else (if (x3 : Int32).toInt = 40 then (fn_n (ev L xs (m + 1) d nM_operandOf [.ref cM, .int v3] g r) fun g31 r32 => (if am_c2 .ne (g31 fM_bad) 0 = true then (BM_statement_390 L xs (m + 1) d k x1 x2 x3 v3 g31 r32) else (fn_v (ev L xs (m + 1) d nM_isWord [.ref cM, .int (g31 fM_at), .int 59] g31 r32) fun v37 g35 r36 => (if am_c2 .ne v37 0 = true then (BM_statement_390 L xs (m + 1) d k x1 x2 x3 v3 g35 r36) else (fn_v (ev L xs (m + 1) d nM_fail [.ref cM, .int 1, .int (g35 fM_at)] g35 r36) fun v40 g38 r39 => (BM_statement_390 L xs (m + 1) d k x1 x2 x3 v3 g38 r39)))))) else (if (x3 : Int32).toInt = 41 then (fn_v (ev L xs (m + 1) d nM_mustBe [.ref cM, .int 1] g r) fun v43 g41 r42 => (if am_c2 .eq v43 0 = true then (BM_statement_419 L xs (m + 1) d k x1 x2 x3 v3 g41 r42) else (fn_v (ev L xs (m + 1) d nM_passed [.ref cM] g41 r42) fun v48 g46 r47 => (if am_inr v3 (r47 fM_value).1 = true then (BM_statement_419 L xs (m + 1) d k x1 x2 x3 v3 g46 (a2_ua r47 fM_value ((r47 fM_value).1, (upd (r47 fM_value).2 (v3 : Int32).toNatClampNeg v48)))) else none)))) else (if (x3 : Int32).toInt = 42 then (fn_n (ev L xs (m + 1) d nM_call [.ref cM, .int v3] g r) fun g49 r50 => (BM_statement_521 L xs (m + 1) d k x1 x2 x3 v3 g49 r50)) else (if (x3 : Int32).toInt = 43 then (fn_v (ev L xs (m + 1) d nM_meets [.ref cM, .int 48] g r) fun v53 g51 r52 => (fn_v (ev L xs (m + 1) d nM_mustBe [.ref cM, .int 1] g51 r52) fun v56 g54 r55 => (if am_c2 .eq v56 0 = true then (BM_statement_521_1 L xs (m + 1) d k x1 x2 x3 v3 v53 g54 r55) else (fn_v (ev L xs (m + 1) d nM_passed [.ref cM] g54 r55) fun v59 g57 r58 => (if am_inr v3 (r58 fM_value).1 = true then (BM_statement_521_1 L xs (m + 1) d k x1 x2 x3 v3 v53 g57 (a2_ua r58 fM_value ((r58 fM_value).1, (upd (r58 fM_value).2 (v3 : Int32).toNatClampNeg v59)))) else none))))) else (if (x3 : Int32).toInt = 44 then (fn_v (ev L xs (m + 1) d nM_must [.ref cM, .int 63] g r) fun v62 g60 r61 => (BM_statement_521_1 L xs (m + 1) d k x1 x2 x3 v3 v62 g60 r61)) else (if (x3 : Int32).toInt = 45 then (BM_statement_521 L xs (m + 1) d k x1 x2 x3 v3 g r) else (if (x3 : Int32).toInt = 46 then (BM_statement_521 L xs (m + 1) d k x1 x2 x3 v3 g r) else (if (x3 : Int32).toInt = 47 then (fn_n (ev L xs (m + 1) d nM_compute [.ref cM, .int v3] g r) fun g63 r64 => (BM_statement_521 L xs (m + 1) d k x1 x2 x3 v3 g63 r64)) else (BM_statement_521 L xs (m + 1) d k x1 x2 x3 v3 g r)))))))))))))))))))) (kWb w f (kk w r n) (rv w (100 + x3.toInt.toNat) p l false)) kN := by
  have h := hS.1
  have hr : 36 ≤ x3.toInt ∧ x3.toInt ≤ 47 ∨ x3.toInt = 29 := hv.imp id (fun e => by rw [e]; rfl)
  unfold BM_statement_521 BM_statement_521_1
  refine pl_if (fun e => ?_) (fun n29 => ?_)
  · rw [e, show 100 + (29 : Int).toNat = 129 from rfl, rv_t129]
    refine pm_oi h (fun e g2 r2 h2 f2 => ?_) (fun e g2 r2 h2 f2 => op_b _ _ _ _ h2)
    exact op_1 hS (op_l hS k) _ _ _ _ h2 f2.z
  refine pl_if (fun e => absurd e (by omega)) (fun n30 => ?_)
  refine pl_if (fun e => absurd e (by omega)) (fun n31 => ?_)
  refine pl_if (fun e => absurd e (by omega)) (fun n32 => ?_)
  refine pl_if (fun e => absurd e (by omega)) (fun n33 => ?_)
  refine pl_if (fun e => absurd e (by omega)) (fun n34 => ?_)
  refine pl_if (fun e => absurd e (by omega)) (fun n35 => ?_)
  refine pl_if (fun e => ?_) (fun n36 => ?_)
  · rw [e, show 100 + (36 : Int).toNat = 136 from rfl, rv_t136]
    refine pm_oi h (fun e2 g2 r2 h2 f2 => ?_) (fun e2 g2 r2 h2 f2 => pb_mu h2 (fun g3 r3 h3 f3 => pl_pos (by decide) (kWb.bad h3)))
    refine pm_mu h2 (fun e3 g3 r3 h3 f3 => pl_neg (by decide) ?_) (fun e3 g3 r3 h3 f3 => pl_pos (by decide) (kWb.bad h3))
    refine pl_n (xM_names L xs l v3 41 h3) (fun _ _ _ e => e) (fun g4 r4 e4 => ?_)
    exact hS.se e4.2.1 ((f2.trans f3).trans e4.2.2).z
  refine pl_if (fun e => ?_) (fun n37 => ?_)
  · rw [e, show 100 + (37 : Int).toNat = 137 from rfl]
    exact pl_n (xM_add v3 hS) (fun _ _ _ e => e) (fun g4 r4 e4 => e4)
  refine pl_if (fun e => ?_) (fun n38 => ?_)
  · have ex : x3 = 38 := i32e (e.trans rfl)
    rw [e, show 100 + (38 : Int).toNat = 138 from rfl, rv_t138]
    obtain ⟨hl, hl4⟩ := hS.lv
    refine pl_n (xM_conditionOf v3 h hl hl4) (fun _ _ _ e => e) (fun g2 r2 e2 => ?_)
    obtain ⟨-, fc, e3⟩ := e2
    unfold BM_statement_335 BM_statement_521
    rw [ex]
    rcases e3 with ⟨q2, s2, eq, h2, l2⟩ | ⟨b, eq, h2⟩
    · rw [eq, bd_so]
      have hz : Fz g r g2 r2 := ⟨Fc.y fc, i32e (l2.trans hl.symm)⟩
      have ep : ∀ q, (bd (rv w 13 q l false) fun q _ => if ww w q 53 then bd (rv w 13 (q + 1) l false) (fun q _ => ok (sk (ww w q 73) q)) else ok (sk (ww w q 73) q)) = pc w 38 0 l q := by
        intro q
        rw [pc_38, if_neg (show ¬ (0 : Int32) = 2 by decide), if_neg (show ¬ (0 : Int32) = 1 by decide)]
        rfl
      refine pl_neg (by rw [c2_ne, h2.2.2.1]; decide) ?_
      refine pl_u (xM_isWord L xs 52 h2.1.mrd h2.2.2.2.1) (fun e4 => pl_neg (by decide) ?_) (fun e4 => pl_pos (by decide) ?_)
      · rw [e4]
        exact hS.pi (h2.up (ww_iff.mp e4).1) (hz.e (Fe.at _)) (by decide) (ep _) (fun _ _ e => e)
      · rw [e4]
        exact hS.pi h2 hz (by decide) (ep _) (fun _ _ e => e)
    · rw [eq, bd_no]
      refine pl_pos (by rw [c2_ne, h2.2.2.1]; decide) ?_
      exact pb_pi h2 (fun _ _ e => kWb.bad e)
  refine pl_if (fun e => ?_) (fun n39 => ?_)
  · rw [e, show 100 + (39 : Int).toNat = 139 from rfl]
    exact pl_n (xM_perform v3 hS) (fun _ _ _ e => e) (fun g4 r4 e4 => e4)
  refine pl_if (fun e => ?_) (fun n40 => ?_)
  · have ex : x3 = 40 := i32e (e.trans rfl)
    rw [e, show 100 + (40 : Int).toNat = 140 from rfl, rv_t140]
    unfold BM_statement_390 BM_statement_521
    rw [ex]
    refine pm_oi h (fun e2 g2 r2 h2 f2 => pl_neg (by rw [c2_ne, h2.2.2.1]; decide) ?_) (fun e2 g2 r2 h2 f2 => pl_pos (by rw [c2_ne, h2.2.2.1]; decide) (pb_pi h2 (fun _ _ e => kWb.bad e)))
    refine pm_t (xM_isWord L xs 59 h2.1.mrd h2.2.2.2.1) (fun e4 => pl_pos (by decide) ?_) (fun e4 => pl_neg (by decide) ?_)
    · exact hS.pi h2 f2.z (by decide) pc_40.symm (fun _ _ e => e)
    · refine pm_fa h2 h2.2.2.2.1 h2.2.2.2.2 (fun g3 r3 h3 f3 => ?_)
      exact pb_pi h3 (fun _ _ e => kWb.bad e)
  refine pl_if (fun e => ?_) (fun n41 => ?_)
  · have ex : x3 = 41 := i32e (e.trans rfl)
    rw [e, show 100 + (41 : Int).toNat = 141 from rfl, rv_t141]
    unfold BM_statement_419 BM_statement_521
    rw [ex]
    refine pm_mk h (fun e2 g2 r2 h2 f2 => pl_neg (by decide) ?_) (fun e2 g2 r2 h2 f2 => pl_pos (by decide) (pb_pi h2 (fun _ _ e => kWb.bad e)))
    refine pb_t xA_passed (fun v => pl_if (fun _ => ?_) (fun _ => trivial))
    refine hS.pi (h2.ua (by decide) (by rfl)) (f2.z.e (Fm.rf.ua (by decide))) (by decide) ?_ (fun _ _ e => e)
    rw [pc_41, if_neg (show ¬ 0 < (0 : Int32).toInt by decide)]
    rfl
  refine pl_if (fun e => ?_) (fun n42 => ?_)
  · rw [e, show 100 + (42 : Int).toNat = 142 from rfl]
    exact pl_n (xM_call v3 hS) (fun _ _ _ e => e) (fun g4 r4 e4 => e4)
  refine pl_if (fun e => ?_) (fun n43 => ?_)
  · rw [e, show 100 + (43 : Int).toNat = 143 from rfl, rv_t143]
    refine pm_mb h (fun v g2 h2 f2 => ?_)
    refine pm_mk h2 (fun e2 g3 r3 h3 f3 => pl_neg (by decide) ?_) (fun e2 g3 r3 h3 f3 => pl_pos (by decide) (kWb.bad h3))
    refine pb_t xA_passed (fun v => pl_if (fun _ => ?_) (fun _ => trivial))
    exact hS.fin (h3.ua (by decide) (by rfl)) ((f2.trans f3).z.e (Fm.rf.ua (by decide)))
  refine pl_if (fun e => ?_) (fun n44 => ?_)
  · rw [e, show 100 + (44 : Int).toNat = 144 from rfl, rv_t144]
    exact pm_mu h (fun e2 g2 r2 h2 f2 => hS.fin h2 f2.z) (fun e2 g2 r2 h2 f2 => kWb.bad h2)
  refine pl_if (fun e => ?_) (fun n45 => ?_)
  · rw [e, show 100 + (45 : Int).toNat = 145 from rfl, rv_t145]
    exact hS.fin h Fz.rf
  refine pl_if (fun e => ?_) (fun n46 => ?_)
  · rw [e, show 100 + (46 : Int).toNat = 146 from rfl, rv_t146]
    exact hS.fin h Fz.rf
  refine pl_if (fun e => ?_) (fun n47 => absurd hr (by omega))
  rw [e, show 100 + (47 : Int).toNat = 147 from rfl]
  exact pl_n (xM_compute v3 hS) (fun _ _ _ e => e) (fun g4 r4 e4 => e4)
theorem st_160 (x1 x2 x4 : Int32) {x3 : Int32} (h : Gd w f (p + 1) g r) (hP : Pb n n g r) (hn : 0 < n) (hl : cz (r fM_pileKind).2 n = l + 1) (hv : 36 ≤ x3.toInt ∧ x3.toInt ≤ 47 ∨ x3 = 29) : pl (BM_statement_160 L xs (m + 1) d k x1 x2 x3 x4 g r) (kWb w f (kk w r n) (rv w (100 + x3.toInt.toNat) p l false)) kN := by
  unfold BM_statement_160
  refine pm_nm h (fun v g2 r2 hv2 h2 f2 => ?_)
  refine pm_na h2 (fun g3 r3 h3 f3 => ?_)
  have fA := f2.trans f3
  have e3 : r3 fM_pileKind = r fM_pileKind := fA.2 fM_pileKind (by decide)
  have e4 : r3 fM_pilePhase = r fM_pilePhase := fA.2 fM_pilePhase (by decide)
  have hS : Sb0 w f n l (p + 1) g3 r3 := ⟨h3, hP.e fA, hn, by rw [e3]; exact hl⟩
  have ek : kk w r3 n = kk w r n := by
    unfold kk
    rw [e3, e4]
  rw [← ek]
  exact st_sw hS x1 x2 v hv
theorem xM_statement (a : Int32) (h : Gd w f p g r) (hb : wb w p = true) (hP : Pb n n g r) (hn : 0 < n) (hl : cz (r fM_pileKind).2 n = l + 1) : pl (ev L xs (m + 1) d nM_statement [.ref cM, .int a] g r) (kWb w f (kk w r n) (rv w (100 + (w.2.1 p).toInt.toNat) p l false)) kN := by
  cases d with
  | zero => trivial
  | succ d =>
    rw [qM_statement, h.nat, h.1.mrd.2.1]
    obtain ⟨hp, -, hv⟩ := wb_iff.mp hb
    have h1 := h.up hp
    have hP1 : Pb n n (upd g fM_at (g fM_at + 1)) r := hP.e (Fe.at _)
    refine pl_if (fun _ => ?_) (fun _ => trivial)
    repeat' refine pl_if (fun _ => ?_) (fun _ => ?_)
    all_goals exact st_160 _ _ _ h1 hP1 hn hl hv
/-- the loop over the pile -/
def STL (L : Nat) (xs : Nat → Int32) (m d k : Nat) (w : Ws) (f : Gh) : Prop := ∀ (x1 x2 : Int32) (A : Option RR) (g : a2_G) (r : a2_A), kW w f A none g r → pl (lp L xs nM_statements nm_m186 (m + 1) d k 16 [some (.ref cM), some (.int x1), some (.int x2)] g r) (fun o g r => o = none ∧ sM w f A g r) kN
theorem sts_1 (H : STL L xs m d k w f) (x1 x2 : Int32) {A : Option RR} (hW : kW w f A none g r) : pl (BM_statements_16_1 L xs (m + 1) d k x1 x2 g r) (fun o g r => o = none ∧ sM w f A g r) kN := by
  unfold BM_statements_16_1 BM_statements_136_1 BM_statements_133
  rcases hW.2 with ⟨i, q, h, hP, hA⟩ | ⟨b, hA, h⟩
  · rw [hA]
    refine pl_il (fun c => ?_) (fun c => ?_)
    · have hi : i = 0 := by
        have := hP.1
        rw [i32_0] at c
        omega
      subst hi
      exact ⟨rfl, h⟩
    · rw [i32_0] at c
      refine pl_neg (by rw [c2_ne, h.2.2.1]; decide) ?_
      cases i with
      | zero =>
        have := hP.1
        exact absurd c (by omega)
      | succ n =>
        have ht : (g fM_piled - 1).toInt = n := by
          have := hP.1
          rw [i32_dec (by omega), this]
          omega
        have en : (g fM_piled - 1).toNatClampNeg = n := by rw [nc_eq, ht]; rfl
        have hz : 1 ≤ cz (r fM_pileKind).2 (n + 1) := cz_pos hP.2.1 _ (by omega)
        obtain ⟨l, hl⟩ : ∃ l, cz (r fM_pileKind).2 (n + 1) = l + 1 := ⟨cz (r fM_pileKind).2 (n + 1) - 1, by omega⟩
        refine pl_if (fun _ => ?_) (fun _ => trivial)
        rw [en]
        refine pl_iq (fun ck0 => ?_) (fun ck0 => ?_)
        · have hck : ck w (r fM_pileKind).2 (r fM_pilePhase).2 (n + 1) q = bd (pc w 0 ((r fM_pilePhase).2 n) l q) fun q _ => ck w (r fM_pileKind).2 (r fM_pilePhase).2 n q := ck_ph ck0 rfl hl
          refine pl_u (xM_begins L xs h.1.mrd h.2.2.2.1) (fun e => pl_neg (by decide) ?_) (fun e => pl_pos (by decide) ?_)
          · refine pl_if (fun _ => pl_if (fun _ => ?_) (fun _ => trivial)) (fun _ => trivial)
            have h1 : Gd w f q g (a2_ua r fM_pilePhase ((r fM_pilePhase).1, (upd (r fM_pilePhase).2 n 1))) := h.ua (by decide) (by rfl)
            have hP1 : Pb (n + 1) (n + 1) g (a2_ua r fM_pilePhase ((r fM_pilePhase).1, (upd (r fM_pilePhase).2 n 1))) := by
              refine ⟨hP.1, hP.2.1, hP.2.2.1, fun j hj => ?_⟩
              show Vk ((r fM_pileKind).2 j) (upd (r fM_pilePhase).2 n 1 j)
              by_cases cj : j = n
              · subst cj
                exact Or.inl ck0
              · rw [upd_ne cj]
                exact hP.2.2.2 j hj
            have hl1 : cz ((a2_ua r fM_pilePhase ((r fM_pilePhase).1, (upd (r fM_pilePhase).2 n 1))) fM_pileKind).2 (n + 1) = l + 1 := hl
            have ek : ck w (r fM_pileKind).2 (r fM_pilePhase).2 (n + 1) q = bd (rv w (100 + (w.2.1 q).toInt.toNat) q l false) (kk w (a2_ua r fM_pilePhase ((r fM_pilePhase).1, (upd (r fM_pilePhase).2 n 1))) (n + 1)) := by
              have e1 : pc w 0 ((r fM_pilePhase).2 n) l q = rv w 11 q l false := by
                rw [pc_0]
                by_cases c0 : (r fM_pilePhase).2 n = 0
                · rw [if_pos c0, if_pos e]
                · rw [if_neg c0]
              rw [hck, e1, rv_t11, if_pos e, bd_as]
              refine congrArg (bd _) (funext fun q => funext fun s => ?_)
              show _ = ck w (r fM_pileKind).2 (upd (r fM_pilePhase).2 n 1) (n + 1) q
              rw [ck_ph ck0 upd_eq hl, pc_0, if_neg (show ¬ (1 : Int32) = 0 by decide)]
              refine congrArg (bd _) (funext fun q => funext fun s => ?_)
              exact (ck_congr n (fun i _ => rfl) (fun i hi => upd_ne (by omega)) q).symm
            rw [ek]
            refine pl_n (xM_statement _ h1 e hP1 (by omega) hl1) (fun _ _ _ e => e) (fun g2 r2 e2 => ?_)
            exact H x1 _ _ g2 r2 e2
          · refine pl_if (fun _ => ?_) (fun _ => trivial)
            refine pl_in (fun cp => ?_) (fun cp => ?_)
            · refine H x1 _ _ _ _ ⟨rfl, Or.inl ⟨n, q, (h.ug (by decide)).ug (by decide), ⟨?_, hP.2.1, fun hn => ?_, fun j hj => hP.2.2.2 j (by omega)⟩, ?_⟩⟩
              · show (g fM_piled - 1).toInt = _
                exact ht
              · show (g fM_level - 1).toInt = (cz (r fM_pileKind).2 n : Int) - 1 ∧ cz (r fM_pileKind).2 n ≤ 41
                have h3 := hP.2.2.1 (by omega)
                have e1 : cz (r fM_pileKind).2 (n + 1) = cz (r fM_pileKind).2 n + 1 := by
                  show cz (r fM_pileKind).2 n + _ = _
                  rw [if_pos ck0]
                rw [e1] at h3
                rw [i32_dec (by omega)]
                omega
              · rw [hck, pc_0, if_neg cp, rv_t11, if_neg (by rw [e]; decide), bd_ok]
            · rw [Decidable.not_not] at cp
              refine pm_fa h h.2.2.2.1 h.2.2.2.2 (fun g2 r2 h2 f2 => ?_)
              refine H x1 _ _ _ _ (kW.bad h2 ?_)
              rw [hck, pc_0, if_pos cp, if_neg (by rw [e]; decide), bd_no]
        · refine pl_if (fun _ => ?_) (fun _ => trivial)
          refine pl_n (xM_goOn _ ht h hP ck0) (fun _ _ _ e => e) (fun g2 r2 e2 => ?_)
          exact H x1 _ _ g2 r2 e2
  · rw [hA]
    exact pl_if (fun _ => ⟨rfl, h⟩) (fun _ => pl_pos (by rw [c2_ne, h.2.2.1]; decide) ⟨rfl, h⟩)
theorem sts_l : ∀ k, STL L xs m d k w f
  | 0 => fun _ _ _ _ _ _ => pl_l0
  | k + 1 => fun x1 x2 A g r h => by
    rw [lM_statements_16_1]
    exact sts_1 (sts_l k) x1 x2 h
theorem xM_statements (a : Int32) (h : Gd w f p g r) : pl (ev L xs (m + 1) d nM_statements [.ref cM, .int a] g r) (fun o g r => o = none ∧ sM w f (bd (rv w 10 p 0 false) fun q _ => ok q) g r) kN := by
  cases d with
  | zero => trivial
  | succ d =>
    rw [qM_statements]
    have h1 : Gd w f p (upd (upd g fM_piled 0) fM_level 0) r := (h.ug (by decide)).ug (by decide)
    refine pl_n (Q1 := fun o g' r' => o = none ∧ g' = upd (upd (upd g fM_piled 0) fM_level 0) fM_piled 1 ∧ (∃ x, r' = a2_ua (a2_ua (a2_ua r fM_pileKind ((r fM_pileKind).1, upd (r fM_pileKind).2 0 0)) fM_pileNode x) fM_pilePhase ((r fM_pilePhase).1, upd (r fM_pilePhase).2 0 0) ∧ x.1 = (r fM_pileNode).1)) (X1 := kN) ?_ (fun _ _ _ e => e) (fun g4 r4 e4 => ?_)
    · cases d with
      | zero => trivial
      | succ d =>
        rw [qM_pile]
        refine pl_if (fun ci => pl_if (fun _ => pl_if (fun _ => ?_) (fun _ => trivial)) (fun _ => trivial)) (fun _ => trivial)
        exact ⟨rfl, rfl, _, rfl, rfl⟩
    · obtain ⟨-, rfl, x, rfl, hx⟩ := e4
      refine sts_1 (sts_l m) a 0 ⟨rfl, Or.inl ⟨1, p, ?_, ⟨rfl, ?_, fun _ => ?_, fun j hj => ?_⟩, ?_⟩⟩
      · exact (((h1.ug (by decide)).ua (by decide) (by rfl)).ua (by decide) hx).ua (by decide) (by rfl)
      · show upd (r fM_pileKind).2 0 0 0 = 0
        exact upd_eq
      · show (0 : Int32).toInt = (cz (upd (r fM_pileKind).2 0 0) 1 : Int) - 1 ∧ cz (upd (r fM_pileKind).2 0 0) 1 ≤ 41
        have e : cz (upd (r fM_pileKind).2 0 0) 1 = 1 := by
          show 0 + (if upd (r fM_pileKind).2 0 0 0 = 0 then 1 else 0) = 1
          rw [if_pos upd_eq]
        rw [e]
        exact ⟨rfl, by decide⟩
      · have hj0 : j = 0 := by omega
        subst hj0
        refine Or.inl ?_
        show upd (r fM_pileKind).2 0 0 0 = 0
        exact upd_eq
      · show _ = ck w (upd (r fM_pileKind).2 0 0) (upd (r fM_pilePhase).2 0 0) 1 p
        have e : cz (upd (r fM_pileKind).2 0 0) 1 = 0 + 1 := by
          show 0 + (if upd (r fM_pileKind).2 0 0 0 = 0 then 1 else 0) = 1
          rw [if_pos upd_eq]
        rw [ck_ph (n := 0) upd_eq upd_eq e, pc_0, if_pos rfl]
        rw [rv_t10, if_neg (show ¬ 40 < 0 by decide)]
        rfl
end
