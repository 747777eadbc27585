/-! The model's going on with what lies on the pile. -/
section
variable {L : Nat} {xs : Nat → Int32} {m d k : Nat} {w : Ws} {f : Gh}
theorem pc_37 {ph : Int32} {l q : Nat} : pc w 37 ph l q = (if 0 < ph.toInt then ok (sk (ww w q 72) q) else aq w 50 51 72 l q) := by
  unfold pc
  rw [if_neg (by decide), if_pos rfl]
theorem pc_41 {ph : Int32} {l q : Nat} : pc w 41 ph l q = (if 0 < ph.toInt then ok (sk (ww w q 76) q) else aq w 61 33 76 l q) := by
  unfold pc
  rw [if_neg (by decide), if_neg (by decide), if_pos rfl]
theorem pc_42 {ph : Int32} {l q : Nat} : pc w 42 ph l q = (if 0 < ph.toInt then ok (sk (ww w q 77) q) else aq1 w 62 77 l q) := by
  unfold pc
  rw [if_neg (by decide), if_neg (by decide), if_neg (by decide), if_pos rfl]
theorem pc_38 {ph : Int32} {l q : Nat} : pc w 38 ph l q = (if ph = 2 then ok (sk (ww w q 73) q) else if ph = 1 then if1 w l q else bd (rv w 13 q l false) (fun q _ => if1 w l q)) := by
  unfold pc
  rw [if_neg (by decide), if_neg (by decide), if_neg (by decide), if_neg (by decide), if_pos rfl]
theorem pc_39 {ph : Int32} {l q : Nat} : pc w 39 ph l q = (if ph = 0 then bd (rv w 10 q (l + 1) false) (fun q _ => pe w q) else pe w q) := by
  unfold pc
  rw [if_neg (by decide), if_neg (by decide), if_neg (by decide), if_neg (by decide), if_neg (by decide), if_pos rfl]
theorem pc_40 {ph : Int32} {l q : Nat} : pc w 40 ph l q = bd (rv w 14 q l false) (fun q _ => ok (sk (ww w q 75) q)) := by
  unfold pc
  rw [if_neg (by decide), if_neg (by decide), if_neg (by decide), if_neg (by decide), if_neg (by decide), if_neg (by decide)]
theorem pc_0 {ph : Int32} {l q : Nat} : pc w 0 ph l q = (if ph = 0 then (if wb w q then rv w 11 q l false else no q) else rv w 11 q l false) := by
  unfold pc
  rw [if_pos rfl]
/-- the one on top with its phase moved on -/
theorem ck_ph {K P : Nat → Int32} {n q : Nat} {c ph : Int32} (hc : K n = c) (hp : P n = ph) {l : Nat} (hl : cz K (n + 1) = l + 1) : ck w K P (n + 1) q = bd (pc w c ph l q) fun q _ => ck w K P n q := by
  rw [ck_1, hc, hp, hl]
  rfl
/-- asked: behind its list, or none -/
theorem as_12 (x1 x2 x3 x4 x5 : Int32) {n q : Nat} {g : a2_G} {r : a2_A} (h : Gd w f q g r) (hP : Pb (n + 1) n g r) (hk : (r fM_pileKind).2 n ≠ 0) : pl (BM_asked_12 L xs (m + 1) d k x1 x2 x3 x4 x5 g r) (kW w f (ck w (r fM_pileKind).2 (r fM_pilePhase).2 n (sk (ww w q x5) q))) kN := by
  unfold BM_asked_12
  refine pl_n (xM_scope0 x1 x5 h hP hk) (fun _ _ _ e => e) (fun g1 r1 e => e)
theorem xM_asked (t ph one two en : Int32) {n q l : Nat} {g : a2_G} {r : a2_A} {c : Int32} (h : Gd w f q g r) (hP : Pb (n + 1) n g r) (hl : cz (r fM_pileKind).2 (n + 1) = l + 1) (hc : (r fM_pileKind).2 n = c) (hc2 : c = 37 ∨ c = 41 ∨ c = 42) (hph : (r fM_pilePhase).2 n = ph + 1) (hp2 : ph = 0 ∨ ph = 1 ∨ ph = 2)
    (hq1 : ∀ q, pc w c 1 l q = ok (sk (ww w q en) q)) {A : Option RR}
    (hA : A = if 0 < ph.toInt then ok (sk (ww w q en) q) else if two = -1 then aq1 w one en l q else aq w one two en l q) : pl (ev L xs (m + 1) d nM_asked [.ref cM, .int t, .int ph, .int one, .int two, .int en] g r) (kW w f (bd A fun q _ => ck w (r fM_pileKind).2 (r fM_pilePhase).2 n q)) kN := by
  have hk : (r fM_pileKind).2 n ≠ 0 := by
    rw [hc]
    rcases hc2 with rfl | rfl | rfl <;> decide
  cases d with
  | zero => trivial
  | succ d =>
    rw [qM_asked, hA]
    refine pl_ig (fun h0 => ?_) (fun h0 => ?_) <;> rw [i32_0] at h0
    · rw [if_pos h0, bd_ok]
      exact as_12 _ _ _ _ _ h hP hk
    · have hz : ph = 0 := by
        rcases hp2 with rfl | rfl | rfl
        · rfl
        · exact absurd (by decide) h0
        · exact absurd (by decide) h0
      rw [if_neg h0]
      have hlist : ∀ (q' : Nat) (g' : a2_G) (r' : a2_A) (x6 : Int32), x6 = 1 → Gd w f q' g' r' → Fe g r g' r' → pl (BM_asked_41 L xs (m + 1) d m t ph one two en x6 g' r') (kW w f (bd (bd (rv w 10 q' (l + 1) false) (fun q _ => ok (sk (ww w q en) q))) fun q _ => ck w (r fM_pileKind).2 (r fM_pilePhase).2 n q)) kN := by
        intro q' g' r' x6 hx h' f'
        unfold BM_asked_41
        rw [hx]
        refine pl_neg (by decide) ?_
        have e3 : r' fM_pileKind = r fM_pileKind := f'.2 fM_pileKind (by decide)
        have e4 : r' fM_pilePhase = r fM_pilePhase := f'.2 fM_pilePhase (by decide)
        have hP' : Pb (n + 1) (n + 1) g' r' := by
          have hp := hP.e f'
          refine ⟨hp.1, hp.2.1, hp.2.2.1, fun j hj => ?_⟩
          by_cases cj : j = n
          · subst cj
            rw [e3, e4, hc, hph, hz]
            rcases hc2 with rfl | rfl | rfl
            · exact Or.inr (Or.inr ⟨Or.inl rfl, Or.inr (Or.inl rfl)⟩)
            · exact Or.inr (Or.inr ⟨Or.inr (Or.inr (Or.inr (Or.inl rfl))), Or.inr (Or.inl rfl)⟩)
            · exact Or.inr (Or.inr ⟨Or.inr (Or.inr (Or.inr (Or.inr rfl))), Or.inr (Or.inl rfl)⟩)
          · exact hp.2.2.2 j (by omega)
        refine pl_n (xM_list t h' hP' (by omega) (by rw [e3]; exact hl)) (fun _ _ _ e => e) (fun g2 r2 e2 => ?_)
        rw [bd_as]
        have eK : (fun (q : Nat) (_ : Bool) => bd (ok (sk (ww w q en) q)) fun q _ => ck w (r fM_pileKind).2 (r fM_pilePhase).2 n q) = fun q _ => ck w (r' fM_pileKind).2 (r' fM_pilePhase).2 (n + 1) q := by
          funext q s
          rw [e3, e4, ck_ph hc hph hl, hz]
          show _ = bd (pc w c 1 l q) _
          rw [hq1 q]
        rw [eK]
        exact e2
      by_cases c2 : two = -1
      · rw [if_pos c2]
        unfold aq1
        refine pm_ms (PQ := fun A => kW w f (bd A fun q _ => ck w (r fM_pileKind).2 (r fM_pilePhase).2 n q)) h (fun e g' h' f' => ?_) (fun e g' h' f' => ?_)
        · refine pl_pos (by decide) (pl_pos (by rw [c2]; decide) ?_)
          exact hlist (q + 1) g' r 1 rfl h' f'
        · refine pl_neg (by decide) ?_
          rw [bd_ok]
          exact as_12 _ _ _ _ _ h' (hP.e f') hk
      · rw [if_neg c2]
        unfold aq
        refine pm_ms (PQ := fun A => kW w f (bd A fun q _ => ck w (r fM_pileKind).2 (r fM_pilePhase).2 n q)) h (fun e g' h' f' => ?_) (fun e g' h' f' => ?_)
        · refine pl_pos (by decide) (pl_neg (by rw [c2_eq]; exact c2) ?_)
          refine pm_mu (PQ := fun A => kW w f (bd A fun q _ => ck w (r fM_pileKind).2 (r fM_pilePhase).2 n q)) h' (fun e2 g2 r2 h2 f2 => ?_) (fun e2 g2 r2 h2 f2 => ?_)
          · refine pl_neg (by decide) ?_
            exact hlist (q + 2) g2 r2 1 rfl h2 (f'.trans f2)
          · refine pl_pos (by decide) ?_
            unfold BM_asked_41
            exact pl_pos (by decide) (kW.bad h2 rfl)
        · refine pl_neg (by decide) ?_
          rw [bd_ok]
          exact as_12 _ _ _ _ _ h' (hP.e f') hk
/-- a branch of IF -/
theorem br_28 (x1 x2 x3 : Int32) {n q l : Nat} {g : a2_G} {r : a2_A} (h : Gd w f q g r) (hP : Pb (n + 1) (n + 1) g r) (hl : cz (r fM_pileKind).2 (n + 1) = l + 1) {KK : Nat → Bool → Option RR} (hK : ∀ q s, KK q s = ck w (r fM_pileKind).2 (r fM_pilePhase).2 (n + 1) q) : pl (BM_branch_28 L xs (m + 1) d k x1 x2 x3 g r) (kW w f (bd (rv w 13 q l false) KK)) kN := by
  have hKK : KK = fun q _ => ck w (r fM_pileKind).2 (r fM_pilePhase).2 (n + 1) q := funext fun q => funext fun s => hK q s
  unfold BM_branch_28
  rw [rv_t13]
  refine pm_t (PQ := fun A => kW w f (bd A KK)) (xM_isWord L xs 54 h.1.mrd h.2.2.2.1) (fun e => pl_pos (by decide) ?_) (fun e => pl_neg (by decide) ?_)
  · unfold BM_branch_82
    refine pm_mu (PQ := fun A => kW w f (bd A KK)) (h.up (ww_iff.mp e).1) (fun e2 g2 r2 h2 f2 => ?_) (fun e2 g2 r2 h2 f2 => ?_)
    · refine pl_neg (by decide) ?_
      refine pm_ch h2 (fun g3 r3 h3 f3 => ?_)
      have fA : Fe g r g3 r3 := ((Fe.at _).trans f2).trans f3
      refine ⟨rfl, Or.inl ⟨n + 1, q + 2, h3, hP.e fA, ?_⟩⟩
      rw [bd_ok, hK, fA.2 fM_pileKind (by decide), fA.2 fM_pilePhase (by decide)]
    · exact pl_pos (by decide) (kW.bad h2 rfl)
  · rw [hKK]
    exact pl_n (xM_list x2 h hP (by omega) hl) (fun _ _ _ e => e) (fun g2 r2 e2 => e2)
theorem br_19 (x1 x2 x3 : Int32) {n q : Nat} {g : a2_G} {r : a2_A} (h : Gd w f q g r) (hP : Pb (n + 1) n g r) (hk : (r fM_pileKind).2 n ≠ 0) : pl (BM_branch_19 L xs (m + 1) d k x1 x2 x3 g r) (kW w f (ck w (r fM_pileKind).2 (r fM_pilePhase).2 n (sk (ww w q 73) q))) kN := by
  unfold BM_branch_19
  exact pl_n (xM_scope0 x2 73 h hP hk) (fun _ _ _ e => e) (fun g1 r1 e => e)
theorem Pb.top {n : Nat} {g : a2_G} {r : a2_A} (h : Pb (n + 1) n g r) (hv : Vk ((r fM_pileKind).2 n) ((r fM_pilePhase).2 n)) : Pb (n + 1) (n + 1) g r := ⟨h.1, h.2.1, h.2.2.1, fun j hj => by
  by_cases c : j = n
  · subst c
    exact hv
  · exact h.2.2.2 j (by omega)⟩
theorem xM_branch (t0 t ph : Int32) {n q l : Nat} {g : a2_G} {r : a2_A} (h : Gd w f q g r) (hP : Pb (n + 1) n g r) (hl : cz (r fM_pileKind).2 (n + 1) = l + 1) (hc : (r fM_pileKind).2 n = 38) (hph : (r fM_pilePhase).2 n = ph + 1) (hp2 : ph = 0 ∨ ph = 1 ∨ ph = 2) : pl (ev L xs (m + 1) d nM_branch [.ref cM, .int t0, .int t, .int ph] g r) (kW w f (bd (pc w 38 ph l q) fun q _ => ck w (r fM_pileKind).2 (r fM_pilePhase).2 n q)) kN := by
  have hk : (r fM_pileKind).2 n ≠ 0 := by
    rw [hc]
    decide
  cases d with
  | zero => trivial
  | succ d =>
    rw [qM_branch, pc_38]
    refine pl_iq (fun h2 => ?_) (fun h2 => ?_)
    · rw [if_pos h2, bd_ok]
      exact br_19 _ _ _ h hP hk
    · rw [if_neg h2]
      refine pl_in (fun h1 => ?_) (fun h1 => ?_)
      · have hz : ph = 0 := by
          rcases hp2 with e | e | e
          · exact e
          · exact absurd e h1
          · exact absurd e h2
        rw [if_neg h1, bd_as]
        refine br_28 _ _ _ h (hP.top ?_) hl (fun q s => ?_)
        · rw [hc, hph, hz]
          exact Or.inr (Or.inr ⟨Or.inr (Or.inl rfl), Or.inr (Or.inl rfl)⟩)
        · rw [ck_ph hc hph hl, hz]
          show _ = bd (pc w 38 1 l q) _
          rw [pc_38]
          rfl
      · have hz : ph = 1 := Decidable.not_not.mp h1
        rw [if_pos hz]
        unfold if1
        refine pm_ms (PQ := fun A => kW w f (bd A fun q _ => ck w (r fM_pileKind).2 (r fM_pilePhase).2 n q)) h (fun e g' h' f' => ?_) (fun e g' h' f' => ?_)
        · refine pl_pos (by decide) ?_
          rw [bd_as]
          refine br_28 _ _ _ h' ((hP.e f').top ?_) hl (fun q s => ?_)
          · rw [hc, hph, hz]
            exact Or.inr (Or.inr ⟨Or.inr (Or.inl rfl), Or.inr (Or.inr rfl)⟩)
          · rw [ck_ph hc hph hl, hz]
            show _ = bd (pc w 38 2 l q) _
            rw [pc_38]
            rfl
        · refine pl_neg (by decide) ?_
          rw [bd_ok]
          exact br_19 _ _ _ h' (hP.e f') hk
/-- WHENs -/
def WNL (L : Nat) (xs : Nat → Int32) (m d k : Nat) (w : Ws) (f : Gh) : Prop := (∀ (x1 x2 x3 x4 : Int32) (n q l : Nat) (g : a2_G) (r : a2_A), Gd w f q g r → Pb (n + 1) (n + 1) g r → cz (r fM_pileKind).2 (n + 1) = l + 1 → pl (lp L xs nM_whens nm_m194 (m + 1) d k 42 [some (.ref cM), some (.int x1), some (.int x2), some (.int x3), some (.int x4)] g r) (kW w f (bd (bd (rv w 16 q l false) fun q _ => rv w 10 q (l + 1) false) fun q _ => ck w (r fM_pileKind).2 (r fM_pilePhase).2 (n + 1) q)) kN) ∧
  (∀ (x1 x2 x3 x4 : Int32) (b : Nat) (g : a2_G) (r : a2_A) (A : Option RR), Bd w f b g r → A = no b → pl (lp L xs nM_whens nm_m194 (m + 1) d k 42 [some (.ref cM), some (.int x1), some (.int x2), some (.int x3), some (.int x4)] g r) (kW w f A) kN)
theorem wn_b (x1 x2 x3 x4 : Int32) {b : Nat} {g : a2_G} {r : a2_A} {A : Option RR} (h : Bd w f b g r) (hA : A = no b) : pl (BM_whens_42 L xs (m + 1) d k x1 x2 x3 x4 g r) (kW w f A) kN := by
  unfold BM_whens_42
  refine pl_e (xB_meets 59 h) (pl_pos (by decide) ?_)
  exact pl_n (xB_list x4 h) (fun _ _ _ e => e) (fun g1 r1 e => kW.bad e.2 hA)
theorem wn_1 (H : WNL L xs m d k w f) (x1 x2 x3 x4 : Int32) {n q l : Nat} {g : a2_G} {r : a2_A} (h : Gd w f q g r) (hP : Pb (n + 1) (n + 1) g r) (hl : cz (r fM_pileKind).2 (n + 1) = l + 1) : pl (BM_whens_42 L xs (m + 1) d k x1 x2 x3 x4 g r) (kW w f (bd (bd (rv w 16 q l false) fun q _ => rv w 10 q (l + 1) false) fun q _ => ck w (r fM_pileKind).2 (r fM_pilePhase).2 (n + 1) q)) kN := by
  unfold BM_whens_42
  rw [rv_t16]
  refine pm_ms (PQ := fun A => kW w f (bd (bd A fun q _ => rv w 10 q (l + 1) false) fun q _ => ck w (r fM_pileKind).2 (r fM_pilePhase).2 (n + 1) q)) h (fun e g' h' f' => pl_neg (by decide) ?_) (fun e g' h' f' => pl_pos (by decide) ?_)
  · refine pm_t (PQ := fun A => kW w f (bd (bd A fun q _ => rv w 10 q (l + 1) false) fun q _ => ck w (r fM_pileKind).2 (r fM_pilePhase).2 (n + 1) q)) (xM_isWord L xs 60 h'.1.mrd h'.2.2.2.1) (fun e2 => pl_neg (by decide) ?_) (fun e2 => pl_pos (by decide) ?_)
    · refine pm_ch h' (fun g2 r2 h2 f2 => ?_)
      have fA : Fe g r (upd g2 fM_at (g2 fM_at + 1)) r2 := (f'.trans f2).up (by decide)
      have := H.1 x1 x2 x3 x4 n (q + 2) l _ _ (h2.up (ww_iff.mp e2).1) (hP.e fA) (by rw [fA.2 fM_pileKind (by decide)]; exact hl)
      rw [fA.2 fM_pileKind (by decide), fA.2 fM_pilePhase (by decide)] at this
      exact this
    · refine pm_oi (PQ := fun A => kW w f (bd (bd A fun q _ => rv w 10 q (l + 1) false) fun q _ => ck w (r fM_pileKind).2 (r fM_pilePhase).2 (n + 1) q)) h' (fun e3 g2 r2 h2 f2 => ?_) (fun e3 g2 r2 h2 f2 => ?_)
      · have fA : Fe g r g2 r2 := f'.trans f2
        have := H.1 x1 x2 x3 x4 n (q + 2) l _ _ h2 (hP.e fA) (by rw [fA.2 fM_pileKind (by decide)]; exact hl)
        rw [fA.2 fM_pileKind (by decide), fA.2 fM_pilePhase (by decide)] at this
        exact this
      · exact H.2 x1 x2 x3 x4 (q + 1) g2 r2 _ h2 rfl
  · rw [bd_ok]
    exact pl_n (xM_list x4 h' (hP.e f') (by omega) hl) (fun _ _ _ e => e) (fun g2 r2 e2 => e2)
theorem wn_l : ∀ k, WNL L xs m d k w f
  | 0 => ⟨fun _ _ _ _ _ _ _ _ _ _ _ _ => pl_l0, fun _ _ _ _ _ _ _ _ _ _ => pl_l0⟩
  | k + 1 => ⟨fun x1 x2 x3 x4 n q l g r h hP hl => by
      rw [lM_whens_42]
      exact wn_1 (wn_l k) x1 x2 x3 x4 h hP hl, fun x1 x2 x3 x4 b g r A h hA => by
      rw [lM_whens_42]
      exact wn_b x1 x2 x3 x4 h hA⟩
theorem xM_whens (t0 t ph : Int32) {n q l : Nat} {g : a2_G} {r : a2_A} (h : Gd w f q g r) (hP : Pb (n + 1) n g r) (hl : cz (r fM_pileKind).2 (n + 1) = l + 1) (hc : (r fM_pileKind).2 n = 40) : pl (ev L xs (m + 1) d nM_whens [.ref cM, .int t0, .int t, .int ph] g r) (kW w f (bd (pc w 40 ph l q) fun q _ => ck w (r fM_pileKind).2 (r fM_pilePhase).2 n q)) kN := by
  have hk : (r fM_pileKind).2 n ≠ 0 := by
    rw [hc]
    decide
  cases d with
  | zero => trivial
  | succ d =>
    rw [qM_whens, pc_40, rv_t14]
    refine pm_t (PQ := fun A => kW w f (bd (bd A fun q _ => ok (sk (ww w q 75) q)) fun q _ => ck w (r fM_pileKind).2 (r fM_pilePhase).2 n q)) (xM_isWord L xs 59 h.1.mrd h.2.2.2.1) (fun e => pl_pos (by decide) ?_) (fun e => pl_neg (by decide) ?_)
    · refine pm_nm h (fun v g2 r2 hv h2 f2 => ?_)
      refine pm_na h2 (fun g3 r3 h3 f3 => ?_)
      have fA := f2.trans f3
      have e3 : r3 fM_pileKind = r fM_pileKind := fA.2 fM_pileKind (by decide)
      have e4 : r3 fM_pilePhase = r fM_pilePhase := fA.2 fM_pilePhase (by decide)
      have := wn_1 (L := L) (xs := xs) (m := m) (d := d) (wn_l m) t0 t ph v h3 ((hP.e fA).top (by rw [e3, hc]; exact Or.inr (Or.inl rfl))) (by rw [e3]; exact hl)
      rw [e3, e4] at this
      rw [rv_t15, bd_as, bd_as]
      have eK : (fun (q : Nat) (_ : Bool) => bd (rv w 14 q l false) fun q _ => bd (ok (sk (ww w q 75) q)) fun q _ => ck w (r fM_pileKind).2 (r fM_pilePhase).2 n q) = fun q _ => ck w (r fM_pileKind).2 (r fM_pilePhase).2 (n + 1) q := by
        funext q s
        rw [ck_ph hc rfl hl, pc_40, bd_as]
      rw [eK]
      exact this
    · rw [bd_ok, bd_ok]
      exact pl_n (xM_scope0 t 75 h hP hk) (fun _ _ _ e => e) (fun g1 r1 e => e)
/-- the one on top goes on -/
theorem xM_goOn {a1 : Int32} (a2 : Int32) {n q : Nat} {g : a2_G} {r : a2_A} (ha : a1.toInt = n) (h : Gd w f q g r) (hP : Pb (n + 1) (n + 1) g r) (hk : (r fM_pileKind).2 n ≠ 0) : pl (ev L xs (m + 1) d nM_goOn [.ref cM, .int a1, .int a2] g r) (kW w f (ck w (r fM_pileKind).2 (r fM_pilePhase).2 (n + 1) q)) kN := by
  cases d with
  | zero => trivial
  | succ d =>
    have en : a1.toNatClampNeg = n := by rw [nc_eq, ha]; rfl
    have hz : 1 ≤ cz (r fM_pileKind).2 (n + 1) := cz_pos hP.2.1 _ (by omega)
    obtain ⟨l, hl⟩ : ∃ l, cz (r fM_pileKind).2 (n + 1) = l + 1 := ⟨cz (r fM_pileKind).2 (n + 1) - 1, by omega⟩
    have hV := hP.2.2.2 n (by omega)
    rw [qM_goOn, en, ck_ph rfl rfl hl]
    generalize hph : (r fM_pilePhase).2 n = ph at hV
    generalize hc : (r fM_pileKind).2 n = c at hV hk
    refine pl_if (fun _ => pl_if (fun _ => pl_if (fun _ => ?_) (fun _ => trivial)) (fun _ => trivial)) (fun _ => trivial)
    have h1 : Gd w f q g (a2_ua r fM_pilePhase ((r fM_pilePhase).1, (upd (r fM_pilePhase).2 n (ph + 1)))) := h.ua (by decide) (by rfl)
    have hP1 : Pb (n + 1) n g (a2_ua r fM_pilePhase ((r fM_pilePhase).1, (upd (r fM_pilePhase).2 n (ph + 1)))) := by
      refine ⟨hP.1, hP.2.1, hP.2.2.1, fun j hj => ?_⟩
      show Vk ((r fM_pileKind).2 j) (upd (r fM_pilePhase).2 n (ph + 1) j)
      rw [upd_ne (by omega)]
      exact hP.2.2.2 j (by omega)
    have hph1 : ((a2_ua r fM_pilePhase ((r fM_pilePhase).1, (upd (r fM_pilePhase).2 n (ph + 1)))) fM_pilePhase).2 n = ph + 1 := upd_eq
    have hc1 : ((a2_ua r fM_pilePhase ((r fM_pilePhase).1, (upd (r fM_pilePhase).2 n (ph + 1)))) fM_pileKind).2 n = c := hc
    have hl1 : cz ((a2_ua r fM_pilePhase ((r fM_pilePhase).1, (upd (r fM_pilePhase).2 n (ph + 1)))) fM_pileKind).2 (n + 1) = l + 1 := hl
    have eK : (fun (q : Nat) (_ : Bool) => ck w (r fM_pileKind).2 (r fM_pilePhase).2 n q) = fun q _ => ck w ((a2_ua r fM_pilePhase ((r fM_pilePhase).1, (upd (r fM_pilePhase).2 n (ph + 1)))) fM_pileKind).2 ((a2_ua r fM_pilePhase ((r fM_pilePhase).1, (upd (r fM_pilePhase).2 n (ph + 1)))) fM_pilePhase).2 n q := by
      funext q s
      exact (ck_congr n (fun i _ => rfl) (fun i hi => upd_ne (by omega)) q).symm
    rw [eK]
    generalize (a2_ua r fM_pilePhase ((r fM_pilePhase).1, (upd (r fM_pilePhase).2 n (ph + 1)))) = r1 at h1 hP1 hph1 hc1 hl1
    unfold BM_goOn_137 BM_goOn_144
    rcases hV with e | e | ⟨e, ep⟩
    · exact absurd e hk
    · subst e
      refine pl_neg (by decide) (pl_neg (by decide) (pl_neg (by decide) (pl_pos (by decide) ?_)))
      exact pl_n (xM_whens a1 a2 ph h1 hP1 hl1 hc1) (fun _ _ _ e => e) (fun g2 r2 e2 => e2)
    · rcases e with e | e | e | e | e
      · subst e
        refine pl_pos (by decide) ?_
        exact pl_n (xM_asked a2 ph 50 51 72 h1 hP1 hl1 hc1 (Or.inl rfl) hph1 ep (fun q => by rw [pc_37, if_pos (by decide)]) (by rw [pc_37, if_neg (c := (51 : Int32) = -1) (by decide)])) (fun _ _ _ e => e) (fun g2 r2 e2 => e2)
      · subst e
        refine pl_neg (by decide) (pl_pos (by decide) ?_)
        exact pl_n (xM_branch a1 a2 ph h1 hP1 hl1 hc1 hph1 ep) (fun _ _ _ e => e) (fun g2 r2 e2 => e2)
      · subst e
        refine pl_neg (by decide) (pl_neg (by decide) (pl_pos (by decide) ?_))
        rw [pc_39]
        refine pl_in (fun h0 => ?_) (fun h0 => ?_)
        · rw [if_neg h0]
          refine pl_n (xM_scope1 a2 74 h1 hP1 (by rw [hc1]; decide)) (fun _ _ _ e => e) (fun g2 r2 e2 => e2)
        · have hz0 : ph = 0 := Decidable.not_not.mp h0
          rw [if_pos hz0, bd_as]
          have hPt : Pb (n + 1) (n + 1) g r1 := hP1.top (by
            rw [hc1, hph1, hz0]
            exact Or.inr (Or.inr ⟨Or.inr (Or.inr (Or.inl rfl)), Or.inr (Or.inl rfl)⟩))
          refine pl_n (xM_list a2 h1 hPt (by omega) hl1) (fun _ _ _ e => e) (fun g2 r2 e2 => ?_)
          have eK2 : (fun (q : Nat) (_ : Bool) => bd (pe w q) fun q _ => ck w (r1 fM_pileKind).2 (r1 fM_pilePhase).2 n q) = fun q _ => ck w (r1 fM_pileKind).2 (r1 fM_pilePhase).2 (n + 1) q := by
            funext q s
            rw [ck_ph hc1 hph1 hl1, hz0]
            show _ = bd (pc w 39 1 l q) _
            rw [pc_39, if_neg (by decide)]
          rw [eK2]
          exact e2
      · subst e
        refine pl_neg (by decide) (pl_neg (by decide) (pl_neg (by decide) (pl_neg (by decide) (pl_pos (by decide) ?_))))
        exact pl_n (xM_asked a2 ph 61 33 76 h1 hP1 hl1 hc1 (Or.inr (Or.inl rfl)) hph1 ep (fun q => by rw [pc_41, if_pos (by decide)]) (by rw [pc_41, if_neg (c := (33 : Int32) = -1) (by decide)])) (fun _ _ _ e => e) (fun g2 r2 e2 => e2)
      · subst e
        refine pl_neg (by decide) (pl_neg (by decide) (pl_neg (by decide) (pl_neg (by decide) (pl_neg (by decide) (pl_pos (by decide) ?_)))))
        exact pl_n (xM_asked a2 ph 62 (-1) 77 h1 hP1 hl1 hc1 (Or.inr (Or.inr rfl)) hph1 ep (fun q => by rw [pc_42, if_pos (by decide)]) (by rw [pc_42, if_pos (c := (-1 : Int32) = -1) rfl])) (fun _ _ _ e => e) (fun g2 r2 e2 => e2)
end
