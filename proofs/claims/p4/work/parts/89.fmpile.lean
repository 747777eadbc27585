/-! The model's pile of open statements: what is left to read is a function of what lies on it. -/
/-- an answer asked for: one two list, then its end -/
noncomputable def aq (w : Ws) (one two en : Int32) (l q : Nat) : Option RR := if ww w q one then (if ww w (q + 1) two then bd (rv w 10 (q + 2) (l + 1) false) (fun q _ => ok (sk (ww w q en) q)) else no (q + 1)) else ok (sk (ww w q en) q)
noncomputable def aq1 (w : Ws) (one en : Int32) (l q : Nat) : Option RR := if ww w q one then bd (rv w 10 (q + 1) (l + 1) false) (fun q _ => ok (sk (ww w q en) q)) else ok (sk (ww w q en) q)
noncomputable def if1 (w : Ws) (l q : Nat) : Option RR := if ww w q 53 then bd (rv w 13 (q + 1) l false) (fun q _ => ok (sk (ww w q 73) q)) else ok (sk (ww w q 73) q)
def pe (w : Ws) (q : Nat) : Option RR := if ww w q 74 then ok (q + 1) else no q
/-- what is left of one that lies there -/
noncomputable def pc (w : Ws) (k ph : Int32) (l q : Nat) : Option RR :=
  if k = 0 then (if ph = 0 then (if wb w q then rv w 11 q l false else no q) else rv w 11 q l false)
  else if k = 37 then (if 0 < ph.toInt then ok (sk (ww w q 72) q) else aq w 50 51 72 l q)
  else if k = 41 then (if 0 < ph.toInt then ok (sk (ww w q 76) q) else aq w 61 33 76 l q)
  else if k = 42 then (if 0 < ph.toInt then ok (sk (ww w q 77) q) else aq1 w 62 77 l q)
  else if k = 38 then (if ph = 2 then ok (sk (ww w q 73) q) else if ph = 1 then if1 w l q else bd (rv w 13 q l false) (fun q _ => if1 w l q))
  else if k = 39 then (if ph = 0 then bd (rv w 10 q (l + 1) false) (fun q _ => pe w q) else pe w q)
  else bd (rv w 14 q l false) (fun q _ => ok (sk (ww w q 75) q))
/-- how many lists -/
def cz (K : Nat → Int32) : Nat → Nat
  | 0 => 0
  | i + 1 => cz K i + (if K i = 0 then 1 else 0)
noncomputable def ck (w : Ws) (K P : Nat → Int32) : Nat → Nat → Option RR
  | 0, q => ok q
  | i + 1, q => bd (pc w (K i) (P i) (cz K (i + 1) - 1) q) fun q _ => ck w K P i q
theorem ck_1 (w : Ws) (K P : Nat → Int32) (i q : Nat) : ck w K P (i + 1) q = bd (pc w (K i) (P i) (cz K (i + 1) - 1) q) fun q _ => ck w K P i q := rfl
theorem cz_congr {K K' : Nat → Int32} : ∀ (n : Nat), (∀ i, i < n → K' i = K i) → cz K' n = cz K n
  | 0, _ => rfl
  | n + 1, h => by
    show cz K' n + _ = cz K n + _
    rw [cz_congr n (fun i hi => h i (by omega)), h n (by omega)]
theorem ck_congr {w : Ws} {K K' P P' : Nat → Int32} : ∀ (n : Nat), (∀ i, i < n → K' i = K i) → (∀ i, i < n → P' i = P i) → ∀ q, ck w K' P' n q = ck w K P n q
  | 0, _, _, _ => rfl
  | n + 1, h, h2, q => by
    rw [ck_1, ck_1, h n (by omega), h2 n (by omega), cz_congr (n + 1) h]
    refine congrArg (bd _) (funext fun q => funext fun s => ?_)
    exact ck_congr n (fun i hi => h i (by omega)) (fun i hi => h2 i (by omega)) q
theorem cz_pos {K : Nat → Int32} (h : K 0 = 0) : ∀ n, 0 < n → 1 ≤ cz K n
  | 0, h0 => absurd h0 (by decide)
  | 1, _ => by
    show 1 ≤ 0 + (if K 0 = 0 then 1 else 0)
    rw [if_pos h]
    decide
  | n + 2, _ => by
    have := cz_pos h (n + 1) (by omega)
    show 1 ≤ cz K (n + 1) + _
    omega
def Vk (k ph : Int32) : Prop := k = 0 ∨ k = 40 ∨ ((k = 37 ∨ k = 38 ∨ k = 39 ∨ k = 41 ∨ k = 42) ∧ (ph = 0 ∨ ph = 1 ∨ ph = 2))
/-- the pile: n lie on it, those below i are as they should be -/
def Pb (n i : Nat) (g : a2_G) (r : a2_A) : Prop := (g fM_piled).toInt = n ∧ (r fM_pileKind).2 0 = 0 ∧ (0 < n → (g fM_level).toInt = (cz (r fM_pileKind).2 n : Int) - 1 ∧ cz (r fM_pileKind).2 n ≤ 41) ∧ ∀ j, j < i → Vk ((r fM_pileKind).2 j) ((r fM_pilePhase).2 j)
def WY : List Nat := [fM_at, fM_failed, fM_bad, fM_faults, fM_nodes, fM_level, fM_contexts, fM_marks, fM_subject, fM_compared, fM_joints]
def WYa : List Nat := [fM_faultNumber, fM_faultWord, fM_kind, fM_value, fM_place, fM_extra, fM_first, fM_last, fM_next, fM_above, fM_sums, fM_sumSign, fM_products, fM_productSign, fM_mark, fM_andFirst, fM_andLast, fM_andMany, fM_orFirst, fM_orLast, fM_orMany]
abbrev Fy (g : a2_G) (r : a2_A) (g' : a2_G) (r' : a2_A) : Prop := Fm WY WYa g r g' r'
theorem Fm.y {g g' : a2_G} {r r' : a2_A} (h : Fe g r g' r') : Fy g r g' r' := h.sub (by decide) (by decide)
theorem Fx.y {g g' : a2_G} {r r' : a2_A} (h : Fx g r g' r') : Fy g r g' r' := h.sub (by decide) (by decide)
theorem Fc.y {g g' : a2_G} {r r' : a2_A} (h : Fc g r g' r') : Fy g r g' r' := h.sub (by decide) (by decide)
theorem Pb.y {n i : Nat} {g g' : a2_G} {r r' : a2_A} (h : Pb n i g r) (hF : Fy g r g' r') (hl : g' fM_level = g fM_level) : Pb n i g' r' := by
  unfold Pb
  rw [hF.1 fM_piled (by decide), hF.2 fM_pileKind (by decide), hF.2 fM_pilePhase (by decide), hl]
  exact h
theorem Pb.e {n i : Nat} {g g' : a2_G} {r r' : a2_A} (h : Pb n i g r) (hF : Fe g r g' r') : Pb n i g' r' := h.y hF.y (hF.1 fM_level (by decide))
/-- a step of the pile: what is left is the same -/
def kW (w : Ws) (f : Gh) (A : Option RR) : Option Value → a2_G → a2_A → Prop := fun o g r => o = none ∧ ((∃ i q, Gd w f q g r ∧ Pb i i g r ∧ A = ck w (r fM_pileKind).2 (r fM_pilePhase).2 i q) ∨ ∃ b, A = no b ∧ Bd w f b g r)
def kWb (w : Ws) (f : Gh) (KK : Nat → Bool → Option RR) (A : Option RR) : Option Value → a2_G → a2_A → Prop := kW w f (bd A KK)
section
variable {L : Nat} {xs : Nat → Int32} {m d k : Nat} {w : Ws} {f : Gh}
theorem kW.bad {b : Nat} {A : Option RR} {g : a2_G} {r : a2_A} (h : Bd w f b g r) (hA : A = no b) : kW w f A none g r := ⟨rfl, Or.inr ⟨b, hA, h⟩⟩
theorem kWb.bad {b : Nat} {KK : Nat → Bool → Option RR} {g : a2_G} {r : a2_A} (h : Bd w f b g r) : kWb w f KK (no b) none g r := ⟨rfl, Or.inr ⟨b, rfl, h⟩⟩
/-- something is put on the pile -/
theorem pi_top {n i : Nat} {g : a2_G} {r : a2_A} (h : Pb n i g r) (hL : ML r) (c t : Int32) : pl (ev L xs (m + 1) d nM_pile [.ref cM, .int c, .int t] g r) (fun o g' r' => o = none ∧ n < 128 ∧ g' = upd g fM_piled (g fM_piled + 1) ∧ (∃ x, r' = a2_ua (a2_ua (a2_ua r fM_pileKind ((r fM_pileKind).1, upd (r fM_pileKind).2 n c)) fM_pileNode x) fM_pilePhase ((r fM_pilePhase).1, upd (r fM_pilePhase).2 n 0) ∧ x.1 = (r fM_pileNode).1)) kN := by
  cases d with
  | zero => trivial
  | succ d =>
    rw [qM_pile]
    refine pl_if (fun ci => pl_if (fun _ => pl_if (fun _ => ?_) (fun _ => trivial)) (fun _ => trivial)) (fun _ => trivial)
    have en : (g fM_piled).toNatClampNeg = n := by rw [nc_eq, h.1]; rfl
    rw [inr_eq, hL.at 25, h.1] at ci
    rw [en]
    exact ⟨rfl, by omega, rfl, _, rfl, rfl⟩
theorem Bd.pi {b : Nat} {g : a2_G} {r : a2_A} (h : Bd w f b g r) (c t : Int32) : pl (ev L xs (m + 1) d nM_pile [.ref cM, .int c, .int t] g r) (fun o g' r' => o = none ∧ Bd w f b g' r') kN := by
  cases d with
  | zero => trivial
  | succ d =>
    rw [qM_pile]
    refine pl_if (fun _ => pl_if (fun _ => pl_if (fun _ => ?_) (fun _ => trivial)) (fun _ => trivial)) (fun _ => trivial)
    exact ⟨rfl, (((h.ug (by decide)).ua (by decide) (by rfl)).ua (by decide) (by rfl)).ua (by decide) (by rfl)⟩
theorem pb_pi {b : Nat} {g : a2_G} {r : a2_A} {kn : a2_G → a2_A → Option fn_Z} {Q : Option Value → a2_G → a2_A → Prop} {X : Nat → a2_G → a2_A → Prop} {c t : Int32} (h : Bd w f b g r) (hk : ∀ g' r', Bd w f b g' r' → pl (kn g' r') Q X) : pl (fn_n (ev L xs (m + 1) d nM_pile [.ref cM, .int c, .int t] g r) kn) Q X := pl_n (h.pi c t) (fun _ _ _ e => e.elim) (fun g' r' e => hk g' r' e.2)
theorem Pb.push {n i : Nat} {g : a2_G} {r : a2_A} {x : Nat × (Nat → Int32)} (h : Pb n i g r) (hn : 0 < n) (hn2 : n < 128) (c : Int32) (hc : c ≠ 0) : Pb (n + 1) i (upd g fM_piled (g fM_piled + 1)) (a2_ua (a2_ua (a2_ua r fM_pileKind ((r fM_pileKind).1, upd (r fM_pileKind).2 n c)) fM_pileNode x) fM_pilePhase ((r fM_pilePhase).1, upd (r fM_pilePhase).2 n 0)) ∨ n < i := by
  by_cases hi : n < i
  · exact Or.inr hi
  · refine Or.inl ⟨?_, ?_, fun _ => ?_, fun j hj => ?_⟩
    · show (g fM_piled + 1).toInt = _
      have := h.1
      rw [i32_inc (by omega), h.1]
      omega
    · show upd (r fM_pileKind).2 n c 0 = 0
      rw [upd_ne (by omega)]
      exact h.2.1
    · show (g fM_level).toInt = (cz (upd (r fM_pileKind).2 n c) (n + 1) : Int) - 1 ∧ cz (upd (r fM_pileKind).2 n c) (n + 1) ≤ 41
      have e : cz (upd (r fM_pileKind).2 n c) (n + 1) = cz (r fM_pileKind).2 n := by
        show cz (upd (r fM_pileKind).2 n c) n + _ = _
        rw [cz_congr n (fun i hi => upd_ne (by omega)), upd_eq, if_neg hc]
        rfl
      rw [e]
      exact h.2.2.1 hn
    · show Vk (upd (r fM_pileKind).2 n c j) (upd (r fM_pilePhase).2 n 0 j)
      rw [upd_ne (by omega), upd_ne (by omega)]
      exact h.2.2.2 j hj
/-- a statement with parts is put on the pile: its first part is what follows -/
theorem pm_pi {n : Nat} {q l : Nat} {g : a2_G} {r : a2_A} {kn : a2_G → a2_A → Option fn_Z} {Q : Option Value → a2_G → a2_A → Prop} {X : Nat → a2_G → a2_A → Prop} {c t : Int32} {A : Option RR} (h : Gd w f q g r) (hP : Pb n n g r) (hn : 0 < n) (hl : cz (r fM_pileKind).2 n = l + 1) (hc : c = 37 ∨ c = 38 ∨ c = 39 ∨ c = 40 ∨ c = 41 ∨ c = 42) (hA : A = bd (pc w c 0 l q) fun q _ => ck w (r fM_pileKind).2 (r fM_pilePhase).2 n q) (hk : ∀ g' r', kW w f A none g' r' → pl (kn g' r') Q X) : pl (fn_n (ev L xs (m + 1) d nM_pile [.ref cM, .int c, .int t] g r) kn) Q X := pl_n (pi_top hP h.1.2.1 c t) (fun _ _ _ e => e.elim) (fun g' r' e => by
  obtain ⟨-, hn2, rfl, x, rfl, hx⟩ := e
  have hc0 : c ≠ 0 := by rcases hc with rfl | rfl | rfl | rfl | rfl | rfl <;> decide
  refine hk _ _ ⟨rfl, Or.inl ⟨n + 1, q, ?_, ?_, ?_⟩⟩
  · exact (((h.ug (by decide)).ua (by decide) (by rfl)).ua (by decide) hx).ua (by decide) (by rfl)
  · rcases hP.push (x := x) hn hn2 c hc0 with h1 | h1
    · refine ⟨h1.1, h1.2.1, h1.2.2.1, fun j hj => ?_⟩
      by_cases c1 : j = n
      · subst c1
        show Vk (upd (r fM_pileKind).2 j c j) (upd (r fM_pilePhase).2 j 0 j)
        rw [upd_eq, upd_eq]
        rcases hc with rfl | rfl | rfl | rfl | rfl | rfl
        · exact Or.inr (Or.inr ⟨Or.inl rfl, Or.inl rfl⟩)
        · exact Or.inr (Or.inr ⟨Or.inr (Or.inl rfl), Or.inl rfl⟩)
        · exact Or.inr (Or.inr ⟨Or.inr (Or.inr (Or.inl rfl)), Or.inl rfl⟩)
        · exact Or.inr (Or.inl rfl)
        · exact Or.inr (Or.inr ⟨Or.inr (Or.inr (Or.inr (Or.inl rfl))), Or.inl rfl⟩)
        · exact Or.inr (Or.inr ⟨Or.inr (Or.inr (Or.inr (Or.inr rfl))), Or.inl rfl⟩)
      · exact h1.2.2.2 j (by omega)
    · exact absurd h1 (Nat.lt_irrefl _)
  · show A = ck w (upd (r fM_pileKind).2 n c) (upd (r fM_pilePhase).2 n 0) (n + 1) q
    have e : cz (upd (r fM_pileKind).2 n c) (n + 1) = l + 1 := by
      show cz (upd (r fM_pileKind).2 n c) n + _ = _
      rw [cz_congr n (fun i hi => upd_ne (by omega)), upd_eq, if_neg hc0]
      exact hl
    rw [ck_1, e, upd_eq, upd_eq, hA]
    refine congrArg (bd _) (funext fun q => funext fun s => ?_)
    exact (ck_congr n (fun i hi => upd_ne (by omega)) (fun i hi => upd_ne (by omega)) q).symm)
/-- a list begins -/
theorem xM_list (a : Int32) {n q l : Nat} {g : a2_G} {r : a2_A} (h : Gd w f q g r) (hP : Pb n n g r) (hn : 0 < n) (hl : cz (r fM_pileKind).2 n = l + 1) : pl (ev L xs (m + 1) d nM_list [.ref cM, .int a] g r) (kW w f (bd (rv w 10 q (l + 1) false) fun q _ => ck w (r fM_pileKind).2 (r fM_pilePhase).2 n q)) kN := by
  cases d with
  | zero => trivial
  | succ d =>
    rw [qM_list, rv_t10]
    refine pl_pos (by rw [c2_eq]; exact h.2.2.1) ?_
    obtain ⟨l1, l2⟩ := hP.2.2.1 hn
    refine pl_u (xM_begins L xs h.1.mrd h.2.2.2.1) (fun e => pl_pos (by decide) ?_) (fun e => pl_neg (by decide) ?_)
    · rw [if_pos e]
      refine pl_in (fun c4 => ?_) (fun c4 => ?_)
      · have hl4 : ¬ 40 < l + 1 := by
          intro e2
          exact c4 (i32e (show _ = (40 : Int) by omega))
        rw [if_neg hl4]
        have h1 : Gd w f q (upd g fM_level (g fM_level + 1)) r := h.ug (by decide)
        refine pm_nm h1 (fun v g2 r2 hv h2 f2 => ?_)
        refine pm_na h2 (fun g3 r3 h3 f3 => ?_)
        have fA := f2.trans f3
        have e1 : g3 fM_piled = g fM_piled := fA.1 fM_piled (by decide)
        have e2 : g3 fM_level = g fM_level + 1 := fA.1 fM_level (by decide)
        have e3 : r3 fM_pileKind = r fM_pileKind := fA.2 fM_pileKind (by decide)
        have e4 : r3 fM_pilePhase = r fM_pilePhase := fA.2 fM_pilePhase (by decide)
        have hn' : (g3 fM_piled).toInt = n := by rw [e1]; exact hP.1
        refine pl_n (Q1 := fun o g' r' => o = none ∧ n < 128 ∧ g' = upd g3 fM_piled (g3 fM_piled + 1) ∧ (∃ x, r' = a2_ua (a2_ua (a2_ua r3 fM_pileKind ((r3 fM_pileKind).1, upd (r3 fM_pileKind).2 n 0)) fM_pileNode x) fM_pilePhase ((r3 fM_pilePhase).1, upd (r3 fM_pilePhase).2 n 0) ∧ x.1 = (r3 fM_pileNode).1)) (X1 := kN) ?_ (fun _ _ _ e => e) (fun g4 r4 e4' => ?_)
        · cases d with
          | zero => trivial
          | succ d =>
            rw [qM_pile]
            refine pl_if (fun ci => pl_if (fun _ => pl_if (fun _ => ?_) (fun _ => trivial)) (fun _ => trivial)) (fun _ => trivial)
            have en : (g3 fM_piled).toNatClampNeg = n := by rw [nc_eq, hn']; rfl
            rw [inr_eq, h3.1.2.1.at 25, hn'] at ci
            rw [en]
            exact ⟨rfl, by omega, rfl, _, rfl, rfl⟩
        · obtain ⟨-, hn2, rfl, x, rfl, hx⟩ := e4'
          have ez : cz (upd (r3 fM_pileKind).2 n 0) (n + 1) = l + 2 := by
            show cz (upd (r3 fM_pileKind).2 n 0) n + _ = _
            rw [cz_congr n (fun i hi => upd_ne (by omega)), upd_eq, if_pos rfl, e3, hl]
          refine ⟨rfl, Or.inl ⟨n + 1, q, ?_, ⟨?_, ?_, fun _ => ?_, fun j hj => ?_⟩, ?_⟩⟩
          · exact (((h3.ug (by decide)).ua (by decide) (by rfl)).ua (by decide) hx).ua (by decide) (by rfl)
          · show (g3 fM_piled + 1).toInt = _
            rw [i32_inc (by omega), hn']
            rfl
          · show upd (r3 fM_pileKind).2 n 0 0 = 0
            rw [upd_ne (by omega), e3]
            exact hP.2.1
          · show (g3 fM_level).toInt = (cz (upd (r3 fM_pileKind).2 n 0) (n + 1) : Int) - 1 ∧ cz (upd (r3 fM_pileKind).2 n 0) (n + 1) ≤ 41
            rw [ez, e2, i32_inc (by omega), l1, hl]
            omega
          · show Vk (upd (r3 fM_pileKind).2 n 0 j) (upd (r3 fM_pilePhase).2 n 0 j)
            by_cases c1 : j = n
            · subst c1
              rw [upd_eq, upd_eq]
              exact Or.inl rfl
            · rw [upd_ne c1, upd_ne c1, e3, e4]
              exact hP.2.2.2 j (by omega)
          · show _ = ck w (upd (r3 fM_pileKind).2 n 0) (upd (r3 fM_pilePhase).2 n 0) (n + 1) q
            rw [ck_1, ez, upd_eq, upd_eq]
            unfold pc
            rw [if_pos rfl, if_pos rfl, if_pos e]
            refine congrArg (bd _) (funext fun q => funext fun s => ?_)
            rw [e3, e4]
            exact (ck_congr n (fun i hi => upd_ne (by omega)) (fun i hi => upd_ne (by omega)) q).symm
      · rw [Decidable.not_not] at c4
        rw [c4] at l1
        have l1' : (40 : Int) = (cz (r fM_pileKind).2 n : Int) - 1 := l1
        rw [if_pos (by omega)]
        refine pm_fa h h.2.2.2.1 h.2.2.2.2 (fun g1 r1 h1 f1 => ?_)
        exact kW.bad h1 rfl
    · rw [if_neg (by rw [e]; decide)]
      refine pm_fa h h.2.2.2.1 h.2.2.2.2 (fun g1 r1 h1 f1 => ?_)
      exact kW.bad h1 rfl
theorem xB_list (a : Int32) {b : Nat} {g : a2_G} {r : a2_A} (h : Bd w f b g r) : pl (ev L xs (m + 1) d nM_list [.ref cM, .int a] g r) (fun o g' r' => o = none ∧ Bd w f b g' r') kN := by
  cases d with
  | zero => trivial
  | succ d =>
    rw [qM_list]
    exact pl_neg (by rw [c2_eq, h.2.2.1]; decide) ⟨rfl, h⟩
/-- one is taken off: it was no list -/
theorem Pb.pop {n : Nat} {g : a2_G} {r : a2_A} {x : Nat × (Nat → Int32)} (h : Pb (n + 1) n g r) (hk : (r fM_pileKind).2 n ≠ 0) : Pb n n (upd g fM_piled (g fM_piled - 1)) (a2_ua r fM_extra x) := by
  obtain ⟨h1, h2, h3, h4⟩ := h
  refine ⟨?_, h2, fun hn => ?_, h4⟩
  · show (g fM_piled - 1).toInt = _
    rw [i32_dec (by omega), h1]
    omega
  · have e : cz (r fM_pileKind).2 (n + 1) = cz (r fM_pileKind).2 n := by
      show cz (r fM_pileKind).2 n + _ = _
      rw [if_neg hk]
      rfl
    have := h3 (by omega)
    rw [e] at this
    exact this
theorem sc_34 (x1 x2 x3 x4 x5 x6 : Int32) {n q : Nat} {g : a2_G} {r : a2_A} (h : Gd w f q g r) (hP : Pb (n + 1) n g r) (hk : (r fM_pileKind).2 n ≠ 0) : pl (BM_scope_34 L xs (m + 1) d k x1 x2 x3 x4 x5 x6 g r) (kW w f (ck w (r fM_pileKind).2 (r fM_pilePhase).2 n q)) kN := by
  unfold BM_scope_34
  refine pl_if (fun _ => ?_) (fun _ => trivial)
  exact ⟨rfl, Or.inl ⟨n, q, (h.ug (by decide)).ua (by decide) (by rfl), hP.pop hk, rfl⟩⟩
theorem scb_34 (x1 x2 x3 x4 x5 x6 : Int32) {b : Nat} {g : a2_G} {r : a2_A} {A : Option RR} (h : Bd w f b g r) (hA : A = no b) : pl (BM_scope_34 L xs (m + 1) d k x1 x2 x3 x4 x5 x6 g r) (kW w f A) kN := by
  unfold BM_scope_34
  refine pl_if (fun _ => ?_) (fun _ => trivial)
  exact ⟨rfl, Or.inr ⟨b, hA, (h.ug (by decide)).ua (by decide) (by rfl)⟩⟩
theorem xM_scope0 (t wd : Int32) {n q : Nat} {g : a2_G} {r : a2_A} (h : Gd w f q g r) (hP : Pb (n + 1) n g r) (hk : (r fM_pileKind).2 n ≠ 0) : pl (ev L xs (m + 1) d nM_scope [.ref cM, .int t, .int wd, .int 0] g r) (kW w f (ck w (r fM_pileKind).2 (r fM_pilePhase).2 n (sk (ww w q wd) q))) kN := by
  cases d with
  | zero => trivial
  | succ d =>
    rw [qM_scope]
    refine pl_pos (by decide) ?_
    unfold BM_scope_17
    refine pm_mb h (fun v g' h' f' => ?_)
    exact pl_if (fun _ => sc_34 _ _ _ _ _ _ h' (hP.e f') hk) (fun _ => sc_34 _ _ _ _ _ _ h' (hP.e f') hk)
theorem xM_scope1 (t wd : Int32) {n q : Nat} {g : a2_G} {r : a2_A} (h : Gd w f q g r) (hP : Pb (n + 1) n g r) (hk : (r fM_pileKind).2 n ≠ 0) : pl (ev L xs (m + 1) d nM_scope [.ref cM, .int t, .int wd, .int 1] g r) (kW w f (bd (if ww w q wd then ok (q + 1) else no q) fun q _ => ck w (r fM_pileKind).2 (r fM_pilePhase).2 n q)) kN := by
  cases d with
  | zero => trivial
  | succ d =>
    rw [qM_scope]
    refine pl_neg (by decide) ?_
    unfold BM_scope_17
    refine pm_mu (PQ := fun A => kW w f (bd A fun q _ => ck w (r fM_pileKind).2 (r fM_pilePhase).2 n q)) h (fun e g' r' h' f' => ?_) (fun e g' r' h' f' => ?_)
    · have e3 : r' fM_pileKind = r fM_pileKind := f'.2 fM_pileKind (by decide)
      have e4 : r' fM_pilePhase = r fM_pilePhase := f'.2 fM_pilePhase (by decide)
      refine pl_neg (by decide) ?_
      rw [bd_ok, ← e3, ← e4]
      exact sc_34 _ _ _ _ _ _ h' (hP.e f') (by rw [e3]; exact hk)
    · exact pl_pos (by decide) (scb_34 _ _ _ _ _ _ h' rfl)
end
