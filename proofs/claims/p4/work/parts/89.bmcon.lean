/-! The model's leaves beside the reader: a good state (the word it stands at), a bad one (the word that failed). -/
theorem ML.ua {r : a2_A} (h : ML r) {k : Nat} {x : Nat × (Nat → Int32)} (hx : x.1 = (r k).1) : ML (a2_ua r k x) := fun e he => by
  unfold a2_ua
  by_cases c : e.1 = k
  · rw [if_pos c, hx, ← c]
    exact h e he
  · rw [if_neg c]
    exact h e he
theorem Fm.ua {W WA : List Nat} {g g' : a2_G} {r r' : a2_A} (h : Fm W WA g r g' r') {k : Nat} {x : Nat × (Nat → Int32)} (hk : k ∈ WA) : Fm W WA g r g' (a2_ua r' k x) := ⟨h.1, fun p hp => (show a2_ua r' k x p = r' p from if_neg (fun (e : p = k) => hp (by rw [e]; exact hk))).trans (h.2 p hp)⟩
/-- all that reading within a clause may write -/
def WS : List Nat := [fM_at, fM_failed, fM_bad, fM_faults, fM_nodes, fM_level, fM_piled, fM_contexts, fM_marks, fM_subject, fM_compared, fM_joints]
def WSa : List Nat := [fM_faultNumber, fM_faultWord, fM_kind, fM_value, fM_place, fM_extra, fM_first, fM_last, fM_next, fM_above, fM_pileKind, fM_pileNode, fM_pilePhase, fM_sums, fM_sumSign, fM_products, fM_productSign, fM_mark, fM_andFirst, fM_andLast, fM_andMany, fM_orFirst, fM_orLast, fM_orMany]
theorem WE_WS : ∀ k, k ∈ WE → k ∈ WS := by decide
theorem WEa_WSa : ∀ k, k ∈ WEa → k ∈ WSa := by decide
abbrev Fe (g : a2_G) (r : a2_A) (g' : a2_G) (r' : a2_A) : Prop := Fm WE WEa g r g' r'
def Sx (w : Ws) (f : Gh) (g : a2_G) (r : a2_A) : Prop := (Mrd w f.2.1 f.2.2 ∧ 0 ≤ f.1.toInt ∧ f.1.toInt < 20) ∧ ML r ∧ Fm WS WSa f.2.1 f.2.2 g r ∧ 1 ≤ (g fM_nodes).toInt
def Gd (w : Ws) (f : Gh) (p : Nat) (g : a2_G) (r : a2_A) : Prop := Sx w f g r ∧ g fM_faults = f.1 ∧ g fM_bad = 0 ∧ (g fM_at).toInt = p ∧ p ≤ w.2.2
def Bd (w : Ws) (f : Gh) (b : Nat) (g : a2_G) (r : a2_A) : Prop := Sx w f g r ∧ g fM_faults = f.1 + 1 ∧ g fM_bad = 1 ∧ (g fM_failed).toInt = b ∧ b ≤ w.2.2
def sM (w : Ws) (f : Gh) (A : Option RR) (g : a2_G) (r : a2_A) : Prop := match A with
  | none => False
  | some (.inl q) => Gd w f q.1 g r
  | some (.inr b) => Bd w f b g r
def kBv (w : Ws) (f : Gh) (b : Nat) (g : a2_G) (r : a2_A) : Option Value → a2_G → a2_A → Prop := fun o g' r' => (∃ v : Int32, o = some (.int v)) ∧ Bd w f b g' r' ∧ Fe g r g' r'
def kBn (w : Ws) (f : Gh) (b : Nat) (g : a2_G) (r : a2_A) : Option Value → a2_G → a2_A → Prop := fun o g' r' => o = none ∧ Bd w f b g' r' ∧ Fe g r g' r'
section
variable {L : Nat} {xs : Nat → Int32} {m d : Nat} {w : Ws} {f : Gh} {p b : Nat} {g g' : a2_G} {r r' : a2_A} {z : Option fn_Z} {k : Int32 → a2_G → a2_A → Option fn_Z} {kn : a2_G → a2_A → Option fn_Z} {Q : Option Value → a2_G → a2_A → Prop} {X : Nat → a2_G → a2_A → Prop} {PQ : Option RR → Option Value → a2_G → a2_A → Prop} {A B : Option RR}
theorem Sx.mrd (h : Sx w f g r) : Mrd w g r := by
  obtain ⟨⟨⟨h1, h2, h3, h4⟩, -⟩, -, hF, -⟩ := h
  refine ⟨?_, ?_, ?_, h4⟩
  · rw [hF.2 fM_kinds (by decide)]; exact h1
  · rw [hF.2 fM_values (by decide)]; exact h2
  · rw [hF.1 fM_n (by decide)]; exact h3
theorem Sx.fr (h : Sx w f g r) (hF : Fe g r g' r') (hL : ML r') (hn : 1 ≤ (g' fM_nodes).toInt) : Sx w f g' r' := ⟨h.1, hL, h.2.2.1.trans (hF.sub WE_WS WEa_WSa), hn⟩
theorem Sx.up (h : Sx w f g r) {j : Nat} {x : Int32} (hj : j ∈ WS) (hn : j ≠ fM_nodes) : Sx w f (upd g j x) r := ⟨h.1, h.2.1, h.2.2.1.up hj, by rw [upd_ne (fun e => hn e.symm)]; exact h.2.2.2⟩
theorem Sx.ua (h : Sx w f g r) {j : Nat} {x : Nat × (Nat → Int32)} (hj : j ∈ WSa) (hx : x.1 = (r j).1) : Sx w f g (a2_ua r j x) := ⟨h.1, h.2.1.ua hx, h.2.2.1.ua hj, h.2.2.2⟩
theorem Gd.le (h : Gd w f p g r) : p ≤ w.2.2 ∧ w.2.2 ≤ 1500 := ⟨h.2.2.2.2, h.1.1.1.2.2.2⟩
theorem Gd.nat (h : Gd w f p g r) : (g fM_at).toNatClampNeg = p := by
  rw [nc_eq, h.2.2.2.1]
  rfl
theorem Gd.add (h : Gd w f p g r) : (g fM_at + 1).toInt = ((p + 1 : Nat) : Int) := by
  have e := h.2.2.2.1
  have := h.le
  rw [i32_inc (by omega), e]
  rfl
theorem Gd.up (h : Gd w f p g r) (hp : p < w.2.2) : Gd w f (p + 1) (upd g fM_at (g fM_at + 1)) r := ⟨h.1.up (by decide) (by decide), h.2.1, h.2.2.1, h.add, hp⟩
theorem Fe.at (x : Int32) : Fe g r (upd g fM_at x) r := Fm.rf.up (by decide)
theorem Gd.fr (h : Gd w f p g r) (hS : Sx w f g' r') (hF : Fm [fM_nodes] WEa g r g' r') : Gd w f p g' r' := by
  refine ⟨hS, ?_, ?_, ?_, h.2.2.2.2⟩
  · rw [hF.1 _ (by decide)]; exact h.2.1
  · rw [hF.1 _ (by decide)]; exact h.2.2.1
  · rw [hF.1 _ (by decide)]; exact h.2.2.2.1
theorem Bd.fr (h : Bd w f b g r) (hS : Sx w f g' r') (hF : Fm [fM_nodes] WEa g r g' r') : Bd w f b g' r' := by
  refine ⟨hS, ?_, ?_, ?_, h.2.2.2.2⟩
  · rw [hF.1 _ (by decide)]; exact h.2.1
  · rw [hF.1 _ (by decide)]; exact h.2.2.1
  · rw [hF.1 _ (by decide)]; exact h.2.2.2.1
/-- registers that say nothing of where the reading stands -/
def WU : List Nat := [fM_level, fM_piled, fM_contexts, fM_marks, fM_subject, fM_compared, fM_joints]
theorem Gd.ug (h : Gd w f p g r) {j : Nat} {x : Int32} (hj : j ∈ WU) : Gd w f p (upd g j x) r := by
  have h1 : j ∈ WS := (by decide : ∀ j, j ∈ WU → j ∈ WS) j hj
  have h2 : j ≠ fM_nodes := (by decide : ∀ j, j ∈ WU → j ≠ fM_nodes) j hj
  have h3 : j ≠ fM_faults := (by decide : ∀ j, j ∈ WU → j ≠ fM_faults) j hj
  have h4 : j ≠ fM_bad := (by decide : ∀ j, j ∈ WU → j ≠ fM_bad) j hj
  have h5 : j ≠ fM_at := (by decide : ∀ j, j ∈ WU → j ≠ fM_at) j hj
  refine ⟨h.1.up h1 h2, ?_, ?_, ?_, h.2.2.2.2⟩
  · rw [upd_ne h3.symm]; exact h.2.1
  · rw [upd_ne h4.symm]; exact h.2.2.1
  · rw [upd_ne h5.symm]; exact h.2.2.2.1
theorem Gd.ua (h : Gd w f p g r) {j : Nat} {x : Nat × (Nat → Int32)} (hj : j ∈ WSa) (hx : x.1 = (r j).1) : Gd w f p g (a2_ua r j x) := ⟨h.1.ua hj hx, h.2⟩
theorem Bd.ug (h : Bd w f b g r) {j : Nat} {x : Int32} (hj : j ∈ fM_at :: WU) : Bd w f b (upd g j x) r := by
  have h1 : j ∈ WS := (by decide : ∀ j, j ∈ fM_at :: WU → j ∈ WS) j hj
  have h2 : j ≠ fM_nodes := (by decide : ∀ j, j ∈ fM_at :: WU → j ≠ fM_nodes) j hj
  have h3 : j ≠ fM_faults := (by decide : ∀ j, j ∈ fM_at :: WU → j ≠ fM_faults) j hj
  have h4 : j ≠ fM_bad := (by decide : ∀ j, j ∈ fM_at :: WU → j ≠ fM_bad) j hj
  have h5 : j ≠ fM_failed := (by decide : ∀ j, j ∈ fM_at :: WU → j ≠ fM_failed) j hj
  refine ⟨h.1.up h1 h2, ?_, ?_, ?_, h.2.2.2.2⟩
  · rw [upd_ne h3.symm]; exact h.2.1
  · rw [upd_ne h4.symm]; exact h.2.2.1
  · rw [upd_ne h5.symm]; exact h.2.2.2.1
theorem Bd.ua (h : Bd w f b g r) {j : Nat} {x : Nat × (Nat → Int32)} (hj : j ∈ WSa) (hx : x.1 = (r j).1) : Bd w f b g (a2_ua r j x) := ⟨h.1.ua hj hx, h.2⟩
/-- a test: both ways -/
theorem pm_t {t : Bool} (h : pl z (kE g r (b2i t)) kN) (h1 : t = true → pl (k 1 g r) (PQ A) X) (h0 : t = false → pl (k 0 g r) (PQ B) X) : pl (fn_v z k) (PQ (if t then A else B)) X := by
  refine pl_e h ?_
  cases t with
  | true => exact h1 rfl
  | false => exact h0 rfl
theorem pb_v (h : pl z (kBv w f b g r) kN) (hk : ∀ v g' r', Bd w f b g' r' → Fe g r g' r' → pl (k v g' r') Q X) : pl (fn_v z k) Q X := pl_v h (fun _ _ _ e => e.elim) (fun v g' r' e => hk v g' r' e.2.1 e.2.2)
theorem pb_n (h : pl z (kBn w f b g r) kN) (hk : ∀ g' r', Bd w f b g' r' → Fe g r g' r' → pl (kn g' r') Q X) : pl (fn_n z kn) Q X := pl_n h (fun _ _ _ e => e.elim) (fun g' r' e => hk g' r' e.2.1 e.2.2)
theorem pb_t (h : pl z (kP g r (fun _ => True)) kN) (hk : ∀ v, pl (k v g r) Q X) : pl (fn_v z k) Q X := pl_v h (fun _ _ _ e => e.elim) (fun v g' r' e => by
  obtain ⟨v', e1, -, rfl, rfl⟩ := e
  exact hk v)
theorem xA_isKind {a c : Int32} : pl (ev L xs (m + 1) d nM_isKind [.ref cM, .int a, .int c] g r) (kP g r (fun _ => True)) kN := by
  cases d with
  | zero => trivial
  | succ d =>
    rw [qM_isKind]
    simp only [BM_isKind_22, BM_isKind_23]
    repeat' refine pl_if (fun _ => ?_) (fun _ => ?_)
    all_goals first
      | trivial
      | exact ⟨_, rfl, trivial, rfl, rfl⟩
theorem xA_isWord {a c : Int32} : pl (ev L xs (m + 1) d nM_isWord [.ref cM, .int a, .int c] g r) (kP g r (fun _ => True)) kN := by
  cases d with
  | zero => trivial
  | succ d =>
    rw [qM_isWord]
    refine pb_t xA_isKind (fun v => ?_)
    simp only [BM_isWord_23, BM_isWord_24]
    repeat' refine pl_if (fun _ => ?_) (fun _ => ?_)
    all_goals first
      | trivial
      | exact ⟨_, rfl, trivial, rfl, rfl⟩
theorem xA_isSign {a c : Int32} : pl (ev L xs (m + 1) d nM_isSign [.ref cM, .int a, .int c] g r) (kP g r (fun _ => True)) kN := by
  cases d with
  | zero => trivial
  | succ d =>
    rw [qM_isSign]
    refine pb_t xA_isKind (fun v => ?_)
    simp only [BM_isSign_23, BM_isSign_24]
    repeat' refine pl_if (fun _ => ?_) (fun _ => ?_)
    all_goals first
      | trivial
      | exact ⟨_, rfl, trivial, rfl, rfl⟩
theorem xA_isOperand {a : Int32} : pl (ev L xs (m + 1) d nM_isOperand [.ref cM, .int a] g r) (kP g r (fun _ => True)) kN := by
  cases d with
  | zero => trivial
  | succ d =>
    rw [qM_isOperand]
    simp only [BM_isOperand_27, BM_isOperand_32]
    refine pb_t xA_isKind (fun v => pl_if (fun _ => pl_if (fun _ => ⟨_, rfl, trivial, rfl, rfl⟩) (fun _ => trivial)) (fun _ => ?_))
    refine pb_t xA_isKind (fun v => pl_if (fun _ => pl_if (fun _ => ⟨_, rfl, trivial, rfl, rfl⟩) (fun _ => trivial)) (fun _ => ?_))
    refine pb_t xA_isKind (fun v => pl_if (fun _ => pl_if (fun _ => ⟨_, rfl, trivial, rfl, rfl⟩) (fun _ => trivial)) (fun _ => pl_if (fun _ => ⟨_, rfl, trivial, rfl, rfl⟩) (fun _ => trivial)))
theorem xM_note (a1 a2 : Int32) (h : Sx w f g r) (hf : g fM_faults = f.1) : pl (ev L xs (m + 1) d nM_note [.ref cM, .int a1, .int a2] g r) (fun o g' r' => o = none ∧ g' = upd g fM_faults (f.1 + 1) ∧ Sx w f g' r' ∧ Fe g r g' r') kN := by
  cases d with
  | zero => trivial
  | succ d =>
    rw [qM_note, hf]
    refine pl_if (fun _ => ?_) (fun e => ?_)
    · refine pl_if (fun _ => pl_if (fun _ => ?_) (fun _ => trivial)) (fun _ => trivial)
      refine ⟨rfl, rfl, ((h.up (by decide) (by decide)).ua (by decide) (by rfl)).ua (by decide) (by rfl), ((Fm.rf.up (by decide)).ua (by decide)).ua (by decide)⟩
    · rw [c2_ne, Decidable.not_not] at e
      have := h.1.2.2
      rw [e] at this
      exact absurd this (by decide)
theorem xM_fail1 (a1 : Int32) {a2 : Int32} (h : Gd w f p g r) (hb : a2.toInt = b) (hn : b ≤ w.2.2) : pl (ev L xs (m + 1) d nM_fail [.ref cM, .int a1, .int a2] g r) (fun o g' r' => o = some (.int 0) ∧ Bd w f b g' r' ∧ Fe g r g' r') kN := by
  cases d with
  | zero => trivial
  | succ d =>
    rw [qM_fail]
    refine pl_neg (by rw [c2_ne, h.2.2.1]; decide) ?_
    refine pl_n (xM_note a1 a2 h.1 h.2.1) (fun _ _ _ e => e) (fun g' r' e => ?_)
    obtain ⟨-, rfl, e2, e3⟩ := e
    unfold BM_fail_13
    refine pl_pos (by rw [c2_eq]; exact h.2.2.1) ?_
    exact ⟨rfl, ⟨(e2.up (by decide) (by decide)).up (by decide) (by decide), rfl, rfl, hb, hn⟩, (e3.up (by decide)).up (by decide)⟩
theorem xB_fail (a1 a2 : Int32) (h : Bd w f b g r) : pl (ev L xs (m + 1) d nM_fail [.ref cM, .int a1, .int a2] g r) (fun o g' r' => o = some (.int 0) ∧ Bd w f b g' r' ∧ Fe g r g' r') kN := by
  cases d with
  | zero => trivial
  | succ d =>
    rw [qM_fail]
    refine pl_pos (by rw [c2_ne, h.2.2.1]; decide) ?_
    unfold BM_fail_13
    refine pl_neg (by rw [c2_eq, h.2.2.1]; decide) ?_
    exact ⟨rfl, ⟨(h.1.up (by decide) (by decide)).up (by decide) (by decide), h.2.1, rfl, h.2.2.2⟩, (Fm.rf.up (by decide)).up (by decide)⟩
/-- a fault, here -/
theorem pm_fa {a1 a2 : Int32} (h : Gd w f p g r) (hb : a2.toInt = b) (hn : b ≤ w.2.2) (hk : ∀ g' r', Bd w f b g' r' → Fe g r g' r' → pl (k 0 g' r') Q X) : pl (fn_v (ev L xs (m + 1) d nM_fail [.ref cM, .int a1, .int a2] g r) k) Q X := pl_v (xM_fail1 a1 h hb hn) (fun _ _ _ e => e.elim) (fun v g' r' e => by
  obtain ⟨e1, e2, e3⟩ := e
  cases e1
  exact hk g' r' e2 e3)
theorem pb_fa {a1 a2 : Int32} (h : Bd w f b g r) (hk : ∀ g' r', Bd w f b g' r' → Fe g r g' r' → pl (k 0 g' r') Q X) : pl (fn_v (ev L xs (m + 1) d nM_fail [.ref cM, .int a1, .int a2] g r) k) Q X := pl_v (xB_fail a1 a2 h) (fun _ _ _ e => e.elim) (fun v g' r' e => by
  obtain ⟨e1, e2, e3⟩ := e
  cases e1
  exact hk g' r' e2 e3)
theorem xM_meets (a : Int32) (h : Gd w f p g r) : pl (ev L xs (m + 1) d nM_meets [.ref cM, .int a] g r) (fun o g' r' => o = some (.int (b2i (ww w p a))) ∧ r' = r ∧ Gd w f (sk (ww w p a) p) g' r ∧ Fe g r g' r) kN := by
  cases d with
  | zero => trivial
  | succ d =>
    rw [qM_meets]
    refine pl_neg (by rw [c2_ne, h.2.2.1]; decide) ?_
    unfold BM_meets_19
    refine pl_u (xM_isWord L xs a h.1.mrd h.2.2.2.1) (fun e => pl_pos (by decide) ?_) (fun e => pl_neg (by decide) ?_)
    · rw [e]
      exact ⟨rfl, rfl, h.up (ww_iff.mp e).1, Fe.at _⟩
    · rw [e]
      exact ⟨rfl, rfl, h, Fm.rf⟩
theorem xB_meets (a : Int32) (h : Bd w f b g r) : pl (ev L xs (m + 1) d nM_meets [.ref cM, .int a] g r) (kE g r 0) kN := by
  cases d with
  | zero => trivial
  | succ d =>
    rw [qM_meets]
    refine pl_pos (by rw [c2_ne, h.2.2.1]; decide) ?_
    exact ⟨rfl, rfl, rfl⟩
theorem pm_ms {a : Int32} (h : Gd w f p g r) (h1 : ww w p a = true → ∀ g', Gd w f (p + 1) g' r → Fe g r g' r → pl (k 1 g' r) (PQ A) X) (h0 : ww w p a = false → ∀ g', Gd w f p g' r → Fe g r g' r → pl (k 0 g' r) (PQ B) X) : pl (fn_v (ev L xs (m + 1) d nM_meets [.ref cM, .int a] g r) k) (PQ (if ww w p a then A else B)) X := pl_v (xM_meets a h) (fun _ _ _ e => e.elim) (fun v g' r' e => by
  obtain ⟨e1, rfl, e2, e3⟩ := e
  cases hw : ww w p a with
  | true =>
    rw [hw] at e1 e2
    cases e1
    exact h1 hw g' e2 e3
  | false =>
    rw [hw] at e1 e2
    cases e1
    exact h0 hw g' e2 e3)
theorem pm_mb {a : Int32} (h : Gd w f p g r) (hk : ∀ v g', Gd w f (sk (ww w p a) p) g' r → Fe g r g' r → pl (k v g' r) Q X) : pl (fn_v (ev L xs (m + 1) d nM_meets [.ref cM, .int a] g r) k) Q X := pl_v (xM_meets a h) (fun _ _ _ e => e.elim) (fun v g' r' e => by
  obtain ⟨e1, rfl, e2, e3⟩ := e
  exact hk v g' e2 e3)
theorem xM_must (a : Int32) (h : Gd w f p g r) : pl (ev L xs (m + 1) d nM_must [.ref cM, .int a] g r) (fun o g' r' => o = some (.int (b2i (ww w p a))) ∧ (if ww w p a then Gd w f (p + 1) g' r' else Bd w f p g' r') ∧ Fe g r g' r') kN := by
  cases d with
  | zero => trivial
  | succ d =>
    rw [qM_must]
    unfold BM_must_20 BM_must_25
    refine pl_v (xM_meets a h) (fun _ _ _ e => e) (fun v g' r' e => ?_)
    obtain ⟨e1, rfl, e2, e3⟩ := e
    cases hw : ww w p a with
    | true =>
      rw [hw] at e1 e2
      cases e1
      refine pl_pos (by decide) ?_
      exact pl_pos (by decide) ⟨rfl, e2, e3⟩
    | false =>
      rw [hw] at e1 e2
      cases e1
      refine pl_neg (by decide) ?_
      refine pm_fa e2 e2.2.2.2.1 e2.2.2.2.2 (fun g2 r2 h2 f2 => ?_)
      refine pl_pos (by decide) ?_
      exact pl_pos (by decide) ⟨rfl, h2, e3.trans f2⟩
theorem xB_must (a : Int32) (h : Bd w f b g r) : pl (ev L xs (m + 1) d nM_must [.ref cM, .int a] g r) (fun o g' r' => o = some (.int 0) ∧ Bd w f b g' r' ∧ Fe g r g' r') kN := by
  cases d with
  | zero => trivial
  | succ d =>
    rw [qM_must]
    unfold BM_must_20 BM_must_25
    refine pl_e (xB_meets a h) (pl_neg (by decide) ?_)
    refine pb_fa h (fun g2 r2 h2 f2 => pl_pos (by decide) ?_)
    exact pl_pos (by decide) ⟨rfl, h2, f2⟩
theorem pm_mu {a : Int32} (h : Gd w f p g r) (h1 : ww w p a = true → ∀ g' r', Gd w f (p + 1) g' r' → Fe g r g' r' → pl (k 1 g' r') (PQ A) X) (h0 : ww w p a = false → ∀ g' r', Bd w f p g' r' → Fe g r g' r' → pl (k 0 g' r') (PQ (no p)) X) : pl (fn_v (ev L xs (m + 1) d nM_must [.ref cM, .int a] g r) k) (PQ (if ww w p a then A else no p)) X := pl_v (xM_must a h) (fun _ _ _ e => e.elim) (fun v g' r' e => by
  obtain ⟨e1, e2, e3⟩ := e
  cases hw : ww w p a with
  | true =>
    rw [hw] at e1 e2
    cases e1
    exact h1 hw g' r' e2 e3
  | false =>
    rw [hw] at e1 e2
    cases e1
    exact h0 hw g' r' e2 e3)
theorem pb_mu {a : Int32} (h : Bd w f b g r) (hk : ∀ g' r', Bd w f b g' r' → Fe g r g' r' → pl (k 0 g' r') Q X) : pl (fn_v (ev L xs (m + 1) d nM_must [.ref cM, .int a] g r) k) Q X := pl_v (xB_must a h) (fun _ _ _ e => e.elim) (fun v g' r' e => by
  obtain ⟨e1, e2, e3⟩ := e
  cases e1
  exact hk g' r' e2 e3)
theorem xM_mustBe (a : Int32) (h : Gd w f p g r) : pl (ev L xs (m + 1) d nM_mustBe [.ref cM, .int a] g r) (fun o g' r' => o = some (.int (b2i (wk w p a))) ∧ (if wk w p a then Gd w f (p + 1) g' r' else Bd w f p g' r') ∧ Fe g r g' r') kN := by
  cases d with
  | zero => trivial
  | succ d =>
    rw [qM_mustBe]
    refine pl_neg (by rw [c2_ne, h.2.2.1]; decide) ?_
    refine pl_u (xM_isKind L xs a h.1.mrd h.2.2.2.1) (fun e => pl_pos (by decide) ?_) (fun e => pl_neg (by decide) ?_)
    · rw [e]
      exact ⟨rfl, h.up (wk_iff.mp e).1, Fe.at _⟩
    · rw [e]
      unfold BM_mustBe_19
      refine pm_fa h h.2.2.2.1 h.2.2.2.2 (fun g2 r2 h2 f2 => ?_)
      exact pl_pos (by decide) ⟨rfl, h2, f2⟩
theorem xB_mustBe (a : Int32) (h : Bd w f b g r) : pl (ev L xs (m + 1) d nM_mustBe [.ref cM, .int a] g r) (fun o g' r' => o = some (.int 0) ∧ Bd w f b g' r' ∧ Fe g r g' r') kN := by
  cases d with
  | zero => trivial
  | succ d =>
    rw [qM_mustBe]
    refine pl_pos (by rw [c2_ne, h.2.2.1]; decide) ?_
    unfold BM_mustBe_19
    refine pb_fa h (fun g2 r2 h2 f2 => ?_)
    exact pl_pos (by decide) ⟨rfl, h2, f2⟩
theorem pm_mk {a : Int32} (h : Gd w f p g r) (h1 : wk w p a = true → ∀ g' r', Gd w f (p + 1) g' r' → Fe g r g' r' → pl (k 1 g' r') (PQ A) X) (h0 : wk w p a = false → ∀ g' r', Bd w f p g' r' → Fe g r g' r' → pl (k 0 g' r') (PQ (no p)) X) : pl (fn_v (ev L xs (m + 1) d nM_mustBe [.ref cM, .int a] g r) k) (PQ (if wk w p a then A else no p)) X := pl_v (xM_mustBe a h) (fun _ _ _ e => e.elim) (fun v g' r' e => by
  obtain ⟨e1, e2, e3⟩ := e
  cases hw : wk w p a with
  | true =>
    rw [hw] at e1 e2
    cases e1
    exact h1 hw g' r' e2 e3
  | false =>
    rw [hw] at e1 e2
    cases e1
    exact h0 hw g' r' e2 e3)
theorem pb_mk {a : Int32} (h : Bd w f b g r) (hk : ∀ g' r', Bd w f b g' r' → Fe g r g' r' → pl (k 0 g' r') Q X) : pl (fn_v (ev L xs (m + 1) d nM_mustBe [.ref cM, .int a] g r) k) Q X := pl_v (xB_mustBe a h) (fun _ _ _ e => e.elim) (fun v g' r' e => by
  obtain ⟨e1, e2, e3⟩ := e
  cases e1
  exact hk g' r' e2 e3)
theorem xA_passed : pl (ev L xs (m + 1) d nM_passed [.ref cM] g r) (kP g r (fun _ => True)) kN := by
  cases d with
  | zero => trivial
  | succ d =>
    rw [qM_passed]
    simp only [BM_passed_22]
    repeat' refine pl_if (fun _ => ?_) (fun _ => ?_)
    all_goals first
      | trivial
      | exact ⟨_, rfl, trivial, rfl, rfl⟩
theorem xA_make (a1 a2 a3 : Int32) (h : Sx w f g r) : pl (ev L xs (m + 1) d nM_make [.ref cM, .int a1, .int a2, .int a3] g r) (fun o g' r' => (∃ v : Int32, o = some (.int v) ∧ 0 < v.toInt) ∧ Sx w f g' r' ∧ Fm [fM_nodes] WEa g r g' r') kN := by
  cases d with
  | zero => trivial
  | succ d =>
    rw [qM_make]
    refine pl_if (fun c => ?_) (fun _ => trivial)
    refine pl_if (fun _ => pl_if (fun _ => pl_if (fun _ => pl_if (fun _ => pl_if (fun _ => pl_if (fun _ => pl_if (fun _ => ?_) (fun _ => trivial)) (fun _ => trivial)) (fun _ => trivial)) (fun _ => trivial)) (fun _ => trivial)) (fun _ => trivial)) (fun _ => trivial)
    rw [inr_eq, h.2.1.at 4] at c
    have hn := h.2.2.2
    have hi := i32_inc (x := g fM_nodes) (by omega)
    have hF : Fm [fM_nodes] WEa g r (upd g fM_nodes (g fM_nodes + 1)) (a2_ua (a2_ua (a2_ua (a2_ua (a2_ua (a2_ua (a2_ua (a2_ua r fM_kind ((r fM_kind).1, (upd (r fM_kind).2 ((g fM_nodes) : Int32).toNatClampNeg a1))) fM_value ((r fM_value).1, (upd (r fM_value).2 ((g fM_nodes) : Int32).toNatClampNeg a2))) fM_place ((r fM_place).1, (upd (r fM_place).2 ((g fM_nodes) : Int32).toNatClampNeg a3))) fM_extra ((r fM_extra).1, (upd (r fM_extra).2 ((g fM_nodes) : Int32).toNatClampNeg 0))) fM_first ((r fM_first).1, (upd (r fM_first).2 ((g fM_nodes) : Int32).toNatClampNeg 0))) fM_last ((r fM_last).1, (upd (r fM_last).2 ((g fM_nodes) : Int32).toNatClampNeg 0))) fM_next ((r fM_next).1, (upd (r fM_next).2 ((g fM_nodes) : Int32).toNatClampNeg 0))) fM_above ((r fM_above).1, (upd (r fM_above).2 ((g fM_nodes) : Int32).toNatClampNeg 0))) := ((((((((Fm.rf.up (by decide)).ua (by decide)).ua (by decide)).ua (by decide)).ua (by decide)).ua (by decide)).ua (by decide)).ua (by decide)).ua (by decide)
    refine ⟨⟨_, rfl, by omega⟩, h.fr (hF.sub (by decide) (fun _ e => e)) ?_ ?_, hF⟩
    · exact (((((((h.2.1.ua (by rfl)).ua (by rfl)).ua (by rfl)).ua (by rfl)).ua (by rfl)).ua (by rfl)).ua (by rfl)).ua (by rfl)
    · show 1 ≤ (g fM_nodes + 1).toInt
      omega
theorem xA_attach (a1 a2 : Int32) (h : Sx w f g r) : pl (ev L xs (m + 1) d nM_attach [.ref cM, .int a1, .int a2] g r) (fun o g' r' => o = none ∧ Sx w f g' r' ∧ Fm [fM_nodes] WEa g r g' r') kN := by
  cases d with
  | zero => trivial
  | succ d =>
    rw [qM_attach]
    simp only [BM_attach_45]
    repeat' refine pl_if (fun _ => ?_) (fun _ => ?_)
    all_goals first
      | trivial
      | exact ⟨rfl, (((h.ua (by decide) (by rfl)).ua (by decide) (by rfl)).ua (by decide) (by rfl)).ua (by decide) (by rfl), (((Fm.rf.ua (by decide)).ua (by decide)).ua (by decide)).ua (by decide)⟩
theorem Fn.e (h : Fm [fM_nodes] WEa g r g' r') : Fe g r g' r' := h.sub (by decide) (fun _ e => e)
theorem pm_nm {a1 a2 a3 : Int32} (h : Gd w f p g r) (hk : ∀ v g' r', 0 < v.toInt → Gd w f p g' r' → Fe g r g' r' → pl (k v g' r') Q X) : pl (fn_v (ev L xs (m + 1) d nM_make [.ref cM, .int a1, .int a2, .int a3] g r) k) Q X := pl_v (xA_make a1 a2 a3 h.1) (fun _ _ _ e => e.elim) (fun v g' r' e => by
  obtain ⟨⟨v', e0, e1⟩, e2, e3⟩ := e
  cases e0
  exact hk v g' r' e1 (h.fr e2 e3) (Fn.e e3))
theorem pm_na {a1 a2 : Int32} (h : Gd w f p g r) (hk : ∀ g' r', Gd w f p g' r' → Fe g r g' r' → pl (kn g' r') Q X) : pl (fn_n (ev L xs (m + 1) d nM_attach [.ref cM, .int a1, .int a2] g r) kn) Q X := pl_n (xA_attach a1 a2 h.1) (fun _ _ _ e => e.elim) (fun g' r' e => hk g' r' (h.fr e.2.1 e.2.2) (Fn.e e.2.2))
theorem pb_nm {a1 a2 a3 : Int32} (h : Bd w f b g r) (hk : ∀ v g' r', 0 < v.toInt → Bd w f b g' r' → Fe g r g' r' → pl (k v g' r') Q X) : pl (fn_v (ev L xs (m + 1) d nM_make [.ref cM, .int a1, .int a2, .int a3] g r) k) Q X := pl_v (xA_make a1 a2 a3 h.1) (fun _ _ _ e => e.elim) (fun v g' r' e => by
  obtain ⟨⟨v', e0, e1⟩, e2, e3⟩ := e
  cases e0
  exact hk v g' r' e1 (h.fr e2 e3) (Fn.e e3))
theorem pb_na {a1 a2 : Int32} (h : Bd w f b g r) (hk : ∀ g' r', Bd w f b g' r' → Fe g r g' r' → pl (kn g' r') Q X) : pl (fn_n (ev L xs (m + 1) d nM_attach [.ref cM, .int a1, .int a2] g r) kn) Q X := pl_n (xA_attach a1 a2 h.1) (fun _ _ _ e => e.elim) (fun g' r' e => hk g' r' (h.fr e.2.1 e.2.2) (Fn.e e.2.2))
theorem xA_child (a1 a2 a3 a4 : Int32) (h : Sx w f g r) : pl (ev L xs (m + 1) d nM_child4 [.ref cM, .int a1, .int a2, .int a3, .int a4] g r) (fun o g' r' => o = none ∧ Sx w f g' r' ∧ Fm [fM_nodes] WEa g r g' r') kN := by
  cases d with
  | zero => trivial
  | succ d =>
    rw [qM_child4]
    refine pl_v (xA_make a2 a3 a4 h) (fun _ _ _ e => e) (fun v g1 r1 e => ?_)
    refine pl_n (xA_attach a1 v e.2.1) (fun _ _ _ e => e) (fun g2 r2 e2 => ?_)
    exact ⟨rfl, e2.2.1, e.2.2.trans e2.2.2⟩
theorem pm_ch {a1 a2 a3 a4 : Int32} (h : Gd w f p g r) (hk : ∀ g' r', Gd w f p g' r' → Fe g r g' r' → pl (kn g' r') Q X) : pl (fn_n (ev L xs (m + 1) d nM_child4 [.ref cM, .int a1, .int a2, .int a3, .int a4] g r) kn) Q X := pl_n (xA_child a1 a2 a3 a4 h.1) (fun _ _ _ e => e.elim) (fun g' r' e => hk g' r' (h.fr e.2.1 e.2.2) (Fn.e e.2.2))
/-- an operand -/
theorem xM_operand (h : Gd w f p g r) : pl (ev L xs (m + 1) d nM_operand [.ref cM] g r) (fun o g' r' => (∃ v : Int32, o = some (.int v) ∧ (wo w p = true → 0 < v.toInt)) ∧ (if wo w p then Gd w f (p + 1) g' r' else Bd w f p g' r') ∧ Fe g r g' r') kN := by
  cases d with
  | zero => trivial
  | succ d =>
    rw [qM_operand]
    refine pl_neg (by rw [c2_ne, h.2.2.1]; decide) ?_
    refine pl_u (xM_isOperand L xs h.1.mrd h.2.2.2.1) (fun e => pl_pos (by decide) ?_) (fun e => pl_neg (by decide) ?_)
    · refine pl_if (fun _ => pl_if (fun _ => ?_) (fun _ => trivial)) (fun _ => trivial)
      refine pm_nm (h.up (wo_iff.mp e).1) (fun v g' r' hv h' f' => ?_)
      rw [e]
      exact ⟨⟨v, rfl, fun _ => hv⟩, h', (Fe.at _).trans f'⟩
    · unfold BM_operand_18
      refine pm_fa h h.2.2.2.1 h.2.2.2.2 (fun g2 r2 h2 f2 => ?_)
      rw [e]
      exact ⟨⟨0, rfl, fun e => nomatch e⟩, h2, f2⟩
theorem xB_operand (h : Bd w f b g r) : pl (ev L xs (m + 1) d nM_operand [.ref cM] g r) (fun o g' r' => o = some (.int 0) ∧ Bd w f b g' r' ∧ Fe g r g' r') kN := by
  cases d with
  | zero => trivial
  | succ d =>
    rw [qM_operand]
    refine pl_pos (by rw [c2_ne, h.2.2.1]; decide) ?_
    unfold BM_operand_18
    refine pb_fa h (fun g2 r2 h2 f2 => ?_)
    exact ⟨rfl, h2, f2⟩
theorem pm_op (h : Gd w f p g r) (h1 : wo w p = true → ∀ v g' r', 0 < v.toInt → Gd w f (p + 1) g' r' → Fe g r g' r' → pl (k v g' r') (PQ A) X) (h0 : wo w p = false → ∀ v g' r', Bd w f p g' r' → Fe g r g' r' → pl (k v g' r') (PQ (no p)) X) : pl (fn_v (ev L xs (m + 1) d nM_operand [.ref cM] g r) k) (PQ (if wo w p then A else no p)) X := pl_v (xM_operand h) (fun _ _ _ e => e.elim) (fun v g' r' e => by
  obtain ⟨⟨v', e1, ev⟩, e2, e3⟩ := e
  cases e1
  cases hw : wo w p with
  | true =>
    rw [hw] at e2
    exact h1 hw v g' r' (ev hw) e2 e3
  | false =>
    rw [hw] at e2
    exact h0 hw v g' r' e2 e3)
theorem xM_operandOf (a : Int32) (h : Gd w f p g r) : pl (ev L xs (m + 1) d nM_operandOf [.ref cM, .int a] g r) (fun o g' r' => o = none ∧ (if wo w p then Gd w f (p + 1) g' r' else Bd w f p g' r') ∧ Fe g r g' r') kN := by
  cases d with
  | zero => trivial
  | succ d =>
    rw [qM_operandOf]
    unfold BM_operandOf_15
    refine pl_v (xM_operand h) (fun _ _ _ e => e) (fun v g' r' e => ?_)
    obtain ⟨-, e2, e3⟩ := e
    refine pl_if (fun _ => ⟨rfl, e2, e3⟩) (fun _ => ?_)
    cases hw : wo w p with
    | true =>
      rw [hw] at e2
      exact pm_na e2 (fun g2 r2 h2 f2 => ⟨rfl, h2, e3.trans f2⟩)
    | false =>
      rw [hw] at e2
      exact pb_na e2 (fun g2 r2 h2 f2 => ⟨rfl, h2, e3.trans f2⟩)
theorem xB_operandOf (a : Int32) (h : Bd w f b g r) : pl (ev L xs (m + 1) d nM_operandOf [.ref cM, .int a] g r) (kBn w f b g r) kN := by
  cases d with
  | zero => trivial
  | succ d =>
    rw [qM_operandOf]
    unfold BM_operandOf_15
    refine pl_v (xB_operand h) (fun _ _ _ e => e) (fun v g' r' e => ?_)
    obtain ⟨-, e2, e3⟩ := e
    refine pl_if (fun _ => ⟨rfl, e2, e3⟩) (fun _ => ?_)
    exact pb_na e2 (fun g2 r2 h2 f2 => ⟨rfl, h2, e3.trans f2⟩)
theorem pm_oi {a : Int32} (h : Gd w f p g r) (h1 : wo w p = true → ∀ g' r', Gd w f (p + 1) g' r' → Fe g r g' r' → pl (kn g' r') (PQ A) X) (h0 : wo w p = false → ∀ g' r', Bd w f p g' r' → Fe g r g' r' → pl (kn g' r') (PQ (no p)) X) : pl (fn_n (ev L xs (m + 1) d nM_operandOf [.ref cM, .int a] g r) kn) (PQ (if wo w p then A else no p)) X := pl_n (xM_operandOf a h) (fun _ _ _ e => e.elim) (fun g' r' e => by
  obtain ⟨-, e2, e3⟩ := e
  cases hw : wo w p with
  | true =>
    rw [hw] at e2
    exact h1 hw g' r' e2 e3
  | false =>
    rw [hw] at e2
    exact h0 hw g' r' e2 e3)
theorem pb_oi {a : Int32} (h : Bd w f b g r) (hk : ∀ g' r', Bd w f b g' r' → Fe g r g' r' → pl (kn g' r') Q X) : pl (fn_n (ev L xs (m + 1) d nM_operandOf [.ref cM, .int a] g r) kn) Q X := pb_n (xB_operandOf a h) hk
end
/-- a call that gives nothing, has read as A says, and leaves all but the leaves' registers -/
def kSe (w : Ws) (f : Gh) (g : a2_G) (r : a2_A) (A : Option RR) : Option Value → a2_G → a2_A → Prop := fun o g' r' => o = none ∧ sM w f A g' r' ∧ Fe g r g' r'
theorem xM_names6 (L : Nat) (xs : Nat → Int32) {m d : Nat} {w : Ws} {f : Gh} (l : Nat) (a b : Int32) {g0 : a2_G} {r0 : a2_A} : ∀ (k : Nat) (p : Nat) (g : a2_G) (r : a2_A), Gd w f p g r → Fe g0 r0 g r → pl (BM_names_6 L xs (m + 1) d k a b 1 g r) (kSe w f g0 r0 (rv w 18 p l false)) kN := by
  intro k
  induction k with
  | zero =>
    intro p g r h hF
    rw [rv_t18]
    unfold BM_names_6
    have hz : ∀ x4, pl (BM_names_33 L xs (m + 1) d 0 a b 1 x4 b a g r) (kSe w f g0 r0 (if wk w p 1 then rv w 18 (p + 1) l false else ok p)) kN := by
      intro x4
      unfold BM_names_33
      refine pm_ch h (fun g1 r1 h1 f1 => ?_)
      refine pm_t (xM_isKind L xs 1 h1.1.mrd h1.2.2.2.1) (fun e => pl_neg (by decide) ?_) (fun e => pl_pos (by decide) ?_)
      · unfold BM_names_66
        exact pl_l0
      · unfold BM_names_66
        exact pl_l0
    refine pl_neg (by decide) ?_
    refine pl_if (fun _ => pb_t xA_passed (fun v => hz _)) (fun _ => pb_t xA_passed (fun v => hz _))
  | succ k ih =>
    intro p g r h hF
    rw [rv_t18]
    unfold BM_names_6
    have hz : ∀ x4, pl (BM_names_33 L xs (m + 1) d (k + 1) a b 1 x4 b a g r) (kSe w f g0 r0 (if wk w p 1 then rv w 18 (p + 1) l false else ok p)) kN := by
      intro x4
      unfold BM_names_33
      refine pm_ch h (fun g1 r1 h1 f1 => ?_)
      refine pm_t (xM_isKind L xs 1 h1.1.mrd h1.2.2.2.1) (fun e => pl_neg (by decide) ?_) (fun e => pl_pos (by decide) ?_)
      · unfold BM_names_66
        show pl (lp L xs nM_names nm_m179 (m + 1) d (k + 1) 6 [some (.ref cM), some (.int a), some (.int b), some (.int 1)] (upd g1 fM_at (g1 fM_at + 1)) r1) _ _
        rw [lM_names_6]
        exact ih (p + 1) _ r1 (h1.up (wk_iff.mp e).1) ((hF.trans f1).trans (Fe.at _))
      · unfold BM_names_66
        show pl (lp L xs nM_names nm_m179 (m + 1) d (k + 1) 6 [some (.ref cM), some (.int a), some (.int b), some (.int 0)] (upd g1 fM_at (g1 fM_at + 0)) r1) _ _
        rw [lM_names_6]
        unfold BM_names_6
        refine pl_pos (by decide) ?_
        have e0 : g1 fM_at + 0 = g1 fM_at := Int32.add_zero _
        rw [e0, upd_id]
        exact ⟨rfl, h1, hF.trans f1⟩
    refine pl_neg (by decide) ?_
    refine pl_if (fun _ => pb_t xA_passed (fun v => hz _)) (fun _ => pb_t xA_passed (fun v => hz _))
theorem xM_names (L : Nat) (xs : Nat → Int32) {m d : Nat} {w : Ws} {f : Gh} {p : Nat} {g : a2_G} {r : a2_A} (l : Nat) (a b : Int32) (h : Gd w f p g r) : pl (ev L xs (m + 1) d nM_names [.ref cM, .int a, .int b] g r) (kSe w f g r (rv w 17 p l false)) kN := by
  cases d with
  | zero => trivial
  | succ d =>
    rw [qM_names, rv_t17]
    refine pm_mk h (fun e g' r' h' f' => ?_) (fun e g' r' h' f' => ?_)
    · exact xM_names6 L xs l a b _ (p + 1) g' r' h' f'
    · unfold BM_names_6
      exact pl_pos (by decide) ⟨rfl, h', f'⟩
theorem xB_names {L : Nat} {xs : Nat → Int32} {m d : Nat} {w : Ws} {f : Gh} {q : Nat} {g : a2_G} {r : a2_A} (a b : Int32) (h : Bd w f q g r) : pl (ev L xs (m + 1) d nM_names [.ref cM, .int a, .int b] g r) (kBn w f q g r) kN := by
  cases d with
  | zero => trivial
  | succ d =>
    rw [qM_names]
    refine pb_mk h (fun g' r' h' f' => ?_)
    unfold BM_names_6
    exact pl_pos (by decide) ⟨rfl, h', f'⟩
/-- a read call behind which something follows -/
theorem pm_nS {z : Option fn_Z} {kn : a2_G → a2_A → Option fn_Z} {w : Ws} {f : Gh} {g : a2_G} {r : a2_A} {A : Option RR} {K : Nat → Bool → Option RR} {PQ : Option RR → Option Value → a2_G → a2_A → Prop} {X : Nat → a2_G → a2_A → Prop} (h : pl z (kSe w f g r A) kN) (h1 : ∀ q s g' r', A = some (.inl (q, s)) → Gd w f q g' r' → Fe g r g' r' → pl (kn g' r') (PQ (K q s)) X) (h0 : ∀ b g' r', A = no b → Bd w f b g' r' → Fe g r g' r' → pl (kn g' r') (PQ (no b)) X) : pl (fn_n z kn) (PQ (bd A K)) X := pl_n h (fun _ _ _ e => e.elim) (fun g' r' e => by
  obtain ⟨-, e2, e3⟩ := e
  match A, e2 with
  | some (.inl (q, s)), e2 => exact h1 q s g' r' rfl e2 e3
  | some (.inr b), e2 => exact h0 b g' r' rfl e2 e3)
theorem pl_in {x y : Int32} {a b : Option fn_Z} {Q : Option Value → a2_G → a2_A → Prop} {X : Nat → a2_G → a2_A → Prop} (h1 : ¬ x = y → pl a Q X) (h2 : ¬ ¬ x = y → pl b Q X) : pl (if am_c2 .ne x y = true then a else b) Q X := pl_if (fun c => h1 (by rw [c2_ne] at c; exact c)) (fun c => h2 (by rw [c2_ne] at c; exact c))
theorem pl_iq {x y : Int32} {a b : Option fn_Z} {Q : Option Value → a2_G → a2_A → Prop} {X : Nat → a2_G → a2_A → Prop} (h1 : x = y → pl a Q X) (h2 : ¬ x = y → pl b Q X) : pl (if am_c2 .eq x y = true then a else b) Q X := pl_if (fun c => h1 (by rw [c2_eq] at c; exact c)) (fun c => h2 (by rw [c2_eq] at c; exact c))
theorem pl_il {x y : Int32} {a b : Option fn_Z} {Q : Option Value → a2_G → a2_A → Prop} {X : Nat → a2_G → a2_A → Prop} (h1 : x.toInt ≤ y.toInt → pl a Q X) (h2 : ¬ x.toInt ≤ y.toInt → pl b Q X) : pl (if am_c2 .le x y = true then a else b) Q X := pl_if (fun c => h1 (by rw [c2_le] at c; exact c)) (fun c => h2 (by rw [c2_le] at c; exact c))
theorem pl_ig {x y : Int32} {a b : Option fn_Z} {Q : Option Value → a2_G → a2_A → Prop} {X : Nat → a2_G → a2_A → Prop} (h1 : y.toInt < x.toInt → pl a Q X) (h2 : ¬ y.toInt < x.toInt → pl b Q X) : pl (if am_c2 .gt x y = true then a else b) Q X := pl_if (fun c => h1 (by rw [c2_gt] at c; exact c)) (fun c => h2 (by rw [c2_gt] at c; exact c))
theorem pl_ih {x y : Int32} {a b : Option fn_Z} {Q : Option Value → a2_G → a2_A → Prop} {X : Nat → a2_G → a2_A → Prop} (h1 : y.toInt ≤ x.toInt → pl a Q X) (h2 : ¬ y.toInt ≤ x.toInt → pl b Q X) : pl (if am_c2 .ge x y = true then a else b) Q X := pl_if (fun c => h1 (by rw [c2_ge] at c; exact c)) (fun c => h2 (by rw [c2_ge] at c; exact c))
theorem pl_it {x y : Int32} {a b : Option fn_Z} {Q : Option Value → a2_G → a2_A → Prop} {X : Nat → a2_G → a2_A → Prop} (h1 : x.toInt < y.toInt → pl a Q X) (h2 : ¬ x.toInt < y.toInt → pl b Q X) : pl (if am_c2 .lt x y = true then a else b) Q X := pl_if (fun c => h1 (by rw [c2_lt] at c; exact c)) (fun c => h2 (by rw [c2_lt] at c; exact c))
theorem xM_in {L : Nat} {xs : Nat → Int32} {m d : Nat} {v a b : Int32} {g : a2_G} {r : a2_A} : pl (ev L xs (m + 1) d nM_in [.int v, .int a, .int b] g r) (kE g r (b2i (decide (a.toInt ≤ v.toInt) && decide (v.toInt ≤ b.toInt)))) kN := by
  cases d with
  | zero => trivial
  | succ d =>
    rw [qM_in]
    unfold BM_in_14 BM_in_15
    refine pl_it (fun h => pl_pos (by decide) ⟨?_, rfl, rfl⟩) (fun h => pl_ig (fun h2 => pl_pos (by decide) ⟨?_, rfl, rfl⟩) (fun h2 => pl_pos (by decide) ⟨?_, rfl, rfl⟩))
    · rw [decide_eq_false (by omega : ¬ a.toInt ≤ v.toInt)]
      rfl
    · rw [decide_eq_false (by omega : ¬ v.toInt ≤ b.toInt), Bool.and_false]
      rfl
    · rw [decide_eq_true (by omega : a.toInt ≤ v.toInt), decide_eq_true (by omega : v.toInt ≤ b.toInt)]
      rfl
theorem xM_begins (L : Nat) (xs : Nat → Int32) {m d : Nat} {w : Ws} {p : Nat} {g : a2_G} {r : a2_A} {a : Int32} (h : Mrd w g r) (ha : a.toInt = p) : pl (ev L xs (m + 1) d nM_begins [.ref cM, .int a] g r) (kE g r (b2i (wb w p))) kN := by
  cases d with
  | zero => trivial
  | succ d =>
    have en : a.toNatClampNeg = p := by rw [nc_eq, ha]; rfl
    rw [qM_begins]
    unfold BM_begins_40 BM_begins_36 BM_begins_41
    refine pl_u (xM_isKind L xs 0 h ha) (fun e => pl_neg (by decide) ?_) (fun e => pl_pos (by decide) (pl_pos (by decide) ⟨by unfold wb; rw [e]; rfl, rfl, rfl⟩))
    obtain ⟨hp, hk⟩ := wk_iff.mp e
    refine pl_if (fun _ => ?_) (fun _ => trivial)
    rw [en, h.2.1]
    refine pl_u xM_in (fun e2 => pl_pos (by decide) ?_) (fun e2 => pl_neg (by decide) ?_)
    · rw [Bool.and_eq_true, decide_eq_true_eq, decide_eq_true_eq] at e2
      exact pl_pos (by decide) ⟨kE_is wb_iff ⟨hp, hk, Or.inl e2⟩, rfl, rfl⟩
    · rw [Bool.and_eq_false_iff, decide_eq_false_iff_not, decide_eq_false_iff_not] at e2
      refine pl_if (fun _ => ?_) (fun _ => trivial)
      rw [h.2.1]
      refine pl_in (fun c => pl_pos (by decide) ⟨kE_no wb_iff (fun q => ?_), rfl, rfl⟩) (fun c => pl_pos (by decide) ⟨kE_is wb_iff ⟨hp, hk, Or.inr (Decidable.not_not.mp c)⟩, rfl, rfl⟩)
      rcases q.2.2 with q | q
      · rcases e2 with e2 | e2
        · exact e2 q.1
        · exact e2 q.2
      · exact c q
theorem xA_begins {L : Nat} {xs : Nat → Int32} {m d : Nat} {g : a2_G} {r : a2_A} {a : Int32} : pl (ev L xs (m + 1) d nM_begins [.ref cM, .int a] g r) (kP g r (fun _ => True)) kN := by
  cases d with
  | zero => trivial
  | succ d =>
    rw [qM_begins]
    unfold BM_begins_40 BM_begins_36 BM_begins_41
    refine pb_t xA_isKind (fun v => ?_)
    refine pl_if (fun _ => pl_if (fun _ => ⟨_, rfl, trivial, rfl, rfl⟩) (fun _ => trivial)) (fun _ => pl_if (fun _ => ?_) (fun _ => trivial))
    refine pl_e xM_in ?_
    repeat' refine pl_if (fun _ => ?_) (fun _ => ?_)
    all_goals first
      | trivial
      | exact ⟨_, rfl, trivial, rfl, rfl⟩
