/-! The class's reading, step by step beside the reader. -/
def kRv (w : Ws) (f : Gh) (z : Option RR) : Option Value → a2_G → a2_A → Prop := fun o g r => (∃ v : Int32, o = some (.int v)) ∧ ∃ q, z = ok q ∧ Ru w f q g r
def kRn (w : Ws) (f : Gh) (z : Option RR) : Option Value → a2_G → a2_A → Prop := fun o g r => o = none ∧ ∃ q, z = ok q ∧ Ru w f q g r
def kRx (w : Ws) (f : Gh) (z : Option RR) : Nat → a2_G → a2_A → Prop := fun x g r => x = 10 ∧ ∃ q, z = no q ∧ Ru w f q g r
theorem pl_pos {c : Prop} [Decidable c] {a b : Option fn_Z} {Q : Option Value → a2_G → a2_A → Prop} {X : Nat → a2_G → a2_A → Prop} (hc : c) (h : pl a Q X) : pl (if c then a else b) Q X := by
  rw [if_pos hc]
  exact h
theorem pl_neg {c : Prop} [Decidable c] {a b : Option fn_Z} {Q : Option Value → a2_G → a2_A → Prop} {X : Nat → a2_G → a2_A → Prop} (hc : ¬ c) (h : pl b Q X) : pl (if c then a else b) Q X := by
  rw [if_neg hc]
  exact h
section
variable {L : Nat} {xs : Nat → Int32} {m d : Nat} {w : Ws} {f : Gh} {p : Nat} {g : a2_G} {r : a2_A} {z : Option fn_Z} {k : Int32 → a2_G → a2_A → Option fn_Z} {kn : a2_G → a2_A → Option fn_Z} {Q : Option Value → a2_G → a2_A → Prop} {X : Nat → a2_G → a2_A → Prop} {PQ : Option RR → Option Value → a2_G → a2_A → Prop} {A B : Option RR} {K : Nat → Option RR}
theorem pl_e {v : Int32} (h : pl z (kE g r v) kN) (hk : pl (k v g r) Q X) : pl (fn_v z k) Q X := pl_v h (fun _ _ _ e => e.elim) (fun v' g' r' e => by
  obtain ⟨e1, rfl, rfl⟩ := e
  cases e1
  exact hk)
/-- a test: both ways -/
theorem pl_t {t : Bool} (h : pl z (kE g r (b2i t)) kN) (h1 : t = true → pl (k 1 g r) (PQ A) (kRx w f A)) (h0 : t = false → pl (k 0 g r) (PQ B) (kRx w f B)) : pl (fn_v z k) (PQ (if t then A else B)) (kRx w f (if t then A else B)) := by
  refine pl_e h ?_
  cases t with
  | true => exact h1 rfl
  | false => exact h0 rfl
theorem pl_u {t : Bool} (h : pl z (kE g r (b2i t)) kN) (h1 : t = true → pl (k 1 g r) Q X) (h0 : t = false → pl (k 0 g r) Q X) : pl (fn_v z k) Q X := by
  refine pl_e h ?_
  cases t with
  | true => exact h1 rfl
  | false => exact h0 rfl
theorem pl_vR {zA : Option RR} (h : pl z (kRv w f zA) (kRx w f zA)) (hk : ∀ v q g' r', zA = ok q → Ru w f q g' r' → pl (k v g' r') (PQ (K q)) (kRx w f (K q))) : pl (fn_v z k) (PQ (bd zA fun q _ => K q)) (kRx w f (bd zA fun q _ => K q)) := by
  match z, h with
  | none, _ => exact trivial
  | some (.inl none, g, r), h => obtain ⟨⟨v, e⟩, -⟩ := h; cases e
  | some (.inl (some v0), g, r), h =>
    obtain ⟨⟨v, e⟩, q, e2, e3⟩ := h
    cases e
    have h1 := hk v q g r e2 e3
    rw [e2]
    exact h1
  | some (.inr x, g, r), h =>
    obtain ⟨e, q, e2, e3⟩ := h
    rw [e2]
    exact ⟨e, q, rfl, e3⟩
theorem pl_nR {zA : Option RR} (h : pl z (kRn w f zA) (kRx w f zA)) (hk : ∀ q g' r', zA = ok q → Ru w f q g' r' → pl (kn g' r') (PQ (K q)) (kRx w f (K q))) : pl (fn_n z kn) (PQ (bd zA fun q _ => K q)) (kRx w f (bd zA fun q _ => K q)) := by
  match z, h with
  | none, _ => exact trivial
  | some (.inl (some v0), g, r), h => cases h.1
  | some (.inl none, g, r), h =>
    obtain ⟨-, q, e2, e3⟩ := h
    have h1 := hk q g r e2 e3
    rw [e2]
    exact h1
  | some (.inr x, g, r), h =>
    obtain ⟨e, q, e2, e3⟩ := h
    rw [e2]
    exact ⟨e, q, rfl, e3⟩
theorem cpT_X {g' : a2_G} {r' : a2_A} (h : cpF cpTT g r g' r') : g' fX_subject = g fX_subject := h.1 _ (by unfold cpTT; decide)
theorem pl_mk {a1 a2 a3 : Int32} (h : Ru w f p g r) (hk : ∀ g' r', Ru w f p g' r' → g' fX_subject = g fX_subject → pl (k (g fT_made) g' r') Q X) : pl (fn_v (ev L xs (m + 1) d nT_make [.ref cT, .int a1, .int a2, .int a3] g r) k) Q X := pl_v (xT_make L xs a1 a2 a3 h.2) (fun _ _ _ e => e.1.elim) (fun v g' r' e => by
  obtain ⟨⟨e1, e2⟩, e3⟩ := e
  cases e1
  exact hk g' r' ⟨h.1.t e3, e2⟩ (cpT_X e3))
theorem pl_ap {a1 a2 : Int32} (h : Ru w f p g r) (hk : ∀ g' r', Ru w f p g' r' → g' fX_subject = g fX_subject → pl (kn g' r') Q X) : pl (fn_n (ev L xs (m + 1) d nT_append [.ref cT, .int a1, .int a2] g r) kn) Q X := pl_n (xT_append L xs a1 a2 h.2) (fun _ _ _ e => e.1.elim) (fun g' r' e => hk g' r' ⟨h.1.t e.2, e.1.2⟩ (cpT_X e.2))
theorem pl_st {a1 a2 a3 : Int32} (h : Ru w f p g r) (hk : ∀ g' r', Ru w f p g' r' → g' fX_subject = g fX_subject → pl (kn g' r') Q X) : pl (fn_n (ev L xs (m + 1) d nT_set [.ref cT, .int a1, .int a2, .int a3] g r) kn) Q X := pl_n (xT_set L xs a1 a2 a3 h.2) (fun _ _ _ e => e.1.elim) (fun g' r' e => hk g' r' ⟨h.1.t e.2, e.1.2⟩ (cpT_X e.2))
theorem pl_gt {a1 a2 : Int32} (hk : ∀ v, pl (k v g r) Q X) : pl (fn_v (ev L xs (m + 1) d nT_get [.ref cT, .int a1, .int a2] g r) k) Q X := pl_v (xT_get L xs a1 a2) (fun _ _ _ e => e.elim) (fun v g' r' e => by
  obtain ⟨v', e1, -, rfl, rfl⟩ := e
  exact hk v)
theorem Ru.up (h : Ru w f p g r) (hp : p < w.2.2) : Ru w f (p + 1) (upd g fR_at (g fR_at + 1)) r := ⟨h.1.up hp, h.2⟩
theorem pl_adv (h : Ru w f p g r) (hp : p < w.2.2) (hk : ∀ g', Ru w f (p + 1) g' r → g' fX_subject = g fX_subject → pl (kn g' r) Q X) : pl (fn_n (ev L xs (m + 1) d nR_advance [.ref cR] g r) kn) Q X := pl_n (xR_advance L xs h.1) (fun _ _ _ e => e.elim) (fun g' r' e => by
  obtain ⟨-, rfl, ⟨-, rfl⟩ | ⟨e, -⟩⟩ := e
  · exact hk _ (h.up hp) rfl
  · exact absurd hp e)
theorem pl_sk {a : Int32} (h : Ru w f p g r) (h1 : ww w p a = true → ∀ g', Ru w f (p + 1) g' r → g' fX_subject = g fX_subject → pl (k 1 g' r) (PQ A) (kRx w f A)) (h0 : ww w p a = false → pl (k 0 g r) (PQ B) (kRx w f B)) : pl (fn_v (ev L xs (m + 1) d nR_skip [.ref cR, .int a] g r) k) (PQ (if ww w p a then A else B)) (kRx w f (if ww w p a then A else B)) := pl_v (xR_skip L xs a h.1) (fun _ _ _ e => e.elim) (fun v g' r' e => by
  obtain ⟨rfl, ⟨e, e2, rfl⟩ | ⟨e, e2, rfl⟩⟩ := e
  · cases e2
    rw [e, if_pos rfl]
    exact h1 e _ (h.up (ww_iff.mp e).1) rfl
  · cases e2
    rw [e, if_neg (by decide)]
    exact h0 e)
/-- a word that may stand there or not -/
theorem pl_mb {a : Int32} (h : Ru w f p g r) (hk : ∀ v g', Ru w f (sk (ww w p a) p) g' r → g' fX_subject = g fX_subject → pl (k v g' r) Q X) : pl (fn_v (ev L xs (m + 1) d nR_skip [.ref cR, .int a] g r) k) Q X := pl_v (xR_skip L xs a h.1) (fun _ _ _ e => e.elim) (fun v g' r' e => by
  obtain ⟨rfl, ⟨e, e2, rfl⟩ | ⟨e, e2, rfl⟩⟩ := e
  · refine hk v _ ?_ rfl
    rw [e]
    exact h.up (ww_iff.mp e).1
  · refine hk v _ ?_ rfl
    rw [e]
    exact h)
theorem xR_refuse (a : Int32) (h : Ru w f p g r) : pl (ev L xs (m + 1) d nR_refuse [.ref cR, .int a] g r) (fun _ _ _ => False) (fun x g' r' => x = 10 ∧ Ru w f p g' r' ∧ g' fX_subject = g fX_subject) := by
  cases d with
  | zero => trivial
  | succ d =>
    rw [qR_refuse]
    obtain ⟨⟨h1, h2, h3, h4, h5, h6, h7, h8⟩, h9⟩ := h
    exact ⟨rfl, ⟨⟨h1, h2, h3, h4, h5, h6, h7, h8.trans (cpF.up (by unfold cp15; decide))⟩, h9⟩, rfl⟩
theorem pl_rf {a : Int32} (h : Ru w f p g r) : pl (fn_n (ev L xs (m + 1) d nR_refuse [.ref cR, .int a] g r) kn) Q (kRx w f (no p)) := pl_n (xR_refuse a h) (fun x g' r' e => ⟨e.1, p, rfl, e.2.1⟩) (fun _ _ e => e.elim)
theorem xR_require (a : Int32) (h : Ru w f p g r) : pl (ev L xs (m + 1) d nR_require [.ref cR, .int a] g r) (fun o g' r' => o = none ∧ ww w p a = true ∧ Ru w f (p + 1) g' r' ∧ r' = r ∧ g' fX_subject = g fX_subject) (fun x g' r' => x = 10 ∧ ww w p a = false ∧ Ru w f p g' r') := by
  cases d with
  | zero => trivial
  | succ d =>
    rw [qR_require]
    refine pl_v (xR_skip L xs a h.1) (fun _ _ _ e => e.elim) (fun v g' r' e => ?_)
    obtain ⟨rfl, ⟨e, e2, rfl⟩ | ⟨e, e2, rfl⟩⟩ := e
    · cases e2
      refine pl_pos (by decide) ?_
      exact ⟨rfl, e, h.up (ww_iff.mp e).1, rfl, rfl⟩
    · cases e2
      refine pl_neg (by decide) ?_
      exact pl_n (xR_refuse 1 h) (fun x g' r' q => ⟨q.1, e, q.2.1⟩) (fun _ _ q => q.elim)
theorem pl_rq {a : Int32} (h : Ru w f p g r) (hk : ww w p a = true → ∀ g', Ru w f (p + 1) g' r → g' fX_subject = g fX_subject → pl (kn g' r) (PQ A) (kRx w f A)) : pl (fn_n (ev L xs (m + 1) d nR_require [.ref cR, .int a] g r) kn) (PQ (if ww w p a then A else no p)) (kRx w f (if ww w p a then A else no p)) := pl_n (xR_require a h) (fun x g' r' e => by
    obtain ⟨rfl, e2, e3⟩ := e
    rw [e2]
    exact ⟨rfl, p, rfl, e3⟩) (fun g' r' e => by
    obtain ⟨-, e2, e3, rfl, e4⟩ := e
    rw [e2, if_pos rfl]
    exact hk e2 g' e3 e4)
theorem xR_requireKind (a : Int32) (h : Ru w f p g r) : pl (ev L xs (m + 1) d nR_requireKind [.ref cR, .int a] g r) (fun o g' r' => o = some (.int (w.2.1 p)) ∧ wk w p a = true ∧ Ru w f (p + 1) g' r' ∧ r' = r ∧ g' fX_subject = g fX_subject) (fun x g' r' => x = 10 ∧ wk w p a = false ∧ Ru w f p g' r') := by
  cases d with
  | zero => trivial
  | succ d =>
    rw [qR_requireKind]
    refine pl_u (xR_isKind L xs a h.1) (fun e => ?_) (fun e => ?_)
    · refine pl_pos (by decide) ?_
      unfold BR_requireKind_13
      refine pl_e (xR_value L xs h.1) ?_
      have hp := (wk_iff.mp e).1
      rw [if_pos hp]
      refine pl_adv h hp (fun g' h' q => ?_)
      exact ⟨rfl, e, h', rfl, q⟩
    · refine pl_neg (by decide) ?_
      exact pl_n (xR_refuse 1 h) (fun x g' r' q => ⟨q.1, e, q.2.1⟩) (fun _ _ q => q.elim)
theorem pl_rk {a : Int32} (h : Ru w f p g r) (hk : wk w p a = true → ∀ g', Ru w f (p + 1) g' r → g' fX_subject = g fX_subject → pl (k (w.2.1 p) g' r) (PQ A) (kRx w f A)) : pl (fn_v (ev L xs (m + 1) d nR_requireKind [.ref cR, .int a] g r) k) (PQ (if wk w p a then A else no p)) (kRx w f (if wk w p a then A else no p)) := pl_v (xR_requireKind a h) (fun x g' r' e => by
    obtain ⟨rfl, e2, e3⟩ := e
    rw [e2]
    exact ⟨rfl, p, rfl, e3⟩) (fun v g' r' e => by
    obtain ⟨e1, e2, e3, rfl, e4⟩ := e
    cases e1
    rw [e2, if_pos rfl]
    exact hk e2 g' e3 e4)
theorem xR_requireSign (a : Int32) (h : Ru w f p g r) : pl (ev L xs (m + 1) d nR_requireSign [.ref cR, .int a] g r) (fun o g' r' => o = none ∧ wg w p a = true ∧ Ru w f (p + 1) g' r' ∧ r' = r ∧ g' fX_subject = g fX_subject) (fun x g' r' => x = 10 ∧ wg w p a = false ∧ Ru w f p g' r') := by
  cases d with
  | zero => trivial
  | succ d =>
    rw [qR_requireSign]
    refine pl_u (xR_isSign L xs a 0 (j := 0) rfl (by decide) h.1) (fun e => ?_) (fun e => ?_)
    · refine pl_pos (by decide) ?_
      unfold BR_requireSign_14
      refine pl_adv h (wg_iff.mp e).1 (fun g' h' q => ?_)
      exact ⟨rfl, e, h', rfl, q⟩
    · refine pl_neg (by decide) ?_
      exact pl_n (xR_refuse 1 h) (fun x g' r' q => ⟨q.1, e, q.2.1⟩) (fun _ _ q => q.elim)
theorem pl_rs {a : Int32} (h : Ru w f p g r) (hk : wg w p a = true → ∀ g', Ru w f (p + 1) g' r → g' fX_subject = g fX_subject → pl (kn g' r) (PQ A) (kRx w f A)) : pl (fn_n (ev L xs (m + 1) d nR_requireSign [.ref cR, .int a] g r) kn) (PQ (if wg w p a then A else no p)) (kRx w f (if wg w p a then A else no p)) := pl_n (xR_requireSign a h) (fun x g' r' e => by
    obtain ⟨rfl, e2, e3⟩ := e
    rw [e2]
    exact ⟨rfl, p, rfl, e3⟩) (fun g' r' e => by
    obtain ⟨-, e2, e3, rfl, e4⟩ := e
    rw [e2, if_pos rfl]
    exact hk e2 g' e3 e4)
/-- an operand -/
theorem xL_operand (h : Ru w f p g r) : pl (ev L xs (m + 1) d nL_operand [.ref cL] g r) (fun o g' r' => (∃ v : Int32, o = some (.int v) ∧ 0 ≤ v.toInt) ∧ wo w p = true ∧ Ru w f (p + 1) g' r' ∧ g' fX_subject = g fX_subject) (fun x g' r' => x = 10 ∧ wo w p = false ∧ Ru w f p g' r') := by
  cases d with
  | zero => trivial
  | succ d =>
    rw [qL_operand]
    refine pl_u (xR_isOperand L xs h.1) (fun e => ?_) (fun e => ?_)
    · refine pl_pos (by decide) ?_
      unfold BL_operand_18
      refine pl_e (xR_kind L xs h.1) ?_
      refine pl_e (xR_value L xs h.1) ?_
      refine pl_e (xR_place L xs) ?_
      refine pl_mk h (fun g1 r1 h1 q1 => ?_)
      refine pl_adv h1 (wo_iff.mp e).1 (fun g2 h2 q2 => ?_)
      exact ⟨⟨_, rfl, h.2.1⟩, e, h2, q2.trans q1⟩
    · refine pl_neg (by decide) ?_
      exact pl_n (xR_refuse 1 h) (fun x g' r' q => ⟨q.1, e, q.2.1⟩) (fun _ _ q => q.elim)
theorem pl_op (h : Ru w f p g r) (hk : wo w p = true → ∀ v g' r', 0 ≤ v.toInt → Ru w f (p + 1) g' r' → g' fX_subject = g fX_subject → pl (k v g' r') (PQ A) (kRx w f A)) : pl (fn_v (ev L xs (m + 1) d nL_operand [.ref cL] g r) k) (PQ (if wo w p then A else no p)) (kRx w f (if wo w p then A else no p)) := pl_v (xL_operand h) (fun x g' r' e => by
    obtain ⟨rfl, e2, e3⟩ := e
    rw [e2]
    exact ⟨rfl, p, rfl, e3⟩) (fun v g' r' e => by
    obtain ⟨⟨v', e1, e0⟩, e2, e3, e4⟩ := e
    cases e1
    rw [e2, if_pos rfl]
    exact hk e2 v g' r' e0 e3 e4)
theorem xL_operandIn (a : Int32) (h : Ru w f p g r) : pl (ev L xs (m + 1) d nL_operandIn [.ref cL, .int a] g r) (fun o g' r' => o = none ∧ wo w p = true ∧ Ru w f (p + 1) g' r') (fun x g' r' => x = 10 ∧ wo w p = false ∧ Ru w f p g' r') := by
  cases d with
  | zero => trivial
  | succ d =>
    rw [qL_operandIn]
    refine pl_v (xL_operand h) (fun _ _ _ e => e) (fun v g' r' e => ?_)
    exact pl_ap e.2.2.1 (fun g2 r2 h2 _ => ⟨rfl, e.2.1, h2⟩)
theorem pl_oi {a : Int32} (h : Ru w f p g r) (hk : wo w p = true → ∀ g' r', Ru w f (p + 1) g' r' → pl (kn g' r') (PQ A) (kRx w f A)) : pl (fn_n (ev L xs (m + 1) d nL_operandIn [.ref cL, .int a] g r) kn) (PQ (if wo w p then A else no p)) (kRx w f (if wo w p then A else no p)) := pl_n (xL_operandIn a h) (fun x g' r' e => by
    obtain ⟨rfl, e2, e3⟩ := e
    rw [e2]
    exact ⟨rfl, p, rfl, e3⟩) (fun g' r' e => by
    obtain ⟨-, e2, e3⟩ := e
    rw [e2, if_pos rfl]
    exact hk e2 g' r' e3)
theorem xL_nameIn (a b : Int32) (h : Ru w f p g r) : pl (ev L xs (m + 1) d nL_nameIn [.ref cL, .int a, .int b] g r) (fun o g' r' => o = none ∧ wk w p 1 = true ∧ Ru w f (p + 1) g' r') (fun x g' r' => x = 10 ∧ wk w p 1 = false ∧ Ru w f p g' r') := by
  cases d with
  | zero => trivial
  | succ d =>
    rw [qL_nameIn]
    refine pl_u (xR_isKind L xs 1 h.1) (fun e => ?_) (fun e => ?_)
    · have hp := (wk_iff.mp e).1
      have hz : ∀ x3, pl (BL_nameIn_31 L xs (m + 1) d m a b x3 g r) (fun o g' r' => o = none ∧ wk w p 1 = true ∧ Ru w f (p + 1) g' r') (fun x g' r' => x = 10 ∧ wk w p 1 = false ∧ Ru w f p g' r') := by
        intro x3
        unfold BL_nameIn_31
        refine pl_e (xR_value L xs h.1) ?_
        refine pl_e (xR_place L xs) ?_
        refine pl_mk h (fun g1 r1 h1 _ => ?_)
        refine pl_ap h1 (fun g2 r2 h2 _ => ?_)
        refine pl_adv h2 hp (fun g3 h3 _ => ?_)
        exact ⟨rfl, e, h3⟩
      refine pl_pos (by decide) ?_
      unfold BL_nameIn_19
      exact pl_if (fun _ => hz _) (fun _ => hz _)
    · refine pl_neg (by decide) ?_
      exact pl_n (xR_refuse 1 h) (fun x g' r' q => ⟨q.1, e, q.2.1⟩) (fun _ _ q => q.elim)
theorem pl_ni {a b : Int32} (h : Ru w f p g r) (hk : wk w p 1 = true → ∀ g' r', Ru w f (p + 1) g' r' → pl (kn g' r') (PQ A) (kRx w f A)) : pl (fn_n (ev L xs (m + 1) d nL_nameIn [.ref cL, .int a, .int b] g r) kn) (PQ (if wk w p 1 then A else no p)) (kRx w f (if wk w p 1 then A else no p)) := pl_n (xL_nameIn a b h) (fun x g' r' e => by
    obtain ⟨rfl, e2, e3⟩ := e
    rw [e2]
    exact ⟨rfl, p, rfl, e3⟩) (fun g' r' e => by
    obtain ⟨-, e2, e3⟩ := e
    rw [e2, if_pos rfl]
    exact hk e2 g' r' e3)
end
theorem Ru.le {w : Ws} {f : Gh} {p : Nat} {g : a2_G} {r : a2_A} (h : Ru w f p g r) : p ≤ w.2.2 ∧ w.2.2 ≤ 1500 := ⟨h.1.2.2.2.2.1, h.1.2.2.2.2.2.1⟩
theorem xL_names8 (L : Nat) (xs : Nat → Int32) {m d : Nat} {w : Ws} {f : Gh} (l : Nat) (a b : Int32) : ∀ (k : Nat) (x3 : Int32) (p : Nat) (g : a2_G) (r : a2_A), Ru w f p g r → 0 ≤ x3.toInt → x3.toInt < p → pl (BL_namesIn_8 L xs (m + 1) d k a b x3 g r) (kRn w f (rv w 18 p l false)) (kRx w f (rv w 18 p l false)) := by
  intro k
  induction k with
  | zero =>
    intro x3 p g r h h0 hx
    have hl := h.le
    rw [rv_eq]
    unfold BL_namesIn_8
    refine pl_neg (by rw [c2_ge]; show ¬ (1500 : Int) ≤ x3.toInt; omega) ?_
    refine pl_t (xR_isKind L xs 1 h.1) (fun e => pl_neg (by decide) ?_) (fun e => pl_pos (by decide) ⟨rfl, p, rfl, h⟩)
    exact pl_n (xL_nameIn a b h) (fun x g' r' q => by rw [e] at q; cases q.2.1) (fun g' r' q => pl_l0)
  | succ k ih =>
    intro x3 p g r h h0 hx
    have hl := h.le
    rw [rv_eq]
    unfold BL_namesIn_8
    refine pl_neg (by rw [c2_ge]; show ¬ (1500 : Int) ≤ x3.toInt; omega) ?_
    refine pl_t (xR_isKind L xs 1 h.1) (fun e => pl_neg (by decide) ?_) (fun e => pl_pos (by decide) ⟨rfl, p, rfl, h⟩)
    refine pl_n (xL_nameIn a b h) (fun x g' r' q => by rw [e] at q; cases q.2.1) (fun g' r' q => ?_)
    rw [lL_namesIn_8]
    have e3 := i32_inc (x := x3) (by omega)
    exact ih (x3 + 1) (p + 1) g' r' q.2.2 (by omega) (by omega)
theorem xL_namesIn (L : Nat) (xs : Nat → Int32) {m d : Nat} {w : Ws} {f : Gh} {p : Nat} {g : a2_G} {r : a2_A} (l : Nat) (a b : Int32) (h : Ru w f p g r) : pl (ev L xs (m + 1) d nL_namesIn [.ref cL, .int a, .int b] g r) (kRn w f (rv w 17 p l false)) (kRx w f (rv w 17 p l false)) := by
  cases d with
  | zero => trivial
  | succ d =>
    rw [qL_namesIn, rv_eq]
    refine pl_ni h (fun e g' r' h' => ?_)
    exact xL_names8 L xs l a b _ 0 (p + 1) g' r' h' (by decide) (by show (0 : Int) < _; omega)
