/-! The model's leaves, with their trees. -/
def kMI (P : Nat → Prop) (w : Ws) (f : Gh) (n : Nat) (D : Nat → TD) (K : Nat → List Nat) (N : Nat → Int32) (v : Nat) (dd : TD) (z : Option R2) : Option Value → a2_G → a2_A → Prop := fun o g r => o = none ∧ ((∃ b, Bd w f b g r) ∨ ∃ q s T, z = some (q, s, T) ∧ Wn P w f n D K N q v (nd dd T) g r)
def kMv (w : Ws) (f : Gh) (n : Nat) (D : Nat → TD) (K : Nat → List Nat) (N : Nat → Int32) (z : Option R2) : Option Value → a2_G → a2_A → Prop := fun o g r => ∃ x : Int32, o = some (.int x) ∧ ((∃ b, Bd w f b g r) ∨ ∃ v q s T, x = Int32.ofNat v ∧ z = some (q, s, T) ∧ Wn NP w f n D K N q v T g r)
section
variable {L : Nat} {xs : Nat → Int32} {m d : Nat} {w : Ws} {f : Gh} {p : Nat} {g : a2_G} {r : a2_A} {z : Option fn_Z} {k : Int32 → a2_G → a2_A → Option fn_Z} {kn : a2_G → a2_A → Option fn_Z} {Q : Option Value → a2_G → a2_A → Prop} {PQ : Option R2 → Option Value → a2_G → a2_A → Prop} {X : Nat → a2_G → a2_A → Prop} {n : Nat} {D : Nat → TD} {K : Nat → List Nat} {N : Nat → Int32} {P : Nat → Prop} {v : Nat} {dd : TD} {F T : Tf}
theorem ml_nI {zA : Option R2} {Kz : Nat → Sjt → Tf → Option R2} (h : pl z (kMI P w f n D K N v dd zA) kN) (hk : ∀ q s T g' r', zA = some (q, s, T) → Wn P w f n D K N q v (nd dd T) g' r' → pl (kn g' r') (PQ (Kz q s T)) X) (h0 : ∀ b g' r', Bd w f b g' r' → pl (kn g' r') (PQ (b2 zA Kz)) X) : pl (fn_n z kn) (PQ (b2 zA Kz)) X := pl_n h (fun _ _ _ e => e.elim) (fun g' r' e => by
  obtain ⟨-, ⟨b, e⟩ | ⟨q, s, T, e2, e3⟩⟩ := e
  · exact h0 b g' r' e
  · have := hk q s T g' r' e2 e3
    rw [e2]
    exact this)
theorem ml_vI {zA : Option R2} {Kz : Nat → Sjt → Tf → Option R2} (h : pl z (kMv w f n D K N zA) kN) (hk : ∀ v q s T g' r', zA = some (q, s, T) → Wn NP w f n D K N q v T g' r' → pl (k (Int32.ofNat v) g' r') (PQ (Kz q s T)) X) (h0 : ∀ x b g' r', Bd w f b g' r' → pl (k x g' r') (PQ (b2 zA Kz)) X) : pl (fn_v z k) (PQ (b2 zA Kz)) X := pl_v h (fun _ _ _ e => e.elim) (fun x g' r' e => by
  obtain ⟨x', e0, ⟨b, e⟩ | ⟨v, q, s, T, e1, e2, e3⟩⟩ := e
  · exact h0 x b g' r' e
  · cases e0
    have := hk v q s T g' r' e2 e3
    rw [e2, e1]
    exact this)
theorem Gd.pla (h : Gd w f p g r) : g fM_at = Int32.ofNat p := Int32.toInt_inj.mp (by rw [h.2.2.2.1, on_eq (by have := h.le; omega)])
theorem Am.up1 (h : Am w f p n D K g r) (hp : p < w.2.2) : Am w f (p + 1) n D K (upd g fM_at (g fM_at + 1)) r := h.up hp
theorem ml_op (h : Am w f p n D K g r) (h1 : wo w p = true → ∀ g' r', Wn NP w f n D K (r fM_next).2 (p + 1) n (l1 (od w p)) g' r' → pl (k (Int32.ofNat n) g' r') Q X) (h0 : wo w p = false → ∀ g' r', Bd w f p g' r' → pl (k 0 g' r') Q X) : pl (fn_v (ev L xs (m + 1) d nM_operand [.ref cM] g r) k) Q X := by
  refine pl_v (Q1 := fun o g' r' => wo w p = true ∧ o = some (.int (Int32.ofNat n)) ∧ Wn NP w f n D K (r fM_next).2 (p + 1) n (l1 (od w p)) g' r' ∨ wo w p = false ∧ o = some (.int 0) ∧ Bd w f p g' r') (X1 := kN) ?_ (fun _ _ _ e => e.elim) (fun x g' r' e => ?_)
  · cases d with
    | zero => trivial
    | succ d =>
      have hG := h.1
      rw [qM_operand]
      refine pl_neg (by rw [c2_ne, hG.2.2.1]; decide) ?_
      refine pl_u (xM_isOperand L xs hG.1.mrd hG.2.2.2.1) (fun e => pl_pos (by decide) ?_) (fun e => pl_neg (by decide) ?_)
      · refine pl_if (fun _ => pl_if (fun _ => ?_) (fun _ => trivial)) (fun _ => trivial)
        have hp := (wo_iff.mp e).1
        rw [i32_as, hG.nat, hG.1.mrd.1, hG.1.mrd.2.1, hG.pla]
        have hA := h.up hp
        rw [hG.pla] at hA
        refine ml_nm (-1) (fun q => absurd q.2 (by decide)) hA (fun g1 r1 h1 => ?_)
        exact Or.inl ⟨e, rfl, h1⟩
      · unfold BM_operand_18
        refine pm_fa hG hG.2.2.2.1 hG.2.2.2.2 (fun g2 r2 h2 _ => ?_)
        exact Or.inr ⟨e, rfl, h2⟩
  · rcases e with ⟨e1, e2, e3⟩ | ⟨e1, e2, e3⟩
    · cases e2
      exact h1 e1 g' r' e3
    · cases e2
      exact h0 e1 g' r' e3
theorem ml_oi (hn : 1 ≤ n) (h : Wn P w f n D K N p v (nd dd F) g r) (h1 : wo w p = true → ∀ g' r', Wn P w f n D K N (p + 1) v (nd dd (F ++ l1 (od w p))) g' r' → pl (kn g' r') Q X) (h0 : wo w p = false → ∀ g' r', Bd w f p g' r' → pl (kn g' r') Q X) : pl (fn_n (ev L xs (m + 1) d nM_operandOf [.ref cM, .int (Int32.ofNat v)] g r) kn) Q X := by
  refine pl_n (Q1 := fun o g' r' => wo w p = true ∧ Wn P w f n D K N (p + 1) v (nd dd (F ++ l1 (od w p))) g' r' ∨ wo w p = false ∧ Bd w f p g' r') (X1 := kN) ?_ (fun _ _ _ e => e.elim) (fun g' r' e => ?_)
  · cases d with
    | zero => trivial
    | succ d =>
      rw [qM_operandOf]
      unfold BM_operandOf_15
      obtain ⟨n1, D1, K1, hA, hq, hN⟩ := h
      have h2 := hq.1
      have h3 := hA.2.2.2.1
      refine ml_op hA (fun e g1 r1 h1 => ?_) (fun e g1 r1 h1 => ?_)
      · refine pl_il (fun c => ?_) (fun _ => ?_)
        · exfalso
          rw [on_eq (by omega), i32_0] at c
          omega
        · exact ml_hg hn hq hN h1 (fun g2 r2 h2 => Or.inl ⟨e, h2⟩)
      · exact pl_il (fun _ => Or.inr ⟨e, h1⟩) (fun c => absurd (by decide) c)
  · rcases e with ⟨e1, e2⟩ | ⟨e1, e2⟩
    · exact h1 e1 g' r' e2
    · exact h0 e1 g' r' e2
theorem ml_ch {a1 a2 a3 : Int32} (e0 : Int32) (he : st38 a1 → e0 = 0) (hn : 1 ≤ n) (h : Wn P w f n D K N p v (nd dd F) g r) (hk : ∀ g' r', Wn P w f n D K N p v (nd dd (F ++ l1 (a1, a2, a3, e0))) g' r' → pl (kn g' r') Q X) (he53 : a1 = 53 → e0 = -1 := by intro h; first | rfl | exact absurd h (by decide)) : pl (fn_n (ev L xs (m + 1) d nM_child4 [.ref cM, .int (Int32.ofNat v), .int a1, .int a2, .int a3] g r) kn) Q X := by
  refine pl_n (Q1 := fun o g' r' => Wn P w f n D K N p v (nd dd (F ++ l1 (a1, a2, a3, e0))) g' r') (X1 := kN) ?_ (fun _ _ _ e => e.elim) (fun g' r' e => hk g' r' e)
  cases d with
  | zero => trivial
  | succ d =>
    rw [qM_child4]
    obtain ⟨n1, D1, K1, hA, hq, hN⟩ := h
    refine ml_nm e0 he hA (fun g1 r1 h1 => ?_) he53
    exact ml_hg hn hq hN h1 (fun g2 r2 h2 => h2)
end
theorem zM_names6 (L : Nat) (xs : Nat → Int32) {m d : Nat} {w : Ws} {f : Gh} {n : Nat} {D : Nat → TD} {K : Nat → List Nat} {N : Nat → Int32} {P : Nat → Prop} {v : Nat} {dd : TD} {b : Int32} (hb : ¬ st38 b) {t : Nat} (hn : 1 ≤ n) (ht : ∀ p a, tv w t p none a = if wk w p 1 then tv w t (p + 1) none (a ++ l1 (nm w b p)) else o2 p a) : ∀ (k : Nat) (p : Nat) (F : Tf) (g : a2_G) (r : a2_A), Wn P w f n D K N (p + 1) v (nd dd F) g r → pl (BM_names_6 L xs (m + 1) d k (Int32.ofNat v) b 1 g r) (kMI P w f n D K N v dd (tv w t (p + 1) none (F ++ l1 (nm w b p)))) kN := by
  have turn : ∀ (k : Nat) (p : Nat) (F : Tf) (g : a2_G) (r : a2_A), (∀ (p : Nat) (F : Tf) (g : a2_G) (r : a2_A), Wn P w f n D K N (p + 1) v (nd dd F) g r → pl (lp L xs nM_names nm_m179 (m + 1) d k 6 [some (.ref cM), some (.int (Int32.ofNat v)), some (.int b), some (.int 1)] g r) (kMI P w f n D K N v dd (tv w t (p + 1) none (F ++ l1 (nm w b p)))) kN) → (∀ (g : a2_G) (r : a2_A) Q, Q none g r → pl (lp L xs nM_names nm_m179 (m + 1) d k 6 [some (.ref cM), some (.int (Int32.ofNat v)), some (.int b), some (.int 0)] g r) Q kN) → Wn P w f n D K N (p + 1) v (nd dd F) g r → pl (BM_names_6 L xs (m + 1) d k (Int32.ofNat v) b 1 g r) (kMI P w f n D K N v dd (tv w t (p + 1) none (F ++ l1 (nm w b p)))) kN := by
    intro k p F g r H1 H0 h
    have hG := Wn.lf.1 _ _ _ h
    have hz : ∀ x4, x4 = nmv b (w.2.1 p) → pl (BM_names_33 L xs (m + 1) d k (Int32.ofNat v) b 1 x4 b (Int32.ofNat v) g r) (kMI P w f n D K N v dd (tv w t (p + 1) none (F ++ l1 (nm w b p)))) kN := by
      intro x4 hx
      unfold BM_names_33
      have ea : g fM_at - 1 = Int32.ofNat p := by
        refine Int32.toInt_inj.mp ?_
        have := hG.2.2.2.1
        have := hG.le
        rw [i32_dec (x := g fM_at) (by omega), on_eq (by omega)]
        omega
      rw [hx, ea]
      refine ml_ch (-1) (fun q => absurd q hb) hn h (fun g1 r1 h1 => ?_)
      have hG1 := Wn.lf.1 _ _ _ h1
      unfold BM_names_66
      refine pl_u (xM_isKind L xs 1 hG1.1.mrd hG1.2.2.2.1) (fun e => pl_neg (by decide) ?_) (fun e => pl_pos (by decide) ?_)
      · rw [ht, e, if_pos rfl]
        exact H1 (p + 1) _ _ r1 (Wn.lf.2 _ _ _ h1 (wk_iff.mp e).1)
      · rw [ht, e, if_neg Bool.false_ne_true]
        have e0 : g1 fM_at + 0 = g1 fM_at := Int32.add_zero _
        rw [e0, upd_id]
        exact H0 g1 r1 _ ⟨rfl, Or.inr ⟨p + 1, none, _, rfl, h1⟩⟩
    unfold BM_names_6
    refine pl_neg (by decide) ?_
    refine pl_in (fun c => ?_) (fun c => ?_)
    · exact ml_pa hG (hz _ (by unfold nmv; rw [if_neg c]))
    · exact ml_pa hG (hz _ (by unfold nmv; rw [if_pos (Decidable.not_not.mp c)]))
  intro k
  induction k with
  | zero =>
    intro p F g r h
    exact turn 0 p F g r (fun _ _ _ _ _ => pl_l0) (fun _ _ _ _ => pl_l0) h
  | succ k ih =>
    intro p F g r h
    refine turn (k + 1) p F g r (fun p F g r h => ?_) (fun g r Q hQ => ?_) h
    · rw [lM_names_6]
      exact ih p F g r h
    · rw [lM_names_6]
      unfold BM_names_6
      exact pl_pos (by decide) hQ
theorem zM_names (L : Nat) (xs : Nat → Int32) {m d : Nat} {w : Ws} {f : Gh} {n : Nat} {D : Nat → TD} {K : Nat → List Nat} {N : Nat → Int32} {P : Nat → Prop} {v : Nat} {dd : TD} {b : Int32} (hb : ¬ st38 b) {t : Nat} (hn : 1 ≤ n) (ht : ∀ p a, tv w t p none a = if wk w p 1 then tv w t (p + 1) none (a ++ l1 (nm w b p)) else o2 p a) {p : Nat} {F : Tf} {g : a2_G} {r : a2_A} (h : Wn P w f n D K N p v (nd dd F) g r) : pl (ev L xs (m + 1) d nM_names [.ref cM, .int (Int32.ofNat v), .int b] g r) (kMI P w f n D K N v dd (tv w t p none F)) kN := by
  cases d with
  | zero => trivial
  | succ d =>
    rw [qM_names]
    refine ml_mk Wn.lf h (fun e g1 h1 => ?_) (fun e g1 r1 h1 => ?_)
    · rw [ht, e, if_pos rfl]
      exact zM_names6 L xs hb hn ht _ p F g1 r h1
    · unfold BM_names_6
      exact pl_pos (by decide) ⟨rfl, Or.inl ⟨_, h1⟩⟩
