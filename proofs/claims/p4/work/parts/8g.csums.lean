/-! The class's leaves and sums, with their trees. -/
def kVt (w : Ws) (f : Gh) (n : Nat) (D : Nat → TD) (K : Nat → List Nat) (z : Option R2) : Option Value → a2_G → a2_A → Prop := fun o g r => ∃ v q s T, o = some (.int (Int32.ofNat v)) ∧ z = some (q, s, T) ∧ Vt NP w f n D K q v T g r
/-- what hangs below the node v that is being built -/
def kI (P : Nat → Prop) (w : Ws) (f : Gh) (n : Nat) (D : Nat → TD) (K : Nat → List Nat) (v : Nat) (dd : TD) (z : Option R2) : Option Value → a2_G → a2_A → Prop := fun o g r => o = none ∧ ∃ q s T, z = some (q, s, T) ∧ Vt P w f n D K q v (nd dd T) g r
section
variable {L : Nat} {xs : Nat → Int32} {m d : Nat} {w : Ws} {f : Gh} {p : Nat} {g : a2_G} {r : a2_A} {z : Option fn_Z} {k : Int32 → a2_G → a2_A → Option fn_Z} {kn : a2_G → a2_A → Option fn_Z} {Q : Option Value → a2_G → a2_A → Prop} {PQ : Option R2 → Option Value → a2_G → a2_A → Prop} {n : Nat} {D : Nat → TD} {K : Nat → List Nat} {P : Nat → Prop} {v : Nat} {dd : TD} {F T : Tf}
theorem rl_vW {zA : Option R2} {Kz : Nat → Sjt → Tf → Option R2} (h : pl z (kVt w f n D K zA) kYT) (hk : ∀ v q s T g' r', zA = some (q, s, T) → Vt NP w f n D K q v T g' r' → pl (k (Int32.ofNat v) g' r') (PQ (Kz q s T)) kYT) : pl (fn_v z k) (PQ (b2 zA Kz)) kYT := pl_v h (fun _ _ _ _ => trivial) (fun v g' r' e => by
  obtain ⟨v', q, s, T, e1, e2, e3⟩ := e
  cases e1
  have := hk v' q s T g' r' e2 e3
  rw [e2]
  exact this)
theorem rl_nI {zA : Option R2} {Kz : Nat → Sjt → Tf → Option R2} (h : pl z (kI P w f n D K v dd zA) kYT) (hk : ∀ q s T g' r', zA = some (q, s, T) → Vt P w f n D K q v (nd dd T) g' r' → pl (kn g' r') (PQ (Kz q s T)) kYT) : pl (fn_n z kn) (PQ (b2 zA Kz)) kYT := pl_n h (fun _ _ _ _ => trivial) (fun g' r' e => by
  obtain ⟨-, q, s, T, e2, e3⟩ := e
  have := hk q s T g' r' e2 e3
  rw [e2]
  exact this)
theorem yL_operand (h : At w f p n D K g r) : pl (ev L xs (m + 1) d nL_operand [.ref cL] g r) (fun o g' r' => o = some (.int (Int32.ofNat n)) ∧ wo w p = true ∧ Vt NP w f n D K (p + 1) n (l1 (od w p)) g' r' ∧ Fxx g g') kYT := by
  cases d with
  | zero => trivial
  | succ d =>
    rw [qL_operand]
    refine pl_u (xR_isOperand L xs h.1) (fun e => ?_) (fun e => pl_neg (by decide) (rl_rf h.ru))
    have hp := (wo_iff.mp e).1
    refine pl_pos (by decide) ?_
    unfold BL_operand_18
    refine pl_e (xR_kind L xs h.1) ?_
    refine pl_e (xR_value L xs h.1) ?_
    refine pl_e (xR_place L xs) ?_
    rw [if_pos hp, if_pos hp, h.1.pla]
    refine rl_mk (-1) (Or.inr rfl) h (fun g1 r1 h1 x1 => ?_)
    refine rl_ad Vt.lf h1 hp (fun g2 h2 x2 => ?_)
    exact ⟨rfl, e, h2, x1.t x2⟩
theorem rl_op (h : At w f p n D K g r) (hk : wo w p = true → ∀ g' r', Vt NP w f n D K (p + 1) n (l1 (od w p)) g' r' → Fxx g g' → pl (k (Int32.ofNat n) g' r') Q kYT) : pl (fn_v (ev L xs (m + 1) d nL_operand [.ref cL] g r) k) Q kYT := pl_v (yL_operand h) (fun _ _ _ _ => trivial) (fun v g' r' e => by
  obtain ⟨e1, e2, e3, e4⟩ := e
  cases e1
  exact hk e2 g' r' e3 e4)
theorem yL_operandIn (h : Vt P w f n D K p v (nd dd F) g r) : pl (ev L xs (m + 1) d nL_operandIn [.ref cL, .int (Int32.ofNat v)] g r) (fun o g' r' => o = none ∧ wo w p = true ∧ Vt P w f n D K (p + 1) v (nd dd (F ++ l1 (od w p))) g' r' ∧ Fxx g g') kYT := by
  cases d with
  | zero => trivial
  | succ d =>
    rw [qL_operandIn]
    obtain ⟨n1, D1, K1, hA, hq⟩ := h
    refine rl_op hA (fun e g1 r1 h1 x1 => ?_)
    exact rl_hg hq h1 (fun g2 r2 h2 x2 => ⟨rfl, e, h2, x1.t x2⟩)
theorem rl_oi (h : Vt P w f n D K p v (nd dd F) g r) (hk : wo w p = true → ∀ g' r', Vt P w f n D K (p + 1) v (nd dd (F ++ l1 (od w p))) g' r' → Fxx g g' → pl (kn g' r') Q kYT) : pl (fn_n (ev L xs (m + 1) d nL_operandIn [.ref cL, .int (Int32.ofNat v)] g r) kn) Q kYT := pl_n (yL_operandIn h) (fun _ _ _ _ => trivial) (fun g' r' e => hk e.2.1 g' r' e.2.2.1 e.2.2.2)
theorem yL_nameIn (b : Int32) (h : Vt P w f n D K p v (nd dd F) g r) : pl (ev L xs (m + 1) d nL_nameIn [.ref cL, .int (Int32.ofNat v), .int b] g r) (fun o g' r' => o = none ∧ wk w p 1 = true ∧ Vt P w f n D K (p + 1) v (nd dd (F ++ l1 (nm w b p))) g' r' ∧ Fxx g g') kYT := by
  cases d with
  | zero => trivial
  | succ d =>
    rw [qL_nameIn]
    have hr := Vt.lf.1 _ _ _ h
    refine pl_u (xR_isKind L xs 1 hr.1) (fun e => pl_pos (by decide) ?_) (fun e => pl_neg (by decide) (rl_rf hr))
    have hp := (wk_iff.mp e).1
    have hz : ∀ x3, x3 + w.2.1 p = nmv b (w.2.1 p) → pl (BL_nameIn_31 L xs (m + 1) d m (Int32.ofNat v) b x3 g r) (fun o g' r' => o = none ∧ wk w p 1 = true ∧ Vt P w f n D K (p + 1) v (nd dd (F ++ l1 (nm w b p))) g' r' ∧ Fxx g g') kYT := by
      intro x3 hx
      unfold BL_nameIn_31
      obtain ⟨n1, D1, K1, hA, hq⟩ := h
      refine pl_e (xR_value L xs hA.1) ?_
      refine pl_e (xR_place L xs) ?_
      rw [if_pos hp, hA.1.pla, hx]
      refine rl_mk (-1) (Or.inr rfl) hA (fun g1 r1 h1 x1 => ?_)
      refine rl_hg hq h1 (fun g2 r2 h2 x2 => ?_)
      exact rl_ad Vt.lf h2 hp (fun g3 h3 x3 => ⟨rfl, e, h3, (x1.t x2).t x3⟩)
    unfold BL_nameIn_19
    refine pl_if (fun hc => ?_) (fun hc => ?_)
    · rw [c2_ne] at hc
      exact hz 0 (by unfold nmv; rw [if_neg hc, Int32.zero_add])
    · rw [c2_ne, Decidable.not_not] at hc
      exact hz 100000 (by unfold nmv; rw [if_pos hc])
theorem rl_ni {b : Int32} (h : Vt P w f n D K p v (nd dd F) g r) (hk : wk w p 1 = true → ∀ g' r', Vt P w f n D K (p + 1) v (nd dd (F ++ l1 (nm w b p))) g' r' → Fxx g g' → pl (kn g' r') Q kYT) : pl (fn_n (ev L xs (m + 1) d nL_nameIn [.ref cL, .int (Int32.ofNat v), .int b] g r) kn) Q kYT := pl_n (yL_nameIn b h) (fun _ _ _ _ => trivial) (fun g' r' e => hk e.2.1 g' r' e.2.2.1 e.2.2.2)
end
theorem yL_names8 (L : Nat) (xs : Nat → Int32) {m d : Nat} {w : Ws} {f : Gh} {n : Nat} {D : Nat → TD} {K : Nat → List Nat} {P : Nat → Prop} {v : Nat} {dd : TD} (b : Int32) {t : Nat} (ht : ∀ p a, tv w t p none a = if wk w p 1 then tv w t (p + 1) none (a ++ l1 (nm w b p)) else o2 p a) : ∀ (k : Nat) (x3 : Int32) (p : Nat) (F : Tf) (g : a2_G) (r : a2_A), Vt P w f n D K p v (nd dd F) g r → 0 ≤ x3.toInt → x3.toInt < p → pl (BL_namesIn_8 L xs (m + 1) d k (Int32.ofNat v) b x3 g r) (kI P w f n D K v dd (tv w t p none F)) kYT := by
  intro k
  induction k with
  | zero =>
    intro x3 p F g r h h0 hx
    have hr := Vt.lf.1 _ _ _ h
    have hl := hr.le
    rw [ht]
    unfold BL_namesIn_8
    refine pl_neg (by rw [c2_ge]; show ¬ (1500 : Int) ≤ x3.toInt; omega) ?_
    refine pl_u (xR_isKind L xs 1 hr.1) (fun e => pl_neg (by decide) ?_) (fun e => pl_pos (by decide) ?_)
    · exact rl_ni h (fun _ _ _ _ _ => pl_l0)
    · rw [e]
      exact ⟨rfl, p, none, F, rfl, h⟩
  | succ k ih =>
    intro x3 p F g r h h0 hx
    have hr := Vt.lf.1 _ _ _ h
    have hl := hr.le
    rw [ht]
    unfold BL_namesIn_8
    refine pl_neg (by rw [c2_ge]; show ¬ (1500 : Int) ≤ x3.toInt; omega) ?_
    refine pl_u (xR_isKind L xs 1 hr.1) (fun e => pl_neg (by decide) ?_) (fun e => pl_pos (by decide) ?_)
    · refine rl_ni h (fun _ g' r' h' _ => ?_)
      rw [lL_namesIn_8, e, if_pos rfl]
      have e3 := i32_inc (x := x3) (by omega)
      exact ih (x3 + 1) (p + 1) _ g' r' h' (by omega) (by omega)
    · rw [e]
      exact ⟨rfl, p, none, F, rfl, h⟩
theorem yL_namesIn (L : Nat) (xs : Nat → Int32) {m d : Nat} {w : Ws} {f : Gh} {n : Nat} {D : Nat → TD} {K : Nat → List Nat} {P : Nat → Prop} {v : Nat} {dd : TD} (b : Int32) {t : Nat} (ht : ∀ p a, tv w t p none a = if wk w p 1 then tv w t (p + 1) none (a ++ l1 (nm w b p)) else o2 p a) {p : Nat} {F : Tf} {g : a2_G} {r : a2_A} (h : Vt P w f n D K p v (nd dd F) g r) : pl (ev L xs (m + 1) d nL_namesIn [.ref cL, .int (Int32.ofNat v), .int b] g r) (kI P w f n D K v dd (tv w t p none F)) kYT := by
  cases d with
  | zero => trivial
  | succ d =>
    rw [qL_namesIn]
    refine rl_ni h (fun e g' r' h' _ => ?_)
    rw [ht, e, if_pos rfl]
    exact yL_names8 L xs b ht _ 0 (p + 1) _ g' r' h' (by decide) (by show (0 : Int) < _; omega)
section
variable {L : Nat} {xs : Nat → Int32} {m d : Nat} {w : Ws} {f : Gh} {p : Nat} {g : a2_G} {r : a2_A} {k : Int32 → a2_G → a2_A → Option fn_Z} {kn : a2_G → a2_A → Option fn_Z} {Q : Option Value → a2_G → a2_A → Prop} {n : Nat} {D : Nat → TD} {K : Nat → List Nat} {v : Nat} {T : Tf}
/-- a node made around its first child -/
theorem rl_jn {a b : Int32} (h : Vt NP w f n D K p v T g r) (hk : ∀ v' g' r', Vt NP w f n D K p v' (nd (a, b, pT T, -1) T) g' r' → Fxx g g' → pl (k (Int32.ofNat v') g' r') Q kYT) : pl (fn_v (ev L xs (m + 1) d nX_join [.ref cX, .int a, .int b, .int (Int32.ofNat v)] g r) k) Q kYT := by
  refine pl_v (Q1 := fun o g' r' => ∃ v', o = some (.int (Int32.ofNat v')) ∧ Vt NP w f n D K p v' (nd (a, b, pT T, -1) T) g' r' ∧ Fxx g g') (X1 := kYT) ?_ (fun _ _ _ _ => trivial) (fun v0 g' r' e => ?_)
  · cases d with
    | zero => trivial
    | succ d =>
      rw [qX_join]
      obtain ⟨n1, D1, K1, hA, b1, b2, b3, b4, b5⟩ := h
      have rv := b3.rg
      have hlt := hA.2.lt
      refine pl_e (yT_get L xs hA.2 (i := v) (j := 2) (by omega) (by omega) (on_eq (by omega)) rfl) ?_
      have ep : (r fT_cells).2 (12 * v + 2) = pT T := by
        rw [b3.pT]
        exact congrArg (fun x => x.2.2.1) (hA.2.2.2.2.2.1 v (by omega))
      rw [ep]
      refine pl_v (yT_make L xs a b (pT T) hA.2 (e0 := -1) (Or.inr rfl)) (fun _ _ _ _ => trivial) (fun v0 g1 r1 e => ?_)
      obtain ⟨⟨e1, e2⟩, e3⟩ := e
      cases e1
      refine pl_n (yT_append L xs e2 (i := n1) (c := v) (by omega) (by omega) (by omega) rfl rfl (fun j hj hx => ?_)) (fun _ _ _ _ => trivial) (fun g2 r2 e => ?_)
      · by_cases e : j = n1
        · rw [e, fK_eq] at hx
          cases hx
        · rw [fK_ne e] at hx
          exact b4 j (by omega) hx
      · obtain ⟨⟨-, e4⟩, e5⟩ := e
        refine ⟨n1, rfl, ⟨n1 + 1, _, _, ⟨(hA.1.t e3).t e5, e4⟩, by omega, fun i hi => ?_, ?_, fun j hj hx => ?_, fun j hj1 hj2 x hx => ?_⟩, (Fxx.c e3).t (Fxx.c e5)⟩
        · rw [fK_ne (by omega), fK_ne (by omega), fD_ne (by omega)]
          exact b2 i hi
        · have q := Tr.wrap (K := fK (fK K1 n1 []) n1 (fK K1 n1 [] n1 ++ [v])) (D := fD D1 n1 (a, b, pT T, -1)) (v := n1) (u := v) (l := []) (b := n1 + 1) (T' := []) (b3.loc (fun y hy1 hy2 => ⟨by rw [fK_ne (by omega), fK_ne (by omega)], fD_ne (by omega)⟩)) TrL.nil (by rw [fK_eq, fK_eq]; rfl) b1.1 (by omega)
          rw [fD_eq, List.append_nil] at q
          exact q
        · by_cases e : j = n1
          · rw [e, fK_eq, fK_eq] at hx
            have := List.mem_singleton.mp hx
            omega
          · rw [fK_ne e, fK_ne e] at hx
            have := hA.2.2.2.2.2.kid (by omega : j < n1) hx
            omega
        · by_cases e : j = n1
          · rw [e, fK_eq, fK_eq] at hx
            have := List.mem_singleton.mp hx
            omega
          · rw [fK_ne e, fK_ne e] at hx
            exact b5 j hj1 (by omega) x hx
  · obtain ⟨v', e1, e2, e3⟩ := e
    cases e1
    exact hk v' g' r' e2 e3
theorem rl_gd {a : Int32} {S : Nat → a2_G → a2_A → Prop} (hS : Lf w f S) (h : S p g r) (hp : p < w.2.2) (hk : ∀ g', S (p + 1) g' r → Fxx g g' → pl (kn g' r) Q kYT) : pl (fn_n (ev L xs (m + 1) d nX_goDeeper [.ref cX, .int a] g r) kn) Q kYT := by
  refine pl_n (Q1 := fun o g' r' => r' = r ∧ S (p + 1) g' r ∧ Fxx g g') (X1 := kYT) ?_ (fun _ _ _ _ => trivial) (fun g' r' e => ?_)
  · cases d with
    | zero => trivial
    | succ d =>
      rw [qX_goDeeper]
      refine pl_if (fun hc => ?_) (fun hc => rl_rf (hS.1 p g r h))
      unfold BX_goDeeper_14
      exact rl_ad hS h hp (fun g' h' x' => ⟨rfl, h', x'⟩)
  · obtain ⟨rfl, e2, e3⟩ := e
    exact hk g' e2 e3
end
/-- the contracts of sum, product, unit at depth d -/
def YS (L : Nat) (xs : Nat → Int32) (m d : Nat) (w : Ws) (f : Gh) : Prop := ∀ (p : Nat) (a : Int32) (n : Nat) (D : Nat → TD) (K : Nat → List Nat) (g : a2_G) (r : a2_A), At w f p n D K g r →
  pl (ev L xs (m + 1) d nX_sum [.ref cX, .int a] g r) (kVt w f n D K (tv w 0 p none [])) kYT ∧
  pl (ev L xs (m + 1) d nX_product [.ref cX, .int a] g r) (kVt w f n D K (tv w 2 p none [])) kYT ∧
  pl (ev L xs (m + 1) d nX_sumUnit [.ref cX, .int a] g r) (kVt w f n D K (tv w 4 p none [])) kYT
theorem yX_sum_t (L : Nat) (xs : Nat → Int32) {m d k : Nat} {w : Ws} {f : Gh} {n : Nat} {D : Nat → TD} {K : Nat → List Nat} (hS : YS L xs m d w f) {a : Int32} (H : ∀ (v : Nat) (x3 x4 : Int32) (p : Nat) (T : Tf) (g : a2_G) (r : a2_A), Vt NP w f n D K p v T g r → 0 ≤ x3.toInt → x3.toInt ≤ p → pl (lp L xs nX_sum nm_m121 (m + 1) d k 8 [some (.ref cX), some (.int a), some (.int (Int32.ofNat v)), some (.int x3), some (.int x4)] g r) (kVt w f n D K (tv w 1 p none T)) kYT) (v : Nat) (x3 : Int32) {p : Nat} {T : Tf} {g : a2_G} {r : a2_A} (h : Vt NP w f n D K p v T g r) (h0 : 0 ≤ x3.toInt) (hx : x3.toInt ≤ p) : pl (BX_sum_8 L xs (m + 1) d k a (Int32.ofNat v) x3 g r) (kVt w f n D K (tv w 1 p none T)) kYT := by
  have hr := Vt.lf.1 _ _ _ h
  have hle := hr.le
  rw [tv_1]
  unfold BX_sum_8
  refine pl_if (fun hc => ?_) (fun hc => ?_)
  · rw [c2_ge] at hc
    have hc' : (1500 : Int) ≤ x3.toInt := hc
    have hn : ¬ p < w.2.2 := by omega
    rw [wg_out hn, wg_out hn]
    exact ⟨v, p, none, T, rfl, rfl, h⟩
  · have h15 : x3.toInt < 1500 := by
      rw [c2_ge] at hc
      have hc' : ¬ (1500 : Int) ≤ x3.toInt := hc
      omega
    have h40 : p < w.2.2 → pl (BX_sum_40 L xs (m + 1) d k a (Int32.ofNat v) x3 g r) (kVt w f n D K (b2 (tv w 2 (p + 1) none []) (fun q _ b => tv w 1 q none (nd (55, w.2.1 p, pT T, -1) (T ++ b))))) kYT := by
      intro hp
      unfold BX_sum_40
      refine pl_e (xR_value L xs hr.1) ?_
      rw [if_pos hp]
      refine rl_jn h (fun v1 g1 r1 h1 _ => ?_)
      refine rl_ad Vt.lf h1 hp (fun g2 h2 _ => ?_)
      obtain ⟨n2, D2, K2, hA, hq⟩ := h2
      refine rl_vW (hS (p + 1) a n2 D2 K2 g2 r1 hA).2.1 (fun v3 q s T3 g3 r3 e3 h3 => ?_)
      refine rl_hg hq h3 (fun g4 r4 h4 _ => ?_)
      have e5 := i32_inc (x := x3) (by omega)
      have e6 := tv_le e3
      exact H v1 (x3 + 1) _ q _ g4 r4 h4 (by omega) (by omega)
    refine pl_u (xR_isSign L xs 5 0 (j := 0) rfl (by decide) hr.1) (fun e => pl_pos (by decide) ?_) (fun e => pl_neg (by decide) ?_)
    · rw [show (wg w p 5 || wg w p 6) = true by rw [show wg w p 5 = true from e]; rfl]
      exact h40 (wg_iff.mp e).1
    · refine pl_u (xR_isSign L xs 6 0 (j := 0) rfl (by decide) hr.1) (fun e2 => pl_neg (by decide) ?_) (fun e2 => pl_pos (by decide) ?_)
      · rw [show (wg w p 5 || wg w p 6) = true by rw [show wg w p 6 = true from e2]; exact Bool.or_true _]
        exact h40 (wg_iff.mp e2).1
      · rw [show wg w p 5 = false from e, show wg w p 6 = false from e2]
        exact ⟨v, p, none, T, rfl, rfl, h⟩
theorem yX_sum_t_1 (L : Nat) (xs : Nat → Int32) {m d k : Nat} {w : Ws} {f : Gh} {n : Nat} {D : Nat → TD} {K : Nat → List Nat} (hS : YS L xs m d w f) {a : Int32} (H : ∀ (v : Nat) (x3 x4 : Int32) (p : Nat) (T : Tf) (g : a2_G) (r : a2_A), Vt NP w f n D K p v T g r → 0 ≤ x3.toInt → x3.toInt ≤ p → pl (lp L xs nX_sum nm_m121 (m + 1) d k 8 [some (.ref cX), some (.int a), some (.int (Int32.ofNat v)), some (.int x3), some (.int x4)] g r) (kVt w f n D K (tv w 1 p none T)) kYT) (v : Nat) (x3 x4 : Int32) {p : Nat} {T : Tf} {g : a2_G} {r : a2_A} (h : Vt NP w f n D K p v T g r) (h0 : 0 ≤ x3.toInt) (hx : x3.toInt ≤ p) : pl (BX_sum_8_1 L xs (m + 1) d k a (Int32.ofNat v) x3 x4 g r) (kVt w f n D K (tv w 1 p none T)) kYT := by
  have hr := Vt.lf.1 _ _ _ h
  have hle := hr.le
  rw [tv_1]
  unfold BX_sum_8_1
  refine pl_if (fun hc => ?_) (fun hc => ?_)
  · rw [c2_ge] at hc
    have hc' : (1500 : Int) ≤ x3.toInt := hc
    have hn : ¬ p < w.2.2 := by omega
    rw [wg_out hn, wg_out hn]
    exact ⟨v, p, none, T, rfl, rfl, h⟩
  · have h15 : x3.toInt < 1500 := by
      rw [c2_ge] at hc
      have hc' : ¬ (1500 : Int) ≤ x3.toInt := hc
      omega
    have h40 : p < w.2.2 → pl (BX_sum_40_1 L xs (m + 1) d k a (Int32.ofNat v) x3 x4 g r) (kVt w f n D K (b2 (tv w 2 (p + 1) none []) (fun q _ b => tv w 1 q none (nd (55, w.2.1 p, pT T, -1) (T ++ b))))) kYT := by
      intro hp
      unfold BX_sum_40_1
      refine pl_e (xR_value L xs hr.1) ?_
      rw [if_pos hp]
      refine rl_jn h (fun v1 g1 r1 h1 _ => ?_)
      refine rl_ad Vt.lf h1 hp (fun g2 h2 _ => ?_)
      obtain ⟨n2, D2, K2, hA, hq⟩ := h2
      refine rl_vW (hS (p + 1) a n2 D2 K2 g2 r1 hA).2.1 (fun v3 q s T3 g3 r3 e3 h3 => ?_)
      refine rl_hg hq h3 (fun g4 r4 h4 _ => ?_)
      have e5 := i32_inc (x := x3) (by omega)
      have e6 := tv_le e3
      exact H v1 (x3 + 1) _ q _ g4 r4 h4 (by omega) (by omega)
    refine pl_u (xR_isSign L xs 5 0 (j := 0) rfl (by decide) hr.1) (fun e => pl_pos (by decide) ?_) (fun e => pl_neg (by decide) ?_)
    · rw [show (wg w p 5 || wg w p 6) = true by rw [show wg w p 5 = true from e]; rfl]
      exact h40 (wg_iff.mp e).1
    · refine pl_u (xR_isSign L xs 6 0 (j := 0) rfl (by decide) hr.1) (fun e2 => pl_neg (by decide) ?_) (fun e2 => pl_pos (by decide) ?_)
      · rw [show (wg w p 5 || wg w p 6) = true by rw [show wg w p 6 = true from e2]; exact Bool.or_true _]
        exact h40 (wg_iff.mp e2).1
      · rw [show wg w p 5 = false from e, show wg w p 6 = false from e2]
        exact ⟨v, p, none, T, rfl, rfl, h⟩
theorem yX_sum_l (L : Nat) (xs : Nat → Int32) {m d : Nat} {w : Ws} {f : Gh} {n : Nat} {D : Nat → TD} {K : Nat → List Nat} (hS : YS L xs m d w f) {a : Int32} : ∀ (k : Nat) (v : Nat) (x3 x4 : Int32) (p : Nat) (T : Tf) (g : a2_G) (r : a2_A), Vt NP w f n D K p v T g r → 0 ≤ x3.toInt → x3.toInt ≤ p → pl (lp L xs nX_sum nm_m121 (m + 1) d k 8 [some (.ref cX), some (.int a), some (.int (Int32.ofNat v)), some (.int x3), some (.int x4)] g r) (kVt w f n D K (tv w 1 p none T)) kYT := by
  intro k
  induction k with
  | zero => exact fun _ _ _ _ _ _ _ _ _ _ => pl_l0
  | succ k ih =>
    intro v x3 x4 p T g r h h0 hx
    rw [lX_sum_8_1]
    exact yX_sum_t_1 L xs hS ih v x3 x4 h h0 hx
theorem yX_product_t (L : Nat) (xs : Nat → Int32) {m d k : Nat} {w : Ws} {f : Gh} {n : Nat} {D : Nat → TD} {K : Nat → List Nat} (hS : YS L xs m d w f) {a : Int32} (H : ∀ (v : Nat) (x3 x4 : Int32) (p : Nat) (T : Tf) (g : a2_G) (r : a2_A), Vt NP w f n D K p v T g r → 0 ≤ x3.toInt → x3.toInt ≤ p → pl (lp L xs nX_product nm_m122 (m + 1) d k 8 [some (.ref cX), some (.int a), some (.int (Int32.ofNat v)), some (.int x3), some (.int x4)] g r) (kVt w f n D K (tv w 3 p none T)) kYT) (v : Nat) (x3 : Int32) {p : Nat} {T : Tf} {g : a2_G} {r : a2_A} (h : Vt NP w f n D K p v T g r) (h0 : 0 ≤ x3.toInt) (hx : x3.toInt ≤ p) : pl (BX_product_8 L xs (m + 1) d k a (Int32.ofNat v) x3 g r) (kVt w f n D K (tv w 3 p none T)) kYT := by
  have hr := Vt.lf.1 _ _ _ h
  have hle := hr.le
  rw [tv_3]
  unfold BX_product_8
  refine pl_if (fun hc => ?_) (fun hc => ?_)
  · rw [c2_ge] at hc
    have hc' : (1500 : Int) ≤ x3.toInt := hc
    have hn : ¬ p < w.2.2 := by omega
    rw [wg_out hn, wg_out hn]
    exact ⟨v, p, none, T, rfl, rfl, h⟩
  · have h15 : x3.toInt < 1500 := by
      rw [c2_ge] at hc
      have hc' : ¬ (1500 : Int) ≤ x3.toInt := hc
      omega
    have h40 : p < w.2.2 → pl (BX_product_41 L xs (m + 1) d k a (Int32.ofNat v) x3 g r) (kVt w f n D K (b2 (tv w 4 (p + 1) none []) (fun q _ b => tv w 3 q none (nd (55, w.2.1 p, pT T, -1) (T ++ b))))) kYT := by
      intro hp
      unfold BX_product_41
      refine pl_e (xR_value L xs hr.1) ?_
      rw [if_pos hp]
      refine rl_jn h (fun v1 g1 r1 h1 _ => ?_)
      refine rl_ad Vt.lf h1 hp (fun g2 h2 _ => ?_)
      obtain ⟨n2, D2, K2, hA, hq⟩ := h2
      refine rl_vW (hS (p + 1) a n2 D2 K2 g2 r1 hA).2.2 (fun v3 q s T3 g3 r3 e3 h3 => ?_)
      refine rl_hg hq h3 (fun g4 r4 h4 _ => ?_)
      have e5 := i32_inc (x := x3) (by omega)
      have e6 := tv_le e3
      exact H v1 (x3 + 1) _ q _ g4 r4 h4 (by omega) (by omega)
    refine pl_u (xR_isSign L xs 7 0 (j := 0) rfl (by decide) hr.1) (fun e => pl_pos (by decide) ?_) (fun e => pl_neg (by decide) ?_)
    · rw [show (wg w p 7 || wg w p 8) = true by rw [show wg w p 7 = true from e]; rfl]
      exact h40 (wg_iff.mp e).1
    · refine pl_u (xR_isSign L xs 8 0 (j := 0) rfl (by decide) hr.1) (fun e2 => pl_neg (by decide) ?_) (fun e2 => pl_pos (by decide) ?_)
      · rw [show (wg w p 7 || wg w p 8) = true by rw [show wg w p 8 = true from e2]; exact Bool.or_true _]
        exact h40 (wg_iff.mp e2).1
      · rw [show wg w p 7 = false from e, show wg w p 8 = false from e2]
        exact ⟨v, p, none, T, rfl, rfl, h⟩
theorem yX_product_t_1 (L : Nat) (xs : Nat → Int32) {m d k : Nat} {w : Ws} {f : Gh} {n : Nat} {D : Nat → TD} {K : Nat → List Nat} (hS : YS L xs m d w f) {a : Int32} (H : ∀ (v : Nat) (x3 x4 : Int32) (p : Nat) (T : Tf) (g : a2_G) (r : a2_A), Vt NP w f n D K p v T g r → 0 ≤ x3.toInt → x3.toInt ≤ p → pl (lp L xs nX_product nm_m122 (m + 1) d k 8 [some (.ref cX), some (.int a), some (.int (Int32.ofNat v)), some (.int x3), some (.int x4)] g r) (kVt w f n D K (tv w 3 p none T)) kYT) (v : Nat) (x3 x4 : Int32) {p : Nat} {T : Tf} {g : a2_G} {r : a2_A} (h : Vt NP w f n D K p v T g r) (h0 : 0 ≤ x3.toInt) (hx : x3.toInt ≤ p) : pl (BX_product_8_1 L xs (m + 1) d k a (Int32.ofNat v) x3 x4 g r) (kVt w f n D K (tv w 3 p none T)) kYT := by
  have hr := Vt.lf.1 _ _ _ h
  have hle := hr.le
  rw [tv_3]
  unfold BX_product_8_1
  refine pl_if (fun hc => ?_) (fun hc => ?_)
  · rw [c2_ge] at hc
    have hc' : (1500 : Int) ≤ x3.toInt := hc
    have hn : ¬ p < w.2.2 := by omega
    rw [wg_out hn, wg_out hn]
    exact ⟨v, p, none, T, rfl, rfl, h⟩
  · have h15 : x3.toInt < 1500 := by
      rw [c2_ge] at hc
      have hc' : ¬ (1500 : Int) ≤ x3.toInt := hc
      omega
    have h40 : p < w.2.2 → pl (BX_product_41_1 L xs (m + 1) d k a (Int32.ofNat v) x3 x4 g r) (kVt w f n D K (b2 (tv w 4 (p + 1) none []) (fun q _ b => tv w 3 q none (nd (55, w.2.1 p, pT T, -1) (T ++ b))))) kYT := by
      intro hp
      unfold BX_product_41_1
      refine pl_e (xR_value L xs hr.1) ?_
      rw [if_pos hp]
      refine rl_jn h (fun v1 g1 r1 h1 _ => ?_)
      refine rl_ad Vt.lf h1 hp (fun g2 h2 _ => ?_)
      obtain ⟨n2, D2, K2, hA, hq⟩ := h2
      refine rl_vW (hS (p + 1) a n2 D2 K2 g2 r1 hA).2.2 (fun v3 q s T3 g3 r3 e3 h3 => ?_)
      refine rl_hg hq h3 (fun g4 r4 h4 _ => ?_)
      have e5 := i32_inc (x := x3) (by omega)
      have e6 := tv_le e3
      exact H v1 (x3 + 1) _ q _ g4 r4 h4 (by omega) (by omega)
    refine pl_u (xR_isSign L xs 7 0 (j := 0) rfl (by decide) hr.1) (fun e => pl_pos (by decide) ?_) (fun e => pl_neg (by decide) ?_)
    · rw [show (wg w p 7 || wg w p 8) = true by rw [show wg w p 7 = true from e]; rfl]
      exact h40 (wg_iff.mp e).1
    · refine pl_u (xR_isSign L xs 8 0 (j := 0) rfl (by decide) hr.1) (fun e2 => pl_neg (by decide) ?_) (fun e2 => pl_pos (by decide) ?_)
      · rw [show (wg w p 7 || wg w p 8) = true by rw [show wg w p 8 = true from e2]; exact Bool.or_true _]
        exact h40 (wg_iff.mp e2).1
      · rw [show wg w p 7 = false from e, show wg w p 8 = false from e2]
        exact ⟨v, p, none, T, rfl, rfl, h⟩
theorem yX_product_l (L : Nat) (xs : Nat → Int32) {m d : Nat} {w : Ws} {f : Gh} {n : Nat} {D : Nat → TD} {K : Nat → List Nat} (hS : YS L xs m d w f) {a : Int32} : ∀ (k : Nat) (v : Nat) (x3 x4 : Int32) (p : Nat) (T : Tf) (g : a2_G) (r : a2_A), Vt NP w f n D K p v T g r → 0 ≤ x3.toInt → x3.toInt ≤ p → pl (lp L xs nX_product nm_m122 (m + 1) d k 8 [some (.ref cX), some (.int a), some (.int (Int32.ofNat v)), some (.int x3), some (.int x4)] g r) (kVt w f n D K (tv w 3 p none T)) kYT := by
  intro k
  induction k with
  | zero => exact fun _ _ _ _ _ _ _ _ _ _ => pl_l0
  | succ k ih =>
    intro v x3 x4 p T g r h h0 hx
    rw [lX_product_8_1]
    exact yX_product_t_1 L xs hS ih v x3 x4 h h0 hx
theorem yX_sums (L : Nat) (xs : Nat → Int32) {m : Nat} (w : Ws) (f : Gh) : ∀ d, YS L xs m d w f := by
  intro d
  induction d with
  | zero => exact fun _ _ _ _ _ _ _ _ => ⟨trivial, trivial, trivial⟩
  | succ d ih =>
    intro p a n D K g r h
    refine ⟨?_, ?_, ?_⟩
    · rw [qX_sum, tv_0]
      refine rl_vW (ih p a n D K g r h).2.1 (fun v q s T g1 r1 e1 h1 => ?_)
      exact yX_sum_t L xs ih (yX_sum_l L xs ih _) v 0 h1 (by decide) (by show (0 : Int) ≤ _; omega)
    · rw [qX_product, tv_2]
      refine rl_vW (ih p a n D K g r h).2.2 (fun v q s T g1 r1 e1 h1 => ?_)
      exact yX_product_t L xs ih (yX_product_l L xs ih _) v 0 h1 (by decide) (by show (0 : Int) ≤ _; omega)
    · rw [qX_sumUnit, tv_4]
      refine pl_u (xR_isSign L xs 0 0 (j := 0) rfl (by decide) h.1) (fun e => pl_neg (by decide) ?_) (fun e => pl_pos (by decide) ?_)
      · rw [show wg w p 0 = true from e, if_pos rfl]
        refine rl_gd At.lf h (wg_iff.mp e).1 (fun g1 h1 _ => ?_)
        refine rl_vW (ih (p + 1) (a + 1) n D K g1 r h1).1 (fun v q s T g2 r2 e2 h2 => ?_)
        exact rl_rs Vt.lf h2 (fun _ g3 h3 _ => ⟨v, q + 1, none, T, rfl, rfl, h3⟩)
      · rw [show wg w p 0 = false from e, if_neg (by decide)]
        refine pl_u (xR_isKind L xs 3 h.1) (fun e3 => pl_neg (by decide) (rl_rf h.ru)) (fun e3 => pl_pos (by decide) ?_)
        unfold BX_sumUnit_56
        exact rl_op h (fun _ g1 r1 h1 _ => ⟨n, p + 1, none, _, rfl, rfl, h1⟩)
