/-! The class's statements, with their trees. -/
theorem b2_some {x : Option R2} {k : Nat → Sjt → Tf → Option R2} {y : R2} (h : b2 x k = some y) : ∃ q s T, x = some (q, s, T) ∧ k q s T = some y := by
  cases hx : x with
  | none => rw [hx] at h; cases h
  | some q => rw [hx] at h; exact ⟨q.1, q.2.1, q.2.2, rfl, h⟩
theorem tv15_lt {w : Ws} {p q : Nat} {s s' : Sjt} {a b : Tf} (h : tv w 15 p s a = some (q, s', b)) (e : ww w p 59 = true) : p < q := by
  rw [tv_15] at h
  obtain ⟨q1, s1, T1, h1, h2⟩ := b2_some h
  obtain ⟨q2, s2, T2, h3, h4⟩ := b2_some h2
  rw [tv_16, e, if_pos rfl] at h1
  have e1 := tv_le h1
  have e2 := tv_le h3
  cases h4
  omega
section
variable {L : Nat} {xs : Nat → Int32} {m d k0 : Nat} {w : Ws} {f : Gh} {p : Nat} {g : a2_G} {r : a2_A} {z : Option fn_Z} {k : Int32 → a2_G → a2_A → Option fn_Z} {kn : a2_G → a2_A → Option fn_Z} {Q : Option Value → a2_G → a2_A → Prop} {PQ : Option R2 → Option Value → a2_G → a2_A → Prop} {n : Nat} {D : Nat → TD} {K : Nat → List Nat} {P : Nat → Prop} {v : Nat} {dd : TD} {F T : Tf}
theorem kC2.vt {zA : Option R2} (h : pl z (kC2 w f n D K zA) kYT) : pl z (kVt w f n D K zA) kYT := pl_mono h (fun o g r e => by
  obtain ⟨v, q, s, T, e1, e2, e3⟩ := e
  exact ⟨v, q, s, T, e1, e2, e3.vt⟩) (fun _ _ _ e => e)
/-- what a call gives, hung below what is being built -/
theorem rl_sb {zA : Option R2} {Kz : Nat → Sjt → Tf → Option R2} {kk : Int32 → a2_G → a2_A → Option fn_Z} (h : Vt P w f n D K p v (nd dd F) g r) (hc : ∀ n1 D1 K1, At w f p n1 D1 K1 g r → pl z (kVt w f n1 D1 K1 zA) kYT) (hk : ∀ u q s T g' r', zA = some (q, s, T) → Vt P w f n D K q v (nd dd (F ++ T)) g' r' → pl (kk u g' r') (PQ (Kz q s T)) kYT) : pl (fn_v z fun u g1 r1 => fn_n (ev L xs (m + 1) d nT_append [.ref cT, .int (Int32.ofNat v), .int u] g1 r1) (kk u)) (PQ (b2 zA Kz)) kYT := by
  obtain ⟨n1, D1, K1, hA, hq⟩ := h
  refine rl_vW (hc n1 D1 K1 hA) (fun u q s T g1 r1 e1 h1 => ?_)
  exact rl_hg hq h1 (fun g2 r2 h2 _ => hk _ q s T g2 r2 e1 h2)
theorem rl_bg {a : Int32} (h : At w f p n D K g r) (hp : p < w.2.2) (ha : (a ≠ 53 ∧ a ≠ 41)) (hk : ∀ g' r', Vt NP w f n D K (p + 1) n (nd (a, 0, Int32.ofNat p, 0) []) g' r' → pl (k (Int32.ofNat n) g' r') Q kYT) : pl (fn_v (ev L xs (m + 1) d nS_begin [.ref cS, .int a] g r) k) Q kYT := by
  refine pl_v (Q1 := fun o g' r' => o = some (.int (Int32.ofNat n)) ∧ Vt NP w f n D K (p + 1) n (nd (a, 0, Int32.ofNat p, 0) []) g' r') (X1 := kYT) ?_ (fun _ _ _ _ => trivial) (fun v g' r' e => ?_)
  · cases d with
    | zero => trivial
    | succ d =>
      rw [qS_begin]
      refine pl_e (xR_place L xs) ?_
      rw [h.1.pla]
      refine rl_mk (-1) (Or.inr rfl) h (fun g1 r1 h1 _ => ?_)
      refine rl_st h1 (j := 3) (by omega) rfl ha (d' := (a, 0, Int32.ofNat p, 0)) ha rfl (fun g2 r2 h2 _ => ?_)
      exact rl_ad Vt.lf h2 hp (fun g3 h3 _ => ⟨rfl, h3⟩)
  · obtain ⟨e1, e2⟩ := e
    cases e1
    exact hk g' r' e2
theorem rl_sv {a3 : Int32} {kd v0 pp ee : Int32} (hv : Vt P w f n D K p v (nd (kd, v0, pp, ee) F) g r) (ha : (kd ≠ 53 ∧ kd ≠ 41)) (hk : ∀ g' r', Vt P w f n D K p v (nd (kd, a3, pp, ee) F) g' r' → Fxx g g' → pl (kn g' r') Q kYT) : pl (fn_n (ev L xs (m + 1) d nT_set [.ref cT, .int (Int32.ofNat v), .int 1, .int a3] g r) kn) Q kYT := rl_st hv (j := 1) (by omega) rfl ha (d' := (kd, a3, pp, ee)) ha rfl hk
theorem rl_sx {a3 : Int32} {kd v0 pp ee : Int32} (hv : Vt P w f n D K p v (nd (kd, v0, pp, ee) F) g r) (ha : (kd ≠ 53 ∧ kd ≠ 41)) (hk : ∀ g' r', Vt P w f n D K p v (nd (kd, v0, pp, a3) F) g' r' → Fxx g g' → pl (kn g' r') Q kYT) : pl (fn_n (ev L xs (m + 1) d nT_set [.ref cT, .int (Int32.ofNat v), .int 3, .int a3] g r) kn) Q kYT := rl_st hv (j := 3) (by omega) rfl ha (d' := (kd, v0, pp, a3)) ha rfl hk
theorem rl_se {b : Int32} {kd v0 pp : Int32} (hv : Vt P w f n D K p v (nd (kd, v0, pp, 0) F) g r) (ha : (kd ≠ 53 ∧ kd ≠ 41)) (hk : ∀ g' r', Vt P w f n D K (sk (ww w p b) p) v (nd (kd, v0, pp, sc (ww w p b)) F) g' r' → pl (kn g' r') Q kYT) : pl (fn_n (ev L xs (m + 1) d nS_scopeEnd [.ref cS, .int (Int32.ofNat v), .int b] g r) kn) Q kYT := by
  refine pl_n (Q1 := fun o g' r' => Vt P w f n D K (sk (ww w p b) p) v (nd (kd, v0, pp, sc (ww w p b)) F) g' r') (X1 := kYT) ?_ (fun _ _ _ _ => trivial) (fun g' r' e => hk g' r' e)
  cases d with
  | zero => trivial
  | succ d =>
    rw [qS_scopeEnd]
    unfold BS_scopeEnd_21
    refine rl_sk Vt.lf hv (fun e g1 h1 _ => pl_neg (by decide) ?_) (fun e => pl_pos (by decide) ?_)
    · rw [e]
      exact rl_st h1 (j := 3) (by omega) rfl ha (d' := (kd, v0, pp, 1)) ha rfl (fun g2 r2 h2 _ => h2)
    · rw [e]
      exact hv
theorem rl_ph {a : Int32} (hA : At w f p n D K g r) {n0 : Nat} {D0 : Nat → TD} {K0 : Nat → List Nat} (hq : Vq P n0 D0 K0 v (nd dd F) n D K) (hk : ∀ g' r', Vt (fun j => j = v) w f n D (fK K v (K v ++ [n])) p n (nd (a, 0, Int32.ofNat p, -1) []) g' r' → pl (k (Int32.ofNat n) g' r') Q kYT) : pl (fn_v (ev L xs (m + 1) d nS_phraseIn [.ref cS, .int (Int32.ofNat v), .int a] g r) k) Q kYT := by
  refine pl_v (Q1 := fun o g' r' => o = some (.int (Int32.ofNat n)) ∧ Vt (fun j => j = v) w f n D (fK K v (K v ++ [n])) p n (nd (a, 0, Int32.ofNat p, -1) []) g' r') (X1 := kYT) ?_ (fun _ _ _ _ => trivial) (fun v g' r' e => ?_)
  · cases d with
    | zero => trivial
    | succ d =>
      rw [qS_phraseIn]
      refine pl_e (xR_place L xs) ?_
      rw [hA.1.pla]
      refine rl_mk (-1) (Or.inr rfl) hA (fun g1 r1 h1 _ => ?_)
      exact rl_h2 hq h1 (fun g2 r2 h2 _ => ⟨rfl, h2⟩)
  · obtain ⟨e1, e2⟩ := e
    cases e1
    exact hk g' r' e2
theorem yS_times (h : Vt P w f n D K p v (nd dd F) g r) : pl (ev L xs (m + 1) d nS_times [.ref cS, .int (Int32.ofNat v)] g r) (fun o g' r' => Vt P w f n D K (p + 2) v (nd dd (F ++ nd (43, 0, Int32.ofNat p, -1) (l1 (od w p)))) g' r') kYT := by
  cases d with
  | zero => trivial
  | succ d =>
    rw [qS_times]
    obtain ⟨n1, D1, K1, hA, hq⟩ := h
    refine rl_ph hA hq (fun g1 r1 h1 => ?_)
    refine rl_oi h1 (fun _ g2 r2 h2 _ => ?_)
    exact rl_rq Vt.lf h2 (fun _ g3 h3 _ => hq.bk h3)
theorem yS_varying (hA : At w f p n D K g r) (hp : p < w.2.2) {n0 : Nat} {D0 : Nat → TD} {K0 : Nat → List Nat} (hq : Vq P n0 D0 K0 v (nd dd F) n D K) : pl (ev L xs (m + 1) d nS_varying [.ref cS, .int (Int32.ofNat v)] g r) (fun o g' r' => o = some (.int (Int32.ofNat n)) ∧ Vt (fun j => j = v) w f n D (fK K v (K v ++ [n])) (p + 6) n (nd (45, 0, Int32.ofNat p, -1) (l1 (nm w 41 (p + 1)) ++ l1 (od w (p + 3)) ++ l1 (od w (p + 5)))) g' r') kYT := by
  cases d with
  | zero => trivial
  | succ d =>
    rw [qS_varying]
    refine rl_ph hA hq (fun g1 r1 h1 => ?_)
    refine rl_ad Vt.lf h1 hp (fun g2 h2 _ => ?_)
    refine rl_ni h2 (fun _ g3 r3 h3 _ => ?_)
    refine rl_rq Vt.lf h3 (fun _ g4 h4 _ => ?_)
    refine rl_oi h4 (fun _ g5 r5 h5 _ => ?_)
    refine rl_rq Vt.lf h5 (fun _ g6 h6 _ => ?_)
    exact rl_oi h6 (fun _ g7 r7 h7 _ => ⟨rfl, h7⟩)
end
theorem yS_operands_t (L : Nat) (xs : Nat → Int32) {m d k : Nat} {w : Ws} {f : Gh} {n : Nat} {D : Nat → TD} {K : Nat → List Nat} {P : Nat → Prop} {v : Nat} {dd : TD} (H : ∀ (x2 : Int32) (p : Nat) (F : Tf) (g : a2_G) (r : a2_A), Vt P w f n D K p v (nd dd F) g r → 0 ≤ x2.toInt → x2.toInt ≤ p → pl (lp L xs nS_operandsIn nm_m93 (m + 1) d k 17 [some (.ref cS), some (.int (Int32.ofNat v)), some (.int x2)] g r) (kI P w f n D K v dd (tv w 19 p none F)) kYT) (x2 : Int32) {p : Nat} {F : Tf} {g : a2_G} {r : a2_A} (h : Vt P w f n D K p v (nd dd F) g r) (h0 : 0 ≤ x2.toInt) (hx : x2.toInt ≤ p) : pl (BS_operandsIn_17 L xs (m + 1) d k (Int32.ofNat v) x2 g r) (kI P w f n D K v dd (tv w 19 p none F)) kYT := by
  have hr := Vt.lf.1 _ _ _ h
  have hle := hr.le
  rw [tv_19]
  unfold BS_operandsIn_17
  refine pl_if (fun hc => ?_) (fun hc => ?_)
  · rw [c2_ge] at hc
    have hc' : (1500 : Int) ≤ x2.toInt := hc
    rw [wo_out (by omega : ¬ p < w.2.2)]
    exact ⟨rfl, p, none, F, rfl, h⟩
  · have h15 : x2.toInt < 1500 := by
      rw [c2_ge] at hc
      have hc' : ¬ (1500 : Int) ≤ x2.toInt := hc
      omega
    refine pl_u (xR_isOperand L xs hr.1) (fun e => pl_neg (by decide) ?_) (fun e => pl_pos (by decide) ?_)
    · rw [e, if_pos rfl]
      obtain ⟨n1, D1, K1, hA, hq⟩ := h
      refine rl_op hA (fun _ g1 r1 h1 _ => ?_)
      refine rl_hg hq h1 (fun g2 r2 h2 _ => ?_)
      have e5 := i32_inc (x := x2) (by omega)
      exact H (x2 + 1) (p + 1) _ g2 r2 h2 (by omega) (by omega)
    · rw [e]
      exact ⟨rfl, p, none, F, rfl, h⟩
theorem yS_operands_l (L : Nat) (xs : Nat → Int32) {m d : Nat} {w : Ws} {f : Gh} {n : Nat} {D : Nat → TD} {K : Nat → List Nat} {P : Nat → Prop} {v : Nat} {dd : TD} : ∀ (k : Nat) (x2 : Int32) (p : Nat) (F : Tf) (g : a2_G) (r : a2_A), Vt P w f n D K p v (nd dd F) g r → 0 ≤ x2.toInt → x2.toInt ≤ p → pl (lp L xs nS_operandsIn nm_m93 (m + 1) d k 17 [some (.ref cS), some (.int (Int32.ofNat v)), some (.int x2)] g r) (kI P w f n D K v dd (tv w 19 p none F)) kYT := by
  intro k
  induction k with
  | zero => exact fun _ _ _ _ _ _ _ _ => pl_l0
  | succ k ih =>
    intro x2 p F g r h h0 hx
    rw [lS_operandsIn_17]
    exact yS_operands_t L xs ih x2 h h0 hx
theorem yS_operandsIn (L : Nat) (xs : Nat → Int32) {m d : Nat} {w : Ws} {f : Gh} {n : Nat} {D : Nat → TD} {K : Nat → List Nat} {P : Nat → Prop} {v : Nat} {dd : TD} {p : Nat} {F : Tf} {g : a2_G} {r : a2_A} (h : Vt P w f n D K p v (nd dd F) g r) : pl (ev L xs (m + 1) d nS_operandsIn [.ref cS, .int (Int32.ofNat v)] g r) (kI P w f n D K v dd (tv w 19 p none F)) kYT := by
  cases d with
  | zero => trivial
  | succ d =>
    rw [qS_operandsIn]
    obtain ⟨n1, D1, K1, hA, hq⟩ := h
    refine rl_op hA (fun e g1 r1 h1 _ => ?_)
    refine rl_hg hq h1 (fun g2 r2 h2 _ => ?_)
    rw [tv_19, e, if_pos rfl]
    exact yS_operands_t L xs (yS_operands_l L xs _) 0 h2 (by decide) (by show (0 : Int) ≤ _; omega)
/-- as kVt, with the node named -/
def kVs (v : Nat) (w : Ws) (f : Gh) (n : Nat) (D : Nat → TD) (K : Nat → List Nat) (z : Option R2) : Option Value → a2_G → a2_A → Prop := fun o g r => ∃ q s T, o = some (.int (Int32.ofNat v)) ∧ z = some (q, s, T) ∧ Vt NP w f n D K q v T g r
/-- the contract of list at depth d -/
def YL (L : Nat) (xs : Nat → Int32) (m d : Nat) (w : Ws) (f : Gh) : Prop := ∀ (p : Nat) (c a : Int32) (n : Nat) (D : Nat → TD) (K : Nat → List Nat) (g : a2_G) (r : a2_A), At w f p n D K g r → pl (ev L xs (m + 1) d nS_list [.ref cS, .int c, .int a] g r) (kVs n w f n D K (b2 (tv w 11 p none []) fun q _ b => o2 q (nd (c, 0, Int32.ofNat p, -1) b))) kYT
theorem YL.l {L : Nat} {xs : Nat → Int32} {m d : Nat} {w : Ws} {f : Gh} (h : YL L xs m d w f) {p : Nat} {a : Int32} {g : a2_G} {r : a2_A} : ∀ (n : Nat) (D : Nat → TD) (K : Nat → List Nat), At w f p n D K g r → pl (ev L xs (m + 1) d nS_list [.ref cS, .int 40, .int a] g r) (kVt w f n D K (tv w 10 p none [])) kYT := fun n D K hA => by
  rw [tv_10]
  exact pl_mono (h p 40 a n D K g r hA) (fun o g r e => ⟨n, e⟩) (fun _ _ _ e => e)
section
variable {L : Nat} {xs : Nat → Int32} {m d : Nat} {w : Ws} {f : Gh} {p : Nat} {a : Int32} {g : a2_G} {r : a2_A} {n : Nat} {D : Nat → TD} {K : Nat → List Nat}
theorem yS_move (h : At w f p n D K g r) (hp : p < w.2.2) : pl (ev L xs (m + 1) d nS_move [.ref cS] g r) (kVt w f n D K (tv w 136 p none [])) kYT := by
  cases d with
  | zero => trivial
  | succ d =>
    rw [qS_move, tv_136]
    refine rl_bg h hp (by decide) (fun g1 r1 h1 => ?_)
    refine rl_oi h1 (fun _ g2 r2 h2 _ => ?_)
    refine rl_rq Vt.lf h2 (fun _ g3 h3 _ => ?_)
    exact rl_nI (yL_namesIn L xs 41 (fun p a => tv_18 w p none a) h3) (fun q s T g4 r4 e4 h4 => ⟨n, q, none, _, rfl, rfl, h4⟩)
theorem yS_display (h : At w f p n D K g r) (hp : p < w.2.2) : pl (ev L xs (m + 1) d nS_display [.ref cS] g r) (kVt w f n D K (tv w 129 p none [])) kYT := by
  cases d with
  | zero => trivial
  | succ d =>
    rw [qS_display, tv_129]
    refine rl_bg h hp (by decide) (fun g1 r1 h1 => ?_)
    exact rl_nI (yS_operandsIn L xs h1) (fun q s T g4 r4 e4 h4 => ⟨n, q, none, _, rfl, rfl, h4⟩)
theorem yS_goTo (h : At w f p n D K g r) (hp : p < w.2.2) : pl (ev L xs (m + 1) d nS_goTo [.ref cS] g r) (kVt w f n D K (tv w 143 p none [])) kYT := by
  cases d with
  | zero => trivial
  | succ d =>
    rw [qS_goTo, tv_143]
    refine rl_bg h hp (by decide) (fun g1 r1 h1 => ?_)
    refine rl_mb Vt.lf h1 (fun v g2 h2 _ => ?_)
    refine rl_rk Vt.lf h2 (fun _ g3 h3 _ => ?_)
    exact rl_sv h3 (by decide) (fun g4 r4 h4 _ => ⟨n, _, none, _, rfl, rfl, h4⟩)
theorem yS_stop (h : At w f p n D K g r) (hp : p < w.2.2) : pl (ev L xs (m + 1) d nS_stop [.ref cS] g r) (kVt w f n D K (tv w 144 p none [])) kYT := by
  cases d with
  | zero => trivial
  | succ d =>
    rw [qS_stop, tv_144]
    refine rl_bg h hp (by decide) (fun g1 r1 h1 => ?_)
    exact rl_rq Vt.lf h1 (fun _ g3 h3 _ => ⟨n, _, none, _, rfl, rfl, h3⟩)
theorem yS_compute (h : At w f p n D K g r) (hp : p < w.2.2) : pl (ev L xs (m + 1) d nS_compute [.ref cS, .int a] g r) (kVt w f n D K (tv w 147 p none [])) kYT := by
  cases d with
  | zero => trivial
  | succ d =>
    rw [qS_compute, tv_147]
    refine rl_bg h hp (by decide) (fun g1 r1 h1 => ?_)
    refine rl_rk Vt.lf h1 (fun _ g2 h2 _ => ?_)
    refine rl_sv h2 (by decide) (fun g3 r3 h3 _ => ?_)
    refine rl_rs Vt.lf h3 (fun _ g4 h4 _ => ?_)
    refine rl_sb h4 (fun n1 D1 K1 hA => (yX_sums L xs w f d (p + 3) a n1 D1 K1 g4 r3 hA).1) (fun u q s T g5 r5 e5 h5 => ?_)
    exact rl_se h5 (by decide) (fun g6 r6 h6 => ⟨n, _, none, _, rfl, rfl, h6⟩)
theorem yS_add (hL : ∀ e, e < d → YL L xs m e w f) (h : At w f p n D K g r) (hp : p < w.2.2) : pl (ev L xs (m + 1) d nS_add [.ref cS, .int a] g r) (kVt w f n D K (tv w 137 p none [])) kYT := by
  cases d with
  | zero => trivial
  | succ d =>
    have h66 : ∀ {q : Nat} {vv : Int32} {F : Tf} {g : a2_G} {r : a2_A}, Vt NP w f n D K q n (nd (27, vv, Int32.ofNat p, 0) F) g r → pl (BS_add_66 L xs (m + 1) d m a (Int32.ofNat n) g r) (kVt w f n D K (if ww w q 50 then b2 (tv w 10 (q + 2) none []) (fun q' _ c => o2 (sk (ww w q' 72) q') (nd (27, vv, Int32.ofNat p, sc (ww w q' 72)) (F ++ c))) else o2 (sk (ww w q 72) q) (nd (27, vv, Int32.ofNat p, sc (ww w q 72)) F))) kYT := by
      intro q vv F g r h
      unfold BS_add_66 BS_add_104
      refine rl_sk Vt.lf h (fun e g1 h1 _ => pl_neg (by decide) ?_) (fun e => pl_pos (by decide) ?_)
      · rw [e, if_pos rfl]
        refine rl_rq Vt.lf h1 (fun _ g2 h2 _ => ?_)
        refine rl_sb h2 (hL d (by omega)).l (fun u q s T g3 r3 e3 h3 => ?_)
        exact rl_se h3 (by decide) (fun g6 r6 h6 => ⟨n, _, none, _, rfl, rfl, h6⟩)
      · rw [e, if_neg (by decide)]
        exact rl_se h (by decide) (fun g6 r6 h6 => ⟨n, _, none, _, rfl, rfl, h6⟩)
    rw [qS_add, tv_137]
    refine rl_bg h hp (by decide) (fun g1 r1 h1 => ?_)
    refine rl_nI (yS_operandsIn L xs h1) (fun q s T g2 r2 e2 h2 => ?_)
    refine rl_sk Vt.lf h2 (fun e g3 h3 _ => pl_neg (by decide) ?_) (fun e => pl_pos (by decide) ?_)
    · rw [e, if_pos rfl]
      refine rl_sv h3 (by decide) (fun g4 r4 h4 _ => ?_)
      refine rl_ni h4 (fun _ g5 r5 h5 _ => ?_)
      exact h66 h5
    · rw [e, if_neg (by decide)]
      refine rl_rq Vt.lf h2 (fun _ g4 h4 _ => ?_)
      exact rl_nI (yL_namesIn L xs 41 (fun p a => tv_18 w p none a) h4) (fun q s T g4 r4 e4 h4 => h66 h4)
theorem yS_branch (hL : ∀ e, e < d → YL L xs m e w f) (h : At w f p n D K g r) : pl (ev L xs (m + 1) d nS_branch [.ref cS, .int a] g r) (kVt w f n D K (tv w 13 p none [])) kYT := by
  cases d with
  | zero => trivial
  | succ d =>
    rw [qS_branch, tv_13]
    refine pl_u (xR_isReserved L xs 54 0 (j := 0) rfl (by decide) h.1) (fun e => pl_pos (by decide) ?_) (fun e => pl_neg (by decide) ?_)
    · rw [show ww w p 54 = true from e, if_pos rfl]
      refine pl_e (xR_place L xs) ?_
      rw [h.1.pla]
      refine rl_mk (-1) (Or.inr rfl) h (fun g1 r1 h1 _ => ?_)
      refine rl_ad Vt.lf h1 (ww_iff.mp e).1 (fun g2 h2 _ => ?_)
      exact rl_rq Vt.lf h2 (fun _ g3 h3 _ => ⟨n, _, none, _, rfl, rfl, h3⟩)
    · rw [show ww w p 54 = false from e, if_neg (by decide)]
      exact pl_v ((hL d (by omega)).l n D K h) (fun _ _ _ q => q) (fun _ _ _ q => q)
theorem yS_ifElse (hL : ∀ e, e < d → YL L xs m e w f) (h : At w f p n D K g r) (hp : p < w.2.2) : pl (ev L xs (m + 1) d nS_ifElse [.ref cS, .int a] g r) (kVt w f n D K (tv w 138 p none [])) kYT := by
  cases d with
  | zero => trivial
  | succ d =>
    have hL' : ∀ e, e < d → YL L xs m e w f := fun e he => hL e (by omega)
    rw [qS_ifElse, tv_138]
    unfold BS_ifElse_71
    refine rl_bg h hp (by decide) (fun g1 r1 h1 => ?_)
    refine rl_sb h1 (fun n1 D1 K1 hA => kC2.vt (yX_conds L xs w f d (p + 1) a n1 D1 K1 g1 r1 hA).1) (fun u q s T g2 r2 e2 h2 => ?_)
    refine rl_mb Vt.lf h2 (fun v g3 h3 _ => ?_)
    refine rl_sb h3 (fun n1 D1 K1 hA => yS_branch hL' hA) (fun u q s T g4 r4 e4 h4 => ?_)
    refine rl_sk Vt.lf h4 (fun e g5 h5 _ => pl_neg (by decide) ?_) (fun e => pl_pos (by decide) ?_)
    · rw [e, if_pos rfl]
      refine rl_sb h5 (fun n1 D1 K1 hA => yS_branch hL' hA) (fun u q s T g6 r6 e6 h6 => ?_)
      exact rl_se h6 (by decide) (fun g7 r7 h7 => ⟨n, _, none, _, rfl, rfl, h7⟩)
    · rw [e, if_neg (by decide)]
      exact rl_se h4 (by decide) (fun g7 r7 h7 => ⟨n, _, none, _, rfl, rfl, h7⟩)
theorem yS_read (hL : ∀ e, e < d → YL L xs m e w f) (h : At w f p n D K g r) (hp : p < w.2.2) : pl (ev L xs (m + 1) d nS_read [.ref cS, .int a] g r) (kVt w f n D K (tv w 141 p none [])) kYT := by
  cases d with
  | zero => trivial
  | succ d =>
    rw [qS_read, tv_141]
    unfold BS_read_62
    refine rl_bg h hp (by decide) (fun g1 r1 h1 => ?_)
    refine rl_rk Vt.lf h1 (fun _ g2 h2 _ => ?_)
    refine rl_sv h2 (by decide) (fun g3 r3 h3 _ => ?_)
    refine rl_sk Vt.lf h3 (fun e g4 h4 _ => pl_neg (by decide) ?_) (fun e => pl_pos (by decide) ?_)
    · rw [show ww w (p + 2) 61 = true from e, if_pos rfl]
      refine rl_rq Vt.lf h4 (fun _ g5 h5 _ => ?_)
      refine rl_sb h5 (hL d (by omega)).l (fun u q s T g6 r6 e6 h6 => ?_)
      exact rl_se h6 (by decide) (fun g7 r7 h7 => ⟨n, _, none, _, rfl, rfl, h7⟩)
    · rw [show ww w (p + 2) 61 = false from e, if_neg (by decide)]
      exact rl_se h3 (by decide) (fun g7 r7 h7 => ⟨n, _, none, _, rfl, rfl, h7⟩)
theorem yS_call (hL : ∀ e, e < d → YL L xs m e w f) (h : At w f p n D K g r) (hp : p < w.2.2) : pl (ev L xs (m + 1) d nS_call [.ref cS, .int a] g r) (kVt w f n D K (tv w 142 p none [])) kYT := by
  cases d with
  | zero => trivial
  | succ d =>
    have h56 : ∀ {q : Nat} {F : Tf} {g : a2_G} {r : a2_A}, Vt NP w f n D K q n (nd (32, 0, Int32.ofNat p, 0) F) g r → pl (BS_call_56 L xs (m + 1) d m a (Int32.ofNat n) g r) (kVt w f n D K (if ww w q 62 then b2 (tv w 10 (q + 1) none []) (fun q _ c => o2 (sk (ww w q 77) q) (nd (32, 0, Int32.ofNat p, sc (ww w q 77)) (F ++ c))) else o2 (sk (ww w q 77) q) (nd (32, 0, Int32.ofNat p, sc (ww w q 77)) F))) kYT := by
      intro q F g r h
      unfold BS_call_56 BS_call_85
      refine rl_sk Vt.lf h (fun e g1 h1 _ => pl_neg (by decide) ?_) (fun e => pl_pos (by decide) ?_)
      · rw [e, if_pos rfl]
        refine rl_sb h1 (hL d (by omega)).l (fun u q s T g3 r3 e3 h3 => ?_)
        exact rl_se h3 (by decide) (fun g6 r6 h6 => ⟨n, _, none, _, rfl, rfl, h6⟩)
      · rw [e, if_neg (by decide)]
        exact rl_se h (by decide) (fun g6 r6 h6 => ⟨n, _, none, _, rfl, rfl, h6⟩)
    rw [qS_call, tv_142]
    unfold BS_call_26
    refine rl_bg h hp (by decide) (fun g1 r1 h1 => ?_)
    have hr := Vt.lf.1 _ _ _ h1
    refine pl_u (xR_isKind L xs 2 hr.1) (fun _ => pl_neg (by decide) (rl_rf hr)) (fun _ => pl_pos (by decide) ?_)
    refine rl_oi h1 (fun _ g2 r2 h2 _ => ?_)
    refine rl_sk Vt.lf h2 (fun e g3 h3 _ => pl_neg (by decide) ?_) (fun e => pl_pos (by decide) ?_)
    · rw [show ww w (p + 2) 31 = true from e, if_pos rfl]
      exact rl_nI (yL_namesIn L xs 21 (fun p a => tv_38 w p none a) h3) (fun q s T g4 r4 e4 h4 => h56 h4)
    · rw [show ww w (p + 2) 31 = false from e, if_neg (by decide)]
      exact h56 h2
theorem yS_when_t {k : Nat} {v : Nat} {dd : TD} (hL : YL L xs m d w f) (H : ∀ (x3 : Int32) (p : Nat) (F : Tf) (g : a2_G) (r : a2_A), Vt NP w f n D K p v (nd dd F) g r → 0 ≤ x3.toInt → x3.toInt ≤ p → pl (lp L xs nS_when nm_m114 (m + 1) d k 20 [some (.ref cS), some (.int a), some (.int (Int32.ofNat v)), some (.int x3)] g r) (kVt w f n D K (b2 (tv w 16 p none F) fun q _ b => b2 (tv w 10 q none []) fun q _ c => o2 q (nd dd (b ++ c)))) kYT) (x3 : Int32) {F : Tf} (h : Vt NP w f n D K p v (nd dd F) g r) (h0 : 0 ≤ x3.toInt) (hx : x3.toInt ≤ p) : pl (BS_when_20 L xs (m + 1) d k a (Int32.ofNat v) x3 g r) (kVt w f n D K (b2 (tv w 16 p none F) fun q _ b => b2 (tv w 10 q none []) fun q _ c => o2 q (nd dd (b ++ c)))) kYT := by
  have hr := Vt.lf.1 _ _ _ h
  have hle := hr.le
  have h101 : ww w p 59 = false → pl (BS_when_101 L xs (m + 1) d k a (Int32.ofNat v) x3 g r) (kVt w f n D K (b2 (tv w 16 p none F) fun q _ b => b2 (tv w 10 q none []) fun q _ c => o2 q (nd dd (b ++ c)))) kYT := by
    intro e
    rw [tv_16, e, if_neg (by decide)]
    unfold BS_when_101
    exact rl_sb (Kz := fun q _ c => o2 q (nd dd (F ++ c))) h hL.l (fun u q s T g3 r3 e3 h3 => ⟨v, _, none, _, rfl, rfl, h3⟩)
  unfold BS_when_20
  refine pl_if (fun hc => ?_) (fun hc => ?_)
  · rw [c2_ge] at hc
    have hc' : (1500 : Int) ≤ x3.toInt := hc
    exact h101 (ww_out (by omega))
  · have h15 : x3.toInt < 1500 := by
      rw [c2_ge] at hc
      have hc' : ¬ (1500 : Int) ≤ x3.toInt := hc
      omega
    have e5 := i32_inc (x := x3) (by omega)
    refine rl_sk Vt.lf h (fun e g1 h1 _ => pl_neg (by decide) ?_) (fun e => pl_pos (by decide) (h101 e))
    have hr1 := Vt.lf.1 _ _ _ h1
    rw [tv_16, e, if_pos rfl]
    unfold BS_when_95
    refine pl_u (xR_isReserved L xs 60 0 (j := 0) rfl (by decide) hr1.1) (fun e2 => pl_neg (by decide) ?_) (fun e2 => pl_pos (by decide) ?_)
    · rw [show ww w (p + 1) 60 = true from e2, if_pos rfl]
      refine pl_e (xR_place L xs) ?_
      obtain ⟨n1, D1, K1, hA, hq⟩ := h1
      rw [hA.1.pla]
      refine rl_mk (-1) (Or.inr rfl) hA (fun g2 r2 h2 _ => ?_)
      refine rl_hg hq h2 (fun g3 r3 h3 _ => ?_)
      refine rl_ad Vt.lf h3 (ww_iff.mp e2).1 (fun g4 h4 _ => ?_)
      exact H (x3 + 1) (p + 2) _ g4 r3 h4 (by omega) (by omega)
    · rw [show ww w (p + 1) 60 = false from e2, if_neg (by decide)]
      refine rl_oi h1 (fun _ g2 r2 h2 _ => ?_)
      exact H (x3 + 1) (p + 2) _ g2 r2 h2 (by omega) (by omega)
theorem yS_when_l {v : Nat} {dd : TD} (hL : YL L xs m d w f) : ∀ (k : Nat) (x3 : Int32) (p : Nat) (F : Tf) (g : a2_G) (r : a2_A), Vt NP w f n D K p v (nd dd F) g r → 0 ≤ x3.toInt → x3.toInt ≤ p → pl (lp L xs nS_when nm_m114 (m + 1) d k 20 [some (.ref cS), some (.int a), some (.int (Int32.ofNat v)), some (.int x3)] g r) (kVt w f n D K (b2 (tv w 16 p none F) fun q _ b => b2 (tv w 10 q none []) fun q _ c => o2 q (nd dd (b ++ c)))) kYT := by
  intro k
  induction k with
  | zero => exact fun _ _ _ _ _ _ _ _ => pl_l0
  | succ k ih =>
    intro x3 p F g r h h0 hx
    rw [lS_when_20]
    exact yS_when_t hL ih x3 h h0 hx
theorem yS_when (hL : ∀ e, e < d → YL L xs m e w f) (h : At w f p n D K g r) : pl (ev L xs (m + 1) d nS_when [.ref cS, .int a] g r) (kVt w f n D K (tv w 15 p none [])) kYT := by
  cases d with
  | zero => trivial
  | succ d =>
    rw [qS_when, tv_15]
    refine pl_e (xR_place L xs) ?_
    rw [h.1.pla]
    refine rl_mk (-1) (Or.inr rfl) h (fun g1 r1 h1 _ => ?_)
    exact yS_when_t (hL d (by omega)) (yS_when_l (hL d (by omega)) _) 0 h1 (by decide) (by show (0 : Int) ≤ _; omega)
theorem yS_eval_t {k : Nat} {v : Nat} {pp : Int32} (hL : ∀ e, e < d → YL L xs m e w f) (H : ∀ (x3 : Int32) (p : Nat) (F : Tf) (g : a2_G) (r : a2_A), Vt NP w f n D K p v (nd (30, 0, pp, 0) F) g r → 0 ≤ x3.toInt → x3.toInt ≤ p → pl (lp L xs nS_evaluate nm_m113 (m + 1) d k 38 [some (.ref cS), some (.int a), some (.int (Int32.ofNat v)), some (.int x3)] g r) (kVt w f n D K (b2 (tv w 14 p none F) fun q _ b => o2 (sk (ww w q 75) q) (nd (30, 0, pp, sc (ww w q 75)) b))) kYT) (x3 : Int32) {F : Tf} (h : Vt NP w f n D K p v (nd (30, 0, pp, 0) F) g r) (h0 : 0 ≤ x3.toInt) (hx : x3.toInt ≤ p) : pl (BS_evaluate_38 L xs (m + 1) d k a (Int32.ofNat v) x3 g r) (kVt w f n D K (b2 (tv w 14 p none F) fun q _ b => o2 (sk (ww w q 75) q) (nd (30, 0, pp, sc (ww w q 75)) b))) kYT := by
  have hr := Vt.lf.1 _ _ _ h
  have hle := hr.le
  have h77 : ww w p 59 = false → pl (BS_evaluate_77 L xs (m + 1) d k a (Int32.ofNat v) x3 g r) (kVt w f n D K (b2 (tv w 14 p none F) fun q _ b => o2 (sk (ww w q 75) q) (nd (30, 0, pp, sc (ww w q 75)) b))) kYT := by
    intro e
    rw [tv_14, e, if_neg (by decide)]
    unfold BS_evaluate_77
    exact rl_se h (by decide) (fun g7 r7 h7 => ⟨v, _, none, _, rfl, rfl, h7⟩)
  unfold BS_evaluate_38
  refine pl_if (fun hc => ?_) (fun hc => ?_)
  · rw [c2_ge] at hc
    have hc' : (1500 : Int) ≤ x3.toInt := hc
    exact h77 (ww_out (by omega))
  · have h15 : x3.toInt < 1500 := by
      rw [c2_ge] at hc
      have hc' : ¬ (1500 : Int) ≤ x3.toInt := hc
      omega
    have e5 := i32_inc (x := x3) (by omega)
    refine pl_u (xR_isReserved L xs 59 0 (j := 0) rfl (by decide) hr.1) (fun e => pl_neg (by decide) ?_) (fun e => pl_pos (by decide) (h77 e))
    have e' : ww w p 59 = true := e
    rw [tv_14, e', if_pos rfl]
    obtain ⟨n1, D1, K1, hA, hq⟩ := h
    refine pl_v (yS_when hL hA) (fun _ _ _ _ => trivial) (fun u g1 r1 q => ?_)
    obtain ⟨v1, q1, s1, T1, e1, e2, h1⟩ := q
    cases e1
    rw [e2]
    have e6 := tv15_lt e2 e'
    exact rl_hg hq h1 (fun g2 r2 h2 _ => H (x3 + 1) q1 _ g2 r2 h2 (by omega) (by omega))
theorem yS_eval_l {v : Nat} {pp : Int32} (hL : ∀ e, e < d → YL L xs m e w f) : ∀ (k : Nat) (x3 : Int32) (p : Nat) (F : Tf) (g : a2_G) (r : a2_A), Vt NP w f n D K p v (nd (30, 0, pp, 0) F) g r → 0 ≤ x3.toInt → x3.toInt ≤ p → pl (lp L xs nS_evaluate nm_m113 (m + 1) d k 38 [some (.ref cS), some (.int a), some (.int (Int32.ofNat v)), some (.int x3)] g r) (kVt w f n D K (b2 (tv w 14 p none F) fun q _ b => o2 (sk (ww w q 75) q) (nd (30, 0, pp, sc (ww w q 75)) b))) kYT := by
  intro k
  induction k with
  | zero => exact fun _ _ _ _ _ _ _ _ => pl_l0
  | succ k ih =>
    intro x3 p F g r h h0 hx
    rw [lS_evaluate_38]
    exact yS_eval_t hL ih x3 h h0 hx
theorem yS_evaluate (hL : ∀ e, e < d → YL L xs m e w f) (h : At w f p n D K g r) (hp : p < w.2.2) : pl (ev L xs (m + 1) d nS_evaluate [.ref cS, .int a] g r) (kVt w f n D K (tv w 140 p none [])) kYT := by
  cases d with
  | zero => trivial
  | succ d =>
    have hL' : ∀ e, e < d → YL L xs m e w f := fun e he => hL e (by omega)
    rw [qS_evaluate, tv_140]
    unfold BS_evaluate_36
    refine rl_bg h hp (by decide) (fun g1 r1 h1 => ?_)
    refine rl_oi h1 (fun _ g2 r2 h2 _ => ?_)
    have hr := Vt.lf.1 _ _ _ h2
    refine pl_u (xR_isReserved L xs 59 0 (j := 0) rfl (by decide) hr.1) (fun e => pl_pos (by decide) ?_) (fun e => pl_neg (by decide) (rl_rf hr))
    exact yS_eval_t hL' (yS_eval_l hL' _) 0 h2 (by decide) (by show (0 : Int) ≤ _; omega)
/-- PERFORM's phrase, with what goes on behind it -/
theorem yS_p73 {PQ : Option R2 → Option Value → a2_G → a2_A → Prop} {Kz : Nat → Tf → Option R2} {v : Nat} {dd : TD} {F : Tf} {x3 : Int32} {k : Nat} (h : Vt NP w f n D K p v (nd dd F) g r) (H0 : ∀ q b g r, Vt NP w f n D K q v (nd dd (F ++ b)) g r → pl (BS_perform_213 L xs (m + 1) d k a (Int32.ofNat v) x3 g r) (PQ (Kz q b)) kYT) (H1 : ∀ q b x4 g r, Vt NP w f n D K q v (nd dd (F ++ b)) g r → pl (BS_perform_213_1 L xs (m + 1) d k a (Int32.ofNat v) x3 x4 g r) (PQ (Kz q b)) kYT) : pl (BS_perform_73 L xs (m + 1) d k a (Int32.ofNat v) x3 g r) (PQ (b2 (tv w 22 p none []) fun q _ b => Kz q b)) kYT := by
  have hr := Vt.lf.1 _ _ _ h
  rw [tv_22]
  have h108 : (wk w p 2 || wk w p 1 && ww w (p + 1) 23) = true → pl (BS_perform_108 L xs (m + 1) d k a (Int32.ofNat v) x3 g r) (PQ (b2 (if wk w p 2 || wk w p 1 && ww w (p + 1) 23 then o2 (p + 2) (nd (43, 0, Int32.ofNat p, -1) (l1 (od w p))) else if ww w p 56 then b2 (tv w 5 (p + 1) none []) (fun q _ b => o2 q (nd (44, 0, Int32.ofNat p, -1) b)) else if ww w p 57 then b2 (tv w 5 (p + 7) none []) (fun q _ b => o2 q (nd (45, 0, Int32.ofNat p, -1) (l1 (nm w 41 (p + 1)) ++ l1 (od w (p + 3)) ++ l1 (od w (p + 5)) ++ b))) else o2 p []) fun q _ b => Kz q b)) kYT := by
    intro e
    rw [e, if_pos rfl]
    unfold BS_perform_108
    exact pl_n (yS_times h) (fun _ _ _ _ => trivial) (fun g1 r1 h1 => H0 _ _ g1 r1 h1)
  have h116 : (wk w p 2 || wk w p 1 && ww w (p + 1) 23) = false → pl (BS_perform_116 L xs (m + 1) d k a (Int32.ofNat v) x3 g r) (PQ (b2 (if wk w p 2 || wk w p 1 && ww w (p + 1) 23 then o2 (p + 2) (nd (43, 0, Int32.ofNat p, -1) (l1 (od w p))) else if ww w p 56 then b2 (tv w 5 (p + 1) none []) (fun q _ b => o2 q (nd (44, 0, Int32.ofNat p, -1) b)) else if ww w p 57 then b2 (tv w 5 (p + 7) none []) (fun q _ b => o2 q (nd (45, 0, Int32.ofNat p, -1) (l1 (nm w 41 (p + 1)) ++ l1 (od w (p + 3)) ++ l1 (od w (p + 5)) ++ b))) else o2 p []) fun q _ b => Kz q b)) kYT := by
    intro e
    rw [e, if_neg (by decide)]
    unfold BS_perform_116
    refine pl_u (xR_isReserved L xs 56 0 (j := 0) rfl (by decide) hr.1) (fun e1 => pl_neg (by decide) ?_) (fun e1 => pl_pos (by decide) ?_)
    · rw [show ww w p 56 = true from e1, if_pos rfl]
      obtain ⟨n1, D1, K1, hA, hq⟩ := h
      refine rl_ph hA hq (fun g1 r1 h1 => ?_)
      refine rl_rq Vt.lf h1 (fun _ g2 h2 _ => ?_)
      obtain ⟨n2, D2, K2, hA2, hq2⟩ := h2
      refine pl_v (yX_conds L xs w f d (p + 1) a n2 D2 K2 g2 r1 hA2).1 (fun _ _ _ _ => trivial) (fun u g3 r3 q => ?_)
      obtain ⟨v3, q3, s3, T3, e3, e4, h3⟩ := q
      cases e3
      rw [e4]
      exact rl_hg hq2 h3.vt (fun g4 r4 h4 _ => H1 _ _ _ g4 r4 (hq.bk h4))
    · rw [show ww w p 56 = false from e1, if_neg (by decide)]
      refine pl_u (xR_isReserved L xs 57 0 (j := 0) rfl (by decide) hr.1) (fun e2 => pl_neg (by decide) ?_) (fun e2 => pl_pos (by decide) ?_)
      · rw [show ww w p 57 = true from e2, if_pos rfl]
        obtain ⟨n1, D1, K1, hA, hq⟩ := h
        refine pl_v (yS_varying hA (ww_iff.mp e2).1 hq) (fun _ _ _ _ => trivial) (fun u g1 r1 q => ?_)
        obtain ⟨e0, h1⟩ := q
        cases e0
        refine rl_rq Vt.lf h1 (fun _ g2 h2 _ => ?_)
        obtain ⟨n2, D2, K2, hA2, hq2⟩ := h2
        refine pl_v (yX_conds L xs w f d (p + 7) a n2 D2 K2 g2 r1 hA2).1 (fun _ _ _ _ => trivial) (fun u g3 r3 q => ?_)
        obtain ⟨v3, q3, s3, T3, e3, e4, h3⟩ := q
        cases e3
        rw [e4]
        exact rl_hg hq2 h3.vt (fun g4 r4 h4 _ => H1 _ _ _ g4 r4 (hq.bk h4))
      · rw [show ww w p 57 = false from e2, if_neg (by decide)]
        exact H0 p [] g r (by rw [List.append_nil]; exact h)
  unfold BS_perform_73
  refine pl_u (xR_isKind L xs 2 hr.1) (fun e => pl_pos (by decide) (h108 (by rw [e]; rfl))) (fun e => pl_neg (by decide) ?_)
  refine pl_u (xR_isKind L xs 1 hr.1) (fun e1 => pl_neg (by decide) ?_) (fun e1 => pl_pos (by decide) (h116 (by rw [e, e1]; rfl)))
  exact pl_u (xR_isReserved L xs 23 1 (j := 1) rfl (by decide) hr.1) (fun e2 => pl_neg (by decide) (h108 (by rw [e, e1, e2]; rfl))) (fun e2 => pl_pos (by decide) (h116 (by rw [e, e1, e2]; rfl)))
theorem yS_perform (hL : ∀ e, e < d → YL L xs m e w f) (h : At w f p n D K g r) (hp : p < w.2.2) : pl (ev L xs (m + 1) d nS_perform [.ref cS, .int a] g r) (kVt w f n D K (tv w 139 p none [])) kYT := by
  cases d with
  | zero => trivial
  | succ d =>
    rw [qS_perform, tv_139]
    refine rl_bg h hp (by decide) (fun g1 r1 h1 => ?_)
    have hr := Vt.lf.1 _ _ _ h1
    have h35 : (wk w (p + 1) 1 && !ww w (p + 2) 23) = false → pl (BS_perform_35 L xs (m + 1) d m a (Int32.ofNat n) g1 r1) (kVt w f n D K (b2 (tv w 22 (p + 1) none []) fun q _ b => b2 (tv w 10 q none []) fun q _ c => o2 (q + 1) (nd (29, 1, Int32.ofNat p, 1) (b ++ c)))) kYT := by
      intro e
      unfold BS_perform_35 BS_perform_36
      refine pl_pos (by decide) ?_
      refine yS_p73 (PQ := kVt w f n D K) (Kz := fun q b => b2 (tv w 10 q none []) fun q _ c => o2 (q + 1) (nd (29, 1, Int32.ofNat p, 1) (b ++ c))) h1 (fun q b g2 r2 h2 => ?_) (fun q b x4 g2 r2 h2 => ?_)
      · unfold BS_perform_213 BS_perform_263
        refine pl_neg (by decide) ?_
        refine rl_sb h2 (hL d (by omega)).l (fun u q s T g3 r3 e3 h3 => ?_)
        refine rl_rq Vt.lf h3 (fun _ g4 h4 _ => ?_)
        refine rl_sv h4 (by decide) (fun g5 r5 h5 _ => ?_)
        exact rl_sx h5 (by decide) (fun g6 r6 h6 _ => ⟨n, _, none, _, rfl, rfl, h6⟩)
      · unfold BS_perform_213_1 BS_perform_263_1
        refine pl_neg (by decide) ?_
        refine rl_sb h2 (hL d (by omega)).l (fun u q s T g3 r3 e3 h3 => ?_)
        refine rl_rq Vt.lf h3 (fun _ g4 h4 _ => ?_)
        refine rl_sv h4 (by decide) (fun g5 r5 h5 _ => ?_)
        exact rl_sx h5 (by decide) (fun g6 r6 h6 _ => ⟨n, _, none, _, rfl, rfl, h6⟩)
    refine pl_u (xR_isKind L xs 1 hr.1) (fun e => pl_neg (by decide) ?_) (fun e => pl_pos (by decide) ?_)
    · refine pl_u (xR_isReserved L xs 23 1 (j := 1) rfl (by decide) hr.1) (fun e1 => pl_pos (by decide) ?_) (fun e1 => pl_neg (by decide) ?_)
      · have e2 : (wk w (p + 1) 1 && !ww w (p + 2) 23) = false := by
          rw [show ww w (p + 2) 23 = true from e1, Bool.not_true, Bool.and_false]
        rw [e2, if_neg (by decide)]
        exact h35 e2
      · rw [e, show ww w (p + 2) 23 = false from e1, Bool.not_false, Bool.and_self, if_pos rfl]
        unfold BS_perform_36
        refine pl_neg (by decide) ?_
        refine rl_ni h1 (fun _ g2 r2 h2 _ => ?_)
        have hfin : ∀ {q : Nat} {F : Tf} {g : a2_G} {r : a2_A}, Vt NP w f n D K q n (nd (29, 0, Int32.ofNat p, 0) F) g r → pl (BS_perform_73 L xs (m + 1) d m a (Int32.ofNat n) 1 g r) (kVt w f n D K (b2 (tv w 22 q none []) fun q _ b => o2 q (nd (29, 0, Int32.ofNat p, 0) (F ++ b)))) kYT := by
          intro q F g r h
          refine yS_p73 (PQ := kVt w f n D K) (Kz := fun q b => o2 q (nd (29, 0, Int32.ofNat p, 0) (F ++ b))) h (fun q b g2 r2 h2 => ?_) (fun q b x4 g2 r2 h2 => ?_)
          · unfold BS_perform_213 BS_perform_263
            exact pl_pos (by decide) ⟨n, _, none, _, rfl, rfl, h2⟩
          · unfold BS_perform_213_1 BS_perform_263_1
            exact pl_pos (by decide) ⟨n, _, none, _, rfl, rfl, h2⟩
        refine rl_sk Vt.lf h2 (fun e3 g3 h3 _ => pl_neg (by decide) ?_) (fun e3 => pl_pos (by decide) ?_)
        · rw [show ww w (p + 2) 21 = true from e3, if_pos rfl]
          exact rl_ni h3 (fun _ g4 r4 h4 _ => hfin h4)
        · rw [show ww w (p + 2) 21 = false from e3, if_neg (by decide)]
          exact hfin h2
    · have e2 : (wk w (p + 1) 1 && !ww w (p + 2) 23) = false := by
        rw [e]
        rfl
      rw [e2, if_neg (by decide)]
      exact h35 e2
theorem yS_statement (hL : ∀ e, e < d → YL L xs m e w f) (h : At w f p n D K g r) (hb : wb w p = true) : pl (ev L xs (m + 1) d nS_statement [.ref cS, .int a] g r) (kVt w f n D K (tv w (100 + (w.2.1 p).toInt.toNat) p none [])) kYT := by
  cases d with
  | zero => trivial
  | succ d =>
    have hL' : ∀ e, e < d → YL L xs m e w f := fun e he => hL e (by omega)
    obtain ⟨hp, h0, hv⟩ := wb_iff.mp hb
    have hv' : 36 ≤ (w.2.1 p).toInt ∧ (w.2.1 p).toInt ≤ 47 ∨ (w.2.1 p).toInt = 29 := hv.imp id (fun e => by rw [e]; rfl)
    rw [qS_statement]
    refine pl_e (xR_value L xs h.1) ?_
    rw [if_pos hp]
    refine pl_if (fun hc => ?_) (fun hc1 => ?_)
    · rw [show 100 + (w.2.1 p).toInt.toNat = 129 by omega]
      exact pl_v (yS_display h hp) (fun _ _ _ q => q) (fun _ _ _ q => q)
    refine pl_if (fun hc => by exfalso; omega) (fun _ => ?_)
    refine pl_if (fun hc => by exfalso; omega) (fun _ => ?_)
    refine pl_if (fun hc => by exfalso; omega) (fun _ => ?_)
    refine pl_if (fun hc => by exfalso; omega) (fun _ => ?_)
    refine pl_if (fun hc => by exfalso; omega) (fun _ => ?_)
    refine pl_if (fun hc => by exfalso; omega) (fun _ => ?_)
    refine pl_if (fun hc => ?_) (fun hc2 => ?_)
    · rw [show 100 + (w.2.1 p).toInt.toNat = 136 by omega]
      exact pl_v (yS_move h hp) (fun _ _ _ q => q) (fun _ _ _ q => q)
    refine pl_if (fun hc => ?_) (fun hc3 => ?_)
    · rw [show 100 + (w.2.1 p).toInt.toNat = 137 by omega]
      exact pl_v (yS_add hL' h hp) (fun _ _ _ q => q) (fun _ _ _ q => q)
    refine pl_if (fun hc => ?_) (fun hc4 => ?_)
    · rw [show 100 + (w.2.1 p).toInt.toNat = 138 by omega]
      exact pl_v (yS_ifElse hL' h hp) (fun _ _ _ q => q) (fun _ _ _ q => q)
    refine pl_if (fun hc => ?_) (fun hc5 => ?_)
    · rw [show 100 + (w.2.1 p).toInt.toNat = 139 by omega]
      exact pl_v (yS_perform hL' h hp) (fun _ _ _ q => q) (fun _ _ _ q => q)
    refine pl_if (fun hc => ?_) (fun hc6 => ?_)
    · rw [show 100 + (w.2.1 p).toInt.toNat = 140 by omega]
      exact pl_v (yS_evaluate hL' h hp) (fun _ _ _ q => q) (fun _ _ _ q => q)
    refine pl_if (fun hc => ?_) (fun hc7 => ?_)
    · rw [show 100 + (w.2.1 p).toInt.toNat = 141 by omega]
      exact pl_v (yS_read hL' h hp) (fun _ _ _ q => q) (fun _ _ _ q => q)
    refine pl_if (fun hc => ?_) (fun hc8 => ?_)
    · rw [show 100 + (w.2.1 p).toInt.toNat = 142 by omega]
      exact pl_v (yS_call hL' h hp) (fun _ _ _ q => q) (fun _ _ _ q => q)
    refine pl_if (fun hc => ?_) (fun hc9 => ?_)
    · rw [show 100 + (w.2.1 p).toInt.toNat = 143 by omega]
      exact pl_v (yS_goTo h hp) (fun _ _ _ q => q) (fun _ _ _ q => q)
    refine pl_if (fun hc => ?_) (fun hc10 => ?_)
    · rw [show 100 + (w.2.1 p).toInt.toNat = 144 by omega]
      exact pl_v (yS_stop h hp) (fun _ _ _ q => q) (fun _ _ _ q => q)
    refine pl_if (fun hc => ?_) (fun hc11 => ?_)
    · rw [show 100 + (w.2.1 p).toInt.toNat = 145 by omega, tv_145]
      exact rl_bg h hp (by decide) (fun g1 r1 h1 => ⟨n, _, none, _, rfl, rfl, h1⟩)
    refine pl_if (fun hc => ?_) (fun hc12 => ?_)
    · rw [show 100 + (w.2.1 p).toInt.toNat = 146 by omega, tv_146]
      exact rl_bg h hp (by decide) (fun g1 r1 h1 => ⟨n, _, none, _, rfl, rfl, h1⟩)
    rw [show 100 + (w.2.1 p).toInt.toNat = 147 by omega]
    unfold BS_statement_162
    exact pl_v (yS_compute h hp) (fun _ _ _ q => q) (fun _ _ _ q => q)
theorem yS_list_t {k : Nat} {v : Nat} {dd : TD} {x1 : Int32} (hL : ∀ e, e < d → YL L xs m e w f) (H : ∀ (x4 : Int32) (p : Nat) (F : Tf) (g : a2_G) (r : a2_A), Vt NP w f n D K p v (nd dd F) g r → 0 ≤ x4.toInt → x4.toInt ≤ p → pl (lp L xs nS_list nm_m87 (m + 1) d k 49 [some (.ref cS), some (.int x1), some (.int a), some (.int (Int32.ofNat v)), some (.int x4)] g r) (kVs v w f n D K (b2 (tv w 11 p none F) fun q _ b => o2 q (nd dd b))) kYT) (x4 : Int32) {F : Tf} (h : Vt NP w f n D K p v (nd dd F) g r) (h0 : 0 ≤ x4.toInt) (hx : x4.toInt ≤ p) : pl (BS_list_49 L xs (m + 1) d k x1 a (Int32.ofNat v) x4 g r) (kVs v w f n D K (b2 (tv w 11 p none F) fun q _ b => o2 q (nd dd b))) kYT := by
  have hr := Vt.lf.1 _ _ _ h
  have hle := hr.le
  rw [tv_11]
  unfold BS_list_49
  refine pl_if (fun hc => ?_) (fun hc => ?_)
  · rw [c2_ge] at hc
    have hc' : (1500 : Int) ≤ x4.toInt := hc
    rw [wb_out (by omega : ¬ p < w.2.2)]
    exact ⟨p, none, _, rfl, rfl, h⟩
  · have h15 : x4.toInt < 1500 := by
      rw [c2_ge] at hc
      have hc' : ¬ (1500 : Int) ≤ x4.toInt := hc
      omega
    refine pl_u (xS_isNext L xs hr.1) (fun e => pl_neg (by decide) ?_) (fun e => pl_pos (by decide) ?_)
    · rw [e, if_pos rfl]
      obtain ⟨n1, D1, K1, hA, hq⟩ := h
      refine pl_v (yS_statement hL hA e) (fun _ _ _ _ => trivial) (fun u g1 r1 q => ?_)
      obtain ⟨v1, q1, s1, T1, e1, e2, h1⟩ := q
      cases e1
      rw [e2]
      have e5 := i32_inc (x := x4) (by omega)
      have e6 := tv_lt e2 (by omega)
      exact rl_hg hq h1 (fun g2 r2 h2 _ => H (x4 + 1) q1 _ g2 r2 h2 (by omega) (by omega))
    · rw [e]
      exact ⟨p, none, _, rfl, rfl, h⟩
theorem yS_list_l {v : Nat} {dd : TD} {x1 : Int32} (hL : ∀ e, e < d → YL L xs m e w f) : ∀ (k : Nat) (x4 : Int32) (p : Nat) (F : Tf) (g : a2_G) (r : a2_A), Vt NP w f n D K p v (nd dd F) g r → 0 ≤ x4.toInt → x4.toInt ≤ p → pl (lp L xs nS_list nm_m87 (m + 1) d k 49 [some (.ref cS), some (.int x1), some (.int a), some (.int (Int32.ofNat v)), some (.int x4)] g r) (kVs v w f n D K (b2 (tv w 11 p none F) fun q _ b => o2 q (nd dd b))) kYT := by
  intro k
  induction k with
  | zero => exact fun _ _ _ _ _ _ _ _ => pl_l0
  | succ k ih =>
    intro x4 p F g r h h0 hx
    rw [lS_list_49]
    exact yS_list_t hL ih x4 h h0 hx
end
theorem yS_list (L : Nat) (xs : Nat → Int32) {m : Nat} (w : Ws) (f : Gh) (d : Nat) : YL L xs m d w f := by
  induction d using Nat.strongRecOn with
  | _ d ih =>
    intro p c a n D K g r h
    cases d with
    | zero => trivial
    | succ d =>
      have ih' : ∀ e, e < d → YL L xs m e w f := fun e he => ih e (by omega)
      rw [qS_list]
      unfold BS_list_15 BS_list_29
      refine pl_u (xS_isNext L xs h.1) (fun e => pl_pos (by decide) ?_) (fun e => pl_neg (by decide) (rl_rf h.ru))
      refine pl_if (fun _ => ?_) (fun _ => rl_rf h.ru)
      refine pl_e (xR_place L xs) ?_
      rw [h.1.pla]
      refine rl_mk (-1) (Or.inr rfl) h (fun g1 r1 h1 _ => ?_)
      exact yS_list_t ih' (yS_list_l ih' _) 0 h1 (by decide) (by show (0 : Int) ≤ _; omega)
