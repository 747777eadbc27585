/-! The model's sums: sum itself. -/
section
variable {L : Nat} {xs : Nat → Int32} {m d k : Nat} {w : Ws} {f : Gh} {n : Nat} {D : Nat → TD} {K : Nat → List Nat} {N : Nat → Int32}
theorem zM_operand {p : Nat} {g : a2_G} {r : a2_A} (h : Am w f p n D K g r) : pl (ev L xs (m + 1) d nM_operand [.ref cM] g r) (fun o g' r' => wo w p = true ∧ o = some (.int (Int32.ofNat n)) ∧ Wn NP w f n D K (r fM_next).2 (p + 1) n (l1 (od w p)) g' r' ∨ wo w p = false ∧ o = some (.int 0) ∧ Bd w f p g' r') kN := by
  cases d with
  | zero => trivial
  | succ d =>
    have hG := h.1
    rw [qM_operand]
    refine pl_neg (by rw [c2_ne, hG.2.2.1]; decide) ?_
    refine pl_u (xM_isOperand L xs hG.1.mrd hG.2.2.2.1) (fun e => pl_pos (by decide) ?_) (fun e => pl_neg (by decide) ?_)
    · refine pl_if (fun _ => pl_if (fun _ => ?_) (fun _ => trivial)) (fun _ => trivial)
      have hp := (wo_iff.mp e).1
      rw [i32_as, hG.nat, hG.1.mrd.1, hG.1.mrd.2.1, hG.pla]
      have hA := h.up hp
      rw [hG.pla] at hA
      refine ml_nm (-1) (fun q => absurd q.2 (by decide)) hA (fun g1 r1 h1 => ?_)
      exact Or.inl ⟨e, rfl, h1⟩
    · unfold BM_operand_18
      refine pm_fa hG hG.2.2.2.1 hG.2.2.2.2 (fun g2 r2 h2 _ => ?_)
      exact Or.inr ⟨e, rfl, h2⟩
theorem zM_behindUnit (hn : 1 ≤ n) {u q : Nat} {U : Tf} {c : Kx} {st : List Kx} {g : a2_G} {r : a2_A} (h : Pn w f n D K N q (sgs (c :: st) ++ [(u, U)]) g r) (hS : Skr (c :: st) r) (hC : (g fM_contexts).toInt = ((st.length + 1 : Nat) : Int)) : pl (ev L xs (m + 1) d nM_behindUnit [.ref cM, .int (Int32.ofNat u)] g r) (kMU w f n D K N (csU w (c :: st) q U)) kN := by
  cases d with
  | zero => trivial
  | succ d =>
    rw [qM_behindUnit]
    exact but_2 hn (but_l hn m) (Int32.ofNat u) 0 0 h hS hC
theorem zM_context {g : a2_G} {r : a2_A} (hL : ML r) {i : Nat} (hi : (g fM_contexts).toInt = i) : pl (ev L xs (m + 1) d nM_context [.ref cM] g r) (fun o g' r' => g' = upd g fM_contexts (g fM_contexts + 1) ∧ i < 64 ∧ r' = a2_ua (a2_ua r fM_sumSign ((r fM_sumSign).1, (upd (r fM_sumSign).2 i 0))) fM_productSign ((r fM_productSign).1, (upd (r fM_productSign).2 i 0))) kN := by
  cases d with
  | zero => trivial
  | succ d =>
    rw [qM_context, tn_at hi]
    refine pl_if (fun c => pl_if (fun _ => ?_) (fun _ => trivial)) (fun _ => trivial)
    rw [inr_eq, hL.at 29, hi] at c
    exact ⟨rfl, by omega, rfl⟩
def c00 : Kx := (0, (0, []), 0, (0, []))
theorem sgs_00 (st : List Kx) : sgs (c00 :: st) = sgs st := by
  show sgs st ++ ([] ++ []) = sgs st
  rw [List.append_nil, List.append_nil]
theorem Skr.psh {st : List Kx} {r : a2_A} (h : Skr st r) : Skr (c00 :: st) (a2_ua (a2_ua r fM_sumSign ((r fM_sumSign).1, (upd (r fM_sumSign).2 st.length 0))) fM_productSign ((r fM_productSign).1, (upd (r fM_productSign).2 st.length 0))) := ⟨⟨upd_eq (f := (r fM_sumSign).2), fun e => absurd rfl e, upd_eq (f := (r fM_productSign).2), fun e => absurd rfl e⟩, h.fr (fun i hi => ⟨upd_ne (f := (r fM_sumSign).2) (by omega), rfl, upd_ne (f := (r fM_productSign).2) (by omega), rfl⟩)⟩
theorem tv4_cs {q : Nat} {c : Kx} {st : List Kx} (h : wg w q 0 = true) : (b2 (tv w 4 q none []) fun q _ U => csU w (c :: st) q U) = b2 (tv w 4 (q + 1) none []) fun q _ U => csU w (c00 :: c :: st) q U := by
  rw [tv_4, if_pos h, b2_as, tv_0, tv_2, b2_as, b2_as]
  congr 1
theorem tv0_cs {p : Nat} : (b2 (tv w 0 p none []) fun q _ b => o2 q b) = b2 (tv w 4 p none []) fun q _ U => csU w [c00] q U := by
  rw [tv_0, tv_2, b2_as, b2_as]
  congr 1
def SUT (L : Nat) (xs : Nat → Int32) (m d k : Nat) (w : Ws) (f : Gh) (n : Nat) (D : Nat → TD) (K : Nat → List Nat) (N : Nat → Int32) : Prop := (∀ (z : Option R2) (x1 : Int32) (b : Nat) (g : a2_G) (r : a2_A), Bd w f b g r → pl (lp L xs nM_sum nm_m214 (m + 1) d k 11 [some (.ref cM), some (.int x1)] g r) (kMv w f n D K N z) kN) ∧
  (∀ (v q : Nat) (S : Tf) (g : a2_G) (r : a2_A), Pn w f n D K N q [(v, S)] g r → pl (lp L xs nM_sum nm_m214 (m + 1) d k 11 [some (.ref cM), some (.int (Int32.ofNat v))] g r) (kMv w f n D K N (o2 q S)) kN) ∧
  (∀ (c : Kx) (st : List Kx) (p : Nat) (g : a2_G) (r : a2_A), Pn w f n D K N p (sgs (c :: st)) g r → Skr (c :: st) r → (g fM_contexts).toInt = ((st.length + 1 : Nat) : Int) → pl (lp L xs nM_sum nm_m214 (m + 1) d k 11 [some (.ref cM), some (.int 0)] g r) (kMv w f n D K N (b2 (tv w 4 p none []) fun q _ U => csU w (c :: st) q U)) kN)
theorem sut_b {z : Option R2} (x1 : Int32) {b : Nat} {g : a2_G} {r : a2_A} (h : Bd w f b g r) : pl (BM_sum_11 L xs (m + 1) d k x1 g r) (kMv w f n D K N z) kN := by
  unfold BM_sum_11 BM_sum_129
  exact pl_if (fun _ => ⟨_, rfl, Or.inl ⟨b, h⟩⟩) (fun _ => pl_pos (by rw [c2_ne, h.2.2.1]; decide) ⟨_, rfl, Or.inl ⟨b, h⟩⟩)
theorem sut_v (hn : 1 ≤ n) {v q : Nat} {S : Tf} {g : a2_G} {r : a2_A} (h : Pn w f n D K N q [(v, S)] g r) : pl (BM_sum_11 L xs (m + 1) d k (Int32.ofNat v) g r) (kMv w f n D K N (o2 q S)) kN := by
  unfold BM_sum_11 BM_sum_129
  have h1 := h.one
  refine pl_pos ?_ ⟨_, rfl, Or.inr ⟨v, q, none, S, rfl, rfl, h1⟩⟩
  rw [c2_ne]
  intro e
  obtain ⟨n', D', K', hA, hq, -⟩ := h1
  have r1 := hq.2.2.1.rg
  have r2 := hA.2.2.2.1
  have := congrArg Int32.toInt e
  rw [on_eq (by omega), i32_0] at this
  omega
theorem sut_1 (hn : 1 ≤ n) (H : SUT L xs m d k w f n D K N) {c : Kx} {st : List Kx} {p : Nat} {g : a2_G} {r : a2_A} (h : Pn w f n D K N p (sgs (c :: st)) g r) (hS : Skr (c :: st) r) (hC : (g fM_contexts).toInt = ((st.length + 1 : Nat) : Int)) : pl (BM_sum_11 L xs (m + 1) d k 0 g r) (kMv w f n D K N (b2 (tv w 4 p none []) fun q _ U => csU w (c :: st) q U)) kN := by
  have hG := h.gd
  unfold BM_sum_11
  refine pl_neg (by decide) (pl_neg (by rw [c2_ne, hG.2.2.1]; decide) ?_)
  refine pl_u (xM_isSign L xs 0 hG.1.mrd hG.2.2.2.1) (fun e => pl_neg (by decide) ?_) (fun e => pl_pos (by decide) ?_)
  · unfold BM_sum_53
    refine pl_in (fun c4 => ?_) (fun c4 => ?_)
    · rw [tv4_cs e]
      have h1 : Pn w f n D K N (p + 1) (sgs (c :: st)) (upd (upd g fM_level (g fM_level + 1)) fM_at (g fM_at + 1)) r := Pn.lf.2 _ _ _ (h.ug (j := fM_level) (x := g fM_level + 1) (by decide)) (wg_iff.mp e).1
      refine pl_n (zM_context h1.gd.1.2.1 (i := st.length + 1) hC) (fun _ _ _ e => e) (fun g2 r2 e2 => ?_)
      obtain ⟨rfl, hb, rfl⟩ := e2
      refine H.2.2 c00 (c :: st) (p + 1) _ _ ?_ hS.psh ?_
      · rw [sgs_00]
        exact ((h1.ug (by decide)).ua (by decide) (by decide) (by rfl)).ua (by decide) (by decide) (by rfl)
      · show (g fM_contexts + 1).toInt = _
        rw [i32_inc (by rw [hC]; omega), hC]
        rfl
    · refine pm_fa hG hG.2.2.2.1 hG.2.2.2.2 (fun g1 r1 h1 f1 => ?_)
      have h2 : Bd w f p (upd (upd g1 fM_level (g1 fM_level + 1)) fM_at (g1 fM_at + 1)) r1 := (h1.ug (by decide)).ug (by decide)
      refine pl_n (xA_context h2.1.2.1) (fun _ _ _ e => e) (fun g2 r2 e2 => ?_)
      obtain ⟨-, rfl, hb, x, y, rfl, ex, ey⟩ := e2
      exact H.1 _ 0 p _ _ (((h2.ug (by decide)).ua (by decide) ex).ua (by decide) ey)
  · have e0 : ¬ wg w p 0 = true := by rw [e]; decide
    have hu : (wk w p 1 || wk w p 2) = true → pl (BM_sum_117 L xs (m + 1) d k 0 g r) (kMv w f n D K N (b2 (tv w 4 p none []) fun q _ U => csU w (c :: st) q U)) kN := by
      intro eo
      have ho : wo w p = true := by
        unfold wo
        rw [eo]
        rfl
      rw [tv_4, if_neg e0, b2_o]
      unfold BM_sum_117
      obtain ⟨n1, D1, K1, hA, hq, hN⟩ := h
      refine pl_v (pl_and (xM_operand hA.1) (zM_operand hA)) (fun _ _ _ q => q.1) (fun v g1 r1 e1 => ?_)
      obtain ⟨⟨-, -, e4⟩, ⟨e1, e2, e3⟩ | ⟨e1, -, -⟩⟩ := e1
      · cases e2
        have hP := Pn.snoc hq hN e3
        have hS1 : Skr (c :: st) r1 := hS.we (fun q hq => e4.2 q hq)
        have hC1 : (g1 fM_contexts).toInt = ((st.length + 1 : Nat) : Int) := by rw [e4.1 fM_contexts (by decide)]; exact hC
        refine pl_v (zM_behindUnit hn hP hS1 hC1) (fun _ _ _ e => e) (fun v2 g2 r2 e5 => ?_)
        obtain ⟨x, ex, e6⟩ := e5
        cases ex
        rcases e6 with ⟨b, hb⟩ | ⟨v, q, S, rfl, ez, hp⟩ | ⟨rfl, c', st', q, hp, hs, hc, ez⟩
        · exact H.1 _ _ b g2 r2 hb
        · rw [ez]
          exact H.2.1 v q S g2 r2 hp
        · rw [ez]
          exact H.2.2 c' st' q g2 r2 hp hs hc
      · rw [ho] at e1
        cases e1
    refine pl_u (xM_isKind L xs 1 hG.1.mrd hG.2.2.2.1) (fun e1 => pl_pos (by decide) (hu (by rw [e1]; rfl))) (fun e1 => pl_neg (by decide) ?_)
    refine pl_u (xM_isKind L xs 2 hG.1.mrd hG.2.2.2.1) (fun e2 => pl_pos (by decide) (hu (by rw [e1, e2]; rfl))) (fun e2 => pl_neg (by decide) ?_)
    refine pm_fa hG hG.2.2.2.1 hG.2.2.2.2 (fun g1 r1 h1 f1 => ?_)
    exact H.1 _ 0 p g1 r1 h1
theorem sut_l (hn : 1 ≤ n) : ∀ k, SUT L xs m d k w f n D K N
  | 0 => ⟨fun _ _ _ _ _ _ => pl_l0, fun _ _ _ _ _ _ => pl_l0, fun _ _ _ _ _ _ _ _ => pl_l0⟩
  | k + 1 => ⟨fun z x1 b g r h => by
      rw [lM_sum_11]
      exact sut_b x1 h, fun v q S g r h => by
      rw [lM_sum_11]
      exact sut_v hn h, fun c st p g r h hS hC => by
      rw [lM_sum_11]
      exact sut_1 hn (sut_l hn k) h hS hC⟩
theorem zM_sum {p : Nat} {g : a2_G} {r : a2_A} (h : Am w f p n D K g r) : pl (ev L xs (m + 1) d nM_sum [.ref cM] g r) (kMv w f n D K (r fM_next).2 (b2 (tv w 0 p none []) fun q _ b => o2 q b)) kN := by
  cases d with
  | zero => trivial
  | succ d =>
    have hn := h.2.2.1
    rw [qM_sum, tv0_cs]
    have h1 : Am w f p n D K (upd g fM_contexts 0) r := h.ug (by decide)
    refine pl_n (zM_context h1.ml (i := 0) rfl) (fun _ _ _ e => e) (fun g2 r2 e2 => ?_)
    obtain ⟨rfl, hb, rfl⟩ := e2
    have hP := (((Pn.nil h1).ug (j := fM_contexts) (x := upd g fM_contexts 0 fM_contexts + 1) (by decide)).ua (j := fM_sumSign) (x := ((r fM_sumSign).1, (upd (r fM_sumSign).2 0 0))) (by decide) (by decide) (by rfl)).ua (j := fM_productSign) (x := ((r fM_productSign).1, (upd (r fM_productSign).2 0 0))) (by decide) (by decide) (by rfl)
    refine sut_1 (c := c00) (st := []) hn (sut_l hn m) ?_ (Skr.psh (st := []) trivial) rfl
    rw [sgs_00]
    exact hP
end
