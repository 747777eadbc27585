/-! The model's sums: the loops. -/
theorem jT_0 {A U : Tf} : jT 0 A U = U := if_pos rfl
noncomputable def zzU (w : Ws) (s : Int32) (A : Tf) (st : List Kx) (q : Nat) (P : Tf) : Option R2 := b2 (tv w 3 q none P) fun q _ P => b2 (tv w 1 q none (jT s A P)) fun q _ S => if st = [] then o2 q S else csU w st (q + 1) S
theorem csU_c (w : Ws) (c : Kx) (st : List Kx) (q : Nat) (U : Tf) : csU w (c :: st) q U = zzU w c.1 c.2.1.2 st q (jT c.2.2.1 c.2.2.2.2 U) := rfl
theorem zz_mul {w : Ws} {s : Int32} {A : Nat × Tf} {st : List Kx} {q v : Nat} {P : Tf} (h : (wg w q 7 || wg w q 8) = true) (h0 : w.2.1 q ≠ 0) : zzU w s A.2 st q P = b2 (tv w 4 (q + 1) none []) fun q' _ U => csU w ((s, A, w.2.1 q, (v, P)) :: st) q' U := by
  unfold zzU
  rw [tv_3, if_pos h, b2_as]
  congr 1
  funext q' s' U
  rw [csU_c]
  unfold zzU jT
  rw [if_neg h0]
theorem zz_add {w : Ws} {s : Int32} {A B : Nat × Tf} {st : List Kx} {q v : Nat} {P : Tf} (h : (wg w q 7 || wg w q 8) = false) (h2 : (wg w q 5 || wg w q 6) = true) (h0 : w.2.1 q ≠ 0) : zzU w s A.2 st q P = b2 (tv w 4 (q + 1) none []) fun q' _ U => csU w ((w.2.1 q, (v, jT s A.2 P), 0, B) :: st) q' U := by
  unfold zzU
  rw [tv_3, if_neg (by rw [h]; decide), b2_o, tv_1, if_pos h2, b2_as, tv_2, b2_as]
  congr 1
  funext q' s' U
  rw [csU_c]
  unfold zzU
  rw [jT_0]
  congr 1
  funext q2 s2 P2
  rw [show jT (w.2.1 q) (jT s A.2 P) P2 = nd (55, w.2.1 q, pT (jT s A.2 P), -1) (jT s A.2 P ++ P2) from if_neg h0]
theorem zz_end {w : Ws} {s : Int32} {A : Tf} {st : List Kx} {q : Nat} {P : Tf} (h : (wg w q 7 || wg w q 8) = false) (h2 : (wg w q 5 || wg w q 6) = false) : zzU w s A st q P = if st = [] then o2 q (jT s A P) else csU w st (q + 1) (jT s A P) := by
  unfold zzU
  rw [tv_3, if_neg (by rw [h]; decide), b2_o, tv_1, if_neg (by rw [h2]; decide), b2_o]
def BUT (L : Nat) (xs : Nat → Int32) (m d k : Nat) (w : Ws) (f : Gh) (n : Nat) (D : Nat → TD) (K : Nat → List Nat) (N : Nat → Int32) : Prop := ∀ (x1 x3 x4 : Int32) (u q : Nat) (U : Tf) (c : Kx) (st : List Kx) (g : a2_G) (r : a2_A), Pn w f n D K N q (sgs (c :: st) ++ [(u, U)]) g r → Skr (c :: st) r → (g fM_contexts).toInt = ((st.length + 1 : Nat) : Int) → pl (lp L xs nM_behindUnit nm_m216 (m + 1) d k 2 [some (.ref cM), some (.int x1), some (.int (Int32.ofNat u)), some (.int x3), some (.int x4)] g r) (kMU w f n D K N (csU w (c :: st) q U)) kN
section
variable {L : Nat} {xs : Nat → Int32} {m d k : Nat} {w : Ws} {f : Gh} {n : Nat} {D : Nat → TD} {K : Nat → List Nat} {N : Nat → Int32}
theorem Pn.gd {p : Nat} {l : List (Nat × Tf)} {g : a2_G} {r : a2_A} (h : Pn w f n D K N p l g r) : Gd w f p g r := Pn.lf.1 _ _ _ h
theorem but_82 (hn : 1 ≤ n) (H : BUT L xs m d k w f n D K N) (x1 x2 x3 x4 x5 : Int32) {s : Int32} {A : Nat × Tf} {st : List Kx} {q pv : Nat} {P : Tf} {g : a2_G} {r : a2_A} (h : Pn w f n D K N q (sgs st ++ (if s = 0 then [] else [A]) ++ [(pv, P)]) g r) (hS : Skr st r) (h1 : (r fM_sumSign).2 st.length = s) (h2 : s ≠ 0 → (r fM_sums).2 st.length = Int32.ofNat A.1) (h3 : (r fM_productSign).2 st.length = 0) (h4 : (r fM_products).2 st.length = Int32.ofNat pv) (hC : (g fM_contexts).toInt = ((st.length + 1 : Nat) : Int)) (hx3 : x3.toInt = (st.length : Int))
    (hs : (6 < x5.toInt ∧ x5 = w.2.1 q ∧ (wg w q 7 || wg w q 8) = true) ∨ (0 < x5.toInt ∧ x5.toInt ≤ 6 ∧ x5 = w.2.1 q ∧ (wg w q 7 || wg w q 8) = false ∧ (wg w q 5 || wg w q 6) = true) ∨ (x5.toInt = 0 ∧ (wg w q 7 || wg w q 8) = false ∧ (wg w q 5 || wg w q 6) = false)) : pl (BM_behindUnit_82_1 L xs (m + 1) d k x1 x2 x3 x4 x5 g r) (kMU w f n D K N (zzU w s A.2 st q P)) kN := by
  have hq : (wg w q 7 || wg w q 8) = true ∨ (wg w q 5 || wg w q 6) = true → q < w.2.2 := by
    intro e
    simp only [Bool.or_eq_true, wg_iff] at e
    rcases e with (e | e) | (e | e) <;> exact e.1
  have ex : x3.toNatClampNeg = st.length := tn_at hx3
  unfold BM_behindUnit_82_1
  rw [ex]
  refine pl_il (fun c6 => ?_) (fun c6 => ?_) <;> rw [show (6 : Int32).toInt = 6 from rfl] at c6
  · refine pl_if (fun _ => pl_if (fun _ => pl_if (fun _ => ?_) (fun _ => trivial)) (fun _ => trivial)) (fun _ => trivial)
    rw [h1, h4]
    refine ml_jo (a := A.1) (A := A.2) hn h2 h (fun v g1 r1 hP hr hg => ?_)
    refine pl_if (fun _ => pl_if (fun _ => ?_) (fun _ => trivial)) (fun _ => trivial)
    have hP2 : Pn w f n D K N q (sgs st ++ [(v, jT s A.2 P)]) g1 (a2_ua (a2_ua r1 fM_sums ((r1 fM_sums).1, (upd (r1 fM_sums).2 st.length (Int32.ofNat v)))) fM_sumSign ((r1 fM_sumSign).1, (upd (r1 fM_sumSign).2 st.length x5))) := (hP.ua (by decide) (by decide) (by rfl)).ua (by decide) (by decide) (by rfl)
    have hS1 : Skr st r1 := hS.we hr
    have hS2 : Skr st (a2_ua (a2_ua r1 fM_sums ((r1 fM_sums).1, (upd (r1 fM_sums).2 st.length (Int32.ofNat v)))) fM_sumSign ((r1 fM_sumSign).1, (upd (r1 fM_sumSign).2 st.length x5))) := hS1.fr (fun i hi => ⟨upd_ne (f := (r1 fM_sumSign).2) (by omega), upd_ne (f := (r1 fM_sums).2) (by omega), rfl, rfl⟩)
    have hC1 : (g1 fM_contexts).toInt = ((st.length + 1 : Nat) : Int) := by rw [hg fM_contexts (by decide)]; exact hC
    have hps : (r1 fM_productSign).2 st.length = 0 := by rw [hr fM_productSign (by decide)]; exact h3
    refine pl_il (fun c0 => ?_) (fun c0 => ?_) <;> rw [i32_0] at c0
    · have hs' : (wg w q 7 || wg w q 8) = false ∧ (wg w q 5 || wg w q 6) = false := by
        rcases hs with e | e | e
        · omega
        · omega
        · exact e.2
      rw [zz_end hs'.1 hs'.2]
      refine pl_in (fun cz => ?_) (fun cz => ?_)
      · cases st with
        | nil => exact absurd (i32e (hx3.trans rfl)) cz
        | cons c st =>
          rw [if_neg (by simp)]
          have hG := hP2.gd
          refine pl_u (xM_isSign L xs 1 hG.1.mrd hG.2.2.2.1) (fun e => pl_pos (by decide) ?_) (fun e => pl_neg (by decide) ?_)
          · refine pl_if (fun _ => ?_) (fun _ => trivial)
            have hP3 := Pn.lf.2 _ _ _ hP2 (wg_iff.mp e).1
            have es : ((a2_ua (a2_ua r1 fM_sums ((r1 fM_sums).1, (upd (r1 fM_sums).2 (c :: st).length (Int32.ofNat v)))) fM_sumSign ((r1 fM_sumSign).1, (upd (r1 fM_sumSign).2 (c :: st).length x5))) fM_sums).2 (c :: st).length = Int32.ofNat v := upd_eq (f := (r1 fM_sums).2)
            rw [es]
            refine H x1 x3 x5 v (q + 1) _ c st _ _ ((hP3.ug (by decide)).ug (by decide)) hS2 ?_
            show (g1 fM_contexts - 1).toInt = _
            rw [i32_dec (by rw [hC1]; simp; omega), hC1]
            simp
          · refine pm_fa hG hG.2.2.2.1 hG.2.2.2.2 (fun g2 r2 h2 f2 => ?_)
            exact ⟨0, rfl, Or.inl ⟨_, h2⟩⟩
      · rw [Decidable.not_not] at cz
        cases st with
        | cons c st =>
          rw [cz] at hx3
          have h3' : (0 : Int) = (((c :: st).length : Nat) : Int) := hx3
          simp at h3'
          omega
        | nil =>
          rw [if_pos rfl]
          refine pl_if (fun _ => ?_) (fun _ => trivial)
          refine ⟨_, rfl, Or.inr (Or.inl ⟨v, q, _, ?_, rfl, hP2⟩)⟩
          exact upd_eq (f := (r1 fM_sums).2)
    · have hs' : x5 = w.2.1 q ∧ (wg w q 7 || wg w q 8) = false ∧ (wg w q 5 || wg w q 6) = true := by
        rcases hs with e | e | e
        · omega
        · exact e.2.2
        · omega
      have hx0 : x5 ≠ 0 := fun e => by rw [e, i32_0] at c0; omega
      rw [zz_add (B := (0, [])) (v := v) hs'.2.1 hs'.2.2 (by rw [← hs'.1]; exact hx0), ← hs'.1]
      refine ⟨0, rfl, Or.inr (Or.inr ⟨rfl, (x5, (v, jT s A.2 P), 0, (0, [])), st, q + 1, ?_, ⟨⟨upd_eq (f := (r1 fM_sumSign).2), fun _ => upd_eq (f := (r1 fM_sums).2), hps, fun e => absurd rfl e⟩, hS2⟩, hC1, rfl⟩)⟩
      have := Pn.lf.2 _ _ _ hP2 (hq (Or.inr hs'.2.2))
      show Pn w f n D K N (q + 1) (sgs st ++ ((if x5 = 0 then [] else [(v, jT s A.2 P)]) ++ [])) _ _
      rw [if_neg hx0, List.append_nil]
      exact this
  · have hs' : x5 = w.2.1 q ∧ (wg w q 7 || wg w q 8) = true := by
      rcases hs with e | e | e
      · exact e.2
      · omega
      · omega
    have hx0 : x5 ≠ 0 := fun e => by rw [e, i32_0] at c6; omega
    refine pl_if (fun _ => ?_) (fun _ => trivial)
    rw [zz_mul (v := pv) hs'.2 (by rw [← hs'.1]; exact hx0), ← hs'.1]
    refine ⟨0, rfl, Or.inr (Or.inr ⟨rfl, (s, A, x5, (pv, P)), st, q + 1, ?_, ⟨⟨h1, h2, upd_eq (f := (r fM_productSign).2), fun _ => h4⟩, hS.fr (fun i hi => ⟨rfl, rfl, upd_ne (f := (r fM_productSign).2) (by omega), rfl⟩)⟩, hC, rfl⟩)⟩
    have := (Pn.lf.2 _ _ _ h (hq (Or.inl hs'.2))).ua (j := fM_productSign) (x := ((r fM_productSign).1, (upd (r fM_productSign).2 st.length x5))) (by decide) (by decide) (by rfl)
    show Pn w f n D K N (q + 1) (sgs st ++ ((if s = 0 then [] else [A]) ++ (if x5 = 0 then [] else [(pv, P)]))) _ _
    rw [if_neg hx0, ← List.append_assoc]
    exact this
theorem but_2 (hn : 1 ≤ n) (H : BUT L xs m d k w f n D K N) (x1 x3 x4 : Int32) {u q : Nat} {U : Tf} {c : Kx} {st : List Kx} {g : a2_G} {r : a2_A} (h : Pn w f n D K N q (sgs (c :: st) ++ [(u, U)]) g r) (hS : Skr (c :: st) r) (hC : (g fM_contexts).toInt = ((st.length + 1 : Nat) : Int)) : pl (BM_behindUnit_2_1 L xs (m + 1) d k x1 (Int32.ofNat u) x3 x4 g r) (kMU w f n D K N (csU w (c :: st) q U)) kN := by
  obtain ⟨⟨s1, s2, s3, s4⟩, hS'⟩ := hS
  have hc : (g fM_contexts - 1).toInt = (st.length : Int) := by
    rw [i32_dec (by rw [hC]; omega), hC]
    omega
  have ec : (g fM_contexts - 1).toNatClampNeg = st.length := tn_at hc
  unfold BM_behindUnit_2_1
  rw [ec, csU_c]
  refine pl_if (fun _ => pl_if (fun _ => ?_) (fun _ => trivial)) (fun _ => trivial)
  rw [s3]
  have h' : Pn w f n D K N q (sgs st ++ (if c.1 = 0 then [] else [c.2.1]) ++ (if c.2.2.1 = 0 then [] else [(c.2.2.2.1, c.2.2.2.2)]) ++ [(u, U)]) g r := by
    have e : sgs (c :: st) = sgs st ++ (if c.1 = 0 then [] else [c.2.1]) ++ (if c.2.2.1 = 0 then [] else [(c.2.2.2.1, c.2.2.2.2)]) := by
      rw [List.append_assoc]
      rfl
    rw [← e]
    exact h
  refine ml_jo (a := c.2.2.2.1) (A := c.2.2.2.2) hn s4 h' (fun v g1 r1 hP hr hg => ?_)
  refine pl_if (fun _ => pl_if (fun _ => ?_) (fun _ => trivial)) (fun _ => trivial)
  have hP2 : Pn w f n D K N q (sgs st ++ (if c.1 = 0 then [] else [c.2.1]) ++ [(v, jT c.2.2.1 c.2.2.2.2 U)]) g1 (a2_ua (a2_ua r1 fM_products ((r1 fM_products).1, (upd (r1 fM_products).2 st.length (Int32.ofNat v)))) fM_productSign ((r1 fM_productSign).1, (upd (r1 fM_productSign).2 st.length 0))) := (hP.ua (by decide) (by decide) (by rfl)).ua (by decide) (by decide) (by rfl)
  have hS2 : Skr st (a2_ua (a2_ua r1 fM_products ((r1 fM_products).1, (upd (r1 fM_products).2 st.length (Int32.ofNat v)))) fM_productSign ((r1 fM_productSign).1, (upd (r1 fM_productSign).2 st.length 0))) := (hS'.we hr).fr (fun i hi => ⟨rfl, rfl, upd_ne (f := (r1 fM_productSign).2) (by omega), upd_ne (f := (r1 fM_products).2) (by omega)⟩)
  have q1 : ((a2_ua (a2_ua r1 fM_products ((r1 fM_products).1, (upd (r1 fM_products).2 st.length (Int32.ofNat v)))) fM_productSign ((r1 fM_productSign).1, (upd (r1 fM_productSign).2 st.length 0))) fM_sumSign).2 st.length = c.1 := by
    show (r1 fM_sumSign).2 st.length = c.1
    rw [hr fM_sumSign (by decide)]
    exact s1
  have q2 : c.1 ≠ 0 → ((a2_ua (a2_ua r1 fM_products ((r1 fM_products).1, (upd (r1 fM_products).2 st.length (Int32.ofNat v)))) fM_productSign ((r1 fM_productSign).1, (upd (r1 fM_productSign).2 st.length 0))) fM_sums).2 st.length = Int32.ofNat c.2.1.1 := by
    intro e
    show (r1 fM_sums).2 st.length = _
    rw [hr fM_sums (by decide)]
    exact s2 e
  have q3 : ((a2_ua (a2_ua r1 fM_products ((r1 fM_products).1, (upd (r1 fM_products).2 st.length (Int32.ofNat v)))) fM_productSign ((r1 fM_productSign).1, (upd (r1 fM_productSign).2 st.length 0))) fM_productSign).2 st.length = 0 := upd_eq (f := (r1 fM_productSign).2)
  have q4 : ((a2_ua (a2_ua r1 fM_products ((r1 fM_products).1, (upd (r1 fM_products).2 st.length (Int32.ofNat v)))) fM_productSign ((r1 fM_productSign).1, (upd (r1 fM_productSign).2 st.length 0))) fM_products).2 st.length = Int32.ofNat v := upd_eq (f := (r1 fM_products).2)
  generalize (a2_ua (a2_ua r1 fM_products ((r1 fM_products).1, (upd (r1 fM_products).2 st.length (Int32.ofNat v)))) fM_productSign ((r1 fM_productSign).1, (upd (r1 fM_productSign).2 st.length 0))) = r2 at *
  have hC1 : (g1 fM_contexts).toInt = ((st.length + 1 : Nat) : Int) := by rw [hg fM_contexts (by decide)]; exact hC
  have hG := hP2.gd
  unfold BM_behindUnit_81_1
  refine pl_u (xM_isKind L xs 5 hG.1.mrd hG.2.2.2.1) (fun e => pl_neg (by decide) ?_) (fun e => pl_pos (by decide) ?_)
  · refine pl_if (fun _ => ?_) (fun _ => trivial)
    rw [hG.nat, hG.1.mrd.2.1]
    refine pl_u xM_in (fun e2 => pl_neg (by decide) ?_) (fun e2 => pl_pos (by decide) ?_)
    · refine pl_if (fun _ => ?_) (fun _ => trivial)
      rw [hG.nat, hG.1.mrd.2.1]
      rw [Bool.and_eq_true, decide_eq_true_eq, decide_eq_true_eq] at e2
      have e2' : 5 ≤ (w.2.1 q).toInt ∧ (w.2.1 q).toInt ≤ 8 := e2
      refine but_82 hn H x1 _ _ x4 _ hP2 hS2 q1 q2 q3 q4 hC1 hc ?_
      by_cases c6 : 6 < (w.2.1 q).toInt
      · exact Or.inl ⟨c6, rfl, sgn_hi e c6 e2'.2⟩
      · exact Or.inr (Or.inl ⟨by omega, by omega, rfl, sgn_lo e e2'.1 (by omega)⟩)
    · refine but_82 hn H x1 _ _ x4 0 hP2 hS2 q1 q2 q3 q4 hC1 hc (Or.inr (Or.inr ⟨rfl, sgn_out (fun e3 => ?_)⟩))
      rw [Bool.and_eq_false_iff, decide_eq_false_iff_not, decide_eq_false_iff_not] at e2
      have e2' : ¬ 5 ≤ (w.2.1 q).toInt ∨ ¬ (w.2.1 q).toInt ≤ 8 := e2
      omega
  · exact but_82 hn H x1 _ _ x4 0 hP2 hS2 q1 q2 q3 q4 hC1 hc (Or.inr (Or.inr ⟨rfl, sgn_no e⟩))
theorem but_l (hn : 1 ≤ n) : ∀ k, BUT L xs m d k w f n D K N
  | 0 => fun _ _ _ _ _ _ _ _ _ _ _ _ _ => pl_l0
  | k + 1 => fun x1 x3 x4 u q U c st g r h hS hC => by
    rw [lM_behindUnit_2_1]
    exact but_2 hn (but_l hn k) x1 x3 x4 h hS hC
end
