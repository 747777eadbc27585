/-! The class's clauses: PROCEDURE, DECLARATIVES, ends, units. -/
section
variable {L : Nat} {xs : Nat → Int32} {m d : Nat} {w : Ws} {f : Gh} {p : Nat} {c : CU} {x : Xs} {g : a2_G} {r : a2_A} {k : Int32 → a2_G → a2_A → Option fn_Z} {kn : a2_G → a2_A → Option fn_Z} {Q : Option Value → a2_G → a2_A → Prop} {n : Nat} {D : Nat → TD} {K : Nat → List Nat} {ids : List Nat} {ch : List Ce}
theorem yC_procedure (h : At w f p n D K g r) (hp : p < w.2.2) (hc : Cv c f.2.1 f.2.2) (hN : oN c ≠ 0) (hZ : Zc K D n ids x.1) (hh : Hc (oN c) (oT c).toInt (oI c) x.2 ids f.2.1 f.2.2) (h12 : ∀ i, i + 1 < oN c → oS c i = 12) (h53 : n53 x.1) : pl (ev L xs (m + 1) d nC_procedure [.ref cC] g r) (kTC (if ww w (p + 2) 31 then (match tv w 38 (p + 3) none [] with
      | some (q, _, F) => some (q + 1, attC (oN c) x.1 ((20, 0, Int32.ofNat p, -1), F), x.2.1, 0, 0)
      | none => none) else some (p + 3, attC (oN c) x.1 ((20, 0, Int32.ofNat p, -1), []), x.2.1, 0, 0)) (sS (sC c false) 8)) kYT := by
  cases d with
  | zero => trivial
  | succ d =>
    rw [qC_procedure]
    have h55 : ∀ {q : Nat} {F : Tf} {g : a2_G} {r : a2_A}, Vt NP w f n D K q n (nd (20, 0, Int32.ofNat p, -1) F) g r → pl (BC_procedure_55 L xs (m + 1) d m (Int32.ofNat n) g r) (kTC (some (q + 1, attC (oN c) x.1 ((20, 0, Int32.ofNat p, -1), F), x.2.1, 0, 0)) (sS (sC c false) 8)) kYT := by
      intro q F g r h
      unfold BC_procedure_55
      refine rl_rk Vt.lf h (fun _ g1 h1 _ => ?_)
      obtain ⟨n1, D1, K1, hA1, hq1⟩ := h1
      refine rl_hd (hA1.cv hc) (hA1.hc hh) (fun a ha => ?_)
      refine rl_at hZ ha ⟨n1, D1, K1, hA1, hq1⟩ (fun n' D' K' g2 r2 h2 h3 _ => ?_)
      refine rl_ss (fun r3 hr3 => ?_)
      have hh1 := h2.hc hh
      have eT : oT (sS (sC c false) 8) = 8 := oT_ss (c := sC c false) hN
      have eN : oN (sS (sC c false) 8) = oN c := oN_ss (c := sC c false)
      refine TS.mk h2 (fun k hk => ?_) (fun k hk => hr3 k (fun e => by rw [e] at hk; exact absurd hk (by decide))) h3 ?_ (fun j hj => ?_) (h53.att (by show ((20 : Int32) ≠ 53 ∧ (20 : Int32) ≠ 41); decide))
      · rw [upd_ne (fun e => by rw [e] at hk; exact absurd hk (by decide)), upd_ne (fun e => by rw [e] at hk; exact absurd hk (by decide)), upd_ne (fun e => by rw [e] at hk; exact absurd hk (by decide))]
      · rw [eT, eN]
        refine ⟨hh1.1.att (by omega) ha.lt, fun j hj => ?_, fun _ _ => Pt.new ha.lt, fun _ e => absurd e (by decide), fun _ e => absurd e (by decide), fun e => absurd e (by decide), fun _ _ => ⟨Or.inl ⟨rfl, rfl⟩, Or.inl ⟨rfl, rfl⟩, fun e => absurd rfl e, fun e => absurd rfl e, fun _ => ⟨rfl, rfl⟩⟩⟩
        rw [hr3 _ (by decide)]
        exact (hh1.2.1 j hj).att (by omega) ha.lt
      · rw [eN] at hj
        rw [oS_ss (c := sC c false) hj]
        exact h12 j hj
    refine pl_e (xR_place L xs) ?_
    rw [h.1.pla]
    refine rl_mk (-1) (Or.inr rfl) h (fun g1 r1 h1 _ => ?_)
    refine rl_ad Vt.lf h1 hp (fun g2 h2 _ => ?_)
    refine rl_rq Vt.lf h2 (fun _ g3 h3 _ => ?_)
    refine rl_sk Vt.lf h3 (fun e g4 h4 _ => pl_neg (by decide) ?_) (fun e => pl_pos (by decide) ?_)
    · rw [show ww w (p + 2) 31 = true from e, if_pos rfl]
      refine pl_n (yL_namesIn L xs 21 (fun p a => tv_38 w p none a) h4) (fun _ _ _ _ => trivial) (fun g5 r5 q => ?_)
      obtain ⟨-, q5, s5, T5, e5, h5⟩ := q
      rw [e5]
      exact h55 h5
    · rw [show ww w (p + 2) 31 = false from e, if_neg (by decide)]
      exact h55 h3
theorem yC_beginDeclaratives (h : At w f p n D K g r) (hp : p < w.2.2) (hN : oN c ≠ 0) (hs : (oT c).toInt = 8) (hZ : Zc K D n ids x.1) (hh : Hc (oN c) (oT c).toInt (oI c) x.2 ids f.2.1 f.2.2) (h12 : ∀ i, i + 1 < oN c → oS c i = 12) (h53 : n53 x.1) : pl (ev L xs (m + 1) d nC_beginDeclaratives [.ref cC] g r) (kTC (some (p + 2, attC (oN c + 1) x.1 ((22, 0, Int32.ofNat p, -1), []), x.2)) (sS c 9)) kYT := by
  cases d with
  | zero => trivial
  | succ d =>
    rw [qC_beginDeclaratives]
    refine pl_e (xR_place L xs) ?_
    rw [h.1.pla]
    refine rl_mk (-1) (Or.inr rfl) h (fun g1 r1 h1 _ => ?_)
    refine rl_ad Vt.lf h1 hp (fun g2 h2 _ => ?_)
    refine rl_rk Vt.lf h2 (fun _ g3 h3 _ => ?_)
    have ha : Pt ids (oN c + 1) (g3 fC_openDivision) := by
      obtain ⟨n5, D5, K5, hA5, -⟩ := h3
      exact (hA5.hc hh).2.2.1 (by omega) (by omega)
    refine rl_at hZ ha h3 (fun n' D' K' g5 r5 h5 h6 _ => ?_)
    refine rl_ss (fun r6 hr6 => ?_)
    have hh1 := h5.hc hh
    refine TS.mk h5 (fun k hk => upd_ne (fun e => by rw [e] at hk; exact absurd hk (by decide))) (fun k hk => hr6 k (fun e => by rw [e] at hk; exact absurd hk (by decide))) h6 ?_ (fun j hj => ?_) (h53.att (by show ((22 : Int32) ≠ 53 ∧ (22 : Int32) ≠ 41); decide))
    · rw [oT_ss hN, oN_ss]
      obtain ⟨p1, p2, p3, p4, p5⟩ := hh1.2.2.2.2.2.2 (by omega) (by omega)
      obtain ⟨z1, z2⟩ := p5 hs
      refine ⟨hh1.1.att (by omega) ha.lt, fun j hj => ?_, fun _ _ => ?_, fun _ e => absurd e (by decide), fun _ e => absurd e (by decide), fun _ => Pt.new ha.lt, fun _ _ => ⟨p1.att (by omega) ha.lt, p2.att (by omega) ha.lt, fun e => absurd z1 e, fun e => absurd z2 e, fun e => absurd e (by decide)⟩⟩
      · rw [hr6 _ (by decide)]
        exact (hh1.2.1 j hj).att (by omega) ha.lt
      · exact (hh1.2.2.1 (by omega) (by omega)).att (Nat.le_refl _) ha.lt
    · rw [oN_ss] at hj
      rw [oS_ss hj]
      exact h12 j hj
theorem yC_endDeclaratives (h : At w f p n D K g r) (hp : p < w.2.2) (hN : oN c ≠ 0) (hs : (oT c).toInt = 9) (hZ : Zc K D n ids x.1) (hh : Hc (oN c) (oT c).toInt (oI c) x.2 ids f.2.1 f.2.2) (h12 : ∀ i, i + 1 < oN c → oS c i = 12) (h53 : n53 x.1) : pl (ev L xs (m + 1) d nC_endDeclaratives [.ref cC] g r) (kTC (some (p + 3, x.1, x.2.1, 0, 0)) (sS (sC c false) 10)) kYT := by
  cases d with
  | zero => trivial
  | succ d =>
    rw [qC_endDeclaratives]
    refine rl_ad At.lf h hp (fun g2 h2 _ => ?_)
    refine rl_rq At.lf h2 (fun _ g3 h3 _ => ?_)
    refine rl_rk At.lf h3 (fun _ g4 h4 _ => ?_)
    refine rl_ss (fun r6 hr6 => ?_)
    have hh1 := h4.hc hh
    have eT : oT (sS (sC c false) 10) = 10 := oT_ss (c := sC c false) hN
    have eN : oN (sS (sC c false) 10) = oN c := oN_ss (c := sC c false)
    refine TS.mk h4 (fun k hk => ?_) (fun k hk => hr6 k (fun e => by rw [e] at hk; exact absurd hk (by decide))) hZ ?_ (fun j hj => ?_) h53
    · rw [upd_ne (fun e => by rw [e] at hk; exact absurd hk (by decide)), upd_ne (fun e => by rw [e] at hk; exact absurd hk (by decide))]
    · rw [eT, eN]
      refine ⟨hh1.1, fun j hj => ?_, fun _ _ => hh1.2.2.1 (by omega) (by omega), fun _ e => absurd e (by decide), fun _ e => absurd e (by decide), fun e => absurd e (by decide), fun _ _ => ⟨Or.inl ⟨rfl, rfl⟩, Or.inl ⟨rfl, rfl⟩, fun e => absurd rfl e, fun e => absurd rfl e, fun _ => ⟨rfl, rfl⟩⟩⟩
      rw [hr6 _ (by decide)]
      exact hh1.2.1 j hj
    · rw [eN] at hj
      rw [oS_ss (c := sC c false) hj]
      exact h12 j hj
/-- a unit's state that is not looked at -/
theorem Hc.no {u u' : Nat} {st st' : Int} {io io' : Nat} {y y' : Nat × Nat × Nat} {g' : a2_G} {r' : a2_A} (hh : Hc u st io y ids g r) (hu : u' ≤ u) (hr : r' fU_handles = r fU_handles) (hs : st' < 2 ∨ 11 < st') : Hc u' st' io' y' ids g' r' := by
  refine ⟨hh.1, fun j hj => ?_, fun _ _ => by omega, fun _ _ => by omega, fun _ _ => by omega, fun _ => by omega, fun _ _ => by omega⟩
  rw [hr]
  exact hh.2.1 j (by omega)
theorem oT_sX (h12 : ∀ i, i + 1 < oN c → oS c i = 12) : (oT (sX c)).toInt < 2 ∨ 11 < (oT (sX c)).toInt := by
  unfold oT
  by_cases e : oN (sX c) = 0
  · rw [if_pos e]
    left
    decide
  · rw [if_neg e]
    right
    have e1 : oN (sX c) = oN c - 1 := rfl
    have := h12 (oN (sX c) - 1) (by omega)
    rw [show oS (sX c) (oN (sX c) - 1) = 12 from this]
    decide
theorem yC_endUnit (h : At w f p n D K g r) (hp : p < w.2.2) (hc : Cv c f.2.1 f.2.2) (hN : oN c ≠ 0) (hZ : Zc K D n ids x.1) (hh : Hc (oN c) (oT c).toInt (oI c) x.2 ids f.2.1 f.2.2) (h12 : ∀ i, i + 1 < oN c → oS c i = 12) (h53 : n53 x.1) : pl (ev L xs (m + 1) d nC_endUnit [.ref cC] g r) (kTC (some (p + 4, x)) (sX c)) kYT := by
  cases d with
  | zero => trivial
  | succ d =>
    have hcl : ∀ {g1 g2 : a2_G} {r1 r2 : a2_A}, At w f (p + 4) n D K g1 r1 → (∀ k, k ≠ fR_faultSize → g2 k = g1 k) → (∀ k, k / 100 ≠ 1 → r2 k = r1 k) → ∀ x1 x2, pl (BC_endUnit_78 L xs (m + 1) d m x1 x2 g2 r2) (kTC (some (p + 4, x)) (sX c)) kYT := by
      intro g1 g2 r1 r2 h1 hg hr x1 x2
      unfold BC_endUnit_78
      have hh1 := h1.hc hh
      have fin : ∀ g3 : a2_G, (∀ k, k ≠ fU_size → g3 k = g2 k) → pl (some (.inl none, g3, r2)) (kTC (some (p + 4, x)) (sX c)) kYT := by
        intro g3 hg3
        refine ⟨p + 4, x, rfl, ?_, n, D, K, ids, ?_, hZ, ?_, fun j hj => ?_, h53⟩
        · rw [hg3 fR_at (by decide), hg fR_at (by decide)]
          exact h1.1.2.2.2.1
        · unfold Rc
          rw [hg3 fT_made (by decide), hg fT_made (by decide), hr fT_cells (by decide)]
          exact h1.2
        · exact hh1.no (by show oN c - 1 ≤ oN c; omega) (hr _ (by decide)) (oT_sX h12)
        · exact h12 j (by have : oN (sX c) = oN c - 1 := rfl; omega)
      refine pl_n (Q1 := fun o g' r' => r' = r2 ∧ ∀ k, k ≠ fU_size → g' k = g2 k) (X1 := kYT) ?_ (fun _ _ _ _ => trivial) (fun g' r' e => ?_)
      · cases d with
        | zero => trivial
        | succ d =>
          rw [qU_close]
          unfold BU_close_17
          exact pl_if (fun _ => ⟨rfl, fun _ _ => rfl⟩) (fun _ => ⟨rfl, fun k hk => upd_ne hk⟩)
      · obtain ⟨rfl, e2⟩ := e
        exact fin g' e2
    have h29 : ∀ x1 {g1 : a2_G}, At w f (p + 1) n D K g1 r → pl (BC_endUnit_29 L xs (m + 1) d m x1 g1 r) (kTC (some (p + 4, x)) (sX c)) kYT := by
      intro x1 g1 h1
      unfold BC_endUnit_29
      refine rl_rq At.lf h1 (fun _ g2 h2 _ => ?_)
      refine pl_e (xR_place L xs) ?_
      refine rl_rk At.lf h2 (fun _ g3 h3 _ => ?_)
      refine rl_rk At.lf h3 (fun _ g4 h4 _ => ?_)
      refine pl_e (xU_name (h4.cv hc)) ?_
      refine pl_if (fun _ => hcl h4 (fun _ _ => rfl) (fun _ _ => rfl) _ _) (fun _ => ?_)
      refine pl_n (Q1 := fun o g' r' => (∀ k, k ≠ fR_faultSize → g' k = g4 k) ∧ ∀ k, k / 100 ≠ 1 → r' k = r k) (X1 := kYT) ?_ (fun _ _ _ _ => trivial) (fun g' r' e => hcl h4 e.1 e.2 _ _)
      cases d with
      | zero => trivial
      | succ d =>
        rw [qR_note]
        unfold BR_note_39
        refine pl_if (fun _ => ⟨fun _ _ => rfl, fun _ _ => rfl⟩) (fun _ => pl_if (fun _ => pl_if (fun _ => ⟨fun k hk => upd_ne hk, fun k hk => ?_⟩) (fun _ => trivial)) (fun _ => trivial))
        show a2_ua _ _ _ k = _
        have hne : ∀ j, j / 100 = 1 → k ≠ j := fun j hj e => hk (e ▸ hj)
        simp only [a2_ua, if_neg (hne fR_faultPlaces (by decide)), if_neg (hne fR_faultNumbers (by decide))]
    rw [qC_endUnit]
    refine rl_ad At.lf h hp (fun g1 h1 _ => ?_)
    refine pl_e (xU_kind (h1.cv hc)) ?_
    exact pl_if (fun _ => h29 _ h1) (fun _ => h29 _ h1)
end
