/-! The class's clauses: headings, units, divisions. -/
section
variable {L : Nat} {xs : Nat → Int32} {m d : Nat} {w : Ws} {f : Gh} {p : Nat} {c : CU} {x : Xs} {g : a2_G} {r : a2_A} {k : Int32 → a2_G → a2_A → Option fn_Z} {kn : a2_G → a2_A → Option fn_Z} {Q : Option Value → a2_G → a2_A → Prop} {n : Nat} {D : Nat → TD} {K : Nat → List Nat} {ids : List Nat} {ch : List Ce}
theorem At.hc {u : Nat} {st : Int} {io : Nat} {y : Nat × Nat × Nat} (h : At w f p n D K g r) (hh : Hc u st io y ids f.2.1 f.2.2) : Hc u st io y ids g r := by
  have a := h.1.2.2.2.2.2.2.2
  exact hh.fr (fun k hk => a.1 k (by unfold cp15; omega)) (fun k hk => a.2 k (by unfold cp15; omega))
theorem At.cv (h : At w f p n D K g r) (hc : Cv c f.2.1 f.2.2) : Cv c g r := hc.fr h.1.2.2.2.2.2.2.2
theorem TS.mk {q : Nat} {x' : Xs} {c' : CU} {g2 : a2_G} {r2 : a2_A} {o : Option Value} (h : At w f q n D K g r) (hg : ∀ k, k / 100 ≤ 5 → g2 k = g k) (hr : ∀ k, k / 100 ≤ 5 → r2 k = r k) (hZ : Zc K D n ids x'.1) (hh : Hc (oN c') (oT c').toInt (oI c') x'.2 ids g2 r2) (h12 : ∀ i, i + 1 < oN c' → oS c' i = 12) (h53 : n53 x'.1) : pl (some (.inl o, g2, r2)) (kTC (some (q, x')) c') kYT := by
  refine ⟨q, x', rfl, ?_, n, D, K, ids, ?_, hZ, hh, h12, h53⟩
  · rw [hg fR_at (by decide)]
    exact h.1.2.2.2.1
  · unfold Rc
    rw [hg fT_made (by decide), hr fT_cells (by decide)]
    exact h.2
theorem rl_hg2 {i : Nat} {a b a1 : Int32} (hZ : Zc K D n ids ch) (ha : Pt ids i a) (h : At w f p n D K g r) (hp : p < w.2.2) (hk : ∀ n' D' K' g' r', At w f (p + 3) n' D' K' g' r' → Zc K' D' n' (attI i ids n) (attC i ch ((a1, 0, Int32.ofNat p, -1), [])) → pl (k (Int32.ofNat n) g' r') Q kYT) : pl (fn_v (ev L xs (m + 1) d nC_heading [.ref cC, .int a1, .int b, .int a] g r) k) Q kYT := by
  refine pl_v (Q1 := fun o g' r' => o = some (.int (Int32.ofNat n)) ∧ ∃ n' D' K', At w f (p + 3) n' D' K' g' r' ∧ Zc K' D' n' (attI i ids n) (attC i ch ((a1, 0, Int32.ofNat p, -1), []))) (X1 := kYT) ?_ (fun _ _ _ _ => trivial) (fun v g' r' e => ?_)
  · cases d with
    | zero => trivial
    | succ d =>
      rw [qC_heading]
      refine pl_e (xR_place L xs) ?_
      rw [h.1.pla]
      refine rl_mk (-1) (Or.inr rfl) h (fun g1 r1 h1 _ => ?_)
      refine rl_ad Vt.lf h1 hp (fun g2 h2 _ => ?_)
      refine rl_rq Vt.lf h2 (fun _ g3 h3 _ => ?_)
      refine rl_rk Vt.lf h3 (fun _ g4 h4 _ => ?_)
      exact rl_at hZ ha h4 (fun n' D' K' g' r' h5 h6 _ => ⟨rfl, n', D', K', h5, h6⟩)
  · obtain ⟨e1, n', D', K', h1, h2⟩ := e
    cases e1
    exact hk n' D' K' g' r' h1 h2
/-- a division opened: ENVIRONMENT, DATA -/
theorem Hc.dv {st0 : Int} {io io' : Nat} {y y' : Nat × Nat × Nat} {g' : a2_G} {r' : a2_A} {u : Nat} (hh : Hc u st0 io y ids g r) (hu : u < ids.length) (hr : r' fU_handles = r fU_handles) (hd : g' fC_openDivision = Int32.ofNat n) {st : Int} (hs : st = 2 ∨ st = 3) : Hc u st io' y' (attI u ids n) g' r' := by
  refine ⟨hh.1.att (by omega) hu, fun i hi => ?_, fun _ _ => ?_, fun h1 _ => absurd h1 (by omega), fun h1 _ => absurd h1 (by omega), fun h1 => absurd h1 (by omega), fun h1 _ => absurd h1 (by omega)⟩
  · rw [hr]
    exact (hh.2.1 i hi).att (by omega) hu
  · rw [hd]
    exact Pt.new hu
theorem yC_div {i : Int32} {kd : Int32} (hkd : (kd ≠ 53 ∧ kd ≠ 41)) (hi : i.toInt = 2 ∨ i.toInt = 3) (h : At w f p n D K g r) (hp : p < w.2.2) (hc : Cv c f.2.1 f.2.2) (hN : oN c ≠ 0) (hZ : Zc K D n ids x.1) (hh : Hc (oN c) (oT c).toInt (oI c) x.2 ids f.2.1 f.2.2) (h12 : ∀ i, i + 1 < oN c → oS c i = 12) (h53 : n53 x.1) : pl (fn_v (ev L xs (m + 1) d nU_handle [.ref cU] g r) fun v23 g21 r22 => (fn_v (ev L xs (m + 1) d nC_heading [.ref cC, .int kd, .int 1, .int v23] g21 r22) fun v26 g24 r25 => (fn_n (ev L xs (m + 1) d nU_setState [.ref cU, .int i] (upd g24 fC_openDivision v26) r25) fun g27 r28 => some (.inl none, g27, r28)))) (kTC (some (p + 3, attC (oN c) x.1 ((kd, 0, Int32.ofNat p, -1), []), x.2)) (sS c i)) kYT := by
  refine rl_hd (h.cv hc) (h.hc hh) (fun a ha => ?_)
  refine rl_hg2 hZ ha h hp (fun n' D' K' g1 r1 h1 h2 => ?_)
  refine rl_ss (fun r2 hr2 => ?_)
  refine TS.mk h1 (fun k hk => upd_ne (fun e => by rw [e] at hk; exact absurd hk (by decide))) (fun k hk => hr2 k (fun e => by rw [e] at hk; exact absurd hk (by decide))) h2 ?_ (fun j hj => ?_) (h53.att hkd)
  · rw [oT_ss hN, oN_ss]
    exact (h1.hc hh).dv ha.lt (hr2 _ (by decide)) upd_eq hi
  · rw [oN_ss] at hj
    rw [oS_ss hj]
    exact h12 j hj
theorem yC_dataSection {i kd : Int32} (hkd : (kd ≠ 53 ∧ kd ≠ 41)) (hi : i.toInt = 4 ∨ i.toInt = 6 ∨ i.toInt = 7) (h : At w f p n D K g r) (hp : p < w.2.2) (hN : oN c ≠ 0) (hs : 2 ≤ (oT c).toInt ∧ (oT c).toInt ≤ 11) (hZ : Zc K D n ids x.1) (hh : Hc (oN c) (oT c).toInt (oI c) x.2 ids f.2.1 f.2.2) (h12 : ∀ i, i + 1 < oN c → oS c i = 12) (h53 : n53 x.1) : pl (ev L xs (m + 1) d nC_dataSection [.ref cC, .int kd, .int i] g r) (kTC (some (p + 3, attC (oN c + 1) x.1 ((kd, 0, Int32.ofNat p, -1), []), oN c + 2, x.2.2)) (sZ (sS (sC c true) i))) kYT := by
  cases d with
  | zero => trivial
  | succ d =>
    rw [qC_dataSection]
    have ha := (h.hc hh).2.2.1 hs.1 hs.2
    refine rl_hg2 hZ ha h hp (fun n' D' K' g1 r1 h1 h2 => ?_)
    refine rl_ss (fun r2 hr2 => ?_)
    have hh1 := h1.hc hh
    refine pl_n (Q1 := fun o g' r' => g' = upd (upd (upd g1 fC_section (Int32.ofNat n)) fI_holder (Int32.ofNat n)) fI_openSize 0 ∧ r' = r2) (X1 := kYT) ?_ (fun _ _ _ _ => trivial) (fun g3 r3 e => ?_)
    · cases d with
      | zero => trivial
      | succ d =>
        rw [qI_startIn]
        exact ⟨rfl, rfl⟩
    · obtain ⟨rfl, rfl⟩ := e
      have hN' : oN (sC c true) = oN c := rfl
      have eT : oT (sZ (sS (sC c true) i)) = i := (show oT (sZ (sS (sC c true) i)) = oT (sS (sC c true) i) from rfl).trans (oT_ss (c := sC c true) hN)
      have eN : oN (sZ (sS (sC c true) i)) = oN c := (show oN (sZ (sS (sC c true) i)) = oN (sS (sC c true) i) from rfl).trans oN_ss
      refine TS.mk h1 (fun k hk => ?_) (fun k hk => hr2 k (fun e => by rw [e] at hk; exact absurd hk (by decide))) h2 ?_ (fun j hj => ?_) (h53.att hkd)
      · rw [upd_ne (fun e => by rw [e] at hk; exact absurd hk (by decide)), upd_ne (fun e => by rw [e] at hk; exact absurd hk (by decide)), upd_ne (fun e => by rw [e] at hk; exact absurd hk (by decide))]
      · rw [eT, eN]
        refine ⟨hh1.1.att (by omega) ha.lt, fun j hj => ?_, fun _ _ => ?_, fun _ _ => Pt.new ha.lt, fun _ _ => ⟨Nat.le_refl _, fun e => absurd e (by omega), Pt.new ha.lt, fun j hj => absurd hj (Nat.not_lt_zero _)⟩, fun e => absurd e (by omega), fun h8 _ => absurd h8 (by omega)⟩
        · rw [hr2 _ (by decide)]
          exact (hh1.2.1 j hj).att (by omega) ha.lt
        · exact (hh1.2.2.1 hs.1 hs.2).att (Nat.le_refl _) ha.lt
      · rw [eN] at hj
        refine (show oS (sZ (sS (sC c true) i)) j = oS (sS (sC c true) i) j from rfl).trans ?_
        rw [oS_ss (c := sC c true) hj]
        exact h12 j hj
theorem yC_fileDescription (h : At w f p n D K g r) (hp : p < w.2.2) (hN : oN c ≠ 0) (hs : 4 ≤ (oT c).toInt ∧ (oT c).toInt ≤ 5) (hZ : Zc K D n ids x.1) (hh : Hc (oN c) (oT c).toInt (oI c) x.2 ids f.2.1 f.2.2) (h12 : ∀ i, i + 1 < oN c → oS c i = 12) (h53 : n53 x.1) : pl (ev L xs (m + 1) d nC_fileDescription [.ref cC] g r) (kTC (some (p + 3, attC (oN c + 2) x.1 ((11, w.2.1 (p + 1), Int32.ofNat p, -1), []), oN c + 3, x.2.2)) (sZ (sS c 5))) kYT := by
  cases d with
  | zero => trivial
  | succ d =>
    rw [qC_fileDescription]
    refine pl_e (xR_place L xs) ?_
    rw [h.1.pla]
    refine rl_ad At.lf h hp (fun g1 h1 _ => ?_)
    refine rl_rk At.lf h1 (fun _ g2 h2 _ => ?_)
    refine rl_mk (-1) (Or.inr rfl) h2 (fun g3 r3 h3 _ => ?_)
    refine rl_rk Vt.lf h3 (fun _ g4 h4 _ => ?_)
    have ha : Pt ids (oN c + 2) (g4 fC_section) := by
      obtain ⟨n5, D5, K5, hA5, -⟩ := h4
      exact (hA5.hc hh).2.2.2.1 hs.1 hs.2
    refine rl_at hZ ha h4 (fun n' D' K' g5 r5 h5 h6 _ => ?_)
    refine rl_ss (fun r6 hr6 => ?_)
    have hh1 := h5.hc hh
    refine pl_n (Q1 := fun o g' r' => g' = upd (upd g5 fI_holder (Int32.ofNat n)) fI_openSize 0 ∧ r' = r6) (X1 := kYT) ?_ (fun _ _ _ _ => trivial) (fun g3 r3 e => ?_)
    · cases d with
      | zero => trivial
      | succ d =>
        rw [qI_startIn]
        exact ⟨rfl, rfl⟩
    · obtain ⟨rfl, rfl⟩ := e
      have eT : oT (sZ (sS c 5)) = 5 := (show oT (sZ (sS c 5)) = oT (sS c 5) from rfl).trans (oT_ss hN)
      have eN : oN (sZ (sS c 5)) = oN c := (show oN (sZ (sS c 5)) = oN (sS c 5) from rfl).trans oN_ss
      refine TS.mk h5 (fun k hk => ?_) (fun k hk => hr6 k (fun e => by rw [e] at hk; exact absurd hk (by decide))) h6 ?_ (fun j hj => ?_) (h53.att (by show ((11 : Int32) ≠ 53 ∧ (11 : Int32) ≠ 41); decide))
      · rw [upd_ne (fun e => by rw [e] at hk; exact absurd hk (by decide)), upd_ne (fun e => by rw [e] at hk; exact absurd hk (by decide))]
      · rw [eT, eN]
        refine ⟨hh1.1.att (by omega) ha.lt, fun j hj => ?_, fun _ _ => ?_, fun _ _ => ?_, fun _ _ => ⟨by show oN c + 2 ≤ oN c + 3; omega, fun _ => Nat.le_refl _, Pt.new ha.lt, fun j hj => absurd hj (Nat.not_lt_zero _)⟩, fun e => absurd e (by decide), fun h8 _ => absurd h8 (by decide)⟩
        · rw [hr6 _ (by decide)]
          exact (hh1.2.1 j hj).att (by omega) ha.lt
        · exact (hh1.2.2.1 (by omega) (by omega)).att (by omega) ha.lt
        · exact (hh1.2.2.2.1 hs.1 hs.2).att (Nat.le_refl _) ha.lt
      · rw [eN] at hj
        refine (show oS (sZ (sS c 5)) j = oS (sS c 5) j from rfl).trans ?_
        rw [oS_ss hj]
        exact h12 j hj
end
