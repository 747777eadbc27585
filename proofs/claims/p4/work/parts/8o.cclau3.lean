/-! The class's clauses: units opened and named, SELECT. -/
theorem Zc.da {K : Nat → List Nat} {D : Nat → TD} {n : Nat} : ∀ {i : Nat} {l : List Nat} {c : List Ce} {t : Nat} {e : Ce}, Zc K D n l c → l[i]? = some t → c[i]? = some e → D t = e.1
  | _, [], _, _, _, _, ht, _ => by simp at ht
  | _, v :: l, [], _, _, h, _, _ => nomatch h
  | 0, v :: l, e0 :: c, t, e, h, ht, he => by
    have ev : v = t := by simpa using ht
    have ee : e0 = e := by simpa using he
    subst ev
    subst ee
    exact h.1
  | i + 1, v :: l, e0 :: c, t, e, h, ht, he => Zc.da (i := i) h.2.2.2 (by simpa using ht) (by simpa using he)
section
variable {L : Nat} {xs : Nat → Int32} {m d : Nat} {w : Ws} {f : Gh} {p : Nat} {c : CU} {x : Xs} {g : a2_G} {r : a2_A} {k : Int32 → a2_G → a2_A → Option fn_Z} {kn : a2_G → a2_A → Option fn_Z} {Q : Option Value → a2_G → a2_A → Prop} {n : Nat} {D : Nat → TD} {K : Nat → List Nat} {ids : List Nat} {ch : List Ce}
theorem rl_hz {u : Nat} {st : Int} {io : Nat} {y : Nat × Nat × Nat} (hs : (g fU_size).toInt = u) (hu : u ≤ 10) (hh : Hc u st io y ids g r) (hk : ∀ a, Pt ids u a → pl (k a g r) Q kYT) : pl (fn_v (ev L xs (m + 1) d nU_handle [.ref cU] g r) k) Q kYT := by
  refine pl_v (Q1 := fun o g' r' => ∃ a, o = some (.int a) ∧ Pt ids u a ∧ g' = g ∧ r' = r) (X1 := kYT) ?_ (fun _ _ _ _ => trivial) (fun v g' r' e => ?_)
  · cases d with
    | zero => trivial
    | succ d =>
      rw [qU_handle]
      unfold BU_handle_22
      refine pl_if (fun e => ?_) (fun e => ?_)
      · rw [c2_le] at e
        have e' : (g fU_size).toInt ≤ 0 := e
        refine ⟨0, rfl, ?_, rfl, rfl⟩
        rw [show u = 0 by omega]
        exact hh.1
      · rw [c2_le] at e
        have e' : ¬ (g fU_size).toInt ≤ 0 := e
        refine pl_if (fun _ => ⟨_, rfl, ?_, rfl, rfl⟩) (fun _ => trivial)
        have e1 : (g fU_size - 1).toNatClampNeg = u - 1 := by
          rw [nc_eq, i32_dec (x := g fU_size) (by omega)]
          omega
        rw [e1]
        have := hh.2.1 (u - 1) (by omega)
        rw [show u - 1 + 1 = u by omega] at this
        exact this
  · obtain ⟨a, e1, e2, rfl, rfl⟩ := e
    cases e1
    exact hk _ e2
theorem rl_id {a b : Int32} (hk : ∀ r', (∀ q, q ≠ fU_kinds → q ≠ fU_names → r' q = r q) → pl (kn g r') Q kYT) : pl (fn_n (ev L xs (m + 1) d nU_identify [.ref cU, .int a, .int b] g r) kn) Q kYT := by
  refine pl_n (Q1 := fun o g' r' => g' = g ∧ ∀ q, q ≠ fU_kinds → q ≠ fU_names → r' q = r q) (X1 := kYT) ?_ (fun _ _ _ _ => trivial) (fun g' r' e => ?_)
  · cases d with
    | zero => trivial
    | succ d =>
      rw [qU_identify]
      unfold BU_identify_31
      refine pl_if (fun _ => ⟨rfl, fun _ _ _ => rfl⟩) (fun _ => pl_if (fun _ => pl_if (fun _ => ⟨rfl, fun q h1 h2 => ?_⟩) (fun _ => trivial)) (fun _ => trivial))
      show a2_ua _ _ _ q = _
      simp only [a2_ua, if_neg h1, if_neg h2]
  · obtain ⟨rfl, e2⟩ := e
    exact hk r' e2
theorem rl_rT {a : Int32} (h : Ru w f p g r) (hk : a ≠ 0 → pl (kn g r) Q kYT) : pl (fn_n (ev L xs (m + 1) d nC_requireThat [.ref cC, .int a] g r) kn) Q kYT := by
  refine pl_n (Q1 := fun o g' r' => g' = g ∧ r' = r ∧ a ≠ 0) (X1 := kYT) ?_ (fun _ _ _ _ => trivial) (fun g' r' e => ?_)
  · cases d with
    | zero => trivial
    | succ d =>
      rw [qC_requireThat]
      unfold BC_requireThat_12
      refine pl_if (fun e => ?_) (fun _ => rl_rf h)
      rw [c2_ne] at e
      exact ⟨rfl, rfl, e⟩
  · obtain ⟨rfl, rfl, e3⟩ := e
    exact hk e3
theorem yC_unitName {a : Int32} (ha53 : (a ≠ 53 ∧ a ≠ 41)) (h : At w f p n D K g r) (hp : p < w.2.2) (hc : Cv c f.2.1 f.2.2) (hN : oN c ≠ 0) (hZ : Zc K D n ids x.1) (hh : Hc (oN c) (oT c).toInt (oI c) x.2 ids f.2.1 f.2.2) (h12 : ∀ i, i + 1 < oN c → oS c i = 12) (h53 : n53 x.1) : pl (ev L xs (m + 1) d nC_unitName [.ref cC, .int a] g r) (kTC (some (p + 3, renC (oN c) x.1 a (w.2.1 (p + 1)), x.2)) (sS (sI c a (w.2.1 (p + 1))) 1)) kYT := by
  cases d with
  | zero => trivial
  | succ d =>
    rw [qC_unitName]
    refine rl_ad At.lf h hp (fun g1 h1 _ => ?_)
    refine rl_rk At.lf h1 (fun _ g2 h2 _ => ?_)
    refine rl_rk At.lf h2 (fun _ g3 h3 _ => ?_)
    refine rl_id (fun r4 hr4 => ?_)
    refine rl_ss (fun r5 hr5 => ?_)
    have hcv := h3.cv hc
    have hh3 := h3.hc hh
    have hu5 : r5 fU_handles = r fU_handles := (hr5 _ (by decide)).trans (hr4 _ (by decide) (by decide))
    have hh5 : Hc (oN c) 0 0 x.2 ids g3 r5 := hh3.no (Nat.le_refl _) hu5 (Or.inl (by decide))
    have hR5 : Rc n D K g3 r5 := by
      unfold Rc
      rw [hr5 fT_cells (by decide), hr4 fT_cells (by decide) (by decide)]
      exact h3.2
    refine rl_hz hcv.1 hcv.2.1 hh5 (fun b hb => ?_)
    obtain ⟨t, ht, rfl⟩ := hb
    have hlt := (Zc.ge hZ ht).2
    have hN5 := hR5.lt
    obtain ⟨e, he⟩ : ∃ e, x.1[oN c]? = some e := by
      have h1 := (List.getElem?_eq_some_iff.mp ht).1
      have h2 := Zc.len hZ
      exact ⟨x.1[oN c]'(by omega), List.getElem?_eq_getElem (by omega)⟩
    have hDt := Zc.da hZ ht he
    have he53 : (e.1.1 ≠ 53 ∧ e.1.1 ≠ 41) := h53 e (List.mem_of_getElem? he)
    refine pl_n (yT_set L xs a hR5 (i := t) (j := 0) hlt (by omega) (on_eq (by omega)) rfl (d' := (a, e.1.2.1, e.1.2.2.1, e.1.2.2.2)) (by rw [hDt]; exact he53) ha53 (by rw [hDt]; rfl)) (fun _ _ _ _ => trivial) (fun g6 r6 e6 => ?_)
    obtain ⟨⟨-, hR6⟩, hf6⟩ := e6
    have hh6 : Hc (oN c) 0 0 x.2 ids g6 r6 := hh5.no (Nat.le_refl _) (hf6.2 _ (by unfold cpTT; decide)) (Or.inl (by decide))
    refine rl_hz (by rw [hf6.1 fU_size (by unfold cpTT; decide)]; exact hcv.1) hcv.2.1 hh6 (fun b hb => ?_)
    obtain ⟨t', ht', rfl⟩ := hb
    rw [ht] at ht'
    cases ht'
    refine pl_n (yT_set L xs _ hR6 (i := t) (j := 1) hlt (by omega) (on_eq (by omega)) rfl (d' := (a, w.2.1 (p + 1), e.1.2.2.1, e.1.2.2.2)) (by rw [fD_eq]; exact ha53) ha53 (by rw [fD_eq]; rfl)) (fun _ _ _ _ => trivial) (fun g7 r7 e7 => ?_)
    obtain ⟨⟨-, hR7⟩, hf7⟩ := e7
    have eI : oN (sI c a (w.2.1 (p + 1))) = oN c := by
      unfold sI
      rw [if_neg hN]
      rfl
    have eN : oN (sS (sI c a (w.2.1 (p + 1))) 1) = oN c := oN_ss.trans eI
    have eT : oT (sS (sI c a (w.2.1 (p + 1))) 1) = 1 := oT_ss (by rw [eI]; exact hN)
    have hren : renC (oN c) x.1 a (w.2.1 (p + 1)) = x.1.set (oN c) ((a, w.2.1 (p + 1), e.1.2.2.1, e.1.2.2.2), e.2) := by
      unfold renC
      rw [he]
    refine ⟨p + 3, _, rfl, ?_, n, _, K, ids, hR7, ?_, ?_, fun j hj => ?_, ?_⟩
    · rw [hf7.1 fR_at (by unfold cpTT; decide), hf6.1 fR_at (by unfold cpTT; decide)]
      exact h3.1.2.2.2.1
    · show Zc K _ n ids (renC (oN c) x.1 a (w.2.1 (p + 1)))
      rw [hren]
      refine Zc.loc (Zc.st (d' := (a, w.2.1 (p + 1), e.1.2.2.1, e.1.2.2.2)) hZ ht he) (fun y _ _ => ⟨rfl, ?_⟩)
      by_cases ey : y = t
      · rw [ey, fD_eq, fD_eq]
      · rw [fD_ne ey, fD_ne ey, fD_ne ey]
    · rw [eT, eN]
      exact hh6.no (Nat.le_refl _) (hf7.2 _ (by unfold cpTT; decide)) (Or.inl (by decide))
    · rw [eN] at hj
      rw [oS_ss (c := sI c a (w.2.1 (p + 1))) (by rw [eI]; exact hj)]
      have : oS (sI c a (w.2.1 (p + 1))) j = oS c j := by
        unfold sI
        rw [if_neg hN]
        rfl
      rw [this]
      exact h12 j hj
    · show n53 (renC (oN c) x.1 a (w.2.1 (p + 1)))
      rw [hren]
      intro y hy
      rcases List.mem_or_eq_of_mem_set hy with hy | rfl
      · exact h53 y hy
      · exact ha53
theorem yC_identification (h : At w f p n D K g r) (hp : p < w.2.2) (hc : Cv c f.2.1 f.2.2) (hZ : Zc K D n ids x.1) (hh : Hc (oN c) (oT c).toInt (oI c) x.2 ids f.2.1 f.2.2) (h12 : ∀ i, i + 1 < oN c → oS c i = 12) (h53 : n53 x.1) : pl (ev L xs (m + 1) d nC_identification [.ref cC] g r) (kTC (some (p + 3, attC (oN c) x.1 ((0, 0, Int32.ofNat p, -1), []), x.2)) (sO (sS c 12))) kYT := by
  cases d with
  | zero => trivial
  | succ d =>
    have hcv := h.cv hc
    have h55 : oN c < 10 → pl (BC_identification_55 L xs (m + 1) d m g r) (kTC (some (p + 3, attC (oN c) x.1 ((0, 0, Int32.ofNat p, -1), []), x.2)) (sO (sS c 12))) kYT := by
      intro hlt
      unfold BC_identification_55
      refine rl_hd hcv (h.hc hh) (fun a ha => ?_)
      refine rl_hg2 hZ ha h hp (fun n' D' K' g1 r1 h1 h2 => ?_)
      refine rl_ss (fun r2 hr2 => ?_)
      have hh1 := h1.hc hh
      have hcv1 := h1.cv hc
      refine pl_n (Q1 := fun o g' r' => (∀ k, k ≠ fU_size → g' k = g1 k) ∧ (r' fU_handles).2 = upd (r1 fU_handles).2 (oN c) (Int32.ofNat n) ∧ ∀ q, q / 100 ≤ 5 → r' q = r1 q) (X1 := kYT) ?_ (fun _ _ _ _ => trivial) (fun g3 r3 e => ?_)
      · cases d with
        | zero => trivial
        | succ d =>
          rw [qU_open]
          unfold BU_open_59
          have e1 : (g1 fU_size).toNatClampNeg = oN c := by rw [nc_eq, hcv1.1]; rfl
          rw [e1]
          refine pl_neg (by rw [c2_ge, hcv1.1]; show ¬ (10 : Int) ≤ (oN c : Int); omega) ?_
          refine pl_if (fun _ => ?_) (fun _ => trivial)
          refine pl_if (fun _ => ?_) (fun _ => trivial)
          refine pl_if (fun _ => ?_) (fun _ => trivial)
          refine pl_if (fun _ => ?_) (fun _ => trivial)
          refine ⟨fun k hk => upd_ne hk, ?_, fun q hq => ?_⟩
          · show upd (r2 fU_handles).2 (oN c) (Int32.ofNat n) = _
            rw [hr2 _ (by decide)]
          · have hne : ∀ j, 8 ≤ j / 100 → q ≠ j := fun j hj e => by rw [e] at hq; omega
            show a2_ua _ _ _ q = _
            simp only [a2_ua, if_neg (hne fU_handles (by decide)), if_neg (hne fU_names (by decide)), if_neg (hne fU_kinds (by decide)), if_neg (hne fU_states (by decide))]
            exact hr2 q (hne _ (by decide))
      · obtain ⟨e1, e2, e3⟩ := e
        have eN : oN (sO (sS c 12)) = oN c + 1 := congrArg (· + 1) oN_ss
        have eT : oT (sO (sS c 12)) = 0 := by
          unfold oT
          rw [eN, if_neg (by omega)]
          show upd (oS (sS c 12)) (oN (sS c 12)) 0 (oN c + 1 - 1) = 0
          rw [oN_ss]
          exact upd_eq
        refine TS.mk h1 (fun k hk => e1 k (fun e => by rw [e] at hk; exact absurd hk (by decide))) (fun k hk => e3 k hk) h2 ?_ (fun j hj => ?_) (h53.att (by show ((0 : Int32) ≠ 53 ∧ (0 : Int32) ≠ 41); decide))
        · rw [eT, eN]
          refine ⟨hh1.1.att (by omega) ha.lt, fun j hj => ?_, fun e => absurd e (by decide), fun e => absurd e (by decide), fun e => absurd e (by decide), fun e => absurd e (by decide), fun e => absurd e (by decide)⟩
          rw [e2]
          by_cases ej : j = oN c
          · rw [ej, upd_eq]
            exact Pt.new ha.lt
          · rw [upd_ne ej]
            exact (hh1.2.1 j (by omega)).att (by omega) ha.lt
        · rw [eN] at hj
          show upd (oS (sS c 12)) (oN (sS c 12)) 0 j = 12
          rw [oN_ss, upd_ne (by omega)]
          by_cases ej : j + 1 = oN c
          · have := oT_ss (c := c) (a := 12) (by omega)
            unfold oT at this
            rw [oN_ss, if_neg (by omega)] at this
            rw [show j = oN c - 1 by omega]
            exact this
          · rw [oS_ss (by omega)]
            exact h12 j (by omega)
    have h34 : ∀ x1, pl (BC_identification_34 L xs (m + 1) d m x1 g r) (kTC (some (p + 3, attC (oN c) x.1 ((0, 0, Int32.ofNat p, -1), []), x.2)) (sO (sS c 12))) kYT := by
      intro x1
      unfold BC_identification_34
      refine rl_rT h.ru (fun _ => ?_)
      refine pl_u (xU_isFull hcv) (fun _ => pl_neg (by decide) (rl_rf h.ru)) (fun e => pl_pos (by decide) ?_)
      exact h55 (by have := of_decide_eq_false e; omega)
    rw [qC_identification]
    unfold BC_identification_29 BC_identification_33
    refine pl_e xU_openCount ?_
    refine pl_if (fun _ => h34 _) (fun _ => ?_)
    refine pl_e (xU_kind hcv) ?_
    refine pl_if (fun _ => h34 _) (fun _ => ?_)
    refine pl_e (xC_mayEndOrContain hcv) ?_
    exact pl_if (fun _ => h34 _) (fun _ => h34 _)
theorem rl_og {v : Nat} {dd : TD} {F : Tf} {P : Nat → Prop} (h : Vt P w f n D K p v (nd dd F) g r) (hp : p < w.2.2) (hk : ∀ g' r', Vt P w f n D K (sk (ww w (p + 1) 67) (p + 1) + 1) v (nd dd (F ++ l1 (5, w.2.1 (sk (ww w (p + 1) 67) (p + 1)) - 8, Int32.ofNat p, -1))) g' r' → pl (kn g' r') Q kYT) : pl (fn_n (ev L xs (m + 1) d nC_organization [.ref cC, .int (Int32.ofNat v)] g r) kn) Q kYT := by
  refine pl_n (Q1 := fun o g' r' => Vt P w f n D K (sk (ww w (p + 1) 67) (p + 1) + 1) v (nd dd (F ++ l1 (5, w.2.1 (sk (ww w (p + 1) 67) (p + 1)) - 8, Int32.ofNat p, -1))) g' r') (X1 := kYT) ?_ (fun _ _ _ _ => trivial) (fun g' r' e => hk g' r' e)
  cases d with
  | zero => trivial
  | succ d =>
    rw [qC_organization]
    unfold BC_organization_61
    refine pl_e (xR_place L xs) ?_
    rw [(Vt.lf.1 _ _ _ h).1.pla]
    refine rl_ad Vt.lf h hp (fun g1 h1 _ => ?_)
    refine rl_mb Vt.lf h1 (fun _ g2 h2 _ => ?_)
    have hr2 := Vt.lf.1 _ _ _ h2
    generalize sk (ww w (p + 1) 67) (p + 1) = q at *
    refine pl_e (xR_value L xs hr2.1) ?_
    have hno : ∀ y, pl (BC_organization_62 L xs (m + 1) d m (Int32.ofNat v) (Int32.ofNat p) y 0 g2 r) (fun o g' r' => Vt P w f n D K (q + 1) v (nd dd (F ++ l1 (5, w.2.1 q - 8, Int32.ofNat p, -1))) g' r') kYT := by
      intro y
      unfold BC_organization_62
      exact rl_rT hr2 (fun e => absurd rfl e)
    refine pl_u (xR_isKind L xs 0 hr2.1) (fun e => pl_neg (by decide) ?_) (fun _ => pl_pos (by decide) (hno _))
    have hq := (wk_iff.mp e).1
    rw [if_pos hq]
    refine pl_if (fun _ => hno _) (fun _ => pl_if (fun _ => hno _) (fun _ => ?_))
    unfold BC_organization_62
    refine rl_rT hr2 (fun _ => ?_)
    refine rl_ad Vt.lf h2 hq (fun g3 h3 _ => ?_)
    obtain ⟨n1, D1, K1, hA, hq1⟩ := h3
    refine rl_mk (-1) (Or.inr rfl) hA (fun g4 r4 h4 _ => ?_)
    exact rl_hg hq1 h4 (fun g5 r5 h5 _ => h5)
theorem rl_ky {v : Nat} {dd : TD} {F : Tf} {P : Nat → Prop} (h : Vt P w f n D K p v (nd dd F) g r) (hp : p < w.2.2) (hk : ∀ g' r', Vt P w f n D K (sk (ww w (p + 1) 67) (p + 1) + 1) v (nd dd (F ++ l1 (6, w.2.1 (sk (ww w (p + 1) 67) (p + 1)), Int32.ofNat p, -1))) g' r' → pl (kn g' r') Q kYT) : pl (fn_n (ev L xs (m + 1) d nC_key [.ref cC, .int (Int32.ofNat v)] g r) kn) Q kYT := by
  refine pl_n (Q1 := fun o g' r' => Vt P w f n D K (sk (ww w (p + 1) 67) (p + 1) + 1) v (nd dd (F ++ l1 (6, w.2.1 (sk (ww w (p + 1) 67) (p + 1)), Int32.ofNat p, -1))) g' r') (X1 := kYT) ?_ (fun _ _ _ _ => trivial) (fun g' r' e => hk g' r' e)
  cases d with
  | zero => trivial
  | succ d =>
    rw [qC_key]
    refine pl_e (xR_place L xs) ?_
    rw [(Vt.lf.1 _ _ _ h).1.pla]
    refine rl_ad Vt.lf h hp (fun g1 h1 _ => ?_)
    refine rl_mb Vt.lf h1 (fun _ g2 h2 _ => ?_)
    refine rl_rk Vt.lf h2 (fun _ g3 h3 _ => ?_)
    obtain ⟨n1, D1, K1, hA, hq1⟩ := h3
    refine rl_mk (-1) (Or.inr rfl) hA (fun g4 r4 h4 _ => ?_)
    exact rl_hg hq1 h4 (fun g5 r5 h5 _ => h5)
theorem yC_select (h : At w f p n D K g r) (hp : p < w.2.2) (hc : Cv c f.2.1 f.2.2) (hs : (oT c).toInt = 2) (hZ : Zc K D n ids x.1) (hh : Hc (oN c) (oT c).toInt (oI c) x.2 ids f.2.1 f.2.2) (h12 : ∀ i, i + 1 < oN c → oS c i = 12) (h53 : n53 x.1) : pl (ev L xs (m + 1) d nC_select [.ref cC] g r) (kTC (some ((slc w p).1 + 1, attC (oN c + 1) x.1 ((4, w.2.1 (p + 1), Int32.ofNat p, -1), (slc w p).2), x.2)) c) kYT := by
  cases d with
  | zero => trivial
  | succ d =>
    have h124 : ∀ {q : Nat} {F : Tf} {g : a2_G} {r : a2_A}, Vt NP w f n D K q n (nd (4, w.2.1 (p + 1), Int32.ofNat p, -1) F) g r → pl (BC_select_124 L xs (m + 1) d m (Int32.ofNat n) g r) (kTC (some (q + 1, attC (oN c + 1) x.1 ((4, w.2.1 (p + 1), Int32.ofNat p, -1), F), x.2)) c) kYT := by
      intro q F g r h
      unfold BC_select_124
      refine rl_rk Vt.lf h (fun _ g3 h3 _ => ?_)
      have ha : Pt ids (oN c + 1) (g3 fC_openDivision) := by
        obtain ⟨n5, D5, K5, hA5, -⟩ := h3
        exact (hA5.hc hh).2.2.1 (by omega) (by omega)
      refine rl_at hZ ha h3 (fun n' D' K' g5 r5 h5 h6 _ => ?_)
      have hh1 := h5.hc hh
      refine TS.mk h5 (fun _ _ => rfl) (fun _ _ => rfl) h6 ?_ h12 (h53.att (by show ((4 : Int32) ≠ 53 ∧ (4 : Int32) ≠ 41); decide))
      rw [hs] at hh1 ⊢
      exact ⟨hh1.1.att (by omega) ha.lt, fun j hj => (hh1.2.1 j hj).att (by omega) ha.lt, fun a b => (hh1.2.2.1 a b).att (Nat.le_refl _) ha.lt, fun e => absurd e (by decide), fun e => absurd e (by decide), fun e => absurd e (by decide), fun e => absurd e (by decide)⟩
    have h106 : ∀ {q : Nat} {F : Tf} {g : a2_G} {r : a2_A}, Vt NP w f n D K q n (nd (4, w.2.1 (p + 1), Int32.ofNat p, -1) F) g r → pl (BC_select_106 L xs (m + 1) d m (Int32.ofNat n) g r) (kTC (some ((sl2 w q F).1 + 1, attC (oN c + 1) x.1 ((4, w.2.1 (p + 1), Int32.ofNat p, -1), (sl2 w q F).2), x.2)) c) kYT := by
      intro q F g r h
      unfold BC_select_106 sl2
      refine pl_u (xR_isReserved L xs 11 0 (j := 0) rfl (by decide) (Vt.lf.1 _ _ _ h).1) (fun e => pl_neg (by decide) ?_) (fun e => pl_pos (by decide) ?_)
      · rw [show ww w q 11 = true from e, if_pos rfl]
        exact rl_ky h (ww_iff.mp e).1 (fun g1 r1 h1 => h124 h1)
      · rw [show ww w q 11 = false from e, if_neg (by decide)]
        exact h124 h
    rw [qC_select]
    refine pl_e (xR_place L xs) ?_
    rw [h.1.pla]
    refine rl_mk (-1) (Or.inr rfl) h (fun g1 r1 h1 _ => ?_)
    refine rl_ad Vt.lf h1 hp (fun g2 h2 _ => ?_)
    refine rl_rk Vt.lf h2 (fun _ g3 h3 _ => ?_)
    refine rl_sv h3 (by decide) (fun g4 r4 h4 _ => ?_)
    refine rl_rq Vt.lf h4 (fun _ g5 h5 _ => ?_)
    refine rl_mb Vt.lf h5 (fun _ g6 h6 _ => ?_)
    have hr6 := Vt.lf.1 _ _ _ h6
    have h77 : ∀ x2, pl (BC_select_77 L xs (m + 1) d m (Int32.ofNat n) x2 g6 r4) (kTC (some ((slc w p).1 + 1, attC (oN c + 1) x.1 ((4, w.2.1 (p + 1), Int32.ofNat p, -1), (slc w p).2), x.2)) c) kYT := by
      intro x2
      unfold BC_select_77 slc sl1
      refine rl_rT hr6 (fun _ => ?_)
      refine rl_oi h6 (fun _ g7 r7 h7 _ => ?_)
      refine pl_u (xR_isReserved L xs 7 0 (j := 0) rfl (by decide) (Vt.lf.1 _ _ _ h7).1) (fun e => pl_neg (by decide) ?_) (fun e => pl_pos (by decide) ?_)
      · rw [show ww w (sk (ww w (p + 3) 48) (p + 3) + 1) 7 = true from e, if_pos rfl]
        exact rl_og h7 (ww_iff.mp e).1 (fun g1 r1 h1 => h106 h1)
      · rw [show ww w (sk (ww w (p + 3) 48) (p + 3) + 1) 7 = false from e, if_neg (by decide)]
        exact h106 h7
    refine pl_e (xR_isKind L xs 2 hr6.1) ?_
    exact pl_if (fun _ => h77 _) (fun _ => h77 _)
end
