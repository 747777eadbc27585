/-! The model's parse, with its tree. -/
/-- registers of the model that clauses don't write -/
def kqW (k : Nat) : Bool := decide (k = fM_told) || decide (k = fM_deepest)
def kqJ (j : Nat) : Bool := decide (j = 0) || decide (158 ≤ j ∧ j ≤ 232) && !decide (j = 159 ∨ j = 225)
theorem kq_ck : (List.range 233).all (fun j => !kqJ j || match nm_ms j with
    | some M => kpM (sh_tb 0 (fun _ => 0) j) kqW kqJ M
    | none => true) = true := by decide +kernel
theorem kq_J (L : Nat) (xs : Nat → Int32) (j : Nat) (M : am_M) (hj : kqJ j = true) (hM : nm_ms j = some M) : kpM (sh_tb L xs j) kqW kqJ M = true := by
  have hr : j < 233 := by
    unfold kqJ at hj
    rw [Bool.or_eq_true, Bool.and_eq_true, decide_eq_true_eq, decide_eq_true_eq] at hj
    omega
  have h := List.all_eq_true.mp kq_ck j (List.mem_range.mpr hr)
  rw [hj, hM] at h
  have h' : kpM (sh_tb 0 (fun _ => 0) j) kqW kqJ M = true := h
  refine List.all_eq_true.mpr (fun e he => ?_)
  obtain ⟨q1, q2⟩ := sh_tx_fl L xs (sh_tcl.getD j 0)
  have := List.all_eq_true.mp h' e he
  exact (kp_I q1 q2 e.2.1).trans this
def kqS (g g' : a2_G) : Prop := g' fM_told = g fM_told ∧ g' fM_deepest = g fM_deepest
theorem pl_kq {L : Nat} {xs : Nat → Int32} {m d j : Nat} {as : List Value} {g : a2_G} {r : a2_A} (hj : kqJ j = true) : pl (ev L xs m d j as g r) (fun _ g' _ => kqS g g') (fun _ _ _ => True) := by
  cases hz : ev L xs m d j as g r with
  | none => trivial
  | some z =>
    have hf := kp_ev (kq_J L xs) d j as g r z hj hz
    have h1 : kqS g z.2.1 := ⟨hf _ (by decide), hf _ (by decide)⟩
    obtain ⟨o, g', r'⟩ := z
    cases o with
    | inl o => exact h1
    | inr x => trivial
theorem Mz.nu {n : Nat} {D : Nat → TD} {K : Nat → List Nat} {g g' : a2_G} {r r' : a2_A} (h : Mz n D K r) (hF : Fm [fM_told, fM_deepest] [fM_number, fM_order] g r g' r') : Mz n D K r' := by
  unfold Mz Sz at h ⊢
  rw [hF.2 fM_kind (by decide), hF.2 fM_value (by decide), hF.2 fM_place (by decide), hF.2 fM_extra (by decide), hF.2 fM_first (by decide), hF.2 fM_last (by decide), hF.2 fM_above (by decide), hF.2 fM_next (by decide)]
  exact h
/-- the model's tree at the end, numbered -/
def UU (D : Nat → TD) (K : Nat → List Nat) (F : Fo) (un : Nat) (r : a2_A) : Prop := (uS D ((0, 0) :: F)).length = un ∧ ∀ k x, (uS D ((0, 0) :: F))[k]? = some x → UA D K r k x
def TMF (y : CU × Xs × Nat) (g : a2_G) (r : a2_A) : Prop := (g fM_units).toInt = (y.2.2 : Int) ∧ ∃ n D K F, NX n D K r F ∧ Dn K 0 ((0, 0) :: F) ∧ tr D ((0, 0) :: F) = clp (rz y.2.1.1) ∧ NM F g r ∧ UU D K F y.2.2 r
/-- how the model's parse ends -/
def kPy (w : Ws) (c : CU) (x : Xs) (p un : Nat) (n : Int32) : Option Value → a2_G → a2_A → Prop := fun o g r => ((g fM_faults ≠ 0 ∧ g fM_thrown = 1) ∧ o = some (.int 0) ∧ g fM_told = 0 ∧ g fM_deepest = 0 ∧ g fM_units = 0) ∨ ((g fM_faults = 0 ∧ g fM_thrown = 0) ∧ n = 0 ∧ o = some (.int (g fM_units)) ∧ ∃ y, Rx w false c x p un y ∧ oE y.1 = false ∧ TMF y g r)
def MY (w : Ws) (n : Int32) (p : Nat) (c : CU) (x : Xs) (un : Nat) (g : a2_G) (r : a2_A) : Prop := MSx w n p c g r ∧ g fM_told = 0 ∧ g fM_deepest = 0 ∧ (n = 0 → TM c x un g r)
theorem Zc.root {K : Nat → List Nat} {D : Nat → TD} {n : Nat} {ids : List Nat} {ch : List Ce} (hZ : Zc K D n ids ch) (h0 : Pt ids 0 0) (hn : n < 2147483648) : Tr K D 0 n 0 (clp ch) := by
  cases ids with
  | nil =>
    obtain ⟨t, e, -⟩ := h0
    cases e
  | cons v l =>
    obtain ⟨t, e, e2⟩ := h0
    cases e
    have hv := (Zc.ge (i := 0) hZ rfl).2
    have : v = 0 := by
      have := congrArg Int32.toInt e2
      rw [on_eq (by omega)] at this
      have h00 : (0 : Int32).toInt = 0 := rfl
      omega
    subst this
    exact hZ.tr
section
variable {L : Nat} {xs : Nat → Int32} {m d k : Nat} {w : Ws}
theorem py_225 (x2 : Int32) {c : CU} {x : Xs} {p un : Nat} {n : Int32} {g : a2_G} {r : a2_A} (ht : g fM_told = 0) (hd : g fM_deepest = 0) (hf : 0 ≤ (g fM_faults).toInt) (hT : g fM_faults = 0 → n = 0 ∧ ¬ p < w.2.2 ∧ oE c = false ∧ TM c x un g r) : pl (BM_parse_225 L xs (m + 1) d k 0 x2 g r) (kPy w c x p un n) kN := by
  have h00 : (0 : Int32).toInt = 0 := rfl
  have h238 : ∀ x3, ((g fM_faults).toInt ≤ 0 → x3 = 0) → (¬ (g fM_faults).toInt ≤ 0 → x3 = 1) → pl (BM_parse_238 L xs (m + 1) d k 0 x2 x3 g r) (kPy w c x p un n) kN := by
    intro x3 hx0 hx1
    unfold BM_parse_238
    refine pl_il (fun e => ?_) (fun e => ?_)
    · have e' : (g fM_faults).toInt ≤ 0 := e
      have e0 : g fM_faults = 0 := i32e (by rw [h00]; omega)
      obtain ⟨hn, hp, hE, hU, n1, D1, K1, is1, hR, hZ, hH, hXz⟩ := hT e0
      rw [uz_n (oE_f hE)] at hZ
      have hn8 := hR.2.2.1
      obtain ⟨F', hD, hT2, hl, hnd⟩ := Zc.root hZ hH.1 (by omega)
      obtain ⟨kk, hk⟩ := hD
      obtain ⟨G, rfl⟩ := po_hd hk
      have hX : NX n1 D1 K1 r (up1 G) := ⟨hR.2.2.2, hR.2.1, hn8, hnd, fun y hy => (hl y hy).2⟩
      refine pl_n (zM_numberAll (g := upd g fM_thrown x3) hX ⟨kk, hk⟩ ht hd) (fun _ _ _ e => e) (fun g2 r2 e2 => ?_)
      obtain ⟨-, hF, hN⟩ := e2
      have eu : g2 fM_units = g fM_units := hF.1 fM_units (by decide)
      have ef : g2 fM_faults = g fM_faults := hF.1 fM_faults (by decide)
      have et : g2 fM_thrown = x3 := (hF.1 fM_thrown (by decide)).trans rfl
      refine Or.inr ⟨⟨by rw [ef]; exact e0, by rw [et, hx0 e']⟩, hn, rfl, (c, x, un), Rx.fin hp, hE, ?_, n1, D1, K1, up1 G, ⟨hX.1.nu hF, hX.2⟩, ⟨kk, hk⟩, hT2.symm, hN, ?_⟩
      · rw [eu]
        exact hU
      · obtain ⟨⟨X, x1, x2, x3⟩, -⟩ := hXz.1
        have eX := x3 _ ⟨kk, hk⟩
        unfold UU
        rw [eX]
        refine ⟨x1, fun k x hx => ?_⟩
        have y2 := (x2 k x hx).2
        unfold UA at y2 ⊢
        rw [hF.2 fM_unitNode (by decide), hF.2 fM_environment (by decide), hF.2 fM_data (by decide), hF.2 fM_procedure (by decide)]
        exact y2
    · have e' : ¬ (g fM_faults).toInt ≤ 0 := e
      exact Or.inl ⟨⟨fun q => e' (by have q' : g fM_faults = 0 := q; rw [q']; decide), hx1 e'⟩, rfl, ht, hd, rfl⟩
  unfold BM_parse_225
  refine pl_il (fun e => ?_) (fun e => ?_)
  · have e' : (g fM_faults).toInt ≤ 0 := e
    exact h238 _ (fun _ => rfl) (fun q => absurd e' q)
  · have e' : ¬ (g fM_faults).toInt ≤ 0 := e
    exact h238 _ (fun q => absurd q e') (fun _ => rfl)
theorem py_153 {c : CU} {x : Xs} {p un : Nat} {n : Int32} {g : a2_G} {r : a2_A} (h : MY w n p c x un g r) (he : ¬ (p < w.2.2 ∧ n.toInt < 20)) : pl (BM_parse_153 L xs (m + 1) d k 0 g r) (kPy w c x p un n) kN := by
  obtain ⟨⟨hr, hL, hno, ha, hf, hM, hn0, hn2⟩, ht, hd, hT⟩ := h
  have h1 := hM.1
  have hnz : n = 0 → ¬ p < w.2.2 := fun e hp => he ⟨hp, by rw [e]; decide⟩
  have h195 : ∀ x2 : Int32, ((0 < oN c ∧ x2 = 0) ↔ oE c = true) → pl (BM_parse_195 L xs (m + 1) d k 0 x2 g r) (kPy w c x p un n) kN := by
    intro x2 hE
    have hno : (¬ (0 < oN c ∧ x2 = 0) ∨ g fM_faults ≠ 0) → pl (BM_parse_225 L xs (m + 1) d k 0 x2 g r) (kPy w c x p un n) kN := by
      intro hc
      refine py_225 x2 ht hd (by rw [hf]; exact hn0) (fun e0 => ?_)
      have hn : n = 0 := hf.symm.trans e0
      refine ⟨hn, hnz hn, ?_, hT hn⟩
      rcases hc with hc | hc
      · cases hq : oE c with
        | false => rfl
        | true => exact absurd (hE.mpr hq) hc
      · exact absurd e0 hc
    unfold BM_parse_195
    refine pl_ih (fun e20 => hno (Or.inr (fun q => ?_))) (fun e20 => ?_)
    · have e20' : (20 : Int) ≤ (g fM_faults).toInt := e20
      rw [q] at e20'
      exact absurd e20' (by decide)
    · have e20' : ¬ (20 : Int) ≤ (g fM_faults).toInt := e20
      refine pl_il (fun eo => hno (Or.inl (fun q => ?_))) (fun eo => ?_)
      · rw [i32_0] at eo
        omega
      · refine pl_in (fun ex => hno (Or.inl (fun q => ex q.2))) (fun ex => ?_)
        cases d with
        | zero => trivial
        | succ d =>
          rw [qM_note]
          refine pl_n (Q1 := fun o g' r' => o = none ∧ g' fM_faults = n + 1 ∧ g' fM_told = 0 ∧ g' fM_deepest = 0) (X1 := kN) ?_ (fun _ _ _ e => e) (fun g2 r2 e2 => ?_)
          · refine pl_pos ?_ (pl_if (fun _ => pl_if (fun _ => ⟨rfl, ?_, ht, hd⟩) (fun _ => trivial)) (fun _ => trivial))
            · rw [c2_ne]
              intro e
              rw [e] at e20'
              exact absurd e20' (by decide)
            · show g fM_faults + 1 = n + 1
              rw [hf]
          · rw [hf] at e20'
            have hn1 : (n + 1).toInt = n.toInt + 1 := i32_inc (by omega)
            refine py_225 x2 e2.2.2.1 e2.2.2.2 (by rw [e2.2.1]; omega) (fun e0 => ?_)
            rw [e2.2.1] at e0
            rw [e0] at hn1
            have h00 : (0 : Int32).toInt = 0 := rfl
            omega
  unfold BM_parse_153 BM_parse_194
  refine pl_in (fun e1 => h195 0 ⟨fun q => ?_, fun q => ⟨?_, rfl⟩⟩) (fun e1 => ?_)
  · have hN : oN c ≠ 1 := fun e => e1 (i32e (by rw [h1, e]; rfl))
    unfold oE
    rw [decide_eq_true (show 1 < oN c by omega)]
    rfl
  · unfold oE at q
    rw [Bool.or_eq_true, Bool.and_eq_true, decide_eq_true_eq, decide_eq_true_eq] at q
    omega
  · rw [Decidable.not_not] at e1
    have hN : oN c = 1 := by
      rw [e1] at h1
      have : (1 : Int) = oN c := h1
      omega
    have hu := hM.2.2.1 0 (by omega)
    have hT : oT c = oS c 0 := by
      rw [oT_pos (by omega), hN]
    rw [← hT] at hu
    have eE : oE c = (decide (oT c = 0) || decide (oT c = 9) || decide (oT c = 12)) := by
      unfold oE
      rw [decide_eq_false (show ¬ 1 < oN c by omega), decide_eq_true hN, Bool.false_or, Bool.true_and]
    have ez : (0 : Int32).toNatClampNeg = 0 := rfl
    refine pl_if (fun _ => ?_) (fun _ => trivial)
    rw [ez, hu.1]
    refine pl_iq (fun s0 => h195 0 ⟨fun _ => ?_, fun _ => ⟨by omega, rfl⟩⟩) (fun s0 => ?_)
    · rw [eE, decide_eq_true s0]
      rfl
    · refine pl_if (fun _ => ?_) (fun _ => trivial)
      refine pl_iq (fun s9 => h195 0 ⟨fun _ => ?_, fun _ => ⟨by omega, rfl⟩⟩) (fun s9 => ?_)
      · rw [eE, decide_eq_true s9, Bool.or_true]
        rfl
      · refine pl_if (fun _ => ?_) (fun _ => trivial)
        rw [hu.2.2.2.2]
        refine pl_in (fun s12 => h195 0 ⟨fun _ => ?_, fun _ => ⟨by omega, rfl⟩⟩) (fun s12 => h195 1 ⟨fun q => absurd q.2 (by decide), fun q => ?_⟩)
        · have e12 : oT c = 12 := by
            by_cases e : oT c = 12
            · exact e
            · rw [decide_eq_false e] at s12
              exact absurd rfl s12
          rw [eE, decide_eq_true e12, Bool.or_true]
        · have e12 : ¬ oT c = 12 := fun e => by
            rw [decide_eq_true e] at s12
            exact s12 (by decide)
          rw [eE, decide_eq_false s0, decide_eq_false s9, decide_eq_false e12] at q
          cases q
def PBL (L : Nat) (xs : Nat → Int32) (m d k : Nat) (w : Ws) : Prop := (∀ (c : CU) (x : Xs) (p un : Nat) (n : Int32) (g : a2_G) (r : a2_A), MY w n p c x un g r → pl (lp L xs nM_parse nm_m159 (m + 1) d k 56 [some (.ref cM), some (.int 0), none] g r) (kPy w c x p un n) kN) ∧
  (∀ (c : CU) (x : Xs) (q un : Nat) (n : Int32) (g : a2_G) (r : a2_A), MY w n q c x un g r → n ≠ 0 → (g fM_at).toInt = q → q ≤ w.2.2 → pl (lp L xs nM_parse nm_m159 (m + 1) d k 103 [some (.ref cM), some (.int 0), none] g r) (kPy w c x (rc w q) un n) kN)
theorem py_103 (H : PBL L xs m d k w) {c : CU} {x : Xs} {q un : Nat} {n : Int32} {g : a2_G} {r : a2_A} (h : MY w n q c x un g r) (hn1 : n ≠ 0) (ha : (g fM_at).toInt = q) (hqn : q ≤ w.2.2) : pl (BM_parse_103 L xs (m + 1) d k 0 g r) (kPy w c x (rc w q) un n) kN := by
  obtain ⟨⟨hr, hL, hno, ha', hf, hM, hn0, hn2⟩, ht, hd, hT⟩ := h
  have en : (g fM_at).toNatClampNeg = q := by rw [nc_eq, ha]; rfl
  have hb := hr.2.2.2
  have hi : (g fM_at + 1).toInt = ((q + 1 : Nat) : Int) := by
    rw [i32_inc (by omega), ha]
    rfl
  unfold BM_parse_103 BM_parse_140
  refine pl_ih (fun e => ?_) (fun e => ?_)
  · rw [hr.2.2.1, ha] at e
    have hq : ¬ q < w.2.2 := by omega
    rw [rc_out hq]
    refine H.1 _ _ _ _ _ _ _ ⟨⟨hr, hL, hno, Or.inr ⟨by omega, ?_⟩, hf, hM, hn0, hn2⟩, ht, hd, fun e => absurd e hn1⟩
    show (w.2.2 : Int) ≤ (g fM_at + 1).toInt
    omega
  · rw [hr.2.2.1, ha] at e
    have hq : q < w.2.2 := by omega
    refine pl_if (fun _ => ?_) (fun _ => trivial)
    rw [en, hr.1]
    refine pl_iq (fun e4 => ?_) (fun e4 => ?_)
    · rw [rc_per hq e4]
      exact H.1 _ _ _ _ _ _ _ ⟨⟨hr, hL, hno, Or.inl hi, hf, hM, hn0, hn2⟩, ht, hd, fun e => absurd e hn1⟩
    · rw [rc_on hq e4]
      exact H.2 _ _ _ _ _ _ _ ⟨⟨hr, hL, hno, Or.inl hi, hf, hM, hn0, hn2⟩, ht, hd, fun e => absurd e hn1⟩ hn1 hi (by omega)
theorem py_56 (hw : Wv w) (H : PBL L xs m d k w) {c : CU} {x : Xs} {p un : Nat} {n : Int32} {g : a2_G} {r : a2_A} (h : MY w n p c x un g r) : pl (BM_parse_56 L xs (m + 1) d k 0 g r) (kPy w c x p un n) kN := by
  have h' := h
  obtain ⟨⟨hr, hL, hno, ha, hf, hM, hn0, hn2⟩, ht, hd, hT⟩ := h
  unfold BM_parse_56
  refine pl_ih (fun e => py_153 h' ?_) (fun e => ?_)
  · rw [hr.2.2.1] at e
    omega
  · rw [hr.2.2.1] at e
    refine pl_ih (fun e20 => py_153 h' ?_) (fun e20 => ?_)
    · have e20' : (20 : Int) ≤ (g fM_faults).toInt := e20
      rw [hf] at e20'
      omega
    · have e20' : ¬ (20 : Int) ≤ (g fM_faults).toInt := e20
      rw [hf] at e20'
      have hat : (g fM_at).toInt = p := by omega
      have hp : p < w.2.2 := by omega
      have hG : Gd w (n, upd g fM_bad 0, r) p (upd g fM_bad 0) r := ⟨⟨⟨hr, hn0, show n.toInt < 20 by omega⟩, hL, Fm.rf, hno⟩, hf, rfl, hat, by omega⟩
      have hMg : Mc c (upd g fM_bad 0) r := hM
      have hz : pl (ev L xs (m + 1) d nM_clause [.ref cM] (upd g fM_bad 0) r) (fun o g' r' => n = 0 → kMT (n, upd g fM_bad 0, r) (yC w c x p) (zC w c p).2.1 (un + uN w p) o g' r') (fun _ _ _ => True) := by
        by_cases e0 : n = 0
        · obtain ⟨hU, n1, D1, K1, is1, hR, hZ, hH, hXz⟩ := hT e0
          exact pl_mono (zM_clause (f := (n, upd g fM_bad 0, r)) hMg hw hH hZ hU hXz ⟨hG, hR.cg⟩ hp) (fun o g' r' q _ => q) (fun _ _ _ _ => trivial)
        · exact pl_mono pl_true (fun o g' r' _ e => absurd e e0) (fun _ _ _ _ => trivial)
      refine pl_n (pl_and (xM_clause (f := (n, upd g fM_bad 0, r)) hMg hw hG hp) (pl_and hz (pl_kq (by decide)))) (fun _ _ _ e => e.1) (fun g8 r9 e8 => ?_)
      obtain ⟨e8, ez, eq1, eq2⟩ := e8
      have ht8 : g8 fM_told = 0 := eq1.trans ht
      have hd8 : g8 fM_deepest = 0 := eq2.trans hd
      rcases e8.2 with ⟨q, eq, hb, hS⟩ | ⟨b, b', eq, hrc, hB⟩
      · refine pl_neg (by rw [c2_ne, hb]; decide) ?_
        obtain ⟨s1, s2, s3, s4, s5, s6⟩ := hS
        have hnb : 0 ≤ (nb n (zC w c p).2.2).toInt ∧ (nb n (zC w c p).2.2).toInt ≤ 20 := by
          unfold nb
          split
          · rw [i32_inc (by omega)]
            omega
          · omega
        have hnb0 : nb n (zC w c p).2.2 = 0 → n = 0 := by
          unfold nb
          split
          · intro e
            have h1 : (n + 1).toInt = n.toInt + 1 := i32_inc (by omega)
            rw [e] at h1
            have h00 : (0 : Int32).toInt = 0 := rfl
            omega
          · exact id
        by_cases hz0 : nb n (zC w c p).2.2 = 0
        · have hn := hnb0 hz0
          rcases (ez hn).2 with e5 | ⟨q', x', e5, e6, e7⟩
          · exfalso
            have : g8 fM_faults = 0 := s5.trans hz0
            rw [this, hn] at e5
            exact absurd (show (0 : Int32) = 0 + 1 from e5) (by decide)
          · have hqq : q' = q := by omega
            subst hqq
            refine pl_mono (H.1 _ x' q' (un + uN w p) _ g8 r9 ⟨⟨s1, s2, s3, Or.inl s4, s5, s6, hnb.1, hnb.2⟩, ht8, hd8, fun _ => e7⟩) (fun o g2 r2 hq => ?_) (fun _ _ _ e => e)
            rcases hq with hq | ⟨h1, h2, h3, y, h4, h5⟩
            · exact Or.inl hq
            · exact Or.inr ⟨h1, hn, h3, y, Rx.go hp eq e5 (fun e => nomatch e) h4, h5⟩
        · refine pl_mono (H.1 _ x q un _ g8 r9 ⟨⟨s1, s2, s3, Or.inl s4, s5, s6, hnb.1, hnb.2⟩, ht8, hd8, fun e => absurd e hz0⟩) (fun o g2 r2 hq => ?_) (fun _ _ _ e => e)
          rcases hq with hq | ⟨h1, h2, -⟩
          · exact Or.inl hq
          · exact absurd h2 hz0
      · refine pl_pos (by rw [c2_ne, hB.2.2.1]; decide) ?_
        have hn1 : (n + 1).toInt = n.toInt + 1 := i32_inc (by omega)
        have hnz : n + 1 ≠ 0 := fun e => by
          rw [e] at hn1
          have h00 : (0 : Int32).toInt = 0 := rfl
          omega
        refine pl_mono (py_103 H (c := c) (x := x) (un := un) (q := b') (n := n + 1) (g := upd g8 fM_at (g8 fM_failed)) (r := r9) ⟨⟨hB.1.mrd, hB.1.2.1, hB.1.2.2.2, Or.inl hB.2.2.2.1, hB.2.1, (hMg.fr hB.1.2.2.1 : Mc c g8 r9), by omega, by omega⟩, ht8, hd8, fun e => absurd e hnz⟩ hnz hB.2.2.2.1 hB.2.2.2.2) (fun o g2 r2 hq => ?_) (fun _ _ _ e => e)
        rcases hq with hq | ⟨h1, h2, -⟩
        · exact Or.inl hq
        · exact absurd h2 hnz
theorem py_l (hw : Wv w) : ∀ k, PBL L xs m d k w
  | 0 => ⟨fun _ _ _ _ _ _ _ _ => pl_l0, fun _ _ _ _ _ _ _ _ _ _ _ => pl_l0⟩
  | k + 1 => ⟨fun c x p un n g r h => by
      rw [lM_parse_56]
      exact py_56 hw (py_l hw k) h, fun c x q un n g r h h1 ha hq => by
      rw [lM_parse_103]
      exact py_103 (py_l hw k) h h1 ha hq⟩
theorem zM_root {g : a2_G} {r : a2_A} (hL : ML r) (h1 : g fM_nodes = 0) : pl (ev L xs (m + 1) d nM_make [.ref cM, .int 0, .int 0, .int 0] g r) (fun o g' r' => o = some (.int 0) ∧ Rm 1 (fun _ => (0, 0, 0, -1)) (fun _ => []) g' r' ∧ g' = upd g fM_nodes 1) kN := by
  cases d with
  | zero => trivial
  | succ d =>
    have h0 : (g fM_nodes).toInt = (0 : Nat) := by rw [h1]; rfl
    have en : (g fM_nodes).toNatClampNeg = 0 := tn_at h0
    rw [qM_make, en]
    refine pl_if (fun c => ?_) (fun _ => trivial)
    refine pl_if (fun _ => pl_if (fun _ => pl_if (fun _ => pl_if (fun _ => pl_if (fun _ => pl_if (fun _ => pl_if (fun _ => ?_) (fun _ => trivial)) (fun _ => trivial)) (fun _ => trivial)) (fun _ => trivial)) (fun _ => trivial)) (fun _ => trivial)) (fun _ => trivial)
    refine ⟨by rw [h1], ⟨?_, by omega, by omega, ?_⟩, by rw [h1]; rfl⟩
    · show (g fM_nodes + 1).toInt = _
      rw [h1]
      rfl
    · refine ⟨fun i hi => ?_, fun i hi => ?_, fun i hi l1 c l2 e => ?_, fun i hi => List.nodup_nil, fun v hv h53 => absurd h53 (show ¬ (0 : Int32) = 53 by decide)⟩
      · have : i = 0 := by omega
        subst this
        exact ⟨rfl, rfl, rfl, fun q => absurd q.1 (by decide)⟩
      · have : i = 0 := by omega
        subst this
        exact ⟨rfl, fun x hx => nomatch hx⟩
      · exact absurd e (by simp)
/-- what stands before the first clause -/
def x0 : Xs := ([((-1, 0, -1, -1), [])], 0, 0, 0)
/-- THE MODEL'S PARSE, with its tree -/
theorem zM_parse (hw : Wv w) {g : a2_G} {r : a2_A} (hk : (r fM_kinds).2 = w.1) (hv : (r fM_values).2 = w.2.1) (hs : (g fM_size).toInt = w.2.2) (hn : w.2.2 ≤ 1500) (hL : ML r) {c : CU} (hc : oN c = 0) : pl (ev L xs (m + 1) d nM_parse [.ref cM] g r) (kPy w c x0 0 0 0) kN := by
  cases d with
  | zero => trivial
  | succ d =>
    rw [qM_parse]
    have eT : (oT c).toInt = -1 := by
      rw [oT_0 hc]
      rfl
    have hm0 : ∀ (g' : a2_G) (r' : a2_A), g' fM_open = 0 → Mc c g' r' := by
      intro g' r' ho
      refine ⟨?_, by omega, fun i hi => absurd hi (by omega), fun e => ?_, fun e => ?_, fun i hi => absurd hi (by omega)⟩
      · rw [ho, hc]
        rfl
      · omega
      · omega
    refine pl_v (pl_and (xA_mk0 0 0 0 hL) (zM_root hL rfl)) (fun _ _ _ e => e.1) (fun v g1 r1 e1 => ?_)
    obtain ⟨⟨-, hL1, F, hno⟩, ev, hR, eg⟩ := e1
    cases ev
    refine py_56 hw (py_l hw m) ⟨⟨⟨?_, ?_, ?_, hn⟩, hL1, hno, Or.inl ?_, ?_, hm0 g1 r1 ?_, by decide, by decide⟩, ?_, ?_, fun _ => ⟨?_, 1, _, _, [0], hR, ?_, ?_, ?_⟩⟩
    · rw [F.2 fM_kinds (by decide)]
      exact hk
    · rw [F.2 fM_values (by decide)]
      exact hv
    · rw [F.1 fM_n (by decide)]
      exact hs
    · rw [F.1 fM_at (by decide)]
      rfl
    · rw [F.1 fM_faults (by decide)]
      rfl
    · rw [F.1 fM_open (by decide)]
      rfl
    · rw [F.1 fM_told (by decide)]
      rfl
    · rw [F.1 fM_deepest (by decide)]
      rfl
    · rw [F.1 fM_units (by decide)]
      rfl
    · rw [uz_n (by rw [oT_0 hc]; decide)]
      exact ⟨rfl, Nat.lt_succ_self 0, ⟨[], rfl, TrL.nil⟩, trivial⟩
    · rw [eT, hc]
      refine ⟨⟨0, rfl, rfl⟩, ⟨?_, fun i hi => absurd hi (by omega)⟩, fun _ _ => by omega, fun _ _ => by omega, fun _ _ => by omega, fun _ => by omega, fun _ _ => by omega⟩
      rw [F.1 fM_units (by decide)]
      show (0 : Int) ≤ (0 : Int32).toInt
      decide
    · refine ⟨⟨⟨[], rfl, (fun k x hx => nomatch hx), fun G hG => ?_⟩, fun h0 => (by omega)⟩, (fun j y _ hy => nomatch hy), (by decide)⟩
      have e : G = [(0, 0)] := hG.fn (Dn.node (K := fun _ => []) (v := 0) DnL.nil)
      rw [e]
      rfl
end
