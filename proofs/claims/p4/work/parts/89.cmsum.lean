/-! The model's sums beside the reader's: what is left to read is a function of how many parentheses are open. -/
noncomputable def cs (w : Ws) (lb : Nat) : Nat → Nat → Option RR
  | 0, q => bd (rv w 3 q lb false) fun q _ => rv w 1 q lb false
  | c + 1, q => bd (rv w 3 q (lb + (c + 1)) false) fun q _ => bd (rv w 1 q (lb + (c + 1)) false) fun q _ => if wg w q 1 then cs w lb c (q + 1) else no q
theorem cs_0 (w : Ws) (lb q : Nat) : cs w lb 0 q = bd (rv w 3 q lb false) fun q _ => rv w 1 q lb false := rfl
theorem cs_1 (w : Ws) (lb c q : Nat) : cs w lb (c + 1) q = bd (rv w 3 q (lb + (c + 1)) false) fun q _ => bd (rv w 1 q (lb + (c + 1)) false) fun q _ => if wg w q 1 then cs w lb c (q + 1) else no q := rfl
theorem cs_mul {w : Ws} {lb c q : Nat} (h : (wg w q 7 || wg w q 8) = true) : cs w lb c q = bd (rv w 4 (q + 1) (lb + c) false) fun q _ => cs w lb c q := by
  cases c with
  | zero =>
    rw [cs_0, rv_t3, if_pos h, bd_as]
    rfl
  | succ c =>
    rw [cs_1, rv_t3, if_pos h, bd_as]
    rfl
theorem cs_add {w : Ws} {lb c q : Nat} (h : (wg w q 7 || wg w q 8) = false) (h2 : (wg w q 5 || wg w q 6) = true) : cs w lb c q = bd (rv w 4 (q + 1) (lb + c) false) fun q _ => cs w lb c q := by
  have hn : ¬ (wg w q 7 || wg w q 8) = true := by rw [h]; decide
  cases c with
  | zero =>
    rw [cs_0, rv_t3, if_neg hn, bd_ok, rv_t1, if_pos h2, rv_t2, bd_as]
    rfl
  | succ c =>
    rw [cs_1, rv_t3, if_neg hn, bd_ok, rv_t1, if_pos h2, rv_t2, bd_as, bd_as]
    rfl
theorem cs_e0 {w : Ws} {lb q : Nat} (h : (wg w q 7 || wg w q 8) = false) (h2 : (wg w q 5 || wg w q 6) = false) : cs w lb 0 q = ok q := by
  have hn : ¬ (wg w q 7 || wg w q 8) = true := by rw [h]; decide
  have hn2 : ¬ (wg w q 5 || wg w q 6) = true := by rw [h2]; decide
  rw [cs_0, rv_t3, if_neg hn, bd_ok, rv_t1, if_neg hn2]
theorem cs_e1 {w : Ws} {lb c q : Nat} (h : (wg w q 7 || wg w q 8) = false) (h2 : (wg w q 5 || wg w q 6) = false) : cs w lb (c + 1) q = if wg w q 1 then cs w lb c (q + 1) else no q := by
  have hn : ¬ (wg w q 7 || wg w q 8) = true := by rw [h]; decide
  have hn2 : ¬ (wg w q 5 || wg w q 6) = true := by rw [h2]; decide
  rw [cs_1, rv_t3, if_neg hn, bd_ok, rv_t1, if_neg hn2, bd_ok]
theorem rv_cs (w : Ws) (p lb : Nat) : rv w 0 p lb false = bd (rv w 4 p lb false) fun q _ => cs w lb 0 q := by
  rw [rv_t0, rv_t2, bd_as]
  rfl
theorem rv4_cs {w : Ws} {p lb c : Nat} (h : wg w p 0 = true) (hl : ¬ 40 ≤ lb + c) : (bd (rv w 4 p (lb + c) false) fun q _ => cs w lb c q) = bd (rv w 4 (p + 1) (lb + (c + 1)) false) fun q _ => cs w lb (c + 1) q := by
  rw [rv_t4, if_pos h, if_neg hl, bd_as, rv_t0, rv_t2, bd_as, bd_as]
  refine congrArg (bd _) (funext fun q => funext fun s => ?_)
  rw [cs_1]
  refine congrArg (bd _) (funext fun q => funext fun s => ?_)
  refine congrArg (bd _) (funext fun q => funext fun s => ?_)
  rw [bd_ite, bd_ok, bd_no]
def WXx : List Nat := [fM_at, fM_failed, fM_bad, fM_faults, fM_nodes, fM_level, fM_contexts]
def WXxa : List Nat := [fM_faultNumber, fM_faultWord, fM_kind, fM_value, fM_place, fM_extra, fM_first, fM_last, fM_next, fM_above, fM_sums, fM_sumSign, fM_products, fM_productSign]
abbrev Fx (g : a2_G) (r : a2_A) (g' : a2_G) (r' : a2_A) : Prop := Fm WXx WXxa g r g' r'
theorem Fe.x {g g' : a2_G} {r r' : a2_A} (h : Fe g r g' r') : Fx g r g' r' := h.sub (by decide) (by decide)
theorem xA_joined {L : Nat} {xs : Nat → Int32} {m d : Nat} {w : Ws} {f : Gh} {g : a2_G} {r : a2_A} (a1 a2 : Int32) {a3 : Int32} (h : Sx w f g r) (hv : 0 < a3.toInt) : pl (ev L xs (m + 1) d nM_joined [.ref cM, .int a1, .int a2, .int a3] g r) (fun o g' r' => (∃ v : Int32, o = some (.int v) ∧ 0 < v.toInt) ∧ Sx w f g' r' ∧ Fm [fM_nodes] WEa g r g' r') kN := by
  cases d with
  | zero => trivial
  | succ d =>
    rw [qM_joined]
    refine pl_if (fun _ => pl_if (fun _ => ?_) (fun _ => trivial)) (fun _ => ⟨⟨_, rfl, hv⟩, h, Fm.rf⟩)
    refine pl_v (xA_make _ _ _ h) (fun _ _ _ e => e) (fun v g1 r1 e => ?_)
    refine pl_n (xA_attach _ _ e.2.1) (fun _ _ _ e => e) (fun g2 r2 e2 => ?_)
    refine pl_n (xA_attach _ _ e2.2.1) (fun _ _ _ e => e) (fun g3 r3 e3 => ?_)
    obtain ⟨⟨v', e0, e1⟩, -, e4⟩ := e
    cases e0
    exact ⟨⟨_, rfl, e1⟩, e3.2.1, (e4.trans e2.2.2).trans e3.2.2⟩
theorem pm_jo {L : Nat} {xs : Nat → Int32} {m d : Nat} {w : Ws} {f : Gh} {p : Nat} {g : a2_G} {r : a2_A} {k : Int32 → a2_G → a2_A → Option fn_Z} {Q : Option Value → a2_G → a2_A → Prop} {X : Nat → a2_G → a2_A → Prop} {a1 a2 a3 : Int32} (h : Gd w f p g r) (hv : 0 < a3.toInt) (hk : ∀ v g' r', 0 < v.toInt → Gd w f p g' r' → Fe g r g' r' → pl (k v g' r') Q X) : pl (fn_v (ev L xs (m + 1) d nM_joined [.ref cM, .int a1, .int a2, .int a3] g r) k) Q X := pl_v (xA_joined a1 a2 h.1 hv) (fun _ _ _ e => e.elim) (fun v g' r' e => by
  obtain ⟨⟨v', e0, e1⟩, e2, e3⟩ := e
  cases e0
  exact hk v g' r' e1 (h.fr e2 e3) (Fn.e e3))
/-- how many parentheses are open in a sum -/
def Cx (lb c : Nat) (g : a2_G) : Prop := (g fM_contexts).toInt = (c : Int) + 1 ∧ (g fM_level).toInt = ((lb + c : Nat) : Int) ∧ lb + c ≤ 40
theorem Cx.e {lb c : Nat} {g g' : a2_G} {r r' : a2_A} (h : Cx lb c g) (hF : Fe g r g' r') : Cx lb c g' := by
  unfold Cx
  rw [hF.1 fM_contexts (by decide), hF.1 fM_level (by decide)]
  exact h
def kUu (w : Ws) (f : Gh) (lb : Nat) (g0 : a2_G) (r0 : a2_A) (A : Option RR) : Option Value → a2_G → a2_A → Prop := fun o g r => ∃ v : Int32, o = some (.int v) ∧ Fx g0 r0 g r ∧
  ((0 < v.toInt ∧ (g fM_level).toInt = lb ∧ ∃ q, A = ok q ∧ Gd w f q g r) ∨
   (v = 0 ∧ ∃ c q, Gd w f q g r ∧ Cx lb c g ∧ A = bd (rv w 4 q (lb + c) false) fun q _ => cs w lb c q) ∨
   (v = 0 ∧ ∃ b, A = no b ∧ Bd w f b g r))
theorem i32e {x y : Int32} (h : x.toInt = y.toInt) : x = y := Int32.toInt_inj.mp h
def BUL (L : Nat) (xs : Nat → Int32) (m d k : Nat) (w : Ws) (f : Gh) (lb : Nat) (g0 : a2_G) (r0 : a2_A) : Prop := ∀ (x1 x2 x3 x4 : Int32) (c q : Nat) (g : a2_G) (r : a2_A), Gd w f q g r → Cx lb c g → Fx g0 r0 g r → 0 < x2.toInt → pl (lp L xs nM_behindUnit nm_m216 (m + 1) d k 2 [some (.ref cM), some (.int x1), some (.int x2), some (.int x3), some (.int x4)] g r) (kUu w f lb g0 r0 (cs w lb c q)) kN
section
variable {L : Nat} {xs : Nat → Int32} {m d k : Nat} {w : Ws} {f : Gh} {lb : Nat} {g0 : a2_G} {r0 : a2_A}
theorem bu_82 (H : BUL L xs m d k w f lb g0 r0) (x1 x2 x3 x4 x5 : Int32) {c q : Nat} {g : a2_G} {r : a2_A} (h : Gd w f q g r) (hC : Cx lb c g) (hF : Fx g0 r0 g r) (h3 : x3.toInt = c) (hp : 0 < ((r fM_products).2 x3.toNatClampNeg).toInt)
    (hs : (6 < x5.toInt ∧ (wg w q 7 || wg w q 8) = true) ∨ (0 < x5.toInt ∧ x5.toInt ≤ 6 ∧ (wg w q 7 || wg w q 8) = false ∧ (wg w q 5 || wg w q 6) = true) ∨ (x5.toInt = 0 ∧ (wg w q 7 || wg w q 8) = false ∧ (wg w q 5 || wg w q 6) = false)) : pl (BM_behindUnit_82_1 L xs (m + 1) d k x1 x2 x3 x4 x5 g r) (kUu w f lb g0 r0 (cs w lb c q)) kN := by
  have hq : (wg w q 7 || wg w q 8) = true ∨ (wg w q 5 || wg w q 6) = true → q < w.2.2 := by
    intro e
    simp only [Bool.or_eq_true, wg_iff] at e
    rcases e with (e | e) | (e | e) <;> exact e.1
  unfold BM_behindUnit_82_1
  refine pl_il (fun c6 => ?_) (fun c6 => ?_) <;> rw [show (6 : Int32).toInt = 6 from rfl] at c6
  · refine pl_if (fun _ => pl_if (fun _ => pl_if (fun _ => ?_) (fun _ => trivial)) (fun _ => trivial)) (fun _ => trivial)
    refine pm_jo h hp (fun v g1 r1 hv h1 f1 => ?_)
    refine pl_if (fun _ => pl_if (fun _ => ?_) (fun _ => trivial)) (fun _ => trivial)
    have hG : Gd w f q g1 (a2_ua (a2_ua r1 fM_sums ((r1 fM_sums).1, (upd (r1 fM_sums).2 x3.toNatClampNeg v))) fM_sumSign ((r1 fM_sumSign).1, (upd (r1 fM_sumSign).2 x3.toNatClampNeg x5))) := (h1.ua (by decide) (by rfl)).ua (by decide) (by rfl)
    have hF1 : Fx g0 r0 g1 (a2_ua (a2_ua r1 fM_sums ((r1 fM_sums).1, (upd (r1 fM_sums).2 x3.toNatClampNeg v))) fM_sumSign ((r1 fM_sumSign).1, (upd (r1 fM_sumSign).2 x3.toNatClampNeg x5))) := ((hF.trans f1.x).ua (by decide)).ua (by decide)
    have hC1 : Cx lb c g1 := hC.e f1
    refine pl_il (fun c0 => ?_) (fun c0 => ?_) <;> rw [i32_0] at c0
    · have hs' : (wg w q 7 || wg w q 8) = false ∧ (wg w q 5 || wg w q 6) = false := by
        rcases hs with e | e | e
        · omega
        · omega
        · exact e.2
      refine pl_in (fun cz => ?_) (fun cz => ?_)
      · cases c with
        | zero => exact absurd (i32e (h3.trans rfl)) cz
        | succ c =>
          rw [cs_e1 hs'.1 hs'.2]
          refine pm_t (xM_isSign L xs 1 hG.1.mrd hG.2.2.2.1) (fun e => pl_pos (by decide) ?_) (fun e => pl_neg (by decide) ?_)
          · refine pl_if (fun _ => ?_) (fun _ => trivial)
            obtain ⟨c1, c2, c3⟩ := hC1
            refine H x1 _ x3 x5 c (q + 1) _ _ ?_ ?_ ?_ ?_
            · exact ((hG.up (wg_iff.mp e).1).ug (by decide)).ug (by decide)
            · refine ⟨?_, ?_, by omega⟩
              · show (g1 fM_contexts - 1).toInt = _
                rw [i32_dec (by omega), c1]
                omega
              · show (g1 fM_level - 1).toInt = _
                rw [i32_dec (by omega), c2]
                omega
            · exact ((hF1.up (by decide)).up (by decide)).up (by decide)
            · show 0 < (upd (r1 fM_sums).2 x3.toNatClampNeg v x3.toNatClampNeg).toInt
              rw [upd_eq]
              exact hv
          · refine pm_fa hG hG.2.2.2.1 hG.2.2.2.2 (fun g2 r2 h2 f2 => ?_)
            exact ⟨0, rfl, hF1.trans f2.x, Or.inr (Or.inr ⟨rfl, q, rfl, h2⟩)⟩
      · rw [Decidable.not_not] at cz
        cases c with
        | succ c =>
          rw [cz] at h3
          have h3' : (0 : Int) = ((c + 1 : Nat) : Int) := h3
          omega
        | zero =>
          rw [cs_e0 hs'.1 hs'.2]
          refine pl_if (fun _ => ?_) (fun _ => trivial)
          refine ⟨_, rfl, hF1, Or.inl ⟨?_, ?_, q, rfl, hG⟩⟩
          · rw [cz, upd_eq]
            exact hv
          · have := hC1.2.1
            simpa using this
    · have hs' : (wg w q 7 || wg w q 8) = false ∧ (wg w q 5 || wg w q 6) = true := by
        rcases hs with e | e | e
        · omega
        · exact e.2.2
        · omega
      rw [cs_add hs'.1 hs'.2]
      exact ⟨0, rfl, hF1.up (by decide), Or.inr (Or.inl ⟨rfl, c, q + 1, hG.up (hq (Or.inr hs'.2)), hC1, rfl⟩)⟩
  · have hs' : (wg w q 7 || wg w q 8) = true := by
      rcases hs with e | e | e
      · exact e.2
      · omega
      · omega
    refine pl_if (fun _ => ?_) (fun _ => trivial)
    rw [cs_mul hs']
    exact ⟨0, rfl, (hF.up (by decide)).ua (by decide), Or.inr (Or.inl ⟨rfl, c, q + 1, (h.up (hq (Or.inl hs'))).ua (by decide) (by rfl), hC, rfl⟩)⟩
theorem sgn_no {q : Nat} (h : wk w q 5 = false) : (wg w q 7 || wg w q 8) = false ∧ (wg w q 5 || wg w q 6) = false := by
  unfold wg
  rw [h]
  exact ⟨rfl, rfl⟩
theorem sgn_out {q : Nat} (h : ¬ (5 ≤ (w.2.1 q).toInt ∧ (w.2.1 q).toInt ≤ 8)) : (wg w q 7 || wg w q 8) = false ∧ (wg w q 5 || wg w q 6) = false := by
  have e : ∀ v : Int32, 5 ≤ v.toInt → v.toInt ≤ 8 → wg w q v = false := fun v h1 h2 => Bool.eq_false_iff.mpr (fun e => h (by rw [(wg_iff.mp e).2.2]; exact ⟨h1, h2⟩))
  rw [e 7 (by decide) (by decide), e 8 (by decide) (by decide), e 5 (by decide) (by decide), e 6 (by decide) (by decide)]
  exact ⟨rfl, rfl⟩
theorem sgn_hi {q : Nat} (h : wk w q 5 = true) (h1 : 6 < (w.2.1 q).toInt) (h2 : (w.2.1 q).toInt ≤ 8) : (wg w q 7 || wg w q 8) = true := by
  rw [Bool.or_eq_true]
  obtain ⟨a, b⟩ := wk_iff.mp h
  by_cases c : (w.2.1 q).toInt = 7
  · exact Or.inl (wg_iff.mpr ⟨a, b, i32e (c.trans rfl)⟩)
  · exact Or.inr (wg_iff.mpr ⟨a, b, i32e (show _ = (8 : Int) by omega)⟩)
theorem sgn_lo {q : Nat} (h : wk w q 5 = true) (h1 : 5 ≤ (w.2.1 q).toInt) (h2 : (w.2.1 q).toInt ≤ 6) : (wg w q 7 || wg w q 8) = false ∧ (wg w q 5 || wg w q 6) = true := by
  obtain ⟨a, b⟩ := wk_iff.mp h
  refine ⟨?_, ?_⟩
  · have e : ∀ v : Int32, 7 ≤ v.toInt → wg w q v = false := fun v h3 => Bool.eq_false_iff.mpr (fun e => by
      have := (wg_iff.mp e).2.2
      rw [this] at h2
      omega)
    rw [e 7 (by decide), e 8 (by decide)]
    rfl
  · rw [Bool.or_eq_true]
    by_cases c : (w.2.1 q).toInt = 5
    · exact Or.inl (wg_iff.mpr ⟨a, b, i32e (c.trans rfl)⟩)
    · exact Or.inr (wg_iff.mpr ⟨a, b, i32e (show _ = (6 : Int) by omega)⟩)
theorem bu_2 (H : BUL L xs m d k w f lb g0 r0) (x1 x2 x3 x4 : Int32) {c q : Nat} {g : a2_G} {r : a2_A} (h : Gd w f q g r) (hC : Cx lb c g) (hF : Fx g0 r0 g r) (hx : 0 < x2.toInt) : pl (BM_behindUnit_2_1 L xs (m + 1) d k x1 x2 x3 x4 g r) (kUu w f lb g0 r0 (cs w lb c q)) kN := by
  have hc : (g fM_contexts - 1).toInt = c := by
    rw [i32_dec (by have := hC.1; omega), hC.1]
    omega
  unfold BM_behindUnit_2_1
  refine pl_if (fun _ => pl_if (fun _ => ?_) (fun _ => trivial)) (fun _ => trivial)
  refine pm_jo h hx (fun v g1 r1 hv h1 f1 => ?_)
  refine pl_if (fun _ => pl_if (fun _ => ?_) (fun _ => trivial)) (fun _ => trivial)
  generalize g fM_contexts - 1 = y at hc
  have hG : Gd w f q g1 (a2_ua (a2_ua r1 fM_products ((r1 fM_products).1, (upd (r1 fM_products).2 y.toNatClampNeg v))) fM_productSign ((r1 fM_productSign).1, (upd (r1 fM_productSign).2 y.toNatClampNeg 0))) := (h1.ua (by decide) (by rfl)).ua (by decide) (by rfl)
  have hF1 : Fx g0 r0 g1 (a2_ua (a2_ua r1 fM_products ((r1 fM_products).1, (upd (r1 fM_products).2 y.toNatClampNeg v))) fM_productSign ((r1 fM_productSign).1, (upd (r1 fM_productSign).2 y.toNatClampNeg 0))) := ((hF.trans f1.x).ua (by decide)).ua (by decide)
  have hP : 0 < (((a2_ua (a2_ua r1 fM_products ((r1 fM_products).1, (upd (r1 fM_products).2 y.toNatClampNeg v))) fM_productSign ((r1 fM_productSign).1, (upd (r1 fM_productSign).2 y.toNatClampNeg 0))) fM_products).2 y.toNatClampNeg).toInt := by
    show 0 < (upd (r1 fM_products).2 y.toNatClampNeg v y.toNatClampNeg).toInt
    rw [upd_eq]
    exact hv
  generalize (a2_ua (a2_ua r1 fM_products ((r1 fM_products).1, (upd (r1 fM_products).2 y.toNatClampNeg v))) fM_productSign ((r1 fM_productSign).1, (upd (r1 fM_productSign).2 y.toNatClampNeg 0))) = r2 at hG hF1 hP
  have hC1 := hC.e f1
  unfold BM_behindUnit_81_1
  refine pl_u (xM_isKind L xs 5 hG.1.mrd hG.2.2.2.1) (fun e => pl_neg (by decide) ?_) (fun e => pl_pos (by decide) ?_)
  · refine pl_if (fun _ => ?_) (fun _ => trivial)
    rw [hG.nat, hG.1.mrd.2.1]
    refine pl_u xM_in (fun e2 => pl_neg (by decide) ?_) (fun e2 => pl_pos (by decide) ?_)
    · refine pl_if (fun _ => ?_) (fun _ => trivial)
      rw [hG.nat, hG.1.mrd.2.1]
      rw [Bool.and_eq_true, decide_eq_true_eq, decide_eq_true_eq] at e2
      have e2' : 5 ≤ (w.2.1 q).toInt ∧ (w.2.1 q).toInt ≤ 8 := e2
      refine bu_82 H x1 x2 y x4 _ hG hC1 hF1 hc hP ?_
      by_cases c6 : 6 < (w.2.1 q).toInt
      · exact Or.inl ⟨c6, sgn_hi e c6 e2'.2⟩
      · exact Or.inr (Or.inl ⟨by omega, by omega, sgn_lo e e2'.1 (by omega)⟩)
    · refine bu_82 H x1 x2 y x4 0 hG hC1 hF1 hc hP (Or.inr (Or.inr ⟨rfl, sgn_out (fun e3 => ?_)⟩))
      rw [Bool.and_eq_false_iff, decide_eq_false_iff_not, decide_eq_false_iff_not] at e2
      have e2' : ¬ 5 ≤ (w.2.1 q).toInt ∨ ¬ (w.2.1 q).toInt ≤ 8 := e2
      omega
  · exact bu_82 H x1 x2 y x4 0 hG hC1 hF1 hc hP (Or.inr (Or.inr ⟨rfl, sgn_no e⟩))
theorem bu_l : ∀ k, BUL L xs m d k w f lb g0 r0
  | 0 => fun _ _ _ _ _ _ _ _ _ _ _ _ => pl_l0
  | k + 1 => fun x1 x2 x3 x4 c q g r h hC hF hx => by
    rw [lM_behindUnit_2_1]
    exact bu_2 (bu_l k) x1 x2 x3 x4 h hC hF hx
theorem xM_behindUnit {c q : Nat} {g : a2_G} {r : a2_A} {a : Int32} (h : Gd w f q g r) (hC : Cx lb c g) (hF : Fx g0 r0 g r) (hx : 0 < a.toInt) : pl (ev L xs (m + 1) d nM_behindUnit [.ref cM, .int a] g r) (kUu w f lb g0 r0 (cs w lb c q)) kN := by
  cases d with
  | zero => trivial
  | succ d =>
    rw [qM_behindUnit]
    exact bu_2 (bu_l m) a a 0 0 h hC hF hx
/-- a sum read: its number, the level as it was -/
def kSu (w : Ws) (f : Gh) (lb : Nat) (g0 : a2_G) (r0 : a2_A) (A : Option RR) : Option Value → a2_G → a2_A → Prop := fun o g r => (∃ v : Int32, o = some (.int v)) ∧ Fx g0 r0 g r ∧ ((∃ q, A = ok q ∧ Gd w f q g r ∧ (g fM_level).toInt = lb) ∨ ∃ b, A = no b ∧ Bd w f b g r)
def SUL (L : Nat) (xs : Nat → Int32) (m d k : Nat) (w : Ws) (f : Gh) (lb : Nat) (g0 : a2_G) (r0 : a2_A) : Prop := (∀ (x1 : Int32) (b : Nat) (g : a2_G) (r : a2_A), Bd w f b g r → Fx g0 r0 g r → pl (lp L xs nM_sum nm_m214 (m + 1) d k 11 [some (.ref cM), some (.int x1)] g r) (kSu w f lb g0 r0 (no b)) kN) ∧
  (∀ (x1 : Int32) (q : Nat) (g : a2_G) (r : a2_A), Gd w f q g r → Fx g0 r0 g r → 0 < x1.toInt → (g fM_level).toInt = lb → pl (lp L xs nM_sum nm_m214 (m + 1) d k 11 [some (.ref cM), some (.int x1)] g r) (kSu w f lb g0 r0 (ok q)) kN) ∧
  (∀ (c p : Nat) (g : a2_G) (r : a2_A), Gd w f p g r → Cx lb c g → Fx g0 r0 g r → pl (lp L xs nM_sum nm_m214 (m + 1) d k 11 [some (.ref cM), some (.int 0)] g r) (kSu w f lb g0 r0 (bd (rv w 4 p (lb + c) false) fun q _ => cs w lb c q)) kN)
theorem su_b (x1 : Int32) {b : Nat} {g : a2_G} {r : a2_A} (h : Bd w f b g r) (hF : Fx g0 r0 g r) : pl (BM_sum_11 L xs (m + 1) d k x1 g r) (kSu w f lb g0 r0 (no b)) kN := by
  unfold BM_sum_11 BM_sum_129
  exact pl_if (fun _ => ⟨⟨_, rfl⟩, hF, Or.inr ⟨b, rfl, h⟩⟩) (fun _ => pl_pos (by rw [c2_ne, h.2.2.1]; decide) ⟨⟨_, rfl⟩, hF, Or.inr ⟨b, rfl, h⟩⟩)
theorem su_v (x1 : Int32) {q : Nat} {g : a2_G} {r : a2_A} (h : Gd w f q g r) (hF : Fx g0 r0 g r) (hx : 0 < x1.toInt) (hl : (g fM_level).toInt = lb) : pl (BM_sum_11 L xs (m + 1) d k x1 g r) (kSu w f lb g0 r0 (ok q)) kN := by
  unfold BM_sum_11 BM_sum_129
  refine pl_pos ?_ ⟨⟨_, rfl⟩, hF, Or.inl ⟨q, rfl, h, hl⟩⟩
  rw [c2_ne]
  intro e
  rw [e] at hx
  exact absurd hx (by decide)
theorem xA_context {g : a2_G} {r : a2_A} (hL : ML r) : pl (ev L xs (m + 1) d nM_context [.ref cM] g r) (fun o g' r' => o = none ∧ g' = upd g fM_contexts (g fM_contexts + 1) ∧ (0 ≤ (g fM_contexts).toInt ∧ (g fM_contexts).toInt < 64) ∧ ∃ x y, r' = a2_ua (a2_ua r fM_sumSign x) fM_productSign y ∧ x.1 = (r fM_sumSign).1 ∧ y.1 = (r fM_productSign).1) kN := by
  cases d with
  | zero => trivial
  | succ d =>
    rw [qM_context]
    refine pl_if (fun c => pl_if (fun _ => ?_) (fun _ => trivial)) (fun _ => trivial)
    rw [inr_eq, hL.at 29] at c
    exact ⟨rfl, rfl, c, _, _, rfl, rfl, rfl⟩
theorem su_1 (H : SUL L xs m d k w f lb g0 r0) {c p : Nat} {g : a2_G} {r : a2_A} (h : Gd w f p g r) (hC : Cx lb c g) (hF : Fx g0 r0 g r) : pl (BM_sum_11 L xs (m + 1) d k 0 g r) (kSu w f lb g0 r0 (bd (rv w 4 p (lb + c) false) fun q _ => cs w lb c q)) kN := by
  unfold BM_sum_11
  refine pl_neg (by decide) (pl_neg (by rw [c2_ne, h.2.2.1]; decide) ?_)
  refine pl_u (xM_isSign L xs 0 h.1.mrd h.2.2.2.1) (fun e => pl_neg (by decide) ?_) (fun e => pl_pos (by decide) ?_)
  · unfold BM_sum_53
    refine pl_in (fun c4 => ?_) (fun c4 => ?_)
    · have hl : ¬ 40 ≤ lb + c := by
        intro e2
        have := hC.2.1
        exact c4 (i32e (show _ = (40 : Int) by have := hC.2.2; omega))
      rw [rv4_cs e hl]
      have h1 : Gd w f (p + 1) (upd (upd g fM_level (g fM_level + 1)) fM_at (g fM_at + 1)) r := (h.ug (by decide)).up (wg_iff.mp e).1
      refine pl_n (xA_context h1.1.2.1) (fun _ _ _ e => e) (fun g2 r2 e2 => ?_)
      obtain ⟨-, rfl, hb, x, y, rfl, ex, ey⟩ := e2
      have hb' : 0 ≤ (g fM_contexts).toInt ∧ (g fM_contexts).toInt < 64 := hb
      refine H.2.2 (c + 1) (p + 1) _ _ ?_ ?_ ?_
      · exact ((h1.ug (by decide)).ua (by decide) ex).ua (by decide) ey
      · refine ⟨?_, ?_, by omega⟩
        · show (g fM_contexts + 1).toInt = _
          rw [i32_inc (by omega), hC.1]
          omega
        · show (g fM_level + 1).toInt = _
          have := hC.2
          rw [i32_inc (by omega), hC.2.1]
          omega
      · exact ((((hF.up (by decide)).up (by decide)).up (by decide)).ua (by decide)).ua (by decide)
    · have hl : 40 ≤ lb + c := by
        rw [Decidable.not_not] at c4
        have := hC.2.1
        rw [c4] at this
        have : (40 : Int) = ((lb + c : Nat) : Int) := this
        omega
      rw [rv_t4, if_pos e, if_pos hl, bd_no]
      refine pm_fa h h.2.2.2.1 h.2.2.2.2 (fun g1 r1 h1 f1 => ?_)
      have h2 : Bd w f p (upd (upd g1 fM_level (g1 fM_level + 1)) fM_at (g1 fM_at + 1)) r1 := (h1.ug (by decide)).ug (by decide)
      refine pl_n (xA_context h2.1.2.1) (fun _ _ _ e => e) (fun g2 r2 e2 => ?_)
      obtain ⟨-, rfl, hb, x, y, rfl, ex, ey⟩ := e2
      refine H.1 0 p _ _ ?_ ?_
      · exact ((h2.ug (by decide)).ua (by decide) ex).ua (by decide) ey
      · exact (((((hF.trans f1.x).up (by decide)).up (by decide)).up (by decide)).ua (by decide)).ua (by decide)
  · have e0 : ¬ wg w p 0 = true := by rw [e]; decide
    have hu : (wk w p 1 || wk w p 2) = true → pl (BM_sum_117 L xs (m + 1) d k 0 g r) (kSu w f lb g0 r0 (bd (rv w 4 p (lb + c) false) fun q _ => cs w lb c q)) kN := by
      intro eo
      rw [rv_t4, if_neg e0, if_pos eo, bd_ok]
      have ho : wo w p = true := by
        unfold wo
        rw [eo]
        rfl
      unfold BM_sum_117
      refine pl_v (xM_operand h) (fun _ _ _ e => e) (fun v g1 r1 e1 => ?_)
      obtain ⟨⟨v', ev, ev2⟩, e2, e3⟩ := e1
      cases ev
      rw [if_pos ho] at e2
      refine pl_v (xM_behindUnit (g0 := g0) (r0 := r0) e2 (hC.e e3) (hF.trans e3.x) (ev2 ho)) (fun _ _ _ e => e) (fun v2 g2 r2 e4 => ?_)
      obtain ⟨v3, ev3, hF3, e5⟩ := e4
      cases ev3
      rcases e5 with ⟨hv, hl, q, eq, hq⟩ | ⟨rfl, c', q, hq, hc, eq⟩ | ⟨rfl, b, eq, hb⟩
      · rw [eq]
        exact H.2.1 v2 q g2 r2 hq hF3 hv hl
      · rw [eq]
        exact H.2.2 c' q g2 r2 hq hc hF3
      · rw [eq]
        exact H.1 0 b g2 r2 hb hF3
    refine pl_u (xM_isKind L xs 1 h.1.mrd h.2.2.2.1) (fun e1 => pl_pos (by decide) (hu (by rw [e1]; rfl))) (fun e1 => pl_neg (by decide) ?_)
    refine pl_u (xM_isKind L xs 2 h.1.mrd h.2.2.2.1) (fun e2 => pl_pos (by decide) (hu (by rw [e1, e2]; rfl))) (fun e2 => pl_neg (by decide) ?_)
    rw [rv_t4, if_neg e0, if_neg (by rw [e1, e2]; decide), bd_no]
    refine pm_fa h h.2.2.2.1 h.2.2.2.2 (fun g1 r1 h1 f1 => ?_)
    exact H.1 0 p g1 r1 h1 (hF.trans f1.x)
theorem su_l : ∀ k, SUL L xs m d k w f lb g0 r0
  | 0 => ⟨fun _ _ _ _ _ _ => pl_l0, fun _ _ _ _ _ _ _ _ => pl_l0, fun _ _ _ _ _ _ _ => pl_l0⟩
  | k + 1 => ⟨fun x1 b g r h hF => by
      rw [lM_sum_11]
      exact su_b x1 h hF, fun x1 q g r h hF hx hl => by
      rw [lM_sum_11]
      exact su_v x1 h hF hx hl, fun c p g r h hC hF => by
      rw [lM_sum_11]
      exact su_1 (su_l k) h hC hF⟩
theorem xM_sum {p : Nat} {g : a2_G} {r : a2_A} (h : Gd w f p g r) (hl : (g fM_level).toInt = lb) (hl4 : lb ≤ 40) : pl (ev L xs (m + 1) d nM_sum [.ref cM] g r) (kSu w f lb g r (rv w 0 p lb false)) kN := by
  cases d with
  | zero => trivial
  | succ d =>
    rw [qM_sum, rv_cs]
    have h1 : Gd w f p (upd g fM_contexts 0) r := h.ug (by decide)
    refine pl_n (xA_context h1.1.2.1) (fun _ _ _ e => e) (fun g2 r2 e2 => ?_)
    obtain ⟨-, rfl, hb, x, y, rfl, ex, ey⟩ := e2
    refine su_1 (c := 0) (su_l m) (((h1.ug (by decide)).ua (by decide) ex).ua (by decide) ey) ⟨rfl, ?_, by omega⟩ ((((Fm.rf.up (by decide)).up (by decide)).ua (by decide)).ua (by decide))
    show (g fM_level).toInt = _
    rw [hl]
    rfl
end
