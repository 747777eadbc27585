/-! The model's conditions beside the reader's. -/
theorem bd_so {q : Nat} {s : Bool} {K : Nat → Bool → Option RR} : bd (some (.inl (q, s))) K = K q s := rfl
noncomputable def cd (w : Ws) (lb : Nat) (K : Nat → Int32) : Nat → Nat → Bool → Option RR
  | 0, q, s => bd (rv w 8 q lb s) fun q s => rv w 6 q lb s
  | m + 1, q, s => if K m = -1 then (bd (rv w 8 q (lb + (m + 1)) s) fun q s => bd (rv w 6 q (lb + (m + 1)) s) fun q _ => if wg w q 1 then cd w lb K m (q + 1) false else no q) else cd w lb K m q s
theorem cd_0 (w : Ws) (lb : Nat) (K : Nat → Int32) (q : Nat) (s : Bool) : cd w lb K 0 q s = bd (rv w 8 q lb s) fun q s => rv w 6 q lb s := rfl
theorem cd_1 (w : Ws) (lb : Nat) (K : Nat → Int32) (m q : Nat) (s : Bool) : cd w lb K (m + 1) q s = if K m = -1 then (bd (rv w 8 q (lb + (m + 1)) s) fun q s => bd (rv w 6 q (lb + (m + 1)) s) fun q _ => if wg w q 1 then cd w lb K m (q + 1) false else no q) else cd w lb K m q s := rfl
theorem cd_congr {w : Ws} {lb : Nat} {K K' : Nat → Int32} : ∀ (m : Nat), (∀ i, i < m → K' i = K i) → ∀ q s, cd w lb K' m q s = cd w lb K m q s
  | 0, _, _, _ => rfl
  | m + 1, h, q, s => by
    have ih := cd_congr (w := w) (lb := lb) m (fun i hi => h i (by omega))
    rw [cd_1, cd_1, h m (by omega), ih q s]
    have e : (fun q (s : Bool) => bd (rv w 6 q (lb + (m + 1)) s) fun q _ => if wg w q 1 then cd w lb K' m (q + 1) false else no q) = (fun q (s : Bool) => bd (rv w 6 q (lb + (m + 1)) s) fun q _ => if wg w q 1 then cd w lb K m (q + 1) false else no q) := by
      funext q s
      refine congrArg (bd _) (funext fun q => funext fun s => ?_)
      rw [ih]
    rw [e]
/-- where and / or are read: no NOT is open -/
def tp (K : Nat → Int32) (m : Nat) : Prop := m = 0 ∨ ∃ j, m = j + 1 ∧ K j = -1
theorem cd_and {w : Ws} {lb : Nat} {K : Nat → Int32} {m q : Nat} {s : Bool} (ht : tp K m) (h : ww w q 65 = true) : cd w lb K m q s = bd (rv w 9 (q + 1) (lb + m) s) fun q s => cd w lb K m q s := by
  rcases ht with rfl | ⟨j, rfl, hj⟩
  · rw [cd_0, rv_t8, if_pos h, bd_as]
    rfl
  · rw [cd_1, if_pos hj, rv_t8, if_pos h, bd_as]
    refine congrArg (bd _) (funext fun q => funext fun s => ?_)
    rw [cd_1, if_pos hj]
theorem cd_or {w : Ws} {lb : Nat} {K : Nat → Int32} {m q : Nat} {s : Bool} (ht : tp K m) (h : ww w q 65 = false) (h2 : ww w q 66 = true) : cd w lb K m q s = bd (rv w 9 (q + 1) (lb + m) s) fun q s => cd w lb K m q s := by
  have hn : ¬ ww w q 65 = true := by rw [h]; decide
  rcases ht with rfl | ⟨j, rfl, hj⟩
  · rw [cd_0, rv_t8, if_neg hn]
    show rv w 6 q lb s = _
    rw [rv_t6, if_pos h2, rv_t7, bd_as]
    rfl
  · rw [cd_1, if_pos hj, rv_t8, if_neg hn]
    rw [bd_so]
    rw [rv_t6, if_pos h2, rv_t7, bd_as, bd_as]
    refine congrArg (bd _) (funext fun q => funext fun s => ?_)
    rw [cd_1, if_pos hj]
theorem cd_e0 {w : Ws} {lb : Nat} {K : Nat → Int32} {q : Nat} {s : Bool} (h : ww w q 65 = false) (h2 : ww w q 66 = false) : cd w lb K 0 q s = some (.inl (q, s)) := by
  have hn : ¬ ww w q 65 = true := by rw [h]; decide
  have hn2 : ¬ ww w q 66 = true := by rw [h2]; decide
  rw [cd_0, rv_t8, if_neg hn]
  show rv w 6 q lb s = _
  rw [rv_t6, if_neg hn2]
theorem cd_e1 {w : Ws} {lb : Nat} {K : Nat → Int32} {j q : Nat} {s : Bool} (hj : K j = -1) (h : ww w q 65 = false) (h2 : ww w q 66 = false) : cd w lb K (j + 1) q s = if wg w q 1 then cd w lb K j (q + 1) false else no q := by
  have hn : ¬ ww w q 65 = true := by rw [h]; decide
  have hn2 : ¬ ww w q 66 = true := by rw [h2]; decide
  rw [cd_1, if_pos hj, rv_t8, if_neg hn]
  rw [bd_so]
  rw [rv_t6, if_neg hn2]
  rfl
theorem rv_cd (w : Ws) (p lb : Nat) (K : Nat → Int32) : rv w 5 p lb false = bd (rv w 9 p lb false) fun q s => cd w lb K 0 q s := by
  rw [rv_t5, rv_t7, bd_as]
  rfl
theorem rv9_not {w : Ws} {p lb m : Nat} {s : Bool} {K K' : Nat → Int32} (h : (ww w p 64 && !wc w (p + 1)) = true) (hl : ¬ 40 ≤ lb + m) (hK : ∀ i, i < m → K' i = K i) (hm : K' m ≠ -1) : (bd (rv w 9 p (lb + m) s) fun q s => cd w lb K m q s) = bd (rv w 9 (p + 1) (lb + (m + 1)) s) fun q s => cd w lb K' (m + 1) q s := by
  rw [rv_t9, if_pos h, if_neg hl]
  refine congrArg (bd _) (funext fun q => funext fun s => ?_)
  rw [cd_1, if_neg hm, cd_congr m hK]
theorem rv9_par {w : Ws} {p lb m : Nat} {s : Bool} {K K' : Nat → Int32} (h0 : (ww w p 64 && !wc w (p + 1)) = false) (h : wg w p 0 = true) (hl : ¬ 40 ≤ lb + m) (hK : ∀ i, i < m → K' i = K i) (hm : K' m = -1) : (bd (rv w 9 p (lb + m) s) fun q s => cd w lb K m q s) = bd (rv w 9 (p + 1) (lb + (m + 1)) false) fun q s => cd w lb K' (m + 1) q s := by
  have h0' : ¬ (ww w p 64 && !wc w (p + 1)) = true := by rw [h0]; decide
  rw [rv_t9, if_neg h0', if_pos h, if_neg hl, bd_as, rv_t5, rv_t7, bd_as, bd_as]
  refine congrArg (bd _) (funext fun q => funext fun s => ?_)
  rw [cd_1, if_pos hm]
  refine congrArg (bd _) (funext fun q => funext fun s => ?_)
  refine congrArg (bd _) (funext fun q => funext fun s => ?_)
  rw [bd_ite, bd_ok, bd_no, cd_congr m hK]
def WCc : List Nat := [fM_at, fM_failed, fM_bad, fM_faults, fM_nodes, fM_level, fM_marks, fM_subject, fM_compared, fM_joints]
def WCa : List Nat := [fM_faultNumber, fM_faultWord, fM_kind, fM_value, fM_place, fM_extra, fM_first, fM_last, fM_next, fM_above, fM_mark, fM_andFirst, fM_andLast, fM_andMany, fM_orFirst, fM_orLast, fM_orMany]
abbrev Fc (g : a2_G) (r : a2_A) (g' : a2_G) (r' : a2_A) : Prop := Fm WCc WCa g r g' r'
theorem Fm.c {g g' : a2_G} {r r' : a2_A} (h : Fe g r g' r') : Fc g r g' r' := h.sub (by decide) (by decide)
/-- what has been gathered has a first one -/
def JF (n : Int) (aM aF oM oF : Nat → Int32) : Prop := ∀ i : Nat, (i : Int) < n → (aM i ≠ 0 → 0 < (aF i).toInt) ∧ (oM i ≠ 0 → 0 < (oF i).toInt)
section
variable {n : Int} {aM aF oM oF : Nat → Int32}
theorem JF.le (h : JF n aM aF oM oF) {n' : Int} (hn : n' ≤ n) : JF n' aM aF oM oF := fun i hi => h i (by omega)
theorem JF.am (h : JF n aM aF oM oF) {j : Nat} {x : Int32} (hx : x = 0 ∨ 0 < (aF j).toInt) : JF n (upd aM j x) aF oM oF := fun i hi => by
  refine ⟨fun e => ?_, (h i hi).2⟩
  by_cases c : i = j
  · subst c
    rcases hx with hx | hx
    · rw [upd_eq] at e
      exact absurd hx e
    · exact hx
  · rw [upd_ne c] at e
    exact (h i hi).1 e
theorem JF.af (h : JF n aM aF oM oF) {j : Nat} {x : Int32} (hx : 0 < x.toInt) : JF n aM (upd aF j x) oM oF := fun i hi => by
  refine ⟨fun e => ?_, (h i hi).2⟩
  by_cases c : i = j
  · subst c
    rw [upd_eq]
    exact hx
  · rw [upd_ne c]
    exact (h i hi).1 e
theorem JF.om (h : JF n aM aF oM oF) {j : Nat} {x : Int32} (hx : x = 0 ∨ 0 < (oF j).toInt) : JF n aM aF (upd oM j x) oF := fun i hi => by
  refine ⟨(h i hi).1, fun e => ?_⟩
  by_cases c : i = j
  · subst c
    rcases hx with hx | hx
    · rw [upd_eq] at e
      exact absurd hx e
    · exact hx
  · rw [upd_ne c] at e
    exact (h i hi).2 e
theorem JF.of (h : JF n aM aF oM oF) {j : Nat} {x : Int32} (hx : 0 < x.toInt) : JF n aM aF oM (upd oF j x) := fun i hi => by
  refine ⟨(h i hi).1, fun e => ?_⟩
  by_cases c : i = j
  · subst c
    rw [upd_eq]
    exact hx
  · rw [upd_ne c]
    exact (h i hi).2 e
theorem JF.ps {j : Nat} (h : JF j aM aF oM oF) : JF ((j : Int) + 1) (upd aM j 0) aF (upd oM j 0) oF := fun i hi => by
  by_cases c : i = j
  · subst c
    rw [upd_eq, upd_eq]
    exact ⟨fun e => absurd rfl e, fun e => absurd rfl e⟩
  · rw [upd_ne c, upd_ne c]
    exact h i (by omega)
end
def Jx (g : a2_G) (r : a2_A) : Prop := JF (g fM_joints).toInt (r fM_andMany).2 (r fM_andFirst).2 (r fM_orMany).2 (r fM_orFirst).2
def Dx (lb c : Nat) (g : a2_G) (r : a2_A) : Prop := (g fM_marks).toInt = c ∧ (g fM_level).toInt = ((lb + c : Nat) : Int) ∧ lb + c ≤ 40 ∧ Jx g r
theorem Dx.e {lb c : Nat} {g g' : a2_G} {r r' : a2_A} (h : Dx lb c g r) (hF : Fe g r g' r') : Dx lb c g' r' := by
  unfold Dx Jx
  rw [hF.1 fM_marks (by decide), hF.1 fM_level (by decide), hF.1 fM_joints (by decide), hF.2 fM_andMany (by decide), hF.2 fM_andFirst (by decide), hF.2 fM_orMany (by decide), hF.2 fM_orFirst (by decide)]
  exact h
def Sj (s : Bool) (g : a2_G) : Prop := if s = true then 0 < (g fM_subject).toInt else g fM_subject = 0
theorem Sj.eq {s : Bool} {g g' : a2_G} (h : Sj s g) (e : g' fM_subject = g fM_subject) : Sj s g' := by
  unfold Sj
  rw [e]
  exact h
theorem Sj.e {s : Bool} {g g' : a2_G} {r r' : a2_A} (h : Sj s g) (hF : Fe g r g' r') : Sj s g' := h.eq (hF.1 fM_subject (by decide))
def kF (w : Ws) (f : Gh) (lb : Nat) (g0 : a2_G) (r0 : a2_A) (A : Option RR) : Option Value → a2_G → a2_A → Prop := fun o g r => ∃ v : Int32, o = some (.int v) ∧ Fc g0 r0 g r ∧
  ((0 < v.toInt ∧ (g fM_level).toInt = lb ∧ ∃ q s, A = some (.inl (q, s)) ∧ Gd w f q g r) ∨
   (v = 0 ∧ ∃ c q s, Gd w f q g r ∧ Dx lb c g r ∧ Sj s g ∧ A = bd (rv w 9 q (lb + c) s) fun q s => cd w lb (r fM_mark).2 c q s) ∨
   (v = 0 ∧ ∃ b, A = no b ∧ Bd w f b g r))
section
variable {L : Nat} {xs : Nat → Int32} {m d k : Nat} {w : Ws} {f : Gh} {lb : Nat} {g0 : a2_G} {r0 : a2_A}
def WHL (L : Nat) (xs : Nat → Int32) (m d k : Nat) (w : Ws) (f : Gh) (g0 : a2_G) (r0 : a2_A) : Prop := ∀ (x1 x2 x3 x4 x5 x6 x7 x8 : Int32) (g : a2_G) (r : a2_A), Sx w f g r → Fm [fM_nodes] WEa g0 r0 g r → 0 < x5.toInt → pl (lp L xs nM_whole nm_m208 (m + 1) d k 28 [some (.ref cM), some (.int x1), some (.int x2), some (.int x3), some (.int x4), some (.int x5), some (.int x6), some (.int x7), some (.int x8)] g r) (fun o g' r' => (∃ v : Int32, o = some (.int v) ∧ 0 < v.toInt) ∧ Sx w f g' r' ∧ Fm [fM_nodes] WEa g0 r0 g' r') kN
theorem wh_1 (H : WHL L xs m d k w f g0 r0) (x1 x2 x3 x4 x5 x6 x7 x8 : Int32) {g : a2_G} {r : a2_A} (h : Sx w f g r) (hF : Fm [fM_nodes] WEa g0 r0 g r) (h5 : 0 < x5.toInt) : pl (BM_whole_28_1 L xs (m + 1) d k x1 x2 x3 x4 x5 x6 x7 x8 g r) (fun o g' r' => (∃ v : Int32, o = some (.int v) ∧ 0 < v.toInt) ∧ Sx w f g' r' ∧ Fm [fM_nodes] WEa g0 r0 g' r') kN := by
  unfold BM_whole_28_1
  refine pl_if (fun _ => ⟨⟨_, rfl, h5⟩, h, hF⟩) (fun _ => pl_if (fun _ => ?_) (fun _ => trivial))
  refine pl_n (xA_attach _ _ h) (fun _ _ _ e => e) (fun g2 r2 e2 => ?_)
  exact H _ _ _ _ _ _ _ _ g2 r2 e2.2.1 (hF.trans e2.2.2) h5
theorem wh_l : ∀ k, WHL L xs m d k w f g0 r0
  | 0 => fun _ _ _ _ _ _ _ _ _ _ _ _ _ => pl_l0
  | k + 1 => fun x1 x2 x3 x4 x5 x6 x7 x8 g r h hF h5 => by
    rw [lM_whole_28_1]
    exact wh_1 (wh_l k) x1 x2 x3 x4 x5 x6 x7 x8 h hF h5
theorem xA_whole (a1 : Int32) {a2 : Int32} (a3 a4 : Int32) {g : a2_G} {r : a2_A} (h : Sx w f g r) (hv : 0 < a2.toInt) : pl (ev L xs (m + 1) d nM_whole [.ref cM, .int a1, .int a2, .int a3, .int a4] g r) (fun o g' r' => (∃ v : Int32, o = some (.int v) ∧ 0 < v.toInt) ∧ Sx w f g' r' ∧ Fm [fM_nodes] WEa g r g' r') kN := by
  cases d with
  | zero => trivial
  | succ d =>
    rw [qM_whole]
    refine pl_if (fun _ => pl_if (fun _ => ?_) (fun _ => trivial)) (fun _ => ⟨⟨_, rfl, hv⟩, h, Fm.rf⟩)
    refine pl_v (xA_make _ _ _ h) (fun _ _ _ e => e) (fun v g1 r1 e => ?_)
    obtain ⟨⟨v', e0, e1⟩, e2, e4⟩ := e
    cases e0
    exact wh_1 (wh_l m) a1 a2 a3 a4 v a2 0 0 e2 e4 e1
theorem xM_isComparing {p : Nat} {g : a2_G} {r : a2_A} {a : Int32} (h : Mrd w g r) (ha : a.toInt = p) : pl (ev L xs (m + 1) d nM_isComparing [.ref cM, .int a] g r) (kE g r (b2i (wc w p))) kN := by
  cases d with
  | zero => trivial
  | succ d =>
    have en : a.toNatClampNeg = p := by rw [nc_eq, ha]; rfl
    rw [qM_isComparing]
    have h23 : (wk w p 5 && (decide (2 ≤ (w.2.1 p).toInt) && decide ((w.2.1 p).toInt ≤ 4))) = false → pl (BM_isComparing_23 L xs (m + 1) d m a g r) (kE g r (b2i (wc w p))) kN := by
      intro e5
      unfold BM_isComparing_23 BM_isComparing_52 BM_isComparing_48 BM_isComparing_53 wc
      rw [e5, Bool.false_or]
      refine pl_u (xM_isKind L xs 0 h ha) (fun e => pl_neg (by decide) ?_) (fun e => pl_pos (by decide) (pl_pos (by decide) ⟨by rw [e]; rfl, rfl, rfl⟩))
      refine pl_if (fun _ => ?_) (fun _ => trivial)
      rw [en, h.2.1]
      refine pl_u xM_in (fun e2 => pl_neg (by decide) (pl_pos (by decide) ⟨?_, rfl, rfl⟩)) (fun e2 => pl_pos (by decide) (pl_pos (by decide) ⟨?_, rfl, rfl⟩))
      · rw [e]
        exact congrArg (fun b => some (Value.int (b2i b))) e2.symm
      · rw [e]
        exact congrArg (fun b => some (Value.int (b2i b))) e2.symm
    refine pl_u (xM_isKind L xs 5 h ha) (fun e => pl_neg (by decide) ?_) (fun e => pl_pos (by decide) (h23 (by rw [e]; rfl)))
    refine pl_if (fun _ => ?_) (fun _ => trivial)
    rw [en, h.2.1]
    refine pl_u xM_in (fun e2 => pl_pos (by decide) ?_) (fun e2 => pl_neg (by decide) (h23 ?_))
    · unfold BM_isComparing_48 BM_isComparing_53
      refine pl_pos (by decide) ⟨?_, rfl, rfl⟩
      have e3 : (decide (2 ≤ (w.2.1 p).toInt) && decide ((w.2.1 p).toInt ≤ 4)) = true := e2
      unfold wc
      rw [e, e3]
      rfl
    · have e3 : (decide (2 ≤ (w.2.1 p).toInt) && decide ((w.2.1 p).toInt ≤ 4)) = false := e2
      rw [e3, Bool.and_false]
theorem xM_isBehind {p : Nat} {g : a2_G} {r : a2_A} (h : Gd w f p g r) : pl (ev L xs (m + 1) d nM_isBehind [.ref cM] g r) (kE g r (b2i (wm w p))) kN := by
  cases d with
  | zero => trivial
  | succ d =>
    rw [qM_isBehind]
    unfold BM_isBehind_50 BM_isBehind_39 BM_isBehind_55 wm
    refine pl_u (xM_isWord L xs 67 h.1.mrd h.2.2.2.1) (fun e => pl_pos (by decide) (pl_pos (by decide) ⟨by rw [e]; rfl, rfl, rfl⟩)) (fun e => pl_neg (by decide) ?_)
    rw [e, Bool.false_or]
    have h39 : (ww w p 64 && wc w (p + 1)) = false → pl (fn_v (ev L xs (m + 1) d nM_isComparing [.ref cM, .int (g fM_at)] g r) fun v9 g7 r8 => (if am_c2 .eq v9 0 = true then (if (0 : Int32) = 0 ∨ (0 : Int32) = 1 then some (.inl (some (.int 0)), g7, r8) else none) else (BM_isBehind_50 L xs (m + 1) d m g7 r8))) (kE g r (b2i (wc w p || ww w p 64 && wc w (p + 1)))) kN := by
      intro e5
      rw [e5, Bool.or_false]
      unfold BM_isBehind_50 BM_isBehind_55
      exact pl_u (xM_isComparing h.1.mrd h.2.2.2.1) (fun e2 => pl_neg (by decide) (pl_pos (by decide) ⟨by rw [e2]; rfl, rfl, rfl⟩)) (fun e2 => pl_pos (by decide) (pl_pos (by decide) ⟨by rw [e2]; rfl, rfl, rfl⟩))
    refine pl_u (xM_isWord L xs 64 h.1.mrd h.2.2.2.1) (fun e2 => pl_neg (by decide) ?_) (fun e2 => pl_pos (by decide) (h39 (by rw [e2]; rfl)))
    refine pl_u (xM_isComparing h.1.mrd h.add) (fun e3 => pl_pos (by decide) (pl_pos (by decide) ⟨by rw [e2, e3, Bool.and_true, Bool.or_true]; rfl, rfl, rfl⟩)) (fun e3 => pl_neg (by decide) (h39 (by rw [e3, Bool.and_false])))
/-- comparing words, value by value -/
theorem ww_k {p : Nat} {v : Int32} (h : wk w p 0 = false) : ww w p v = false := by
  unfold ww
  rw [h]
  rfl
theorem wk_x {p : Nat} {a b : Int32} (h : wk w p a = true) (hab : a ≠ b) : wk w p b = false := wk_f (fun e => hab ((wk_iff.mp h).2.symm.trans e.2))
theorem rcmp2_no {q : Nat} (h : wc w q = false) : rcmp2 w q = .inr q := by
  have hw : ∀ v : Int32, 68 ≤ v.toInt → v.toInt ≤ 70 → ww w q v = false := fun v h1 h2 => Bool.eq_false_iff.mpr (fun e => by
    obtain ⟨a, b, c⟩ := ww_iff.mp e
    exact absurd (wc_iff.mpr ⟨a, Or.inr ⟨b, by rw [c]; exact ⟨h1, h2⟩⟩⟩) (by rw [h]; decide))
  have hs : (wk w q 5 && (decide (2 ≤ (w.2.1 q).toInt) && decide ((w.2.1 q).toInt ≤ 4))) = false := by
    unfold wc at h
    rw [Bool.or_eq_false_iff] at h
    exact h.1
  unfold rcmp2
  rw [hw 68 (by decide) (by decide), hw 70 (by decide) (by decide), hw 69 (by decide) (by decide), hs]
  rfl
theorem rcmp2_sg {q : Nat} (h : wc w q = true) (hk : wk w q 5 = true) : rcmp2 w q = ropd w (q + 1) := by
  have h0 := wk_x (b := 0) hk (by decide)
  have hs : (wk w q 5 && (decide (2 ≤ (w.2.1 q).toInt) && decide ((w.2.1 q).toInt ≤ 4))) = true := by
    unfold wc at h
    rw [h0, Bool.false_and, Bool.or_false] at h
    exact h
  unfold rcmp2
  rw [ww_k h0, ww_k h0, ww_k h0, hs]
  rfl
theorem rcmp2_68 {q : Nat} (hk : wk w q 0 = true) (hv : w.2.1 q = 68) : rcmp2 w q = ropd w (sk (ww w (q + 1) 48) (q + 1)) := by
  unfold rcmp2
  rw [if_pos (ww_iff.mpr ⟨(wk_iff.mp hk).1, (wk_iff.mp hk).2, hv⟩)]
theorem rcmp2_7x {q : Nat} (h : wc w q = true) (hk : wk w q 0 = true) (hv : w.2.1 q ≠ 68) : rcmp2 w q = ropd w (sk (ww w (q + 1) 71) (q + 1)) := by
  obtain ⟨a, b⟩ := wk_iff.mp hk
  have h5 := wk_x (b := 5) hk (by decide)
  have hr : 68 ≤ (w.2.1 q).toInt ∧ (w.2.1 q).toInt ≤ 70 := by
    rcases (wc_iff.mp h).2 with e | e
    · rw [b] at e
      exact absurd e.1 (by decide)
    · exact e.2
  have n68 : ¬ ww w q 68 = true := fun e => hv (ww_iff.mp e).2.2
  unfold rcmp2
  rw [if_neg n68]
  by_cases c : w.2.1 q = 70
  · rw [if_pos (ww_iff.mpr ⟨a, b, c⟩)]
  · rw [if_neg (fun e => c (ww_iff.mp e).2.2)]
    have c69 : w.2.1 q = 69 := i32e (show _ = (69 : Int) by
      have n1 : (w.2.1 q).toInt ≠ 68 := fun e => hv (i32e (e.trans rfl))
      have n2 : (w.2.1 q).toInt ≠ 70 := fun e => c (i32e (e.trans rfl))
      omega)
    rw [if_pos (ww_iff.mpr ⟨a, b, c69⟩)]
def kCm (w : Ws) (f : Gh) (g0 : a2_G) (r0 : a2_A) (A : RR) : Option Value → a2_G → a2_A → Prop := fun o g r => o = none ∧ sM w f (some A) g r ∧ Fm (fM_compared :: WE) WEa g0 r0 g r
theorem Fm.cm {g g' : a2_G} {r r' : a2_A} (h : Fe g r g' r') : Fm (fM_compared :: WE) WEa g r g' r' := h.sub (fun k hk => List.mem_cons_of_mem _ hk) (fun _ e => e)
theorem cm_153 (x1 x2 x3 x4 x5 x6 : Int32) {q : Nat} {g : a2_G} {r : a2_A} (h : Gd w f q g r) (hF : Fm (fM_compared :: WE) WEa g0 r0 g r) : pl (BM_compare_153 L xs (m + 1) d k x1 x2 x3 x4 x5 x6 g r) (kCm w f g0 r0 (ropd w q)) kN := by
  unfold BM_compare_153
  refine pl_if (fun _ => ?_) (fun _ => trivial)
  have h1 : Gd w f q (upd g fM_compared (x6 + x3)) (a2_ua r fM_value ((r fM_value).1, (upd (r fM_value).2 x1.toNatClampNeg (x6 + x3)))) := (h.ug (by decide)).ua (by decide) (by rfl)
  refine pl_n (xM_operandOf x1 h1) (fun _ _ _ e => e) (fun g2 r2 e => ?_)
  obtain ⟨-, e2, e3⟩ := e
  refine ⟨rfl, ?_, ((hF.up (by decide)).ua (by decide)).trans e3.cm⟩
  unfold ropd
  by_cases c : wo w q = true
  · rw [if_pos c] at e2 ⊢
    exact e2
  · rw [if_neg c] at e2 ⊢
    exact e2
theorem xM_compare (a : Int32) {q : Nat} {g : a2_G} {r : a2_A} (h : Gd w f q g r) : pl (ev L xs (m + 1) d nM_compare [.ref cM, .int a] g r) (kCm w f g r (rcmp w q)) kN := by
  cases d with
  | zero => trivial
  | succ d =>
    rw [qM_compare]
    unfold rcmp
    refine pm_mb h (fun v1 g1 h1 f1 => ?_)
    unfold rcmp1
    refine pm_mb h1 (fun v2 g2 h2 f2 => ?_)
    generalize sk (ww w (sk (ww w q 67) q) 64) (sk (ww w q 67) q) = p at h2
    have hF := (f1.trans f2).cm
    have h21 : ∀ x3, pl (BM_compare_21 L xs (m + 1) d m a v1 x3 g2 r) (kCm w f g r (rcmp2 w p)) kN := by
      intro x3
      unfold BM_compare_21
      refine pl_neg (by rw [c2_ne, h2.2.2.1]; decide) ?_
      refine pl_u (xM_isComparing h2.1.mrd h2.2.2.2.1) (fun e => pl_pos (by decide) ?_) (fun e => pl_neg (by decide) ?_)
      · have hp : p < w.2.2 := (wc_iff.mp e).1
        refine pl_if (fun _ => ?_) (fun _ => trivial)
        rw [h2.nat, h2.1.mrd.1]
        have hu := h2.up hp
        have hFu := hF.up (k := fM_at) (x := g2 fM_at + 1) (by decide)
        refine pl_in (fun c5 => ?_) (fun c5 => ?_)
        · have hk : wk w p 0 = true := by
            refine wk_iff.mpr ⟨hp, ?_⟩
            rcases (wc_iff.mp e).2 with q | q
            · exact absurd q.1 c5
            · exact q.1
          unfold BM_compare_69
          rw [h2.nat, h2.1.mrd.2.1]
          refine pl_if (fun _ => pl_pos (by decide) ?_) (fun _ => trivial)
          have h127 : ∀ x6, pl (BM_compare_127 L xs (m + 1) d m a v1 x3 0 (w.2.1 p) x6 (upd g2 fM_at (g2 fM_at + 1)) r) (kCm w f g r (rcmp2 w p)) kN := by
            intro x6
            unfold BM_compare_127 BM_compare_149
            refine pl_neg (by decide) ?_
            refine pl_in (fun c8 => ?_) (fun c8 => ?_)
            · rw [rcmp2_7x e hk c8]
              refine pm_mb hu (fun v3 g3 h3 f3 => ?_)
              exact cm_153 _ _ _ _ _ _ h3 (hFu.trans f3.cm)
            · rw [rcmp2_68 hk (Decidable.not_not.mp c8)]
              refine pm_mb hu (fun v3 g3 h3 f3 => ?_)
              exact cm_153 _ _ _ _ _ _ h3 (hFu.trans f3.cm)
          exact pl_if (fun _ => pl_if (fun _ => h127 _) (fun _ => h127 _)) (fun _ => h127 _)
        · have hk : wk w p 5 = true := wk_iff.mpr ⟨hp, Decidable.not_not.mp c5⟩
          rw [rcmp2_sg e hk]
          unfold BM_compare_69
          refine pl_if (fun _ => pl_neg (by decide) ?_) (fun _ => trivial)
          unfold BM_compare_127
          refine pl_pos (by decide) ?_
          exact cm_153 _ _ _ _ _ _ hu hFu
      · rw [rcmp2_no e]
        unfold BM_compare_40
        refine pm_fa h2 h2.2.2.2.1 h2.2.2.2.2 (fun g3 r3 h3 f3 => ?_)
        exact ⟨rfl, h3, hF.trans f3.cm⟩
    exact pl_if (fun _ => h21 0) (fun _ => h21 3)
end
