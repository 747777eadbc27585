/-! The law's loop. -/
theorem am_tt {F : am_F} {cl : List vw_C} {ms : Nat → Option am_M} {E : am_EvT} {M : am_M} {r : am_O × am_H} {pc : Nat} {L : am_L} {S : List Value} {h : am_H} {d lo hi off : Int} {offs : Array Int} {len t : Nat} {x : Int32} (h1 : (am_cd M).lookup pc = some (.tableswitch d lo hi offs, len)) (hx : ¬ (x.toInt < lo ∨ hi < x.toInt)) (h2 : offs[(x.toInt - lo).toNat]? = some off) (h3 : am_to pc off = some t) (k : am_Go F cl ms E M r (none, t, L, S, h)) : am_Go F cl ms E M r (none, pc, L, .int x :: S, h) :=
  am_Go.step (Or.inl ⟨pc, L, .int x :: S, h, _, _, (t, L, S, h), rfl, h1, by simp only [am_st, if_neg hx, h2, h3], rfl⟩) k
/-- a cell that the registers don't know may change -/
theorem rel_set {rho : Nat → Nat} {g : a2_G} {r : a2_A} {h : am_H} (hR : a2_Rel nm_Y rho g r h) {k n : Nat} {f f' : Nat → Int64} (hk : h[k]? = some (.inr (.inr (n, f)))) : a2_Rel nm_Y rho g r (h.set k (.inr (.inr (n, f')))) := by
  obtain ⟨h1, h2, h3, h4, h5⟩ := hR
  refine ⟨fun ci hc => ?_, fun ci j x hx => ?_, fun ci j x hx => ?_, h4, h5⟩
  · have h6 := h1 ci hc
    rw [List.getElem?_set_ne (fun e => by rw [← e, hk] at h6; cases h6)]
    exact h6
  · have h6 := h2 ci j x hx
    rw [List.getElem?_set_ne (fun e => by rw [← e, hk] at h6; cases h6)]
    exact h6
  · have h6 := h3 ci j x hx
    rw [List.getElem?_set_ne (fun e => by rw [← e, hk] at h6; cases h6)]
    exact h6
theorem hN.set {C : Nat → Prop} {rho : Nat → Nat} {g : a2_G} {r : a2_A} {h : am_H} {t : Nat} {rho' : Nat → Nat} {g' : a2_G} {r' : a2_A} {h' : am_H} (a : hN C rho g r h t rho' g' r' h') {k n : Nat} {f f' : Nat → Int64} (hk : h'[k]? = some (.inr (.inr (n, f)))) : hN C rho g r h t rho' g' r' (h'.set k (.inr (.inr (n, f')))) := by
  obtain ⟨a1, a2, ⟨a3, a4⟩, a5, a6⟩ := a
  refine ⟨rel_set a1 hk, a2, ⟨?_, ?_⟩, a5.trans (am_Lk.setL hk), a6⟩
  · rw [List.length_set]
    exact a3
  · rw [am_sz_set (e' := .inr (.inr (n, f'))) hk rfl]
    exact a4
theorem hy_c41 : nm_ct.lookup ("CobolParserLaw", 7) = some (42, 0) := by decide +kernel
def CF2 (w : Ws) (c0 : CU) (g : a2_G) (r : a2_A) : Prop := (g fR_faultSize ≠ 0 ∧ kz0 g) ∨ (g fR_faultSize = 0 ∧ ∃ y, Rx w true c0 x0 0 0 y ∧ oE y.1 = false ∧ TCF y g r)
theorem CF.two {w : Ws} {c0 : CU} {o : am_O} {g : a2_G} {r : a2_A} (h : CF w c0 o g r) : CF2 w c0 g r := h.imp (fun e => ⟨e.1, e.2.1⟩) (fun e => ⟨e.1, e.2.2⟩)
/-- the law's own parse: what is thrown is caught -/
theorem hy_lparse {L : Nat} {xs : Nat → Int32} {rho : Nat → Nat} {g : a2_G} {r : a2_A} {h : am_H} (hR : a2_Rel nm_Y rho g r h) (hc : CI g r) {f : Nat → Int64} (h60 : h[60]? = some (.inr (.inr (1, f)))) : ∃ (v : Int32) (h' : am_H) (rho' : Nat → Nat) (g' : a2_G) (r' : a2_A), am_Ev (nm_F L xs) nm_cls nm_ms 683 41 [.ref (rho 0), .ref 60] h (.inl (some (.int v))) h' ∧ hN cpCC rho g r h (if (g fR_size).toInt = 0 then 1 else 1501) rho' g' r' h' ∧ CI g' r' ∧ g' fR_size = 0 ∧ ∃ c0 x, oN c0 = 0 ∧ zX (wR g r) c0 0 0 x ∧ g' fR_faultSize = zN x ∧ CF2 (wR g r) c0 g' r' := by
  obtain ⟨o, h', e1, rho', g', r', ho, hn, hc', hs0, c0, y0, h00, hx0, hf0, hcf⟩ := hy_parse (L := L) (xs := xs) hR hc
  have hs : g' fR_size = 0 ∧ ∃ c0 x, oN c0 = 0 ∧ zX (wR g r) c0 0 0 x ∧ g' fR_faultSize = zN x ∧ CF2 (wR g r) c0 g' r' := ⟨hs0, c0, y0, h00, hx0, hf0, hcf.two⟩
  have e2 : am_Ev (nm_F L xs) nm_cls nm_ms 682 42 [.ref (rho 0)] h o h' := am_em nm_m42 rfl rfl (by decide) rfl e1
  obtain ⟨f', h60'⟩ := hn.2.2.2.1 60 1 f h60
  have hrc : am_rc nm_cls nm_m42 [.ref (rho 0)] h := ⟨rho 0, 0, _, [], _, rfl, hR.1 0 (by decide), rfl, rfl⟩
  have hstep : ∀ (q : am_O × am_H), am_Go (nm_F L xs) nm_cls nm_ms (am_Ev (nm_F L xs) nm_cls nm_ms 682) nm_m41 q (am_bk 3 [some (.ref (rho 0)), some (.ref 60), none] [.int 0, .ref 60] o h') → am_Go (nm_F L xs) nm_cls nm_ms (am_Ev (nm_F L xs) nm_cls nm_ms 682) nm_m41 q (none, 0, am_ent nm_m41 [.ref (rho 0), .ref 60], [], h) := fun q k => am_rg (p1_a0 L xs) 3 (b := (3, [some (.ref (rho 0)), some (.ref 60), none], [.ref (rho 0), .int 0, .ref 60], h)) rfl (am_Go.step (Or.inr (Or.inl ⟨3, [some (.ref (rho 0)), some (.ref 60), none], [.ref (rho 0), .int 0, .ref 60], h, .invokevirtual 7, 3, 42, 0, nm_m42, [.ref (rho 0)], [.int 0, .ref 60], o, h', rfl, rfl, am_kv hy_c41 (Or.inl rfl), by decide, rfl, rfl, rfl, fun _ => hrc, fun e => absurd e (by decide), by decide, e2, rfl⟩)) k)
  rcases ho with ⟨v, rfl⟩ | ⟨k, rfl⟩
  · refine ⟨0, h'.set 60 (.inr (.inr (1, vp_updL f' 0 v.toInt64))), rho', g', r', am_em nm_m41 rfl rfl (by decide) rfl (hstep _ ?_), hn.set h60', hc', hs⟩
    show am_Go _ _ _ _ _ _ (none, 6, [some (.ref (rho 0)), some (.ref 60), none], [.int v, .int 0, .ref 60], h')
    refine am_rg (p1_a0 L xs) 1 (b := (7, [some (.ref (rho 0)), some (.ref 60), none], [.long v.toInt64, .int 0, .ref 60], h')) rfl ?_
    refine am_Go.step (Or.inl ⟨7, [some (.ref (rho 0)), some (.ref 60), none], [.long v.toInt64, .int 0, .ref 60], h', _, _, (8, [some (.ref (rho 0)), some (.ref 60), none], [], h'.set 60 (.inr (.inr (1, vp_updL f' 0 v.toInt64)))), rfl, rfl, ?_, rfl⟩) ?_
    · simp only [am_st, h60']
      rfl
    · refine am_rg (p1_a0 L xs) 2 (b := (15, [some (.ref (rho 0)), some (.ref 60), none], [.int 0], h'.set 60 (.inr (.inr (1, vp_updL f' 0 v.toInt64))))) rfl ?_
      exact am_ri rfl rfl rfl
  · refine ⟨1, h', rho', g', r', am_em nm_m41 rfl rfl (by decide) rfl (hstep _ ?_), hn, hc', hs⟩
    refine am_Go.step (Or.inr (Or.inr (Or.inr (Or.inr (Or.inr ⟨3, [some (.ref (rho 0)), some (.ref 60), none], [.int 0, .ref 60], h', 11, k, 0, 8, 11, rfl, rfl, by decide, by decide, rfl⟩))))) ?_
    refine am_rg (p1_a0 L xs) 2 (b := (13, [some (.ref (rho 0)), some (.ref 60), some (.ref k)], [.int 1], h')) rfl ?_
    exact am_ri rfl rfl rfl
def pot (g : a2_G) : Nat := if 0 < (g fR_size).toInt then 751 else 0
theorem pot_le (g : a2_G) : pot g ≤ 751 := by
  unfold pot
  split <;> omega
/-- the same words, faults and trees -/
def Wq2 (g : a2_G) (r : a2_A) : Prop := Wq g r ∧ SMF g r
theorem Wq2.th {g : a2_G} {r : a2_A} (h : Wq2 g r) : Wq2 (upd g fM_thrown 0) r := ⟨h.1, h.2.fr (fun k hk => upd_ne (fun e => by rw [e] at hk; exact absurd hk (by decide))) rfl rfl rfl rfl (fun _ _ => rfl)⟩
/-- what holds between two calls of the script -/
def LI (c : Nat) (rho : Nat → Nat) (g : a2_G) (r : a2_A) (h : am_H) : Prop := a2_Rel nm_Y rho g r h ∧ (rho 0 = 0 ∧ rho 9 = 20 ∧ ∃ f : Nat → Int64, h[60]? = some (.inr (.inr (1, f)))) ∧ CI g r ∧ MI g r ∧ g fR_size = g fM_size ∧ h.length + pot g ≤ 61 + a2_ln nm_RG r + 751 * c ∧ am_sz h + 6 * pot g ≤ 4593962 + 2 * a2_ln nm_RG r + 4506 * c ∧ Wq2 g r
theorem LI.up {c : Nat} {rho : Nat → Nat} {g : a2_G} {r : a2_A} {h : am_H} (a : LI c rho g r h) : LI (c + 1) rho g r h := by
  obtain ⟨a1, a2, a3, a4, a5, a6, a7, a8⟩ := a
  exact ⟨a1, a2, a3, a4, a5, by omega, by omega, a8⟩
theorem LI.mi {c t : Nat} {rho : Nat → Nat} {g : a2_G} {r : a2_A} {h : am_H} (a : LI c rho g r h) {rho1 : Nat → Nat} {g1 : a2_G} {r1 : a2_A} {h1 : am_H} (hn : hN cpCC rho g r h t rho1 g1 r1 h1) : MI g1 r1 := a.2.2.2.1.fr hn.2.2.2.2.nc.1 hn.2.2.2.2.nc.2
theorem LI.next {c t : Nat} {rho : Nat → Nat} {g : a2_G} {r : a2_A} {h : am_H} (a : LI c rho g r h) {rho1 : Nat → Nat} {g1 : a2_G} {r1 : a2_A} {h1 : am_H} (hn : hN cpCC rho g r h t rho1 g1 r1 h1) {rho2 : Nat → Nat} {g2 : a2_G} {r2 : a2_A} {h2 : am_H} (hn2 : hN cpMM rho1 g1 r1 h1 0 rho2 g2 r2 h2) (hc : CI g1 r1) (hm : MI g2 r2) (he : g1 fR_size = g2 fM_size) (ht : t + pot g1 ≤ 751 + pot g) (hw : Wq2 g2 r2) : LI (c + 1) rho2 g2 r2 h2 := by
  obtain ⟨a1, ⟨a2, a3, f, a4⟩, a5, a6, a7, a8, a9, -⟩ := a
  obtain ⟨f1, b1⟩ := hn.2.2.2.1 60 1 f a4
  have e : g2 fR_size = g1 fR_size := hn2.2.2.2.2.nm.1 _ (by decide)
  have ep : pot g2 = pot g1 := by
    unfold pot
    rw [e]
  obtain ⟨c1, c2⟩ := hn.2.2.1
  obtain ⟨d1, d2⟩ := hn2.2.2.1
  refine ⟨hn2.1, ⟨?_, ?_, hn2.2.2.2.1 60 1 f1 b1⟩, hc.fr hn2.2.2.2.2.nm.1 hn2.2.2.2.2.nm.2, hm, e.trans he, ?_, ?_, hw⟩
  · rw [hn2.rho 0 (by decide), hn.rho 0 (by decide)]
    exact a2
  · rw [hn2.rho 9 (by decide), hn.rho 9 (by decide)]
    exact a3
  · rw [ep]
    omega
  · rw [ep]
    omega
/-- how the law ends -/
def qL (o : am_O) (h : am_H) : Prop := o = .inl (some (.int 1)) ∧ h.length ≤ 601024 ∧ am_sz h ≤ 7293034
abbrev lLA (i : Int32) (v5 v6 : Option Value) : am_L := [some (.retAddr 0), some (.ref 0), some (.ref 20), some (.ref 60), some (.int i), v5, v6]
theorem lc19 : nm_ct.lookup ("CobolParserLaw", 19) = some (9, 0) := by decide +kernel
theorem lc23 : nm_ct.lookup ("CobolParserLaw", 23) = some (157, 0) := by decide +kernel
theorem lc29 : nm_ct.lookup ("CobolParserLaw", 29) = some (159, 0) := by decide +kernel
theorem lc30 : nm_ct.lookup ("CobolParserLaw", 30) = some (14, 0) := by decide +kernel
theorem lc33 : nm_ct.lookup ("CobolParserLaw", 33) = some (226, 0) := by decide +kernel
theorem lc34 : nm_ct.lookup ("CobolParserLaw", 34) = some (24, 0) := by decide +kernel
theorem lc37 : nm_ct.lookup ("CobolParserLaw", 37) = some (228, 0) := by decide +kernel
theorem lc38 : nm_ct.lookup ("CobolParserLaw", 38) = some (26, 0) := by decide +kernel
theorem lc41 : nm_ct.lookup ("CobolParserLaw", 41) = some (229, 0) := by decide +kernel
theorem lc42 : nm_ct.lookup ("CobolParserLaw", 42) = some (28, 0) := by decide +kernel
theorem lc45 : nm_ct.lookup ("CobolParserLaw", 45) = some (230, 0) := by decide +kernel
theorem lc46 : nm_ct.lookup ("CobolParserLaw", 46) = some (31, 0) := by decide +kernel
theorem lc49 : nm_ct.lookup ("CobolParserLaw", 49) = some (231, 0) := by decide +kernel
theorem lc50 : nm_ct.lookup ("CobolParserLaw", 50) = some (35, 0) := by decide +kernel
theorem lc53 : nm_ct.lookup ("CobolParserLaw", 53) = some (232, 0) := by decide +kernel
theorem lc54 : nm_ct.lookup ("CobolParserLaw", 54) = some (37, 0) := by decide +kernel
theorem lc58 : nm_ct.lookup ("CobolParserLaw", 58) = some (233, 0) := by decide +kernel
theorem lc24 : nm_ct.lookup ("CobolParserLaw", 24) = some (41, 2) := by decide +kernel
section
variable {L : Nat} {xs : Nat → Int32} {c : Nat} {i : Int32} {v5 v6 : Option Value} {rho : Nat → Nat} {g : a2_G} {r : a2_A} {h : am_H}
/-- the script's next int -/
theorem li1 (hL : L ≤ 1536) (hi : i.toInt = 3 * (c : Int)) (hr : 3 * c + 3 ≤ L) : am_inr (i + 1) (am_sn (nm_F L xs)) = true := by
  rw [inr_eq]
  have e : (i + 1).toInt = i.toInt + 1 := ad_eq (by show -2147483648 ≤ i.toInt + 1; omega) (by show i.toInt + 1 < 2147483648; omega)
  show 0 ≤ (i + 1).toInt ∧ (i + 1).toInt < (L : Int)
  omega
theorem li2 (hL : L ≤ 1536) (hi : i.toInt = 3 * (c : Int)) (hr : 3 * c + 3 ≤ L) : am_inr (i + 2) (am_sn (nm_F L xs)) = true := by
  rw [inr_eq]
  have e : (i + 2).toInt = i.toInt + 2 := ad_eq (by show -2147483648 ≤ i.toInt + 2; omega) (by show i.toInt + 2 < 2147483648; omega)
  show 0 ≤ (i + 2).toInt ∧ (i + 2).toInt < (L : Int)
  omega
theorem li0 (hL : L ≤ 1536) (hi : i.toInt = 3 * (c : Int)) (hr : 3 * c + 3 ≤ L) : am_inr i (am_sn (nm_F L xs)) = true := by
  rw [inr_eq]
  show 0 ≤ i.toInt ∧ i.toInt < (L : Int)
  omega
theorem lw_node (hL : L ≤ 1536) (hi : i.toInt = 3 * (c : Int)) (hr : 3 * c + 3 ≤ L) (hI : LI c rho g r h) (K : ∀ (v5 v6 : Option Value) (rho : Nat → Nat) (g : a2_G) (r : a2_A) (h : am_H), LI (c + 1) rho g r h → hG L xs 683 nm_law qL (none, 340, lLA i v5 v6, [], h)) : hG L xs 683 nm_law qL (none, 141, lLA i v5 v6, [], h) := by
  obtain ⟨va, hva, hvb⟩ := SMF.node (L := L) (xs := xs) hI.2.2.2.2.2.2.2.2 (xs (i + 1).toNatClampNeg) (xs (i + 2).toNatClampNeg)
  refine hy_r (p1_a0 L xs) 1 (b := (142, lLA i v5 v6, [.ref 0], h)) rfl ?_
  refine hy_r (p1_a0 L xs) 4 (b := (147, lLA i v5 v6, [.int (i + 1), .retAddr 0, .ref 0], h)) rfl ?_
  refine hy_b (fun k => am_sl (S := [.ref 0]) rfl (li1 hL hi hr) rfl k) ?_
  refine hy_r (p1_a0 L xs) 4 (b := (153, lLA i v5 v6, [.int (i + 2), .retAddr 0, .int (xs (i + 1).toNatClampNeg), .ref 0], h)) rfl ?_
  refine hy_b (fun k => am_sl (S := [.int (xs (i + 1).toNatClampNeg), .ref 0]) rfl (li2 hL hi hr) rfl k) ?_
  refine hy_c (m := 4294967297) (d := 680) (as := [.int (xs (i + 1).toNatClampNeg), .int (xs (i + 2).toNatClampNeg)]) (ci := 0) (rest := []) rfl lc30 rfl rfl rfl rfl (by decide) (by show [.int (xs (i + 2).toNatClampNeg), .int (xs (i + 1).toNatClampNeg), .ref 0] = [.int (xs (i + 2).toNatClampNeg), .int (xs (i + 1).toNatClampNeg), Value.ref (rho 0)]; rw [hI.2.1.1]) (by decide) (by decide) hI.1 cp_C (cpS.int (by decide) (by unfold cpCC; decide) ai2) (wp_pl (sP_node L xs (by decide) _ _ hI.2.2.1) (hva _ _)) ?_ ?_ ?_
  · intro g1 r1 rho1 h1 hq hn
    obtain ⟨⟨v, e, -⟩, -⟩ := hq
    cases e
  · intro v g1 r1 rho1 h1 hq hn
    obtain ⟨-, ev, rfl, rfl⟩ := hq
    have ev1 := Value.int.inj (Option.some.inj ev)
    have hm1 := hI.mi hn
    refine hy_r (p1_a0 L xs) 1 (b := (158, lLA i v5 v6, [.ref 20, .int v], h1)) rfl ?_
    refine hy_r (p1_a0 L xs) 4 (b := (163, lLA i v5 v6, [.int (i + 1), .retAddr 0, .ref 20, .int v], h1)) rfl ?_
    refine hy_b (fun k => am_sl (S := [.ref 20, .int v]) rfl (li1 hL hi hr) rfl k) ?_
    refine hy_r (p1_a0 L xs) 4 (b := (169, lLA i v5 v6, [.int (i + 2), .retAddr 0, .int (xs (i + 1).toNatClampNeg), .ref 20, .int v], h1)) rfl ?_
    refine hy_b (fun k => am_sl (S := [.int (xs (i + 1).toNatClampNeg), .ref 20, .int v]) rfl (li2 hL hi hr) rfl k) ?_
    refine hy_c (m := 4294967297) (d := 680) (as := [.int (xs (i + 1).toNatClampNeg), .int (xs (i + 2).toNatClampNeg)]) (ci := 9) (rest := [.int v]) rfl lc33 rfl rfl rfl rfl (by decide) (by show [.int (xs (i + 2).toNatClampNeg), .int (xs (i + 1).toNatClampNeg), .ref 20, .int v] = [.int (xs (i + 2).toNatClampNeg), .int (xs (i + 1).toNatClampNeg), Value.ref (rho1 9), .int v]; rw [hn.rho 9 (by decide), hI.2.1.2.1]) (Nat.le_of_ble_eq_true rfl) (by decide) hn.1 cp_M (cpS.int (by decide) rfl ai2) (wp_pl (uM_node L xs (by decide) (by decide) _ _ hm1) (hvb _ _)) ?_ ?_ ?_
    · intro g2 r2 rho2 h2 hq hn2
      obtain ⟨⟨⟨v, e⟩, -⟩, -⟩ := hq
      cases e
    · intro v2 g2 r2 rho2 h2 hq hn2
      obtain ⟨-, ev2, rfl, rfl⟩ := hq
      have ev3 := Value.int.inj (Option.some.inj ev2)
      have e : v = v2 := by rw [ev1, ev3]
      refine hy_b (fun k => am_j1 (t := 340) rfl rfl (by rw [c2_eq]; exact e) k) ?_
      exact K _ _ _ _ _ _ (hI.next hn hn2 hI.2.2.1 hm1.th hI.2.2.2.2.1 (by omega) (Wq2.th hI.2.2.2.2.2.2.2))
    · intro x k g2 r2 rho2 h2 hx hn2
      exact hx.1.elim
  · intro x k g1 r1 rho1 h1 hx hn
    exact hx.1.elim
theorem lw_child (hL : L ≤ 1536) (hi : i.toInt = 3 * (c : Int)) (hr : 3 * c + 3 ≤ L) (hI : LI c rho g r h) (K : ∀ (v5 v6 : Option Value) (rho : Nat → Nat) (g : a2_G) (r : a2_A) (h : am_H), LI (c + 1) rho g r h → hG L xs 683 nm_law qL (none, 340, lLA i v5 v6, [], h)) : hG L xs 683 nm_law qL (none, 178, lLA i v5 v6, [], h) := by
  refine hy_r (p1_a0 L xs) 1 (b := (179, lLA i v5 v6, [.ref 0], h)) rfl ?_
  refine hy_r (p1_a0 L xs) 4 (b := (184, lLA i v5 v6, [.int (i + 1), .retAddr 0, .ref 0], h)) rfl ?_
  refine hy_b (fun k => am_sl (S := [.ref 0]) rfl (li1 hL hi hr) rfl k) ?_
  refine hy_r (p1_a0 L xs) 4 (b := (190, lLA i v5 v6, [.int (i + 2), .retAddr 0, .int (xs (i + 1).toNatClampNeg), .ref 0], h)) rfl ?_
  refine hy_b (fun k => am_sl (S := [.int (xs (i + 1).toNatClampNeg), .ref 0]) rfl (li2 hL hi hr) rfl k) ?_
  refine hy_c (m := 4294967297) (d := 680) (as := [.int (xs (i + 1).toNatClampNeg), .int (xs (i + 2).toNatClampNeg)]) (ci := 0) (rest := []) rfl lc34 rfl rfl rfl rfl (by decide) (by show [.int (xs (i + 2).toNatClampNeg), .int (xs (i + 1).toNatClampNeg), .ref 0] = [.int (xs (i + 2).toNatClampNeg), .int (xs (i + 1).toNatClampNeg), Value.ref (rho 0)]; rw [hI.2.1.1]) (by decide) (by decide) hI.1 cp_C (cpS.int (by decide) (by unfold cpCC; decide) ai2) (sP_child L xs (by decide) (by decide) _ _ hI.2.2.1) ?_ ?_ ?_
  · intro g1 r1 rho1 h1 hq hn
    obtain ⟨v, e, -⟩ := hq
    cases e
  · intro v g1 r1 rho1 h1 hq hn
    obtain ⟨v1, -, -, rfl, rfl⟩ := hq
    have hm1 := hI.mi hn
    refine hy_r (p1_a0 L xs) 2 (b := (196, lLA i v5 v6, [.ref 20], h1)) rfl ?_
    refine hy_r (p1_a0 L xs) 4 (b := (201, lLA i v5 v6, [.int (i + 1), .retAddr 0, .ref 20], h1)) rfl ?_
    refine hy_b (fun k => am_sl (S := [.ref 20]) rfl (li1 hL hi hr) rfl k) ?_
    refine hy_r (p1_a0 L xs) 4 (b := (207, lLA i v5 v6, [.int (i + 2), .retAddr 0, .int (xs (i + 1).toNatClampNeg), .ref 20], h1)) rfl ?_
    refine hy_b (fun k => am_sl (S := [.int (xs (i + 1).toNatClampNeg), .ref 20]) rfl (li2 hL hi hr) rfl k) ?_
    refine hy_c (m := 4294967297) (d := 680) (as := [.int (xs (i + 1).toNatClampNeg), .int (xs (i + 2).toNatClampNeg)]) (ci := 9) (rest := []) rfl lc37 rfl rfl rfl rfl (by decide) (by show [.int (xs (i + 2).toNatClampNeg), .int (xs (i + 1).toNatClampNeg), .ref 20] = [.int (xs (i + 2).toNatClampNeg), .int (xs (i + 1).toNatClampNeg), Value.ref (rho1 9)]; rw [hn.rho 9 (by decide), hI.2.1.2.1]) (by decide) (by decide) hn.1 cp_M (cpS.int (by decide) rfl ai2) (uM_child2 L xs (by decide) (by decide) _ _ hm1) ?_ ?_ ?_
    · intro g2 r2 rho2 h2 hq hn2
      obtain ⟨⟨v, e⟩, -⟩ := hq
      cases e
    · intro v2 g2 r2 rho2 h2 hq hn2
      obtain ⟨-, rfl, rfl⟩ := hq
      refine hy_r (p1_a0 L xs) 2 (b := (340, lLA i v5 v6, [], h2)) rfl ?_
      exact K _ _ _ _ _ _ (hI.next hn hn2 hI.2.2.1 hm1.th hI.2.2.2.2.1 (by omega) (Wq2.th hI.2.2.2.2.2.2.2))
    · intro x k g2 r2 rho2 h2 hx hn2
      exact hx.elim
  · intro x k g1 r1 rho1 h1 hx hn
    exact hx.elim
theorem lw_faults (hL : L ≤ 1536) (hi : i.toInt = 3 * (c : Int)) (hr : 3 * c + 3 ≤ L) (hI : LI c rho g r h) (K : ∀ (v5 v6 : Option Value) (rho : Nat → Nat) (g : a2_G) (r : a2_A) (h : am_H), LI (c + 1) rho g r h → hG L xs 683 nm_law qL (none, 340, lLA i v5 v6, [], h)) : hG L xs 683 nm_law qL (none, 215, lLA i v5 v6, [], h) := by
  refine hy_r (p1_a0 L xs) 1 (b := (216, lLA i v5 v6, [.ref 0], h)) rfl ?_
  refine hy_c (m := 4294967297) (d := 680) (as := []) (ci := 0) (rest := []) rfl lc38 rfl rfl rfl rfl (by decide) (by show [.ref 0] = [Value.ref (rho 0)]; rw [hI.2.1.1]) (by decide) (by decide) hI.1 cp_C (cpS.int (by decide) (by unfold cpCC; decide) ai0) (sP_faults L xs (by decide) hI.2.2.1) ?_ ?_ ?_
  · intro g1 r1 rho1 h1 hq hn
    obtain ⟨v, e, -⟩ := hq
    cases e
  · intro v g1 r1 rho1 h1 hq hn
    obtain ⟨v1, -, -, rfl, rfl⟩ := hq
    have hm1 := hI.mi hn
    refine hy_r (p1_a0 L xs) 2 (b := (221, lLA i v5 v6, [.ref 20], h1)) rfl ?_
    refine hy_c (m := 4294967297) (d := 680) (as := []) (ci := 9) (rest := []) rfl lc41 rfl rfl rfl rfl (by decide) (by show [.ref 20] = [Value.ref (rho1 9)]; rw [hn.rho 9 (by decide), hI.2.1.2.1]) (by decide) (by decide) hn.1 cp_M (cpS.int (by decide) rfl ai0) (uM_faults L xs (by decide)) ?_ ?_ ?_
    · intro g2 r2 rho2 h2 hq hn2
      obtain ⟨⟨v, e⟩, -⟩ := hq
      cases e
    · intro v2 g2 r2 rho2 h2 hq hn2
      obtain ⟨-, rfl, rfl⟩ := hq
      refine hy_r (p1_a0 L xs) 2 (b := (340, lLA i v5 v6, [], h2)) rfl ?_
      exact K _ _ _ _ _ _ (hI.next hn hn2 hI.2.2.1 hm1.th hI.2.2.2.2.1 (by omega) (Wq2.th hI.2.2.2.2.2.2.2))
    · intro x k g2 r2 rho2 h2 hx hn2
      exact hx.elim
  · intro x k g1 r1 rho1 h1 hx hn
    exact hx.elim
theorem lw_fault (hL : L ≤ 1536) (hi : i.toInt = 3 * (c : Int)) (hr : 3 * c + 3 ≤ L) (hI : LI c rho g r h) (K : ∀ (v5 v6 : Option Value) (rho : Nat → Nat) (g : a2_G) (r : a2_A) (h : am_H), LI (c + 1) rho g r h → hG L xs 683 nm_law qL (none, 340, lLA i v5 v6, [], h)) : hG L xs 683 nm_law qL (none, 228, lLA i v5 v6, [], h) := by
  refine hy_r (p1_a0 L xs) 1 (b := (229, lLA i v5 v6, [.ref 0], h)) rfl ?_
  refine hy_r (p1_a0 L xs) 4 (b := (234, lLA i v5 v6, [.int (i + 1), .retAddr 0, .ref 0], h)) rfl ?_
  refine hy_b (fun k => am_sl (S := [.ref 0]) rfl (li1 hL hi hr) rfl k) ?_
  refine hy_r (p1_a0 L xs) 4 (b := (240, lLA i v5 v6, [.int (i + 2), .retAddr 0, .int (xs (i + 1).toNatClampNeg), .ref 0], h)) rfl ?_
  refine hy_b (fun k => am_sl (S := [.int (xs (i + 1).toNatClampNeg), .ref 0]) rfl (li2 hL hi hr) rfl k) ?_
  refine hy_c (m := 4294967297) (d := 680) (as := [.int (xs (i + 1).toNatClampNeg), .int (xs (i + 2).toNatClampNeg)]) (ci := 0) (rest := []) rfl lc42 rfl rfl rfl rfl (by decide) (by show [.int (xs (i + 2).toNatClampNeg), .int (xs (i + 1).toNatClampNeg), .ref 0] = [.int (xs (i + 2).toNatClampNeg), .int (xs (i + 1).toNatClampNeg), Value.ref (rho 0)]; rw [hI.2.1.1]) (by decide) (by decide) hI.1 cp_C (cpS.int (by decide) (by unfold cpCC; decide) ai2) (sP_fault L xs (by decide) _ _ hI.2.2.1) ?_ ?_ ?_
  · intro g1 r1 rho1 h1 hq hn
    obtain ⟨v, e, -⟩ := hq
    cases e
  · intro v g1 r1 rho1 h1 hq hn
    obtain ⟨v1, -, -, rfl, rfl⟩ := hq
    have hm1 := hI.mi hn
    refine hy_r (p1_a0 L xs) 2 (b := (246, lLA i v5 v6, [.ref 20], h1)) rfl ?_
    refine hy_r (p1_a0 L xs) 4 (b := (251, lLA i v5 v6, [.int (i + 1), .retAddr 0, .ref 20], h1)) rfl ?_
    refine hy_b (fun k => am_sl (S := [.ref 20]) rfl (li1 hL hi hr) rfl k) ?_
    refine hy_r (p1_a0 L xs) 4 (b := (257, lLA i v5 v6, [.int (i + 2), .retAddr 0, .int (xs (i + 1).toNatClampNeg), .ref 20], h1)) rfl ?_
    refine hy_b (fun k => am_sl (S := [.int (xs (i + 1).toNatClampNeg), .ref 20]) rfl (li2 hL hi hr) rfl k) ?_
    refine hy_c (m := 4294967297) (d := 680) (as := [.int (xs (i + 1).toNatClampNeg), .int (xs (i + 2).toNatClampNeg)]) (ci := 9) (rest := []) rfl lc45 rfl rfl rfl rfl (by decide) (by show [.int (xs (i + 2).toNatClampNeg), .int (xs (i + 1).toNatClampNeg), .ref 20] = [.int (xs (i + 2).toNatClampNeg), .int (xs (i + 1).toNatClampNeg), Value.ref (rho1 9)]; rw [hn.rho 9 (by decide), hI.2.1.2.1]) (by decide) (by decide) hn.1 cp_M (cpS.int (by decide) rfl ai2) (uM_fault L xs (by decide) _ _ hm1) ?_ ?_ ?_
    · intro g2 r2 rho2 h2 hq hn2
      obtain ⟨⟨v, e⟩, -⟩ := hq
      cases e
    · intro v2 g2 r2 rho2 h2 hq hn2
      obtain ⟨-, rfl, rfl⟩ := hq
      refine hy_r (p1_a0 L xs) 2 (b := (340, lLA i v5 v6, [], h2)) rfl ?_
      exact K _ _ _ _ _ _ (hI.next hn hn2 hI.2.2.1 hm1.th hI.2.2.2.2.1 (by omega) (Wq2.th hI.2.2.2.2.2.2.2))
    · intro x k g2 r2 rho2 h2 hx hn2
      exact hx.elim
  · intro x k g1 r1 rho1 h1 hx hn
    exact hx.elim
theorem lw_division (hL : L ≤ 1536) (hi : i.toInt = 3 * (c : Int)) (hr : 3 * c + 3 ≤ L) (hI : LI c rho g r h) (K : ∀ (v5 v6 : Option Value) (rho : Nat → Nat) (g : a2_G) (r : a2_A) (h : am_H), LI (c + 1) rho g r h → hG L xs 683 nm_law qL (none, 340, lLA i v5 v6, [], h)) : hG L xs 683 nm_law qL (none, 265, lLA i v5 v6, [], h) := by
  refine hy_r (p1_a0 L xs) 1 (b := (266, lLA i v5 v6, [.ref 0], h)) rfl ?_
  refine hy_r (p1_a0 L xs) 4 (b := (271, lLA i v5 v6, [.int (i + 1), .retAddr 0, .ref 0], h)) rfl ?_
  refine hy_b (fun k => am_sl (S := [.ref 0]) rfl (li1 hL hi hr) rfl k) ?_
  refine hy_r (p1_a0 L xs) 4 (b := (277, lLA i v5 v6, [.int (i + 2), .retAddr 0, .int (xs (i + 1).toNatClampNeg), .ref 0], h)) rfl ?_
  refine hy_b (fun k => am_sl (S := [.int (xs (i + 1).toNatClampNeg), .ref 0]) rfl (li2 hL hi hr) rfl k) ?_
  refine hy_c (m := 4294967297) (d := 680) (as := [.int (xs (i + 1).toNatClampNeg), .int (xs (i + 2).toNatClampNeg)]) (ci := 0) (rest := []) rfl lc46 rfl rfl rfl rfl (by decide) (by show [.int (xs (i + 2).toNatClampNeg), .int (xs (i + 1).toNatClampNeg), .ref 0] = [.int (xs (i + 2).toNatClampNeg), .int (xs (i + 1).toNatClampNeg), Value.ref (rho 0)]; rw [hI.2.1.1]) (by decide) (by decide) hI.1 cp_C (cpS.int (by decide) (by unfold cpCC; decide) ai2) (sP_division L xs (by decide) (by decide) _ _ hI.2.2.1) ?_ ?_ ?_
  · intro g1 r1 rho1 h1 hq hn
    obtain ⟨v, e, -⟩ := hq
    cases e
  · intro v g1 r1 rho1 h1 hq hn
    obtain ⟨v1, -, -, rfl, rfl⟩ := hq
    have hm1 := hI.mi hn
    refine hy_r (p1_a0 L xs) 2 (b := (283, lLA i v5 v6, [.ref 20], h1)) rfl ?_
    refine hy_r (p1_a0 L xs) 4 (b := (288, lLA i v5 v6, [.int (i + 1), .retAddr 0, .ref 20], h1)) rfl ?_
    refine hy_b (fun k => am_sl (S := [.ref 20]) rfl (li1 hL hi hr) rfl k) ?_
    refine hy_r (p1_a0 L xs) 4 (b := (294, lLA i v5 v6, [.int (i + 2), .retAddr 0, .int (xs (i + 1).toNatClampNeg), .ref 20], h1)) rfl ?_
    refine hy_b (fun k => am_sl (S := [.int (xs (i + 1).toNatClampNeg), .ref 20]) rfl (li2 hL hi hr) rfl k) ?_
    refine hy_c (m := 4294967297) (d := 680) (as := [.int (xs (i + 1).toNatClampNeg), .int (xs (i + 2).toNatClampNeg)]) (ci := 9) (rest := []) rfl lc49 rfl rfl rfl rfl (by decide) (by show [.int (xs (i + 2).toNatClampNeg), .int (xs (i + 1).toNatClampNeg), .ref 20] = [.int (xs (i + 2).toNatClampNeg), .int (xs (i + 1).toNatClampNeg), Value.ref (rho1 9)]; rw [hn.rho 9 (by decide), hI.2.1.2.1]) (by decide) (by decide) hn.1 cp_M (cpS.int (by decide) rfl ai2) (uM_division L xs (by decide) _ _ hm1) ?_ ?_ ?_
    · intro g2 r2 rho2 h2 hq hn2
      obtain ⟨⟨v, e⟩, -⟩ := hq
      cases e
    · intro v2 g2 r2 rho2 h2 hq hn2
      obtain ⟨-, rfl, rfl⟩ := hq
      refine hy_r (p1_a0 L xs) 2 (b := (340, lLA i v5 v6, [], h2)) rfl ?_
      exact K _ _ _ _ _ _ (hI.next hn hn2 hI.2.2.1 hm1.th hI.2.2.2.2.1 (by omega) (Wq2.th hI.2.2.2.2.2.2.2))
    · intro x k g2 r2 rho2 h2 hx hn2
      exact hx.elim
  · intro x k g1 r1 rho1 h1 hx hn
    exact hx.elim
theorem lw_depth (hL : L ≤ 1536) (hi : i.toInt = 3 * (c : Int)) (hr : 3 * c + 3 ≤ L) (hI : LI c rho g r h) (K : ∀ (v5 v6 : Option Value) (rho : Nat → Nat) (g : a2_G) (r : a2_A) (h : am_H), LI (c + 1) rho g r h → hG L xs 683 nm_law qL (none, 340, lLA i v5 v6, [], h)) : hG L xs 683 nm_law qL (none, 302, lLA i v5 v6, [], h) := by
  refine hy_r (p1_a0 L xs) 1 (b := (303, lLA i v5 v6, [.ref 0], h)) rfl ?_
  refine hy_c (m := 4294967297) (d := 680) (as := []) (ci := 0) (rest := []) rfl lc50 rfl rfl rfl rfl (by decide) (by show [.ref 0] = [Value.ref (rho 0)]; rw [hI.2.1.1]) (by decide) (by decide) hI.1 cp_C (cpS.int (by decide) (by unfold cpCC; decide) ai0) (sP_depth L xs (by decide) hI.2.2.1) ?_ ?_ ?_
  · intro g1 r1 rho1 h1 hq hn
    obtain ⟨v, e, -⟩ := hq
    cases e
  · intro v g1 r1 rho1 h1 hq hn
    obtain ⟨v1, -, -, rfl, rfl⟩ := hq
    have hm1 := hI.mi hn
    refine hy_r (p1_a0 L xs) 2 (b := (308, lLA i v5 v6, [.ref 20], h1)) rfl ?_
    refine hy_c (m := 4294967297) (d := 680) (as := []) (ci := 9) (rest := []) rfl lc53 rfl rfl rfl rfl (by decide) (by show [.ref 20] = [Value.ref (rho1 9)]; rw [hn.rho 9 (by decide), hI.2.1.2.1]) (by decide) (by decide) hn.1 cp_M (cpS.int (by decide) rfl ai0) (uM_depth L xs (by decide)) ?_ ?_ ?_
    · intro g2 r2 rho2 h2 hq hn2
      obtain ⟨⟨v, e⟩, -⟩ := hq
      cases e
    · intro v2 g2 r2 rho2 h2 hq hn2
      obtain ⟨-, rfl, rfl⟩ := hq
      refine hy_r (p1_a0 L xs) 2 (b := (340, lLA i v5 v6, [], h2)) rfl ?_
      exact K _ _ _ _ _ _ (hI.next hn hn2 hI.2.2.1 hm1.th hI.2.2.2.2.1 (by omega) (Wq2.th hI.2.2.2.2.2.2.2))
    · intro x k g2 r2 rho2 h2 hx hn2
      exact hx.elim
  · intro x k g1 r1 rho1 h1 hx hn
    exact hx.elim
theorem lw_count (hL : L ≤ 1536) (hi : i.toInt = 3 * (c : Int)) (hr : 3 * c + 3 ≤ L) (hI : LI c rho g r h) (K : ∀ (v5 v6 : Option Value) (rho : Nat → Nat) (g : a2_G) (r : a2_A) (h : am_H), LI (c + 1) rho g r h → hG L xs 683 nm_law qL (none, 340, lLA i v5 v6, [], h)) : hG L xs 683 nm_law qL (none, 315, lLA i v5 v6, [], h) := by
  refine hy_r (p1_a0 L xs) 1 (b := (316, lLA i v5 v6, [.ref 0], h)) rfl ?_
  refine hy_r (p1_a0 L xs) 4 (b := (321, lLA i v5 v6, [.int (i + 1), .retAddr 0, .ref 0], h)) rfl ?_
  refine hy_b (fun k => am_sl (S := [.ref 0]) rfl (li1 hL hi hr) rfl k) ?_
  refine hy_c (m := 4294967297) (d := 680) (as := [.int (xs (i + 1).toNatClampNeg)]) (ci := 0) (rest := []) rfl lc54 rfl rfl rfl rfl (by decide) (by show [.int (xs (i + 1).toNatClampNeg), .ref 0] = [.int (xs (i + 1).toNatClampNeg), Value.ref (rho 0)]; rw [hI.2.1.1]) (by decide) (by decide) hI.1 cp_C (cpS.int (by decide) (by unfold cpCC; decide) ai1) (sP_count L xs (by decide) _ hI.2.2.1) ?_ ?_ ?_
  · intro g1 r1 rho1 h1 hq hn
    obtain ⟨v, e, -⟩ := hq
    cases e
  · intro v g1 r1 rho1 h1 hq hn
    obtain ⟨v1, -, -, rfl, rfl⟩ := hq
    have hm1 := hI.mi hn
    refine hy_r (p1_a0 L xs) 2 (b := (327, lLA i v5 v6, [.ref 20], h1)) rfl ?_
    refine hy_r (p1_a0 L xs) 4 (b := (332, lLA i v5 v6, [.int (i + 1), .retAddr 0, .ref 20], h1)) rfl ?_
    refine hy_b (fun k => am_sl (S := [.ref 20]) rfl (li1 hL hi hr) rfl k) ?_
    refine hy_c (m := 4294967297) (d := 680) (as := [.int (xs (i + 1).toNatClampNeg)]) (ci := 9) (rest := []) rfl lc58 rfl rfl rfl rfl (by decide) (by show [.int (xs (i + 1).toNatClampNeg), .ref 20] = [.int (xs (i + 1).toNatClampNeg), Value.ref (rho1 9)]; rw [hn.rho 9 (by decide), hI.2.1.2.1]) (by decide) (by decide) hn.1 cp_M (cpS.int (by decide) rfl ai1) (uM_count L xs (by decide) _) ?_ ?_ ?_
    · intro g2 r2 rho2 h2 hq hn2
      obtain ⟨⟨v, e⟩, -⟩ := hq
      cases e
    · intro v2 g2 r2 rho2 h2 hq hn2
      obtain ⟨-, rfl, rfl⟩ := hq
      refine hy_r (p1_a0 L xs) 2 (b := (340, lLA i v5 v6, [], h2)) rfl ?_
      exact K _ _ _ _ _ _ (hI.next hn hn2 hI.2.2.1 hm1.th hI.2.2.2.2.1 (by omega) (Wq2.th hI.2.2.2.2.2.2.2))
    · intro x k g2 r2 rho2 h2 hx hn2
      exact hx.elim
  · intro x k g1 r1 rho1 h1 hx hn
    exact hx.elim
theorem lw_word (hL : L ≤ 1536) (hi : i.toInt = 3 * (c : Int)) (hr : 3 * c + 3 ≤ L) (hI : LI c rho g r h) (K : ∀ (v5 v6 : Option Value) (rho : Nat → Nat) (g : a2_G) (r : a2_A) (h : am_H), LI (c + 1) rho g r h → hG L xs 683 nm_law qL (none, 340, lLA i v5 v6, [], h)) : hG L xs 683 nm_law qL (none, 88, lLA i v5 v6, [], h) := by
  refine hy_r (p1_a0 L xs) 1 (b := (89, lLA i v5 v6, [.ref 0], h)) rfl ?_
  refine hy_r (p1_a0 L xs) 4 (b := (94, lLA i v5 v6, [.int (i + 1), .retAddr 0, .ref 0], h)) rfl ?_
  refine hy_b (fun k => am_sl (S := [.ref 0]) rfl (li1 hL hi hr) rfl k) ?_
  refine hy_r (p1_a0 L xs) 4 (b := (100, lLA i v5 v6, [.int (i + 2), .retAddr 0, .int (xs (i + 1).toNatClampNeg), .ref 0], h)) rfl ?_
  refine hy_b (fun k => am_sl (S := [.int (xs (i + 1).toNatClampNeg), .ref 0]) rfl (li2 hL hi hr) rfl k) ?_
  refine hy_c (m := 4294967297) (d := 680) (as := [.int (xs (i + 1).toNatClampNeg), .int (xs (i + 2).toNatClampNeg)]) (ci := 0) (rest := []) rfl lc19 rfl rfl rfl rfl (by decide) (by show [.int (xs (i + 2).toNatClampNeg), .int (xs (i + 1).toNatClampNeg), .ref 0] = [.int (xs (i + 2).toNatClampNeg), .int (xs (i + 1).toNatClampNeg), Value.ref (rho 0)]; rw [hI.2.1.1]) (by decide) (by decide) hI.1 cp_C (cpS.int (by decide) (by unfold cpCC; decide) ai2) (wp_pl (sP_word L xs (by decide) _ _ hI.2.2.1) (pl_and (xP_word _ _ hI.2.2.1) (xP_wordF _ _))) ?_ ?_ ?_
  · intro g1 r1 rho1 h1 hq hn
    rcases hq.1.1 with ⟨-, e, -⟩ | ⟨-, -, e, -⟩ | ⟨-, -, e, -⟩ <;> cases e
  · intro v g1 r1 rho1 h1 hq hn
    have hm1 := hI.mi hn
    refine hy_r (p1_a0 L xs) 2 (b := (106, lLA i v5 v6, [.ref 20], h1)) rfl ?_
    refine hy_r (p1_a0 L xs) 4 (b := (111, lLA i v5 v6, [.int (i + 1), .retAddr 0, .ref 20], h1)) rfl ?_
    refine hy_b (fun k => am_sl (S := [.ref 20]) rfl (li1 hL hi hr) rfl k) ?_
    refine hy_r (p1_a0 L xs) 4 (b := (117, lLA i v5 v6, [.int (i + 2), .retAddr 0, .int (xs (i + 1).toNatClampNeg), .ref 20], h1)) rfl ?_
    refine hy_b (fun k => am_sl (S := [.int (xs (i + 1).toNatClampNeg), .ref 20]) rfl (li2 hL hi hr) rfl k) ?_
    refine hy_c (m := 4294967297) (d := 680) (as := [.int (xs (i + 1).toNatClampNeg), .int (xs (i + 2).toNatClampNeg)]) (ci := 9) (rest := []) rfl lc23 rfl rfl rfl rfl (by decide) (by show [.int (xs (i + 2).toNatClampNeg), .int (xs (i + 1).toNatClampNeg), .ref 20] = [.int (xs (i + 2).toNatClampNeg), .int (xs (i + 1).toNatClampNeg), Value.ref (rho1 9)]; rw [hn.rho 9 (by decide), hI.2.1.2.1]) (by decide) (by decide) hn.1 cp_M (cpS.int (by decide) rfl ai2) (wp_pl (uM_word L xs (by decide) _ _ hm1) (pl_and (xM_word _ _) (xM_wordF _ _))) ?_ ?_ ?_
    · intro g2 r2 rho2 h2 hq hn2
      rcases hq.1.1 with ⟨-, e, -⟩ | ⟨-, -, e, -⟩ | ⟨-, -, e, -⟩ <;> cases e
    · intro v2 g2 r2 rho2 h2 hq2 hn2
      have e1 : g1 fM_size = g fR_size := (hn.2.2.2.2.nc.1 _ (by decide)).trans hI.2.2.2.2.1.symm
      have hk := hq2.1.1
      rw [e1] at hk
      obtain ⟨e2, e3⟩ := hq.1.1.eq hk
      refine hy_r (p1_a0 L xs) 2 (b := (340, lLA i v5 v6, [], h2)) rfl ?_
      refine K _ _ _ _ _ _ (hI.next hn hn2 hq.1.2 hq2.1.2 e3 (by have := pot_le g1; omega) ?_)
      refine ⟨Wq.word hI.2.2.2.2.2.2.2.1 hI.2.2.2.2.1 hI.2.2.2.1.2.2.2.1 hq.2.1.1 hq.2.1.2 hn.2.2.2.2.nc hq2.2.1.1 hq2.2.1.2 hn2.2.2.2.2.nm e3 (fun hne => ?_), SMF.word hI.2.2.2.2.2.2.2.2 hq.2.2 hq2.2.2⟩
      rcases hk with ⟨-, -, q⟩ | ⟨-, -, -, q⟩ | ⟨q, -⟩
      · exact absurd (q.trans hI.2.2.2.2.1) hne
      · exact absurd (q.trans hI.2.2.2.2.1) hne
      · exact q
    · intro x k g2 r2 rho2 h2 hx hn2
      exact hx.1.elim
  · intro x k g1 r1 rho1 h1 hx hn
    exact hx.1.elim
theorem lw_parse (hI : LI c rho g r h) (K : ∀ (v5 v6 : Option Value) (rho : Nat → Nat) (g : a2_G) (r : a2_A) (h : am_H), LI (c + 1) rho g r h → hG L xs 683 nm_law qL (none, 340, lLA i v5 v6, [], h)) : hG L xs 683 nm_law qL (none, 125, lLA i v5 v6, [], h) := by
  obtain ⟨f, h60⟩ := hI.2.1.2.2
  obtain ⟨v, h1, rho1, g1, r1, e1, hn, hc1, hs1, c0, z0, h00, hx0, hfx, hcf⟩ := hy_lparse (L := L) (xs := xs) hI.1 hI.2.2.1 h60
  rw [hI.2.1.1] at e1
  have hm1 := hI.mi hn
  have hWq := hI.2.2.2.2.2.2.2.1
  have hsz := hI.2.2.2.1.2.2.2.1
  have f1 : g1 fM_size = g fM_size := hn.2.2.2.2.nc.1 _ (by decide)
  have f2 : r1 fM_kinds = r fM_kinds := hn.2.2.2.2.nc.2 _ (by decide)
  have f3 : r1 fM_values = r fM_values := hn.2.2.2.2.nc.2 _ (by decide)
  have hAg : Ag (wR g r) ((r fM_kinds).2, (r fM_values).2, (g fM_size).toInt.toNat) := by
    refine ⟨?_, fun i hi => ?_⟩
    · show (g fR_size).toInt.toNat = (g fM_size).toInt.toNat
      rw [hI.2.2.2.2.1]
    · have hi' : i < (g fR_size).toInt.toNat := hi
      rw [hI.2.2.2.2.1] at hi'
      exact (hWq.1 i hi').1
  have hWv : Wv ((r fM_kinds).2, (r fM_values).2, (g fM_size).toInt.toNat) := fun i hi hk => (hWq.1 i hi).2 hk
  have hxm : zX ((r fM_kinds).2, (r fM_values).2, (g fM_size).toInt.toNat) c0 0 0 z0 := by
    obtain ⟨k, hk⟩ := hx0
    exact ⟨k, zL_ag hAg k _ _ _ _ hk⟩
  refine hy_r (p1_a0 L xs) 2 (b := (127, lLA i v5 v6, [.ref 60, .ref 0], h)) rfl ?_
  refine hy_b (fun k => am_cv (N := nm_m41) (as := [.ref 0, .ref 60]) (rest := []) (v := .int v) (h' := h1) rfl (am_kt lc24 (Or.inl rfl)) (by decide) rfl rfl rfl (fun h => absurd h (by decide)) (fun h => absurd h (by decide)) (by decide) e1 k) ?_
  refine hy_r (p1_a0 L xs) 2 (b := (133, lLA i (some (.int v)) v6, [.ref 20], h1)) rfl ?_
  refine hy_c (m := 4294967297) (d := 680) (as := []) (ci := 9) (rest := []) rfl lc29 rfl rfl rfl rfl (by decide) (by show [Value.ref 20] = [Value.ref (rho1 9)]; rw [hn.rho 9 (by decide), hI.2.1.2.1]) (by decide) (by decide) hn.1 cp_M (cpS.int (by decide) rfl ai0) (wp_pl (uM_parse L xs (by decide) (by decide) hm1) (pl_and (xM_parse (w := ((r fM_kinds).2, (r fM_values).2, (g fM_size).toInt.toNat)) hWv (by rw [f2]) (by rw [f3]) (by rw [f1]; show (g fM_size).toInt = (((g fM_size).toInt.toNat : Nat) : Int); omega) (by show (g fM_size).toInt.toNat ≤ 1500; omega) hm1.1 h00) (zM_parse (w := ((r fM_kinds).2, (r fM_values).2, (g fM_size).toInt.toNat)) hWv (by rw [f2]) (by rw [f3]) (by rw [f1]; show (g fM_size).toInt = (((g fM_size).toInt.toNat : Nat) : Int); omega) (by show (g fM_size).toInt.toNat ≤ 1500; omega) hm1.1 h00))) ?_ ?_ ?_
  · intro g2 r2 rho2 h2 hq hn2
    obtain ⟨⟨⟨v, e⟩, -⟩, -⟩ := hq
    cases e
  · intro v2 g2 r2 rho2 h2 hq hn2
    refine hy_r (p1_a0 L xs) 2 (b := (340, lLA i (some (.int v)) (some (.int v2)), [], h2)) rfl ?_
    have hw2 : Wq g2 r2 := by
      refine ⟨fun i hi => ?_, ?_⟩
      · rw [hq.1.2.2] at hi
        exact absurd hi (Nat.not_lt_zero i)
      · obtain ⟨⟨x1, hx1, hf1⟩, -⟩ := hq.2.1
        rw [hf1, hn2.2.2.2.2.nm.1 fR_faultSize (by decide), hfx, hxm.det hx1]
    have hfe : g1 fR_faultSize = g2 fM_faults := (hn2.2.2.2.2.nm.1 fR_faultSize (by decide)).symm.trans hw2.2
    have hsm : SMF g2 r2 := by
      rcases hcf with ⟨hf, hk⟩ | ⟨hf, y, hy, hE, hT⟩
      · rcases hq.2.2 with ⟨-, -, m1, m2, m3⟩ | ⟨m0, -⟩
        · exact Or.inl ⟨⟨(hn2.2.2.2.2.nm.1 fT_numbered (by decide)).trans hk.1, (hn2.2.2.2.2.nm.1 fT_units (by decide)).trans hk.2.1, (hn2.2.2.2.2.nm.1 fT_greatestLevel (by decide)).trans hk.2.2⟩, m1, m2, m3⟩
        · exact absurd (hfe.trans m0.1) hf
      · rcases hq.2.2 with ⟨m0, -⟩ | ⟨-, -, -, y', hy', -, hM⟩
        · exact absurd (hfe.symm.trans hf) m0.1
        · have ey := Rx.det hAg hy hy'
          subst ey
          exact SMF.of hT hM (Rx.un hy (x0_un h00) hE) (Rx.pu (by show (g fR_size).toInt.toNat ≤ 1500; rw [hI.2.2.2.2.1]; omega) hy) (fun k hk => hn2.2.2.2.2.nm.1 k (by omega)) (hn2.2.2.2.2.nm.2 fT_cells (by decide))
    refine K _ _ _ _ _ _ (hI.next hn hn2 hc1 hq.1.2.1 (hs1.trans hq.1.2.2.symm) ?_ ⟨hw2, hsm⟩)
    have hp : pot g1 = 0 := by
      unfold pot
      rw [hs1]
      rfl
    rw [hp]
    unfold pot
    have h0 := hI.2.2.1.1
    split
    · omega
    · rw [if_pos (by omega)]
      omega
  · intro x k g2 r2 rho2 h2 hx hn2
    exact hx.1.elim
theorem lw_end (hL : L ≤ 1536) (hr : 3 * c ≤ L) (hI : LI c rho g r h) : hG L xs 683 nm_law qL (none, 346, lLA i v5 v6, [], h) := by
  refine hy_r (p1_a0 L xs) 1 (b := (347, lLA i v5 v6, [.int 1], h)) rfl ?_
  refine ⟨.inl (some (.int 1)), h, am_ri rfl rfl rfl, rfl, ?_, ?_⟩
  all_goals
    obtain ⟨-, -, hc, -, -, h1, h2, -⟩ := hI
    have e : a2_ln nm_RG r = (r fR_kinds).1 + ((r fR_values).1 + ((r fT_cells).1 + 0)) := rfl
    have e1 := hc.1
    have e2 := hc.2.2.1
    omega
set_option maxRecDepth 20000 in
theorem lw_loop (hL : L ≤ 1536) : ∀ (n c : Nat) (i : Int32) (v5 v6 : Option Value) (rho : Nat → Nat) (g : a2_G) (r : a2_A) (h : am_H), L ≤ 3 * c + 3 * n + 2 → 3 * c ≤ L → i.toInt = 3 * (c : Int) → LI c rho g r h → hG L xs 683 nm_law qL (none, 23, lLA i v5 v6, [], h) := by
  intro n
  induction n with
  | zero =>
    intro c i v5 v6 rho g r h hn hc hi hI
    refine hy_r (p1_a0 L xs) 5 (b := (29, lLA i v5 v6, [.int (Int32.ofNat L - 3), .int i], h)) rfl ?_
    have e0 : (Int32.ofNat L).toInt = L := on_eq (by omega)
    have e : (Int32.ofNat L - 3).toInt = (L : Int) - 3 := by
      rw [sb_eq]
      · rw [e0]; rfl
      · rw [e0]; show -2147483648 ≤ (L : Int) - 3; omega
      · rw [e0]; show (L : Int) - 3 < 2147483648; omega
    refine hy_b (fun k => am_j1 (t := 346) rfl rfl (by rw [c2_gt, e]; omega) k) ?_
    exact lw_end hL hc hI
  | succ n ih =>
    intro c i v5 v6 rho g r h hn hc hi hI
    refine hy_r (p1_a0 L xs) 5 (b := (29, lLA i v5 v6, [.int (Int32.ofNat L - 3), .int i], h)) rfl ?_
    have e0 : (Int32.ofNat L).toInt = L := on_eq (by omega)
    have e : (Int32.ofNat L - 3).toInt = (L : Int) - 3 := by
      rw [sb_eq]
      · rw [e0]; rfl
      · rw [e0]; show -2147483648 ≤ (L : Int) - 3; omega
      · rw [e0]; show (L : Int) - 3 < 2147483648; omega
    by_cases hr : 3 * c + 3 ≤ L
    · refine hy_b (fun k => am_j0 (t := 346) rfl rfl (by rw [Bool.eq_false_iff, ne_eq, c2_gt, e]; omega) k) ?_
      have K : ∀ (v5 v6 : Option Value) (rho : Nat → Nat) (g : a2_G) (r : a2_A) (h : am_H), LI (c + 1) rho g r h → hG L xs 683 nm_law qL (none, 340, lLA i v5 v6, [], h) := by
        intro v5 v6 rho g r h hI
        refine hy_r (p1_a0 L xs) 2 (b := (23, lLA (i + Int32.ofInt 3) v5 v6, [], h)) rfl ?_
        have hi3 : (i + Int32.ofInt 3).toInt = i.toInt + 3 := ad_eq (by show -2147483648 ≤ i.toInt + 3; omega) (by show i.toInt + 3 < 2147483648; omega)
        exact ih (c + 1) _ v5 v6 rho g r h (by omega) (by omega) (by omega) hI
      refine hy_r (p1_a0 L xs) 2 (b := (35, lLA i v5 v6, [.int i, .retAddr 0], h)) rfl ?_
      refine hy_b (fun k => am_sl (S := []) rfl (li0 hL hi hr) rfl k) ?_
      refine hy_r (p1_a0 L xs) 2 (b := (39, lLA i v5 v6, [.int (xs i.toNatClampNeg &&& 15)], h)) rfl ?_
      generalize xs i.toNatClampNeg &&& 15 = x
      by_cases hx : x.toInt < 0 ∨ 8 < x.toInt
      · refine hy_b (fun k => am_td (t := 340) rfl rfl hx k) ?_
        exact K _ _ _ _ _ _ hI.up
      · have hx2 : x.toInt = 0 ∨ x.toInt = 1 ∨ x.toInt = 2 ∨ x.toInt = 3 ∨ x.toInt = 4 ∨ x.toInt = 5 ∨ x.toInt = 6 ∨ x.toInt = 7 ∨ x.toInt = 8 := by omega
        rcases hx2 with hx3 | hx3 | hx3 | hx3 | hx3 | hx3 | hx3 | hx3 | hx3
        · exact hy_b (fun k => am_tt (t := 88) (off := 49) rfl hx (by rw [hx3]; rfl) rfl k) (lw_word hL hi hr hI K)
        · exact hy_b (fun k => am_tt (t := 125) (off := 86) rfl hx (by rw [hx3]; rfl) rfl k) (lw_parse hI K)
        · exact hy_b (fun k => am_tt (t := 141) (off := 102) rfl hx (by rw [hx3]; rfl) rfl k) (lw_node hL hi hr hI K)
        · exact hy_b (fun k => am_tt (t := 178) (off := 139) rfl hx (by rw [hx3]; rfl) rfl k) (lw_child hL hi hr hI K)
        · exact hy_b (fun k => am_tt (t := 215) (off := 176) rfl hx (by rw [hx3]; rfl) rfl k) (lw_faults hL hi hr hI K)
        · exact hy_b (fun k => am_tt (t := 228) (off := 189) rfl hx (by rw [hx3]; rfl) rfl k) (lw_fault hL hi hr hI K)
        · exact hy_b (fun k => am_tt (t := 265) (off := 226) rfl hx (by rw [hx3]; rfl) rfl k) (lw_division hL hi hr hI K)
        · exact hy_b (fun k => am_tt (t := 302) (off := 263) rfl hx (by rw [hx3]; rfl) rfl k) (lw_depth hL hi hr hI K)
        · exact hy_b (fun k => am_tt (t := 315) (off := 276) rfl hx (by rw [hx3]; rfl) rfl k) (lw_count hL hi hr hI K)
    · refine hy_b (fun k => am_j1 (t := 346) rfl rfl (by rw [c2_gt, e]; omega) k) ?_
      exact lw_end hL hc hI
end
theorem li_w : Wq g_0 r_0 := by
  refine ⟨fun i hi => ?_, by decide +kernel⟩
  have e : (g_0 fM_size).toNatClampNeg = 0 := by decide +kernel
  rw [e] at hi
  exact absurd hi (Nat.not_lt_zero i)
theorem li_s : SMF g_0 r_0 := by
  refine Or.inl ⟨⟨?_, ?_, ?_⟩, ?_, ?_, ?_⟩ <;> decide +kernel
theorem li_0 : LI 0 rh g_0 r_0 p1_h23 := ⟨rh_rel, ⟨rfl, rfl, _, rfl⟩, rh_CI, rh_MI, by decide +kernel, by decide +kernel, by decide +kernel, li_w, li_s⟩
/-- THE LAW ENDS WITH 1 on the abstract machine, whatever the script -/
theorem nm_go (L : Nat) (xs : Nat → Int32) (hL : L ≤ 1536) : ∃ (d : Nat) (hf : am_H), d ≤ 1300 ∧ am_Go (nm_F L xs) nm_cls nm_ms (am_Ev (nm_F L xs) nm_cls nm_ms d) nm_law (.inl (some (.int 1)), hf) (none, 0, am_ent nm_law [.retAddr 0], [], []) ∧ hf.length ≤ 601024 ∧ am_sz hf ≤ 7293034 := by
  obtain ⟨o, hf, h1, rfl, h2, h3⟩ := lw_loop (xs := xs) hL L 0 0 none none rh g_0 r_0 p1_h23 (by omega) (by omega) rfl li_0
  exact ⟨683, hf, by decide, p1_pre L xs h1, h2, h3⟩
