/-! The model's conditions: whole, closeAnds, compare, deeper, joint. -/
theorem Bwh (L : Nat) (xs : Nat → Int32) (m d k : Nat) (x1 x2 x3 x4 x5 x6 x7 x8 : Int32) (g : a2_G) (r : a2_A) : BM_whole_28 L xs m d k x1 x2 x3 x4 x5 x6 x7 g r = BM_whole_28_1 L xs m d k x1 x2 x3 x4 x5 x6 x7 x8 g r := rfl
theorem tM_whole28 (L : Nat) (xs : Nat → Int32) {m d : Nat} (hd : 1 ≤ d) {b : Int} {s : Sg} {P : List Nat} (hb : b ≤ 1890) : ∀ (X : List Int32) (k : Nat) (x1 x2 x3 x4 x5 x6 x7 x8 : Int32) (g : a2_G) (r : a2_A), X.length < k → Mst b s (X.map nt ++ (nt x5 :: P)) g r → (∀ c T, X = c :: T → x6 = c ∧ ∃ l, chn (r fM_next).2 c T l) → x7.toInt + X.length = x4.toInt → (∀ x, x ∈ X → Mi g x) → Mi g x5 → wp (BM_whole_28_1 L xs (m + 1) d k x1 x2 x3 x4 x5 x6 x7 x8 g r) (fun o g' r' => o = some (.int x5) ∧ En g r g' r' ∧ g' fM_bad = g fM_bad ∧ g' fM_at = g fM_at ∧ nk P r r' ∧ Mst b s (nt x5 :: P) g' r') kN := by
  intro X
  induction X with
  | nil =>
    intro k x1 x2 x3 x4 x5 x6 x7 x8 g r hk h hc h7 hM h5
    unfold BM_whole_28_1
    refine wp_t (by rw [c2_ge]; simp at h7; omega) ?_
    exact ⟨rfl, En.rf, rfl, rfl, nk.rf, h⟩
  | cons c T ih =>
    intro k x1 x2 x3 x4 x5 x6 x7 x8 g r hk h hc h7 hM h5
    obtain ⟨rfl, l, hch⟩ := hc c T rfl
    have hl : (x6 :: T).length = T.length + 1 := rfl
    have q := h.q
    have hi := hM x6 List.mem_cons_self
    have i1 := hi.1
    have i2 := hi.2
    unfold BM_whole_28_1
    refine wp_f (by rw [c2_ge]; omega) ?_
    refine wp_in (h.1.1.at 10) hi.1 (by omega) ?_
    refine wp_n (wp_and (tM_attach L xs (by omega) (P := T.map nt ++ (nt x5 :: P)) h h5 hi (by omega)) (yM_attach L xs (by omega) (P := T.map nt ++ (nt x5 :: P)) h h5 hi (by omega))) (fun _ _ _ hx => hx.elim) ?_
    rintro o g1 r1 ⟨⟨rfl, n1, b1, t1, k1⟩, hk1⟩
    refine ⟨rfl, ?_⟩
    obtain ⟨k, rfl⟩ : ∃ e, k = e + 1 := ⟨k - 1, by omega⟩
    rw [lM_whole_28_1]
    have nn1 := n1.2.1
    have up : ∀ {x : Int32}, Mi g x → Mi g1 x := fun hx => ⟨hx.1, by have := hx.2; omega⟩
    have x4i := i32_hi x4
    have x7i := i32_lo x7
    refine wp_mono (ih k _ _ _ _ _ _ _ _ g1 r1 (by omega) (k1.le (by omega)) ?_ ?_ (fun x hx => up (hM x (List.mem_cons_of_mem _ hx))) (up h5)) ?_ (fun _ _ _ hx => hx)
    · intro c' T' e
      subst e
      refine ⟨hch.1, l, hch.2.kp (fun x hx => hk1 _ (List.mem_append_left _ (List.mem_map.mpr ⟨x, hx, rfl⟩)))⟩
    · rw [i32_inc (by omega)]
      omega
    · rintro o g' r' ⟨e1, e2, e3, e4, e5, e6⟩
      exact ⟨e1, n1.trans e2, e3.trans b1, e4.trans t1, (hk1.sub (fun x hx => List.mem_append_right _ (List.mem_cons_of_mem _ hx))).trans e5, e6⟩
theorem Mst.len {b : Int} {s : Sg} {P : List Nat} {g : a2_G} {r : a2_A} (h : Mst b s P g r) (hb : b ≤ 1900) : P.length ≤ 8000 := by
  have q := h.q
  have := wk_len (g fM_nodes).toInt.toNat P h.nd (fun x hx => (h.lt hx).2)
  omega
theorem tM_whole (L : Nat) (xs : Nat → Int32) {m d : Nat} (hm : 4294967296 ≤ m) (hd : 2 ≤ d) (kk : Int32) {f l many : Int32} {X : List Int32} {b : Int} {s : Sg} {P : List Nat} {g : a2_G} {r : a2_A} (h : Mst b s (X.map nt ++ P) g r) (hX : X ≠ []) (hl : lst (r fM_next).2 f l many X) (hM : ∀ x, x ∈ X → Mi g x ∧ 0 < x.toInt) (hb : b ≤ 1880) : wp (ev L xs (m + 1) d nM_whole [.ref cM, .int kk, .int f, .int l, .int many] g r) (fun o g' r' => ∃ v : Int32, o = some (.int v) ∧ En g r g' r' ∧ g' fM_bad = g fM_bad ∧ g' fM_at = g fM_at ∧ nk P r r' ∧ Mi g' v ∧ 0 < v.toInt ∧ Mst (b + 1) s (nt v :: P) g' r') kN := by
  obtain ⟨d, rfl⟩ : ∃ e, d = e + 1 := ⟨d - 1, by omega⟩
  have q := h.q
  have ln := h.len (by omega)
  rw [List.length_append, List.length_map] at ln
  cases X with
  | nil => exact absurd rfl hX
  | cons a T =>
    obtain ⟨rfl, hch, hmany⟩ := hl
    obtain ⟨ha, ha0⟩ := hM a List.mem_cons_self
    have a1 := ha.1
    have a2 := ha.2
    have e1 : (1 : Int32).toInt = 1 := rfl
    rw [qM_whole]
    refine wp_if (fun hc => ?_) (fun hc => ?_)
    · refine wp_in (h.1.1.at 6) a1 (by omega) ?_
      refine wp_v (wp_and (tM_make L xs (by omega) _ _ _ h (by omega)) (yM_make L xs (by omega) _ _ _ h (by omega))) (fun _ _ _ hx => hx.elim) ?_
      rintro o g1 r1 ⟨⟨rfl, n1, b1, t1, s1, k1⟩, hk1⟩
      refine ⟨_, rfl, ?_⟩
      have nn1 := n1.2.1
      rw [Bwh L xs (m + 1) d m kk a l many (g fM_nodes) a 0 0]
      have k2 : Mst (b + 1) s ((a :: T).map nt ++ (nt (g fM_nodes) :: P)) g1 r1 := k1.perm List.perm_middle
      refine wp_mono (tM_whole28 L xs (by omega) (by omega) (a :: T) m kk a l many (g fM_nodes) a 0 0 g1 r1 (by omega) k2 ?_ ?_ (fun x hx => ⟨(hM x hx).1.1, by have := (hM x hx).1.2; omega⟩) ⟨by omega, by omega⟩) ?_ (fun _ _ _ hx => hx)
      · intro c T' e
        cases e
        exact ⟨rfl, l, hch.kp (fun x hx => hk1 _ (List.mem_append_left _ (List.mem_map.mpr ⟨x, hx, rfl⟩)))⟩
      · rw [i32_0, hmany]
        simp
      · rintro o g' r' ⟨c1, c2, c3, c4, c5, c6⟩
        have nn2 := c2.2.1
        exact ⟨_, c1, n1.trans c2, c3.trans b1, c4.trans t1, (hk1.sub (fun x hx => List.mem_append_right _ hx)).trans c5, ⟨by omega, by omega⟩, by omega, c6⟩
    · rw [c2_ne, Decidable.not_not] at hc
      rw [hc, e1] at hmany
      have hT : T = [] := List.eq_nil_of_length_eq_zero (by omega)
      subst hT
      exact ⟨a, rfl, En.rf, rfl, rfl, nk.rf, ha, ha0, h.le (by omega)⟩
def WJa : List Nat := [fM_faultNumber, fM_faultWord, fM_kind, fM_value, fM_place, fM_extra, fM_first, fM_last, fM_next, fM_above, fM_andFirst, fM_andLast, fM_andMany, fM_orFirst, fM_orLast, fM_orMany]
def Ej (g : a2_G) (r : a2_A) (g' : a2_G) (r' : a2_A) : Prop := Fm WE WJa g r g' r' ∧ (g fM_nodes).toInt ≤ (g' fM_nodes).toInt ∧ (g fM_at).toInt ≤ (g' fM_at).toInt
theorem En.j {g g' : a2_G} {r r' : a2_A} (h : En g r g' r') : Ej g r g' r' := ⟨h.1.sub (by decide) (by decide), h.2⟩
theorem Ej.x {g g' : a2_G} {r r' : a2_A} (h : Ej g r g' r') : Ex g r g' r' := ⟨h.1.sub (by decide) (by decide), h.2⟩
theorem Ej.trans {g1 g2 g3 : a2_G} {r1 r2 r3 : a2_A} (a : Ej g1 r1 g2 r2) (b : Ej g2 r2 g3 r3) : Ej g1 r1 g3 r3 := ⟨a.1.trans b.1, Int.le_trans a.2.1 b.2.1, Int.le_trans a.2.2 b.2.2⟩
theorem lap_fm {W : List Nat} {g : a2_G} {r : a2_A} {qF qL qM j : Nat} {t : Int32} (h1 : qF ∈ WJa) (h2 : qL ∈ WJa) (h3 : qM ∈ WJa) : Fm W WJa g r g (lapR qF qL qM j t r) := by
  unfold lapR
  refine Fm.aw (Fm.aw ?_ h2) h3
  split
  · exact (Fm.rf.aw (by decide)).aw h1
  · exact (Fm.rf.aw (by decide)).aw (by decide)
theorem lst.in {nx : Nat → Int32} {f l many : Int32} {X : List Int32} (h : lst nx f l many X) (hz : many ≠ 0) : l ∈ X := by
  cases X with
  | nil => exact absurd h hz
  | cons a T => exact h.2.1.mem
/-- closeAnds: the ands become one node behind the ors -/
theorem tM_closeAnds (L : Nat) (xs : Nat → Int32) {m d : Nat} (hm : 4294967296 ≤ m) (hd : 3 ≤ d) {A O : List Int32} {j : Nat} {b : Int} {s : Sg} {P : List Nat} {g : a2_G} {r : a2_A} (h : Mst b s (A.map nt ++ (O.map nt ++ P)) g r) (hj : (g fM_joints).toInt = (j : Int) + 1) (hj6 : j < 64) (hA : A ≠ []) (hjt : jt r j A O) (hMA : ∀ x, x ∈ A → Mi g x ∧ 0 < x.toInt) (hMO : ∀ x, x ∈ O → Mi g x ∧ 0 < x.toInt) (hb : b ≤ 1880) : wp (ev L xs (m + 1) d nM_closeAnds [.ref cM] g r) (fun o g' r' => o = none ∧ Ej g r g' r' ∧ g' fM_bad = g fM_bad ∧ g' fM_at = g fM_at ∧ nk P r r' ∧ jag j r r' ∧ ∃ v : Int32, Mi g' v ∧ 0 < v.toInt ∧ jt r' j [] (O ++ [v]) ∧ Mst (b + 1) s ((O ++ [v]).map nt ++ P) g' r') kN := by
  obtain ⟨d, rfl⟩ : ∃ e, d = e + 1 := ⟨d - 1, by omega⟩
  have q := h.q
  have ec : ((g fM_joints) - 1).toInt = j := by
    rw [i32_dec (by omega)]
    omega
  have ec' : ((g fM_joints) - 1).toNatClampNeg = j := by rw [nc_eq, ec]; rfl
  rw [qM_closeAnds]
  simp only [ec']
  generalize (g fM_joints) - 1 = x1 at ec ec' ⊢
  refine wp_in (h.1.1.at 33) (by omega) (by omega) ?_
  refine wp_in (h.1.1.at 34) (by omega) (by omega) ?_
  refine wp_in (h.1.1.at 35) (by omega) (by omega) ?_
  refine wp_v (tM_whole L xs hm (by omega) _ h hA hjt.1 hMA hb) (fun _ _ _ hx => hx.elim) ?_
  rintro o g1 r1 ⟨v, rfl, n1, b1, t1, hk1, i1, i0, k1⟩
  refine ⟨v, rfl, ?_⟩
  have j1 := i1.1
  have j2 := i1.2
  have q1 := k1.q
  have nn1 := n1.2.1
  have i8 : In8 v := ⟨by omega, by omega⟩
  have ln := k1.len (by omega)
  rw [List.length_cons, List.length_append, List.length_map] at ln
  have nd := k1.nd
  have nd1 := List.nodup_cons.mp nd
  have ndO : (O.map nt).Nodup := (List.nodup_append.mp nd1.2).1
  have vO : nt v ∉ O.map nt := fun hx => nd1.1 (List.mem_append_left _ hx)
  have a0 := n1.1.2 fM_orFirst (by decide)
  have a1 := n1.1.2 fM_orLast (by decide)
  have a2 := n1.1.2 fM_orMany (by decide)
  have hO : lst (r1 fM_next).2 ((r1 fM_orFirst).2 j) ((r1 fM_orLast).2 j) ((r1 fM_orMany).2 j) O := by
    rw [a0, a1, a2]
    exact hjt.2.kp (fun x hx => hk1 _ (List.mem_append_left _ (List.mem_map.mpr ⟨x, hx, rfl⟩)))
  have k2 := k1.awx fM_andMany j 0 (by decide) (fun hk => absurd hk (by decide))
  have hlap := lap (r := aw r1 fM_andMany j 0) (qF := fM_orFirst) (qL := fM_orLast) (qM := fM_orMany) (t := v) (by decide) (by decide) (by decide) (by decide) (by decide) (by decide) hO ndO vO (by omega)
  have hl2 : (aw r1 fM_andMany j 0 fM_orMany).2 j ≠ 0 → nt ((aw r1 fM_andMany j 0 fM_orLast).2 j) ∈ O.map nt := fun hz => List.mem_map.mpr ⟨_, hO.in hz, rfl⟩
  have k3 := k2.lap (qF := fM_orFirst) (qL := fM_orLast) (qM := fM_orMany) (j := j) (t := v) List.mem_cons_self i8 (fun hz => List.mem_cons_of_mem _ (List.mem_append_left _ (hl2 hz))) (by decide) (by decide) (by decide) (by decide)
  have fin : ∀ (r2 : a2_A), aw (aw r2 fM_orLast j v) fM_orMany j ((r2 fM_orMany).2 j + 1) = lapR fM_orFirst fM_orLast fM_orMany j v (aw r1 fM_andMany j 0) → (r2 fM_orLast).1 = 64 → (r2 fM_orMany).1 = 64 → wp (BM_closeAnds_77 L xs (m + 1) d m x1 v g1 r2) (fun o g' r' => o = none ∧ Ej g r g' r' ∧ g' fM_bad = g fM_bad ∧ g' fM_at = g fM_at ∧ nk P r r' ∧ jag j r r' ∧ ∃ v : Int32, Mi g' v ∧ 0 < v.toInt ∧ jt r' j [] (O ++ [v]) ∧ Mst (b + 1) s ((O ++ [v]).map nt ++ P) g' r') kN := by
    intro r2 e l1 l2
    unfold BM_closeAnds_77
    simp only [ec']
    refine wp_in l1 (by omega) (by omega) ?_
    refine wp_in (show (aw r2 fM_orLast j v fM_orMany).1 = 64 from l2) (by omega) (by omega) ?_
    refine wp_in (show (aw r2 fM_orLast j v fM_orMany).1 = 64 from l2) (by omega) (by omega) ?_
    have hP : nk P r (lapR fM_orFirst fM_orLast fM_orMany j v (aw r1 fM_andMany j 0)) := by
      intro x hx
      have ne1 : x ≠ nt v := fun e => nd1.1 (by rw [← e]; exact List.mem_append_right _ hx)
      rw [lap_nx (by decide) (by decide) (by decide) ne1 (fun hz e => (List.nodup_append.mp nd1.2).2.2 _ (hl2 hz) x hx e.symm)]
      exact hk1 x (List.mem_append_right _ hx)
    rw [← e] at hlap k3 hP
    have eJ : jag j r (lapR fM_orFirst fM_orLast fM_orMany j v (aw r1 fM_andMany j 0)) := ((jag.fm n1.1).aw (Nat.le_refl _)).lap (Nat.le_refl _)
    have eF : Fm WE WJa g r g1 (lapR fM_orFirst fM_orLast fM_orMany j v (aw r1 fM_andMany j 0)) := (n1.j.1.aw (by decide)).trans (lap_fm (by decide) (by decide) (by decide))
    have eM : (lapR fM_orFirst fM_orLast fM_orMany j v (aw r1 fM_andMany j 0) fM_andMany).2 j = 0 := by
      rw [lap_ne (by decide) (by decide) (by decide) (by decide)]
      exact aw_at
    rw [← e] at eJ eF eM
    refine ⟨rfl, ⟨eF, n1.2⟩, b1, t1, hP, eJ, v, i1, i0, ⟨eM, hlap⟩, ?_⟩
    refine k3.perm ?_
    rw [List.map_append, List.append_assoc]
    exact List.perm_middle
  refine wp_in (k1.1.1.at 35) (by omega) (by omega) ?_
  refine wp_in (k1.1.1.at 10) (by omega) (by omega) ?_
  refine wp_in (k1.1.1.at 38) (by omega) (by omega) ?_
  refine wp_if (fun hz => ?_) (fun hz => ?_)
  · rw [c2_ne] at hz
    have io := hO.in hz
    have io1 := (hMO _ io).1.1
    have io2 := (hMO _ io).1.2
    refine wp_in (k1.1.1.at 37) (by omega) (by omega) ?_
    refine wp_in (k1.1.1.at 10) io1 (by omega) ?_
    refine fin _ ?_ (k1.1.1.at 37) (k1.1.1.at 38)
    unfold lapR
    rw [if_neg (show ¬ (aw r1 fM_andMany j 0 fM_orMany).2 j = 0 from hz)]
    rfl
  · rw [c2_ne, Decidable.not_not] at hz
    refine wp_in (k1.1.1.at 36) (by omega) (by omega) ?_
    refine fin _ ?_ (k1.1.1.at 37) (k1.1.1.at 38)
    unfold lapR
    rw [if_pos (show (aw r1 fM_andMany j 0 fM_orMany).2 j = 0 from hz)]
    rfl
