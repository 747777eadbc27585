/-! Both sides answer alike to node. -/
theorem F_dep {K : Nat → List Nat} {F : Fo} (hD : Dn K 0 ((0, 0) :: F)) {j e u : Nat} (h : F[j]? = some (e, u)) : 1 ≤ e := by
  obtain ⟨k, hk⟩ := hD
  obtain ⟨G, hG⟩ := po_hd hk
  have e1 : F = up1 G := (List.cons.inj hG).2
  have hm : (e, u) ∈ up1 G := by
    rw [← e1]
    exact List.mem_of_getElem? h
  obtain ⟨y, -, hy⟩ := List.mem_map.mp hm
  have := (Prod.mk.inj hy).1
  omega
theorem ids_all {n : Nat} {F : Fo} (h : (ids ((0, 0) :: F)).Nodup ∧ 0 + ((0, 0) :: F).length = n) (hl : ∀ x, x ∈ ids ((0, 0) :: F) → x < n) {s : Nat} (hs : s < n) : s ∈ ids ((0, 0) :: F) := by
  by_cases c : s ∈ ids ((0, 0) :: F)
  · exact c
  · exfalso
    have q := List.Nodup.length_le_of_subset (l₂ := List.range n) (List.nodup_cons.mpr ⟨c, h.1⟩) (fun x hx => by
      rcases List.mem_cons.mp hx with rfl | hx
      · exact List.mem_range.mpr hs
      · exact List.mem_range.mpr (hl x hx))
    have e : (ids ((0, 0) :: F)).length = ((0, 0) :: F).length := List.length_map _
    have e2 := h.2
    rw [List.length_range, List.length_cons, e] at q
    omega
theorem ids_ix {n : Nat} {F : Fo} (h : (ids ((0, 0) :: F)).Nodup ∧ 0 + ((0, 0) :: F).length = n) (hl : ∀ x, x ∈ ids ((0, 0) :: F) → x < n) {s : Nat} (hs : s < n) (h0 : s ≠ 0) : ∃ j e : Nat, F[j]? = some (e, s) := by
  have hm : s ∈ 0 :: ids F := ids_all h hl hs
  rcases List.mem_cons.mp hm with e | e
  · exact absurd e h0
  · obtain ⟨y, hy, e2⟩ := List.mem_map.mp e
    obtain ⟨j, hj⟩ := List.getElem?_of_mem hy
    refine ⟨j, y.1, ?_⟩
    rw [hj, ← e2]
theorem tr_ix {D : Nat → TD} {F : Fo} {i dd x : Nat} (h : F[i]? = some (dd, x)) : (tr D F)[i]? = some (dd, D x) := by
  unfold tr
  rw [List.getElem?_map, h]
  rfl
theorem bo_1 {z : Int32} {d : TD} (h1 : d.1 = 41) (h2 : d.2.2.1 = z) : 1 ≤ bo z d := by
  unfold bo
  rw [if_pos ⟨h1, h2⟩]
  exact Nat.le_refl _
theorem SMF.node {L : Nat} {xs : Nat → Int32} {g : a2_G} {r : a2_A} (h : SMF g r) (a1 a2 : Int32) : ∃ v : Int32, (∀ m d, pl (ev L xs (m + 1) d nP_node [.ref cP, .int a1, .int a2] g r) (kE g r v) kN) ∧ ∀ m d, pl (ev L xs (m + 1) d nM_node [.ref cM, .int a1, .int a2] g r) (kE (upd g fM_thrown 0) r v) kN := by
  rcases h with ⟨⟨c1, -, -⟩, c4, -, -⟩ | ⟨n, D, K, F, n', D', K', F', b1, b2, b3, b4, b5, b6, b7, b8⟩
  · refine ⟨ndA a2 (-1) (-1) (-1) (-1) (-1) (-1), fun _ _ => xP_nodeN (F := []) (by rw [c1]; rfl) (fun q => ?_), fun _ _ => xM_nodeN (N := 0) (by rw [c4]; rfl) (fun q => ?_)⟩
    · have h2 : a1.toInt < 0 := q.2
      omega
    · have h2 : a1.toInt < 0 := q.2
      omega
  have hl : F.length = F'.length := by
    have := congrArg List.length b3
    unfold tr at this
    rw [List.length_map, List.length_map] at this
    exact this
  by_cases hr : 0 ≤ a1.toInt ∧ a1.toInt < F.length
  case neg => exact ⟨ndA a2 (-1) (-1) (-1) (-1) (-1) (-1), fun _ _ => xP_nodeN b1.2.2.2.1 hr, fun _ _ => xM_nodeN b2.2.2.1 (by rw [← hl]; exact hr)⟩
  obtain ⟨i, hi⟩ : ∃ i : Nat, a1.toInt = i := ⟨a1.toInt.toNat, by omega⟩
  have hiF : i < F.length := by omega
  obtain ⟨⟨dd, x⟩, e⟩ : ∃ y, F[i]? = some y := ⟨_, List.getElem?_eq_getElem hiF⟩
  obtain ⟨⟨dd', x'⟩, e'⟩ : ∃ y, F'[i]? = some y := ⟨_, List.getElem?_eq_getElem (by omega)⟩
  have et := tr_ix (D := D) e
  have et' := tr_ix (D := D') e'
  rw [b3, et'] at et
  have ed := Prod.mk.inj (Option.some.inj et)
  have edd : dd' = dd := ed.1
  have edx : D' x' = D x := ed.2
  subst edd
  have hds : F.map Prod.fst = F'.map Prod.fst := by rw [← tr_ds D F, b3, tr_ds]
  obtain ⟨hx, -⟩ := b1.id e
  obtain ⟨hx', -⟩ := b2.id e'
  obtain ⟨t1, t2, cc, t3⟩ := b2.2.2
  have tC := b1.2.2.2.2.2.2
  -- parents
  obtain ⟨u, hu1, hu2⟩ := F_par b1.2.2.1 e
  obtain ⟨u', hv1, hv2⟩ := F_par b2.2.1 e'
  have hn0 : 0 < n := b1.1.2.2.1
  have hun : u < n := by
    rcases hu2 with ⟨q, -⟩ | ⟨j, ej, -, q, -⟩
    · omega
    · exact (b1.id q).1
  have hun' : u' < n' := by
    rcases hv2 with ⟨q, -⟩ | ⟨j, ej, -, q, -⟩
    · have := b2.1.2.1
      omega
    · exact (b2.id q).1
  have hP : (r fT_cells).2 (12 * u + 10) = pnM u' r := by
    unfold pnM
    rcases hu2 with ⟨q, q1⟩ | ⟨j, ej, hj, q, q1⟩
    · rcases hv2 with ⟨p, p1⟩ | ⟨j', ej', hj', p, p1⟩
      · rw [if_pos p, q]
        exact (b1.1.2.2.2.2.2.2.2.2.2 hn0).2.1.2
      · have := F_dep b2.2.1 p
        omega
    · have hj1 := F_dep b1.2.2.1 q
      rcases hv2 with ⟨p, p1⟩ | ⟨j', ej', hj', p, p1⟩
      · omega
      · have hz : u' ≠ 0 := fun q0 => by
          have hnd := (List.nodup_cons.mp b2.1.2.2.2.1.1).1
          exact hnd (List.mem_map.mpr ⟨(ej', u'), List.mem_of_getElem? p, q0⟩)
        rw [if_neg hz, (t3 j' ej' u' p).2.1]
        have w1 := F_Par b1.2.2.1 (List.nodup_cons.mp b1.2.1.1.1).2 e q hu1
        have w2 := F_Par b2.2.1 (List.nodup_cons.mp b2.1.2.2.2.1.1).2 e' p hv1
        rw [hds] at w1
        rw [← w1.un w2]
        exact (tC j ej u q).2.1
  have hK : (K x).length = (K' x').length := by
    have q1 := congrArg List.length (nK_eq b1.2.2.1 tC e)
    have q2 := congrArg List.length (nK_eq b2.2.1 t3 e')
    rw [List.length_map] at q1 q2
    rw [q1, q2, hds]
  -- what is known of the node
  have hmem : (dd', D x) ∈ tr D F := List.mem_of_getElem? (tr_ix e)
  have hbv : bv (D' x') = 0 := by
    rw [edx]
    have q : ∀ {T : Tf} {y : Nat × TD}, y ∈ T → bv y.2 ≤ cV T := by
      intro T
      induction T with
      | nil => intro y hy; cases hy
      | cons a T ih =>
        intro y hy
        show bv y.2 ≤ bv a.2 + cV T
        rcases List.mem_cons.mp hy with rfl | hy
        · omega
        · have := ih hy
          omega
    have := q hmem
    have h0 := b7.1
    have this' : bv (D x) ≤ cV (tr D F) := this
    omega
  have hgh : (D x).1 = 53 → (D x).2.2.2 ≠ -1 := fun c q => by
    have h1 : bg (D x) ≤ wMs bg (tr D F) := wMs_mem (b := bg) hmem
    rw [b7.2.1] at h1
    unfold bg at h1
    rw [if_pos ⟨c, q⟩] at h1
    omega
  have hS : (D x).1 = 53 → ∃ s, s < x ∧ (r fT_cells).2 (12 * x + 3) = Int32.ofNat s ∧ (D s).1 = 41 ∧ (D s).2.2.1 = (D x).2.2.2 := fun c => by
    rcases b1.1.2.2.2.2.2.2.2.1.2 x hx c with q | q
    · exact absurd q (hgh c)
    · exact q
  have hE : exC x D r = exM x' D' r := by
    unfold exC exM
    rw [edx]
    by_cases c : (D x).1 = 53
    · rw [if_pos c, if_pos c]
      obtain ⟨s, s1, s2, s3, s4⟩ := hS c
      obtain ⟨s', z1, z2, z3, z4⟩ : ∃ s', s' < x' ∧ (r fM_extra).2 x' = Int32.ofNat s' ∧ (D' s').1 = 41 ∧ (D' s').2.2.1 = (D x).2.2.2 := by
        have q := b2.1.1.2.2.2.2 x' hx' (by rw [edx]; exact c)
        rw [edx] at q
        rcases q with q | q
        · exact absurd q (hgh c)
        · exact q
      obtain ⟨j, ej, hj⟩ := ids_ix b1.2.1.1 b1.2.1.2 (show s < n by omega) (fun q => b8 (by rw [← q]; exact s3))
      obtain ⟨j', ej', hj'⟩ := ids_ix b2.1.2.2.2.1 b2.1.2.2.2.2 (show s' < n' by omega) (fun q => by rw [q, b6] at z3; exact absurd z3 (by decide))
      have hlt := b1.1.lt
      have hn8 := b2.1.2.2.1
      rw [s2, z2, on_nc (by omega), on_nc (by omega), (t3 j' ej' s' hj').2.1]
      have w1 := tr_ix (D := D) hj
      have w2 := tr_ix (D := D') hj'
      rw [← b3] at w2
      have hjj := wMs_un (b := bo (D x).2.2.2) (b7.2.2.1 _) w1 w2 (bo_1 s3 s4) (bo_1 z3 z4)
      rw [← hjj]
      exact (tC j ej s hj).2.1
    · rw [if_neg c, if_neg c]
      by_cases q : 26 ≤ (D x).1.toInt ∧ (D x).1.toInt ≤ 38
      · rw [if_pos q]
      · rw [if_neg q]
        have h1 : bx (D x) ≤ wMs bx (tr D F) := wMs_mem (b := bx) hmem
        rw [b7.2.2.2] at h1
        unfold bx at h1
        by_cases p : (D x).2.2.2 = -1
        · exact p
        · rw [if_neg (fun w => w.elim q (fun w => w.elim c p))] at h1
          omega
  refine ⟨_, fun _ _ => xP_nodeI b1 hi e hun hu1 (fun c => ?_), fun _ _ => ?_⟩
  · obtain ⟨s, s1, s2, -⟩ := hS c
    exact ⟨s, by omega, s2⟩
  · rw [hP, hK, hE, ← edx]
    exact xM_nodeI b2 hi e' hun' hv1 hbv
