/-! The model: what follows a factor, with its trees. -/
theorem app3 {α : Type} (a b c : List α) : a ++ (b ++ c) ++ [] = a ++ b ++ c := by
  rw [List.append_nil, List.append_assoc]
section
variable {L : Nat} {xs : Nat → Int32} {m d k : Nat} {w : Ws} {f : Gh} {n : Nat} {D : Nat → TD} {K : Nat → List Nat} {N : Nat → Int32}
theorem ca_77 {p v : Nat} {W : Tf} {ors : List (Nat × Tf)} {rest : List Lv} {s : Sjt} {x1 : Int32} {g : a2_G} {r : a2_A} (hx : x1.toInt = (rest.length : Int)) (hP : Pn w f n D K N p (wt rest ++ ors ++ [(v, W)]) g r) (hA : (r fM_andMany).2 rest.length = 0) (hO : JL rest.length (ors ++ [(v, W)]) (upd (r fM_orMany).2 rest.length ((r fM_orMany).2 rest.length + 1)) (r fM_orFirst).2 (upd (r fM_orLast).2 rest.length (Int32.ofNat v)) (r fM_next).2) (hJ : Jtr rest r) (hj : (g fM_joints).toInt = ((rest.length + 1 : Nat) : Int)) (hM : Mkr (mkl (l00 :: rest)) (r fM_mark).2 ∧ (g fM_marks).toInt = ((mkl (l00 :: rest)).length : Int)) (hs : Sj2 s g r) : pl (BM_closeAnds_77 L xs (m + 1) d k x1 (Int32.ofNat v) g r) (fun o g' r' => CS w f n D K N (([], [], ors ++ [(v, W)]) :: rest) [] s p g' r') kN := by
  unfold BM_closeAnds_77
  rw [tn_at hx]
  refine pl_if (fun _ => pl_if (fun _ => pl_if (fun _ => ?_) (fun _ => trivial)) (fun _ => trivial)) (fun _ => trivial)
  refine ⟨?_, ⟨⟨⟨JL.nil hA, hO, (fun e he => nomatch he)⟩, hJ.fr (fun i hi => ⟨rfl, rfl, rfl, upd_ne (f := (r fM_orMany).2) (by omega), rfl, upd_ne (f := (r fM_orLast).2) (by omega)⟩) (fun e he => rfl)⟩, hj⟩, hM, hs⟩
  have e : wt (([], [], ors ++ [(v, W)]) :: rest) ++ [] = wt rest ++ ors ++ [(v, W)] := by
    show wt rest ++ (ors ++ [(v, W)] ++ []) ++ [] = _
    rw [List.append_nil, List.append_nil, List.append_assoc]
  rw [e]
  exact (hP.ua (by decide) (by decide) (by rfl)).ua (by decide) (by decide) (by rfl)
theorem zM_closeAnds (hn : 1 ≤ n) {p : Nat} {e1 : Nat × Tf} {ls ors : List (Nat × Tf)} {rest : List Lv} {s : Sjt} {g : a2_G} {r : a2_A} (h : CS w f n D K N (([], e1 :: ls, ors) :: rest) [] s p g r) : pl (ev L xs (m + 1) d nM_closeAnds [.ref cM] g r) (fun o g' r' => ∃ c, CS w f n D K N (([], [], ors ++ [(c, whT 51 (e1 :: ls))]) :: rest) [] s p g' r') kN := by
  cases d with
  | zero => trivial
  | succ d =>
    obtain ⟨hP, ⟨⟨⟨j1, j2, j3⟩, j4⟩, hj⟩, hm, hs⟩ := h
    have hj' : (g fM_joints).toInt = ((rest.length + 1 : Nat) : Int) := hj
    have hx : (g fM_joints - 1).toInt = (rest.length : Int) := by
      rw [i32_dec (by omega), hj']
      omega
    have ej : (g fM_joints - 1).toNatClampNeg = rest.length := tn_at hx
    have hP' : Pn w f n D K N p (wt rest ++ ors ++ e1 :: ls) g r := by
      have e : wt (([], e1 :: ls, ors) :: rest) ++ [] = wt rest ++ ors ++ e1 :: ls := app3 _ _ _
      rw [e] at hP
      exact hP
    have j1a : (r fM_andFirst).2 rest.length = Int32.ofNat e1.1 := j1.2.1 e1 ls rfl
    have hfa := hP'.fa
    rw [qM_closeAnds]
    rw [ej, j1a]
    refine pl_if (fun _ => pl_if (fun _ => pl_if (fun _ => ?_) (fun _ => trivial)) (fun _ => trivial)) (fun _ => trivial)
    refine zM_whole hn (fun q => absurd q.2 (by decide)) j1.1 j1.2.2.2 hP' (fun v g1 r1 hP1 hr hg hnx hfk => ?_)
    have hf1 := hP1.fa
    have hv8 : v < 8000 := (hf1.2.1 (v, _) (List.mem_append_right _ List.mem_cons_self)).2
    have ev : (Int32.ofNat v).toNatClampNeg = v := tn_at (on_eq (by omega))
    rw [ev]
    have om : r1 fM_orMany = r fM_orMany := hr fM_orMany (by decide)
    have oF : r1 fM_orFirst = r fM_orFirst := hr fM_orFirst (by decide)
    have oL : r1 fM_orLast = r fM_orLast := hr fM_orLast (by decide)
    have hJ1 : Jtr rest r1 := j4.fr (fun i _ => Js.we hr i) (fun e he => hnx e (List.mem_append_left _ he))
    have j2' : JL rest.length ors (r1 fM_orMany).2 (r1 fM_orFirst).2 (r1 fM_orLast).2 (r1 fM_next).2 := j2.fr (by rw [om]) (by rw [oF]) (by rw [oL]) (fun e he => hnx e (List.mem_append_right _ he))
    have hj1 : (g1 fM_joints).toInt = ((rest.length + 1 : Nat) : Int) := by rw [hg fM_joints (by decide)]; exact hj'
    have hM1 : Mkr (mkl (l00 :: rest)) (r1 fM_mark).2 ∧ (g1 fM_marks).toInt = ((mkl (l00 :: rest)).length : Int) := by
      rw [hg fM_marks (by decide), hr fM_mark (by decide)]
      exact hm
    have hs1 : Sj2 s g1 r1 := hs.fr (hg _ (by decide)) (hg _ (by decide)) hfk
    have hlen : ors.length ≤ 8000 := by
      have := hf1.2.2
      simp at this
      omega
    have hsep : ∀ e, e ∈ wt rest ++ ors → e.1 ≠ v := fun e he => nd_sep hf1.1 he List.mem_cons_self
    have hnd1 : (fsts (wt rest ++ ors)).Nodup := by
      have := hf1.1
      rw [fsts_app] at this
      exact (List.nodup_append.mp this).1
    refine pl_if (fun _ => pl_if (fun _ => pl_if (fun _ => ?_) (fun _ => trivial)) (fun _ => trivial)) (fun _ => trivial)
    refine pl_in (fun c0 => ?_) (fun c0 => ?_)
    · refine pl_if (fun _ => pl_if (fun _ => ?_) (fun _ => trivial)) (fun _ => trivial)
      rcases List.eq_nil_or_concat ors with e0 | ⟨l0, x, e0⟩
      · exfalso
        rw [e0] at j2'
        exact c0 (i32e (j2'.1.trans rfl))
      · rw [List.concat_eq_append] at e0
        have hx0 : (r1 fM_orLast).2 rest.length = Int32.ofNat x.1 := j2'.2.2.1 x l0 e0
        have hxm : x ∈ wt rest ++ ors := List.mem_append_right _ (by rw [e0]; exact List.mem_append_right _ List.mem_cons_self)
        have hx8 : x.1 < 8000 := (hf1.2.1 x (List.mem_append_left _ hxm)).2
        have exn : (Int32.ofNat x.1).toNatClampNeg = x.1 := tn_at (on_eq (by omega))
        rw [hx0, exn]
        have hne : ∀ e, e ∈ wt rest ++ l0 → e.1 ≠ x.1 := fun e he => by
          refine nd_sep (l1 := wt rest ++ l0) (l2 := [x]) ?_ he List.mem_cons_self
          rw [List.append_assoc, ← e0]
          exact hnd1
        have hN2 : ∀ e, e ∈ wt rest ++ l0 → upd (upd (r1 fM_next).2 v 0) x.1 (Int32.ofNat v) e.1 = (r1 fM_next).2 e.1 := fun e he => by
          rw [upd_ne (hne e he), upd_ne]
          refine hsep e ?_
          rcases List.mem_append.mp he with he | he
          · exact List.mem_append_left _ he
          · exact List.mem_append_right _ (by rw [e0]; exact List.mem_append_left _ he)
        refine pl_mono (ca_77 (p := p) (s := s) (ors := ors) (W := whT 51 (e1 :: ls)) hx (((hP1.ua (j := fM_andMany) (x := ((r1 fM_andMany).1, (upd (r1 fM_andMany).2 rest.length 0))) (by decide) (by decide) (by rfl)).nx (e := (v, whT 51 (e1 :: ls))) (List.mem_append_right _ List.mem_cons_self) 0).nx (e := x) (List.mem_append_left _ hxm) (Int32.ofNat v)) (upd_eq (f := (r1 fM_andMany).2)) (j2'.add hlen upd_eq (if_neg c0).symm upd_eq (fun e l1 q => ?_)) (hJ1.fr (fun i hi => ⟨upd_ne (f := (r1 fM_andMany).2) (by omega), rfl, rfl, rfl, rfl, rfl⟩) (fun e he => hN2 e (List.mem_append_left _ he))) hj1 hM1 hs1) (fun o g' r' q => ⟨v, q⟩) (fun _ _ _ q => q)
        rw [e0] at q
        have q1 := List.append_inj' q rfl
        have q2 : x = e := by
          have := q1.2
          injection this
        refine ⟨?_, fun e' he' => ?_⟩
        · rw [← q2]
          exact upd_eq
        · exact hN2 e' (List.mem_append_right _ (by rw [q1.1]; exact he'))
    · refine pl_if (fun _ => ?_) (fun _ => trivial)
      rw [Decidable.not_not] at c0
      have e0 : ors = [] := by
        have := j2'.1
        rw [c0, i32_0] at this
        exact List.length_eq_zero_iff.mp (by omega)
      have hN2 : ∀ e, e ∈ wt rest ++ ors → upd (r1 fM_next).2 v 0 e.1 = (r1 fM_next).2 e.1 := fun e he => upd_ne (hsep e he)
      refine pl_mono (ca_77 (p := p) (s := s) (ors := ors) (W := whT 51 (e1 :: ls)) hx (((hP1.ua (j := fM_andMany) (x := ((r1 fM_andMany).1, (upd (r1 fM_andMany).2 rest.length 0))) (by decide) (by decide) (by rfl)).nx (e := (v, whT 51 (e1 :: ls))) (List.mem_append_right _ List.mem_cons_self) 0).ua (j := fM_orFirst) (x := ((r1 fM_orFirst).1, (upd (r1 fM_orFirst).2 rest.length (Int32.ofNat v)))) (by decide) (by decide) (by rfl)) (upd_eq (f := (r1 fM_andMany).2)) (j2'.add hlen upd_eq ((upd_eq (f := (r1 fM_orFirst).2)).trans (if_pos c0).symm) upd_eq (fun e l1 q => ?_)) (hJ1.fr (fun i hi => ⟨upd_ne (f := (r1 fM_andMany).2) (by omega), rfl, rfl, rfl, upd_ne (f := (r1 fM_orFirst).2) (by omega), rfl⟩) (fun e he => hN2 e (List.mem_append_left _ he))) hj1 hM1 hs1) (fun o g' r' q => ⟨v, q⟩) (fun _ _ _ q => q)
      rw [e0] at q
      exact absurd q.symm (by simp)
/-- behind a factor: done, or one more factor is wanted -/
def kFB (w : Ws) (f : Gh) (n : Nat) (D : Nat → TD) (K : Nat → List Nat) (N : Nat → Int32) (z : Option R2) : Option Value → a2_G → a2_A → Prop := fun o g r => ∃ x : Int32, o = some (.int x) ∧ ((∃ b, Bd w f b g r) ∨ (∃ v q s T, x = Int32.ofNat v ∧ z = some (q, s, T) ∧ Pn w f n D K N q [(v, T)] g r) ∨ (x = 0 ∧ ∃ lv rest s q, CS w f n D K N (lv :: rest) [] s q g r ∧ z = b2 (tv w 9 q s []) (cdU w (lv :: rest))))
def BFT (L : Nat) (xs : Nat → Int32) (m d k : Nat) (w : Ws) (f : Gh) (n : Nat) (D : Nat → TD) (K : Nat → List Nat) (N : Nat → Int32) : Prop := ∀ (x1 x3 : Int32) (x4 : Option Value) (u q : Nat) (s : Sjt) (U : Tf) (lv : Lv) (rest : List Lv) (g : a2_G) (r : a2_A), (x4 = none ∨ ∃ y : Int32, x4 = some (.int y)) → CS w f n D K N (lv :: rest) [(u, U)] s q g r → pl (lp L xs nM_behindFactor nm_m206 (m + 1) d k 2 [some (.ref cM), some (.int x1), some (.int (Int32.ofNat u)), some (.int x3), x4] g r) (kFB w f n D K N (cdU w (lv :: rest) q s U)) kN
theorem zbf_117 (hn : 1 ≤ n) (H : BFT L xs m d k w f n D K N) (x1 x3 x4 : Int32) {u q : Nat} {U : Tf} {ands ors : List (Nat × Tf)} {rest : List Lv} {s : Sjt} {g : a2_G} {r : a2_A} (h3 : x3.toInt = (rest.length : Int)) (hP : Pn w f n D K N q (wt rest ++ ors ++ (ands ++ [(u, U)])) g r) (hA : JL rest.length (ands ++ [(u, U)]) (upd (r fM_andMany).2 rest.length ((r fM_andMany).2 rest.length + 1)) (r fM_andFirst).2 (upd (r fM_andLast).2 rest.length (Int32.ofNat u)) (r fM_next).2) (hO : JL rest.length ors (r fM_orMany).2 (r fM_orFirst).2 (r fM_orLast).2 (r fM_next).2) (hJ : Jtr rest r) (hj : (g fM_joints).toInt = ((rest.length + 1 : Nat) : Int)) (hM : Mkr (mkl (l00 :: rest)) (r fM_mark).2 ∧ (g fM_marks).toInt = ((mkl (l00 :: rest)).length : Int)) (hs : Sj2 s g r) : pl (BM_behindFactor_117_1 L xs (m + 1) d k x1 (Int32.ofNat u) x3 x4 g r) (kFB w f n D K N (cdU w (([], ands, ors) :: rest) q s U)) kN := by
  have hU : U ≠ [] := Pn.ne (l := wt rest ++ ors ++ ands) (u := u) (by rw [List.append_assoc]; exact hP)
  unfold BM_behindFactor_117_1
  rw [tn_at h3]
  refine pl_if (fun _ => pl_if (fun _ => pl_if (fun _ => ?_) (fun _ => trivial)) (fun _ => trivial)) (fun _ => trivial)
  have hC : CS w f n D K N (([], ands ++ [(u, U)], ors) :: rest) [] s q g (a2_ua (a2_ua r fM_andLast ((r fM_andLast).1, (upd (r fM_andLast).2 rest.length (Int32.ofNat u)))) fM_andMany ((r fM_andMany).1, (upd (r fM_andMany).2 rest.length (((r fM_andMany).2 rest.length) + 1)))) := by
    refine ⟨?_, ⟨⟨⟨hA, hO, (fun e he => nomatch he)⟩, hJ.fr (fun i hi => ⟨upd_ne (f := (r fM_andMany).2) (by omega), rfl, upd_ne (f := (r fM_andLast).2) (by omega), rfl, rfl, rfl⟩) (fun e he => rfl)⟩, hj⟩, hM, hs⟩
    have e : wt (([], ands ++ [(u, U)], ors) :: rest) ++ [] = wt rest ++ ors ++ (ands ++ [(u, U)]) := app3 _ _ _
    rw [e]
    exact (hP.ua (by decide) (by decide) (by rfl)).ua (by decide) (by decide) (by rfl)
  generalize (a2_ua (a2_ua r fM_andLast ((r fM_andLast).1, (upd (r fM_andLast).2 rest.length (Int32.ofNat u)))) fM_andMany ((r fM_andMany).1, (upd (r fM_andMany).2 rest.length (((r fM_andMany).2 rest.length) + 1)))) = r1 at hC
  rw [cdU_c]
  refine ml_ms CS.lf hC (fun h65 g1 h1 => pl_neg (by decide) ?_) (fun h65 => pl_pos (by decide) ?_)
  · refine ⟨0, rfl, Or.inr (Or.inr ⟨rfl, ([], ands ++ [(u, U)], ors), rest, s, q + 1, h1, ?_⟩)⟩
    exact cdA_and h65 hU u
  · obtain ⟨e1, ls, el⟩ : ∃ e1 ls, ands ++ [(u, U)] = e1 :: ls := by
      cases ands with
      | nil => exact ⟨_, _, rfl⟩
      | cons a l => exact ⟨_, _, rfl⟩
    rw [el] at hC
    refine pl_n (zM_closeAnds hn hC) (fun _ _ _ e => e) (fun g2 r2 e2 => ?_)
    obtain ⟨c, hC2⟩ := e2
    refine ml_ms CS.lf hC2 (fun h66 g3 h3' => pl_neg (by decide) ?_) (fun h66 => pl_pos (by decide) ?_)
    · refine ⟨0, rfl, Or.inr (Or.inr ⟨rfl, ([], [], ors ++ [(c, whT 51 (e1 :: ls))]), rest, s, q + 1, h3', ?_⟩)⟩
      have := cdA_or (w := w) (fin := fun q s R => if rest = [] then some (q, s, R) else cdU w rest (q + 1) none R) (ands := ands) (ors := ors) (s := s) h65 h66 hU u c
      rw [el] at this
      exact this
    · have heq := cdA_end (w := w) (fin := fun q s R => if rest = [] then some (q, s, R) else cdU w rest (q + 1) none R) (ands := ands) (ors := ors) (s := s) (U := U) h65 h66 u c
      rw [el] at heq
      show pl _ (kFB w f n D K N (cdA w (fun q s R => if rest = [] then some (q, s, R) else cdU w rest (q + 1) none R) ands ors q s U)) kN
      rw [heq]
      obtain ⟨o1, lo, eo⟩ : ∃ e1' ls', ors ++ [(c, whT 51 (e1 :: ls))] = e1' :: ls' := by
        cases ors with
        | nil => exact ⟨_, _, rfl⟩
        | cons a l => exact ⟨_, _, rfl⟩
      rw [eo] at hC2 ⊢
      obtain ⟨hP2, ⟨⟨⟨i1, i2, i3⟩, i4⟩, i5⟩, i6, i7⟩ := hC2
      have hP2' : Pn w f n D K N q (wt rest ++ o1 :: lo) g2 r2 := by
        have e : wt (([], [], o1 :: lo) :: rest) ++ [] = wt rest ++ o1 :: lo := by
          show wt rest ++ (o1 :: lo ++ []) ++ [] = _
          rw [List.append_nil, List.append_nil]
        rw [e] at hP2
        exact hP2
      have i2a : (r2 fM_orFirst).2 rest.length = Int32.ofNat o1.1 := i2.2.1 o1 lo rfl
      rw [i2a]
      refine pl_if (fun _ => pl_if (fun _ => pl_if (fun _ => ?_) (fun _ => trivial)) (fun _ => trivial)) (fun _ => trivial)
      refine zM_whole hn (fun q => absurd q.2 (by decide)) i2.1 i2.2.2.2 hP2' (fun v g5 r5 hP5 hr5 hg5 hnx5 hfk5 => ?_)
      cases rest with
      | nil =>
        have hmz : g5 fM_marks = 0 := by
          rw [hg5 fM_marks (by decide)]
          exact i32e (i6.2.trans rfl)
        refine pl_neg (by rw [c2_ne]; exact fun e => e hmz) ?_
        exact ⟨_, rfl, Or.inr (Or.inl ⟨v, q, s, _, rfl, by rw [if_pos rfl], hP5⟩)⟩
      | cons lv2 rest2 =>
        have hml : mkl (([], [], o1 :: lo) :: lv2 :: rest2) = -1 :: mkl (lv2 :: rest2) := by
          show [] ++ (if lv2 :: rest2 = [] then [] else -1 :: mkl (lv2 :: rest2)) = _
          rw [if_neg (by simp)]
          rfl
        rw [hml] at i6
        have hmv : (g5 fM_marks).toInt = ((mkl (lv2 :: rest2)).length : Int) + 1 := by
          rw [hg5 fM_marks (by decide)]
          exact i6.2
        refine pl_pos (by rw [c2_ne]; exact fun e => by rw [e, i32_0] at hmv; omega) ?_
        have hG5 := hP5.gd
        refine pl_u (xM_isSign L xs 1 hG5.1.mrd hG5.2.2.2.1) (fun e => pl_pos (by decide) ?_) (fun e => pl_neg (by decide) ?_)
        · rw [if_neg (by simp)]
          have hP6 := Pn.lf.2 _ _ _ hP5 (wg_iff.mp e).1
          refine H x1 x3 (some (.int (Int32.ofNat v))) v (q + 1) none _ lv2 rest2 _ r5 (Or.inr ⟨_, rfl⟩) ⟨(((hP6.ug (by decide)).ug (by decide)).ug (by decide)).ug (by decide), ⟨i4.fr (fun i _ => Js.we hr5 i) (fun e he => hnx5 e he), ?_⟩, ⟨?_, ?_⟩, rfl⟩
          · show (g5 fM_joints - 1).toInt = _
            have ij : (g5 fM_joints).toInt = ((lv2 :: rest2).length : Int) + 1 := by
              rw [hg5 fM_joints (by decide)]
              exact i5
            rw [i32_dec (by omega), ij]
            omega
          · rw [hr5 fM_mark (by decide)]
            exact i6.1.2
          · show (g5 fM_marks - 1).toInt = _
            rw [i32_dec (by omega), hmv]
            omega
        · exact pm_fa hG5 hG5.2.2.2.1 hG5.2.2.2.2 (fun g6 r6 h6 f6 => ⟨0, rfl, Or.inl ⟨_, h6⟩⟩)
theorem zbf_72 (hn : 1 ≤ n) (H : BFT L xs m d k w f n D K N) (x1 x3 x4 : Int32) {u q : Nat} {U : Tf} {ands ors : List (Nat × Tf)} {rest : List Lv} {s : Sjt} {g : a2_G} {r : a2_A} (h : CS w f n D K N (([], ands, ors) :: rest) [(u, U)] s q g r) : pl (BM_behindFactor_72_1 L xs (m + 1) d k x1 (Int32.ofNat u) x3 x4 g r) (kFB w f n D K N (cdU w (([], ands, ors) :: rest) q s U)) kN := by
  obtain ⟨hP, ⟨⟨⟨j1, j2, j3⟩, j4⟩, hj⟩, hm, hs⟩ := h
  have hj' : (g fM_joints).toInt = ((rest.length + 1 : Nat) : Int) := hj
  have hx : (g fM_joints - 1).toInt = (rest.length : Int) := by
    rw [i32_dec (by omega), hj']
    omega
  have ej : (g fM_joints - 1).toNatClampNeg = rest.length := tn_at hx
  have hP' : Pn w f n D K N q (wt rest ++ ors ++ (ands ++ [(u, U)])) g r := by
    have e : wt (([], ands, ors) :: rest) ++ [(u, U)] = wt rest ++ ors ++ (ands ++ [(u, U)]) := by
      show wt rest ++ (ors ++ ands) ++ [(u, U)] = _
      simp only [List.append_assoc]
    rw [e] at hP
    exact hP
  have hfa := hP'.fa
  have hum : (u, U) ∈ wt rest ++ ors ++ (ands ++ [(u, U)]) := List.mem_append_right _ (List.mem_append_right _ List.mem_cons_self)
  have hu8 : u < 8000 := (hfa.2.1 (u, U) hum).2
  have eu : (Int32.ofNat u).toNatClampNeg = u := tn_at (on_eq (by omega))
  have hlen : ands.length ≤ 8000 := by
    have := hfa.2.2
    simp at this
    omega
  have hndA : (fsts (wt rest ++ ors ++ ands ++ [(u, U)])).Nodup := by
    have := hfa.1
    rw [← List.append_assoc] at this
    exact this
  have hsep : ∀ e, e ∈ wt rest ++ ors ++ ands → e.1 ≠ u := fun e he => nd_sep hndA he List.mem_cons_self
  unfold BM_behindFactor_72_1
  rw [ej, eu]
  refine pl_if (fun _ => pl_if (fun _ => ?_) (fun _ => trivial)) (fun _ => trivial)
  refine pl_in (fun c0 => ?_) (fun c0 => ?_)
  · refine pl_if (fun _ => pl_if (fun _ => ?_) (fun _ => trivial)) (fun _ => trivial)
    rcases List.eq_nil_or_concat ands with e0 | ⟨l0, x, e0⟩
    · exfalso
      have j1' := j1.1
      rw [e0] at j1'
      exact c0 (i32e (j1'.trans rfl))
    · rw [List.concat_eq_append] at e0
      have hx0 : (r fM_andLast).2 rest.length = Int32.ofNat x.1 := j1.2.2.1 x l0 e0
      have hxm : x ∈ ands := by rw [e0]; exact List.mem_append_right _ List.mem_cons_self
      have hxm' : x ∈ wt rest ++ ors ++ (ands ++ [(u, U)]) := List.mem_append_right _ (List.mem_append_left _ hxm)
      have hx8 : x.1 < 8000 := (hfa.2.1 x hxm').2
      have exn : (Int32.ofNat x.1).toNatClampNeg = x.1 := tn_at (on_eq (by omega))
      rw [hx0, exn]
      have hne : ∀ e, e ∈ wt rest ++ ors ++ l0 → e.1 ≠ x.1 := fun e he => by
        refine nd_sep (l1 := wt rest ++ ors ++ l0) (l2 := [x]) ?_ he List.mem_cons_self
        have := hndA
        rw [fsts_app] at this
        have := (List.nodup_append.mp this).1
        rw [e0, ← List.append_assoc] at this
        exact this
      have hN2 : ∀ e, e ∈ wt rest ++ ors ++ l0 → upd (upd (r fM_next).2 u 0) x.1 (Int32.ofNat u) e.1 = (r fM_next).2 e.1 := fun e he => by
        rw [upd_ne (hne e he), upd_ne]
        refine hsep e ?_
        rcases List.mem_append.mp he with he | he
        · exact List.mem_append_left _ he
        · exact List.mem_append_right _ (by rw [e0]; exact List.mem_append_left _ he)
      refine zbf_117 hn H x1 (g fM_joints - 1) x4 hx ((hP'.nx (e := (u, U)) hum 0).nx (e := x) hxm' (Int32.ofNat u)) (j1.add hlen upd_eq (if_neg c0).symm upd_eq (fun e l1 q => ?_)) (j2.fr rfl rfl rfl (fun e he => hN2 e (List.mem_append_left _ (List.mem_append_right _ he)))) (j4.fr (fun i hi => ⟨rfl, rfl, rfl, rfl, rfl, rfl⟩) (fun e he => hN2 e (List.mem_append_left _ (List.mem_append_left _ he)))) hj' hm hs
      have q0 : ands = l1 ++ [e] := q
      rw [e0] at q0
      have q1 := List.append_inj' q0 rfl
      have q2 : x = e := by
        have := q1.2
        injection this
      refine ⟨?_, fun e' he' => ?_⟩
      · rw [← q2]
        exact upd_eq
      · exact hN2 e' (List.mem_append_right _ (by rw [q1.1]; exact he'))
  · refine pl_if (fun _ => ?_) (fun _ => trivial)
    rw [Decidable.not_not] at c0
    have e0 : ands = [] := by
      have : ((r fM_andMany).2 rest.length).toInt = (ands.length : Int) := j1.1
      rw [c0, i32_0] at this
      exact List.length_eq_zero_iff.mp (by omega)
    have hN2 : ∀ e, e ∈ wt rest ++ ors → upd (r fM_next).2 u 0 e.1 = (r fM_next).2 e.1 := fun e he => upd_ne (hsep e (List.mem_append_left _ he))
    refine zbf_117 hn H x1 (g fM_joints - 1) x4 hx ((hP'.nx (e := (u, U)) hum 0).ua (j := fM_andFirst) (x := ((r fM_andFirst).1, (upd (r fM_andFirst).2 rest.length (Int32.ofNat u)))) (by decide) (by decide) (by rfl)) (j1.add hlen upd_eq ((upd_eq (f := (r fM_andFirst).2)).trans (if_pos c0).symm) upd_eq (fun e l1 q => ?_)) (j2.fr rfl rfl rfl (fun e he => hN2 e (List.mem_append_right _ he))) (j4.fr (fun i hi => ⟨rfl, upd_ne (f := (r fM_andFirst).2) (by omega), rfl, rfl, rfl, rfl⟩) (fun e he => hN2 e (List.mem_append_left _ he))) hj' hm hs
    have q0 : ands = l1 ++ [e] := q
    rw [e0] at q0
    exact absurd q0.symm (by simp)
/-- a NOT that ends here -/
theorem zbf_not (hn : 1 ≤ n) (H : BFT L xs m d k w f n D K N) (x1 : Int32) (x4 : Option Value) (h4 : x4 = none ∨ ∃ y : Int32, x4 = some (.int y)) {u q pn : Nat} {U : Tf} {ps : List Nat} {ands ors : List (Nat × Tf)} {rest : List Lv} {s : Sjt} {g : a2_G} {r : a2_A} (h : CS w f n D K N ((pn :: ps, ands, ors) :: rest) [(u, U)] s q g r) : pl (fn_v (ev L xs (m + 1) d nM_make [.ref cM, .int 52, .int 0, .int (Int32.ofNat pn)] (upd (upd g fM_marks ((g fM_marks) - 1)) fM_level ((g fM_level) - 1)) r) fun v42 g40 r41 => (fn_n (ev L xs (m + 1) d nM_attach [.ref cM, .int v42, .int (Int32.ofNat u)] g40 r41) fun g43 r44 => (lp L xs nM_behindFactor nm_m206 (m + 1) d k 2 [some (.ref cM), some (.int x1), some (.int v42), some (.int v42), x4] g43 r44))) (kFB w f n D K N (cdU w ((pn :: ps, ands, ors) :: rest) q s U)) kN := by
  obtain ⟨hP, ⟨⟨⟨j1, j2, j3⟩, j4⟩, hj⟩, hm, hs⟩ := h
  have hP1 : Pn w f n D K N q (wt ((ps, ands, ors) :: rest) ++ [(u, U)]) (upd (upd g fM_marks ((g fM_marks) - 1)) fM_level ((g fM_level) - 1)) r := (hP.ug (by decide)).ug (by decide)
  have hfa := hP.fa
  have hsep : ∀ e, e ∈ wt ((ps, ands, ors) :: rest) → e.1 ≠ u := fun e he => nd_sep hfa.1 he List.mem_cons_self
  refine ml_md (-1) (fun q => absurd q.2 (by decide)) hP1 (fun v g2 r2 h2 f2 hn2 k2 => ?_)
  have hlt : ∀ e, e ∈ wt ((ps, ands, ors) :: rest) → e.1 < v := fun e he => by
    obtain ⟨D', K', hA, hq, -⟩ := h2
    exact (hq.2.2.1.mem (List.mem_append_left _ he)).2
  refine ml_ma hn h2 (fun g3 r3 h3 f3 hn3 k3 => ?_)
  have hr : ∀ q, q ∉ WEa → r3 q = r q := fun q hq => (f3.2 q hq).trans (f2.2 q hq)
  have hN : ∀ e, e ∈ wt ((ps, ands, ors) :: rest) → (r3 fM_next).2 e.1 = (r fM_next).2 e.1 := fun e he => (hn3 e.1 (hlt e he) (hsep e he)).trans (hn2 e.1 (hlt e he))
  have hj4 : Jtr ((ps, ands, ors) :: rest) r := ⟨⟨j1, j2, fun p hp => j3 p (List.mem_cons_of_mem _ hp)⟩, j4⟩
  have hm2 : (g fM_marks).toInt = ((mkl ((ps, ands, ors) :: rest)).length : Int) + 1 := hm.2
  refine H x1 (Int32.ofNat v) x4 v q s _ (ps, ands, ors) rest g3 r3 h4 ⟨h3, ⟨hj4.fr (fun i _ => Js.we hr i) hN, ?_⟩, ⟨?_, ?_⟩, hs.fr ?_ ?_ (k2.tr k3)⟩
  · rw [f3.1 fM_joints (by decide), f2.1 fM_joints (by decide)]
    exact hj
  · rw [hr fM_mark (by decide)]
    exact hm.1.2
  · rw [f3.1 fM_marks (by decide), f2.1 fM_marks (by decide)]
    show (g fM_marks - 1).toInt = _
    rw [i32_dec (by omega), hm2]
    omega
  · rw [f3.1 fM_subject (by decide), f2.1 fM_subject (by decide)]
    rfl
  · rw [f3.1 fM_compared (by decide), f2.1 fM_compared (by decide)]
    rfl
theorem zbf_2 (hn : 1 ≤ n) (H : BFT L xs m d k w f n D K N) (x1 x3 x4 : Int32) {u q : Nat} {U : Tf} {lv : Lv} {rest : List Lv} {s : Sjt} {g : a2_G} {r : a2_A} (h : CS w f n D K N (lv :: rest) [(u, U)] s q g r) : pl (BM_behindFactor_2_1 L xs (m + 1) d k x1 (Int32.ofNat u) x3 x4 g r) (kFB w f n D K N (cdU w (lv :: rest) q s U)) kN ∧ pl (BM_behindFactor_2_2 L xs (m + 1) d k x1 (Int32.ofNat u) x3 g r) (kFB w f n D K N (cdU w (lv :: rest) q s U)) kN := by
  obtain ⟨ps, ands, ors⟩ := lv
  have hm := h.2.2.1
  cases ps with
  | cons pn ps =>
    have hm2 : (g fM_marks).toInt = ((mkl ((ps, ands, ors) :: rest)).length : Int) + 1 := hm.2
    have em : (g fM_marks - 1).toNatClampNeg = (mkl ((ps, ands, ors) :: rest)).length := tn_at (by
      rw [i32_dec (by omega), hm2]
      omega)
    have hmk : (r fM_mark).2 (mkl ((ps, ands, ors) :: rest)).length = Int32.ofNat pn := hm.1.1
    have hpn : pn ≤ 1500 := h.2.1.1.1.2.2 pn List.mem_cons_self
    have hne : ¬ Int32.ofNat pn = -1 := fun e => by
      have := congrArg Int32.toInt e
      rw [on_eq (by omega)] at this
      have : (pn : Int) = -1 := this
      omega
    refine ⟨?_, ?_⟩
    · unfold BM_behindFactor_2_1
      rw [em, hmk]
      refine pl_neg (by rw [c2_le, i32_0]; omega) (pl_if (fun _ => pl_neg (by rw [c2_eq]; exact hne) (pl_if (fun _ => ?_) (fun _ => trivial))) (fun _ => trivial))
      exact zbf_not hn H x1 (some (.int x4)) (Or.inr ⟨_, rfl⟩) h
    · unfold BM_behindFactor_2_2
      rw [em, hmk]
      refine pl_neg (by rw [c2_le, i32_0]; omega) (pl_if (fun _ => pl_neg (by rw [c2_eq]; exact hne) (pl_if (fun _ => ?_) (fun _ => trivial))) (fun _ => trivial))
      exact zbf_not hn H x1 none (Or.inl rfl) h
  | nil =>
    cases rest with
    | nil =>
      have hm2 : (g fM_marks).toInt = 0 := hm.2
      refine ⟨?_, ?_⟩
      · unfold BM_behindFactor_2_1
        exact pl_pos (by rw [c2_le, i32_0]; omega) (zbf_72 hn H x1 x3 x4 h)
      · unfold BM_behindFactor_2_2
        exact pl_pos (by rw [c2_le, i32_0]; omega) (zbf_72 hn H x1 x3 0 h)
    | cons lv2 rest2 =>
      have hml : mkl (([], ands, ors) :: lv2 :: rest2) = -1 :: mkl (lv2 :: rest2) := by
        show [] ++ (if lv2 :: rest2 = [] then [] else -1 :: mkl (lv2 :: rest2)) = _
        rw [if_neg (by simp)]
        rfl
      rw [hml] at hm
      have hm2 : (g fM_marks).toInt = ((mkl (lv2 :: rest2)).length : Int) + 1 := hm.2
      have em : (g fM_marks - 1).toNatClampNeg = (mkl (lv2 :: rest2)).length := tn_at (by
        rw [i32_dec (by omega), hm2]
        omega)
      have hmk : (r fM_mark).2 (mkl (lv2 :: rest2)).length = -1 := hm.1.1
      refine ⟨?_, ?_⟩
      · unfold BM_behindFactor_2_1
        rw [em, hmk]
        refine pl_neg (by rw [c2_le, i32_0]; omega) (pl_if (fun _ => pl_pos (by decide) ?_) (fun _ => trivial))
        exact zbf_72 hn H x1 x3 x4 h
      · unfold BM_behindFactor_2_2
        rw [em, hmk]
        refine pl_neg (by rw [c2_le, i32_0]; omega) (pl_if (fun _ => pl_pos (by decide) ?_) (fun _ => trivial))
        exact zbf_72 hn H x1 x3 0 h
theorem zbf_l (hn : 1 ≤ n) : ∀ k, BFT L xs m d k w f n D K N
  | 0 => fun _ _ _ _ _ _ _ _ _ _ _ _ _ => pl_l0
  | k + 1 => fun x1 x3 x4 u q s U lv rest g r h4 h => by
    rcases h4 with rfl | ⟨y, rfl⟩
    · rw [lM_behindFactor_2_2]
      exact (zbf_2 hn (zbf_l hn k) x1 x3 0 h).2
    · rw [lM_behindFactor_2_1]
      exact (zbf_2 hn (zbf_l hn k) x1 x3 y h).1
theorem zM_behindFactor (hn : 1 ≤ n) {u q : Nat} {U : Tf} {lv : Lv} {rest : List Lv} {s : Sjt} {g : a2_G} {r : a2_A} (h : CS w f n D K N (lv :: rest) [(u, U)] s q g r) : pl (ev L xs (m + 1) d nM_behindFactor [.ref cM, .int (Int32.ofNat u)] g r) (kFB w f n D K N (cdU w (lv :: rest) q s U)) kN := by
  cases d with
  | zero => trivial
  | succ d =>
    rw [qM_behindFactor]
    exact (zbf_2 hn (zbf_l hn m) (Int32.ofNat u) 0 0 h).2
def COT (L : Nat) (xs : Nat → Int32) (m d k : Nat) (w : Ws) (f : Gh) (n : Nat) (D : Nat → TD) (K : Nat → List Nat) (N : Nat → Int32) : Prop := (∀ (z : Option R2) (x1 x2 : Int32) (b : Nat) (g : a2_G) (r : a2_A), Bd w f b g r → pl (lp L xs nM_condition nm_m198 (m + 1) d k 16 [some (.ref cM), some (.int x1), some (.int x2)] g r) (kMv w f n D K N z) kN) ∧
  (∀ (v q : Nat) (s : Sjt) (T : Tf) (x2 : Int32) (g : a2_G) (r : a2_A), Pn w f n D K N q [(v, T)] g r → pl (lp L xs nM_condition nm_m198 (m + 1) d k 16 [some (.ref cM), some (.int (Int32.ofNat v)), some (.int x2)] g r) (kMv w f n D K N (some (q, s, T))) kN) ∧
  (∀ (x2 : Int32) (lv : Lv) (rest : List Lv) (s : Sjt) (p : Nat) (g : a2_G) (r : a2_A), CS w f n D K N (lv :: rest) [] s p g r → pl (lp L xs nM_condition nm_m198 (m + 1) d k 16 [some (.ref cM), some (.int 0), some (.int x2)] g r) (kMv w f n D K N (b2 (tv w 9 p s []) (cdU w (lv :: rest)))) kN)
theorem cot_b {z : Option R2} (x1 x2 : Int32) {b : Nat} {g : a2_G} {r : a2_A} (h : Bd w f b g r) : pl (BM_condition_16_1 L xs (m + 1) d k x1 x2 g r) (kMv w f n D K N z) kN := by
  unfold BM_condition_16_1 BM_condition_52_1
  exact pl_if (fun _ => ⟨_, rfl, Or.inl ⟨b, h⟩⟩) (fun _ => pl_pos (by rw [c2_ne, h.2.2.1]; decide) ⟨_, rfl, Or.inl ⟨b, h⟩⟩)
theorem cot_v (hn : 1 ≤ n) {v q : Nat} {s : Sjt} {T : Tf} (x2 : Int32) {g : a2_G} {r : a2_A} (h : Pn w f n D K N q [(v, T)] g r) : pl (BM_condition_16_1 L xs (m + 1) d k (Int32.ofNat v) x2 g r) (kMv w f n D K N (some (q, s, T))) kN := by
  unfold BM_condition_16_1 BM_condition_52_1
  have h1 := h.one
  have hv := h1.vn
  refine pl_pos ?_ ⟨_, rfl, Or.inr ⟨v, q, s, T, rfl, rfl, h1⟩⟩
  rw [c2_ne]
  intro e
  rw [e, i32_0] at hv
  omega
theorem cot_1 (hn : 1 ≤ n) (H : COT L xs m d k w f n D K N) (x2 : Int32) {lv : Lv} {rest : List Lv} {s : Sjt} {p : Nat} {g : a2_G} {r : a2_A} (h : CS w f n D K N (lv :: rest) [] s p g r) : pl (BM_condition_16_1 L xs (m + 1) d k 0 x2 g r) (kMv w f n D K N (b2 (tv w 9 p s []) (cdU w (lv :: rest)))) kN := by
  have hG := h.gd
  unfold BM_condition_16_1 BM_condition_49
  refine pl_neg (by decide) (pl_neg (by rw [c2_ne, hG.2.2.1]; decide) ?_)
  refine pl_v (zM_factor hn h) (fun _ _ _ e => e) (fun v1 g1 r1 e1 => ?_)
  obtain ⟨v1', ev, e2⟩ := e1
  cases ev
  rcases e2 with ⟨b, h1⟩ | ⟨u, U, lv1, rest1, s1, q1, rfl, hx, h1, eA⟩ | ⟨rfl, lv1, rest1, s1, q1, h1, eA⟩
  · exact pl_if (fun _ => H.1 _ 0 v1 b g1 r1 h1) (fun _ => pl_pos (by rw [c2_ne, h1.2.2.1]; decide) (H.1 _ 0 v1 b g1 r1 h1))
  · rw [eA]
    have hG1 := h1.gd
    refine pl_neg (by rw [c2_le, i32_0]; omega) (pl_neg (by rw [c2_ne, hG1.2.2.1]; decide) ?_)
    refine pl_v (zM_behindFactor hn h1) (fun _ _ _ e => e) (fun v3 g3 r3 e3 => ?_)
    obtain ⟨v3', ev3, e4⟩ := e3
    cases ev3
    rcases e4 with ⟨b, h3⟩ | ⟨v, q, s3, T, rfl, ez, h3⟩ | ⟨rfl, lv3, rest3, s3, q3, h3, ez⟩
    · exact H.1 _ v3 _ b g3 r3 h3
    · rw [ez]
      exact H.2.1 v q s3 T _ g3 r3 h3
    · rw [ez]
      exact H.2.2 _ lv3 rest3 s3 q3 g3 r3 h3
  · rw [eA]
    refine pl_pos (by decide) ?_
    exact H.2.2 0 lv1 rest1 s1 q1 g1 r1 h1
theorem cot_l (hn : 1 ≤ n) : ∀ k, COT L xs m d k w f n D K N
  | 0 => ⟨fun _ _ _ _ _ _ _ => pl_l0, fun _ _ _ _ _ _ _ _ => pl_l0, fun _ _ _ _ _ _ _ _ => pl_l0⟩
  | k + 1 => ⟨fun z x1 x2 b g r h => by
      rw [lM_condition_16_1]
      exact cot_b x1 x2 h, fun v q s T x2 g r h => by
      rw [lM_condition_16_1]
      exact cot_v hn x2 h, fun x2 lv rest s p g r h => by
      rw [lM_condition_16_1]
      exact cot_1 hn (cot_l hn k) x2 h⟩
theorem zM_condition {p : Nat} {g : a2_G} {r : a2_A} (h : Am w f p n D K g r) : pl (ev L xs (m + 1) d nM_condition [.ref cM] g r) (kMv w f n D K (r fM_next).2 (tv w 5 p none [])) kN := by
  cases d with
  | zero => trivial
  | succ d =>
    have hn := h.2.2.1
    rw [qM_condition, cd_top]
    have h1 : Am w f p n D K (upd (upd g fM_marks 0) fM_joints 0) r := (h.ug (by decide)).ug (by decide)
    refine pl_n (xA_joint h1.ml) (fun _ _ _ e => e) (fun g2 r2 e2 => ?_)
    obtain ⟨-, hb, rfl, rfl⟩ := e2
    have e0 : ((upd (upd g fM_marks 0) fM_joints 0) fM_joints).toNatClampNeg = 0 := rfl
    rw [e0]
    refine cot_1 hn (cot_l hn m) 0 ⟨?_, ⟨⟨⟨JL.nil (upd_eq (f := (r fM_andMany).2) (k := 0)), JL.nil (upd_eq (f := (r fM_orMany).2) (k := 0)), (fun e he => nomatch he)⟩, trivial⟩, rfl⟩, ⟨trivial, rfl⟩, rfl⟩
    exact ((((Pn.nil h1).ug (by decide)).ug (by decide)).ua (by decide) (by decide) (by rfl)).ua (by decide) (by decide) (by rfl)
theorem zM_conditionOf (hn : 1 ≤ n) {P : Nat → Prop} {v p : Nat} {dd : TD} {F : Tf} {g : a2_G} {r : a2_A} (h : Wn P w f n D K N p v (nd dd F) g r) : pl (ev L xs (m + 1) d nM_conditionOf [.ref cM, .int (Int32.ofNat v)] g r) (kMI P w f n D K N v dd (b2 (tv w 5 p none []) fun q _ T => o2 q (F ++ T))) kN := by
  cases d with
  | zero => trivial
  | succ d =>
    rw [qM_conditionOf]
    have hG := h.gd
    obtain ⟨n1, D1, K1, hA, hq, hN⟩ := h
    unfold BM_conditionOf_26
    refine pl_pos (by rw [c2_eq]; exact hG.2.2.1) ?_
    refine ml_vI (zM_condition hA) (fun u q s T g1 r1 ez h1 => ?_) (fun x b g1 r1 h1 => ?_)
    · have hG1 := h1.gd
      refine pl_neg (by rw [c2_ne, hG1.2.2.1]; decide) ?_
      exact ml_hg hn hq hN h1 (fun g2 r2 h2 => ⟨rfl, Or.inr ⟨q, none, _, rfl, h2⟩⟩)
    · exact pl_pos (by rw [c2_ne, h1.2.2.1]; decide) ⟨rfl, Or.inl ⟨b, h1⟩⟩
end
