/-! The model's conditions, III: behindFactor, condition, conditionOf. -/
theorem tM_meetsX (L : Nat) (xs : Nat → Int32) {m d : Nat} (hd : 3 ≤ d) (w : Int32) {b : Int} {s : Sg} {P : List Nat} {g : a2_G} {r : a2_A} (h : Mst b s P g r) (hb : g fM_bad = 0) : wp (ev L xs (m + 1) d nM_meets [.ref cM, .int w] g r) (fun o g' r' => r' = r ∧ (o = some (.int 0) ∧ g' = g ∨ o = some (.int 1) ∧ g' = upd g fM_at (g fM_at + 1) ∧ Mst (b - 4) s P g' r' ∧ (g' fM_at).toInt = (g fM_at).toInt + 1)) kN := by
  obtain ⟨d, rfl⟩ : ∃ e, d = e + 3 := ⟨d - 3, by omega⟩
  rw [M_meets L xs m d h.a0 h.W]
  cases hw : Mm g r w with
  | false => exact ⟨rfl, Or.inl ⟨rfl, rfl⟩⟩
  | true =>
    obtain ⟨p1, p2, p3⟩ := h.ps hb (Mm_lt hw)
    exact ⟨rfl, Or.inr ⟨rfl, rfl, p1, p2⟩⟩
theorem wp_vX {z : Option fn_Z} {b : Int} {s : Sg} {P : List Nat} {g : a2_G} {r : a2_A} {k : Int32 → a2_G → a2_A → Option fn_Z} {Q : Option Value → a2_G → a2_A → Prop} {X : Nat → a2_G → a2_A → Prop} (h : wp z (fun o g' r' => r' = r ∧ (o = some (.int 0) ∧ g' = g ∨ o = some (.int 1) ∧ g' = upd g fM_at (g fM_at + 1) ∧ Mst (b - 4) s P g' r' ∧ (g' fM_at).toInt = (g fM_at).toInt + 1)) kN) (h0 : wp (k 0 g r) Q X) (h1 : Mst (b - 4) s P (upd g fM_at (g fM_at + 1)) r → (upd g fM_at (g fM_at + 1) fM_at).toInt = (g fM_at).toInt + 1 → wp (k 1 (upd g fM_at (g fM_at + 1)) r) Q X) : wp (fn_v z k) Q X := by
  refine wp_v h (fun _ _ _ hx => hx.elim) ?_
  rintro o g' r' ⟨rfl, ⟨rfl, rfl⟩ | ⟨rfl, rfl, e3, e4⟩⟩
  · exact ⟨0, rfl, h0⟩
  · exact ⟨1, rfl, h1 e3 e4⟩
def kBF (b : Int) (s : Sg) (P : List Nat) (K : List Int32) (g : a2_G) (r : a2_A) : Option Value → a2_G → a2_A → Prop := fun o g' r' => ∃ v : Int32, o = some (.int v) ∧ (v = 0 ∧ xB (b + 4) s g r g' r' ∨ v = 0 ∧ Ex g r g' r' ∧ (g fM_at).toInt < (g' fM_at).toInt ∧ (∃ J' K', CT b s P J' K' [] g' r' ∧ (g' fM_level).toInt + K.length = (g fM_level).toInt + K'.length ∧ K'.length ≤ K.length) ∨ 0 < v.toInt ∧ Mi g' v ∧ Ex g r g' r' ∧ g' fM_bad = 0 ∧ Mst b s (nt v :: P) g' r' ∧ (g' fM_level).toInt + K.length = (g fM_level).toInt)
theorem kBF_tr {b : Int} {s : Sg} {P : List Nat} {K K1 : List Int32} {g0 g : a2_G} {r0 r : a2_A} (he : Ex g0 r0 g r) (hC : K1.length ≤ K.length) (hl : (g fM_level).toInt + K.length = (g0 fM_level).toInt + K1.length) (o : Option Value) (g' : a2_G) (r' : a2_A) (h : kBF b s P K1 g r o g' r') : kBF b s P K g0 r0 o g' r' := by
  have h2 := he.2.2
  obtain ⟨v, rfl, ⟨e, hb⟩ | ⟨e, x1, x2, J', K', c1, c2, c3⟩ | ⟨e, x1, x2, x3, x4, x5⟩⟩ := h
  · exact ⟨v, rfl, Or.inl ⟨e, he.trans hb.1, hb.2⟩⟩
  · exact ⟨v, rfl, Or.inr (Or.inl ⟨e, he.trans x1, by omega, J', K', c1, by omega, by omega⟩)⟩
  · exact ⟨v, rfl, Or.inr (Or.inr ⟨e, x1, he.trans x2, x3, x4, by omega⟩)⟩
theorem Bbf (L : Nat) (xs : Nat → Int32) (m d : Nat) : ∀ (k : Nat) (x1 x2 x3 x4 : Int32) (g : a2_G) (r : a2_A), BM_behindFactor_2_2 L xs m d k x1 x2 x3 g r = BM_behindFactor_2_1 L xs m d k x1 x2 x3 x4 g r := by
  intro k
  induction k with
  | zero =>
    intro x1 x2 x3 x4 g r
    exact fs_ite rfl (fs_ite (fs_ite rfl (fs_ite (fs_fv fun v g r => fs_fn fun g r => rfl) rfl)) rfl)
  | succ k ih =>
    intro x1 x2 x3 x4 g r
    refine fs_ite rfl (fs_ite (fs_ite rfl (fs_ite (fs_fv fun v g r => fs_fn fun g r => ?_) rfl)) rfl)
    rw [lM_behindFactor_2_2, lM_behindFactor_2_1]
    exact ih _ _ _ _ _ _
theorem Bbf0 (L : Nat) (xs : Nat → Int32) (m d k : Nat) (x1 x2 x3 : Int32) (g : a2_G) (r : a2_A) : BM_behindFactor_2 L xs m d k x1 x2 g r = BM_behindFactor_2_2 L xs m d k x1 x2 x3 g r := rfl
def bfS (L : Nat) (xs : Nat → Int32) (m d : Nat) (b : Int) (s : Sg) (P : List Nat) (K : List Int32) : Prop := ∀ (k : Nat) (J : List (List Int32 × List Int32)) (x1 x2 x3 x4 : Int32) (g : a2_G) (r : a2_A), K.length < k → CT (b - 2) s P J K [nt x2] g r → Mi g x2 → 0 < x2.toInt → (K.length : Int) ≤ (g fM_level).toInt → (g fM_level).toInt ≤ 40 → wp (BM_behindFactor_2_1 L xs (m + 1) d k x1 x2 x3 x4 g r) (kBF b s P K g r) kN
theorem bf72 (L : Nat) (xs : Nat → Int32) {m d : Nat} (hm : 4294967296 ≤ m) (hd : 4 ≤ d) {b : Int} {s : Sg} {P : List Nat} (hl : b ≤ 1880) {K : List Int32} (hK : K = [] ∨ ∃ K', K = -1 :: K' ∧ bfS L xs m d b s P K') : ∀ (k : Nat) (J : List (List Int32 × List Int32)) (x1 x2 x3 x4 : Int32) (g : a2_G) (r : a2_A), K.length < k → CT (b - 2) s P J K [nt x2] g r → Mi g x2 → 0 < x2.toInt → (K.length : Int) ≤ (g fM_level).toInt → (g fM_level).toInt ≤ 40 → wp (BM_behindFactor_72_1 L xs (m + 1) d k x1 x2 x3 x4 g r) (kBF b s P K g r) kN := by
  intro k J x1 x2 x3 x4 g r hk hC hi h0 hv0 hv
  obtain ⟨h, hJ, hJM, hb, hjn, hmn, hmk, hnp, hKl⟩ := hC
  have n0 := nn_0 K
  have npl := np_le K
  cases J with
  | nil => exact absurd hnp (by simp)
  | cons AO J =>
    obtain ⟨A, O⟩ := AO
    have h : Mst (b - 2 - nn K) s (nt x2 :: (A.map nt ++ (O.map nt ++ cfl P J))) g r := h
    obtain ⟨⟨hA, hO⟩, hJ⟩ := hJ
    obtain ⟨hMA, hMO, hJM⟩ := hJM
    have hJl : ((A, O) :: J).length = J.length + 1 := rfl
    have q := h.q
    have i1 := hi.1
    have i2 := hi.2
    have i8 : In8 x2 := ⟨by omega, by omega⟩
    have ec : ((g fM_joints) - 1).toInt = J.length := by
      rw [i32_dec (by omega)]
      omega
    have ec' : ((g fM_joints) - 1).toNatClampNeg = J.length := by rw [nc_eq, ec]; rfl
    have hjj : (g fM_joints).toInt = (J.length : Int) + 1 := by omega
    have nd := List.nodup_cons.mp h.nd
    have ndA := List.nodup_append.mp nd.2
    have tA : nt x2 ∉ A.map nt := fun hx => nd.1 (List.mem_append_left _ hx)
    have ln := h.len (by omega)
    rw [List.length_cons, List.length_append, List.length_map] at ln
    have hlap := lap (qF := fM_andFirst) (qL := fM_andLast) (qM := fM_andMany) (t := x2) (by decide) (by decide) (by decide) (by decide) (by decide) (by decide) hA ndA.1 tA (by omega)
    have hl2 : (r fM_andMany).2 J.length ≠ 0 → nt ((r fM_andLast).2 J.length) ∈ A.map nt := fun hz => List.mem_map.mpr ⟨_, hA.in hz, rfl⟩
    have k2 := (h.lap (qF := fM_andFirst) (qL := fM_andLast) (qM := fM_andMany) (j := J.length) (t := x2) List.mem_cons_self i8 (fun hz => List.mem_cons_of_mem _ (List.mem_append_left _ (hl2 hz))) (by decide) (by decide) (by decide) (by decide)).perm (P' := (A ++ [x2]).map nt ++ (O.map nt ++ cfl P J)) (by
      rw [List.map_append, List.append_assoc]
      exact List.perm_middle)
    have hkOJ : nk (O.map nt ++ cfl P J) r (lapR fM_andFirst fM_andLast fM_andMany J.length x2 r) := by
      intro x hx
      have ne1 : x ≠ nt x2 := fun e => nd.1 (by rw [← e]; exact List.mem_append_right _ hx)
      exact lap_nx (by decide) (by decide) (by decide) ne1 (fun hz e => ndA.2.2 _ (hl2 hz) x hx e.symm)
    have eJ : jag J.length r (lapR fM_andFirst fM_andLast fM_andMany J.length x2 r) := jag.rf.lap (Nat.le_refl _)
    have hJ2 : jst (lapR fM_andFirst fM_andLast fM_andMany J.length x2 r) J := hJ.kp (P := P) eJ (hkOJ.sub (fun x hx => List.mem_append_right _ hx))
    have hO2 : lst (lapR fM_andFirst fM_andLast fM_andMany J.length x2 r fM_next).2 ((lapR fM_andFirst fM_andLast fM_andMany J.length x2 r fM_orFirst).2 J.length) ((lapR fM_andFirst fM_andLast fM_andMany J.length x2 r fM_orLast).2 J.length) ((lapR fM_andFirst fM_andLast fM_andMany J.length x2 r fM_orMany).2 J.length) O := by
      rw [lap_ne (q := fM_orFirst) (by decide) (by decide) (by decide) (by decide), lap_ne (q := fM_orLast) (by decide) (by decide) (by decide) (by decide), lap_ne (q := fM_orMany) (by decide) (by decide) (by decide) (by decide)]
      exact hO.kp (fun x hx => hkOJ _ (List.mem_append_left _ (List.mem_map.mpr ⟨x, hx, rfl⟩)))
    have eF : Ej g r g (lapR fM_andFirst fM_andLast fM_andMany J.length x2 r) := ⟨lap_fm (by decide) (by decide) (by decide), Int.le_refl _, Int.le_refl _⟩
    have eK : mks (lapR fM_andFirst fM_andLast fM_andMany J.length x2 r) K := hmk.eq (lap_ne (by decide) (by decide) (by decide) (by decide))
    generalize hr2 : lapR fM_andFirst fM_andLast fM_andMany J.length x2 r = r2 at hlap k2 hkOJ eJ hJ2 hO2 eF eK
    have hMA2 : ∀ x, x ∈ A ++ [x2] → Mi g x ∧ 0 < x.toInt := fun x hx => by
      rcases List.mem_append.mp hx with hx | hx
      · exact hMA x hx
      · rw [List.mem_singleton.mp hx]
        exact ⟨hi, h0⟩
    have t117 : ∀ (x5 : Int32) (r1 : a2_A), x5.toInt = J.length → aw (aw r1 fM_andLast J.length x2) fM_andMany J.length ((r1 fM_andMany).2 J.length + 1) = r2 → (r1 fM_andLast).1 = 64 → (r1 fM_andMany).1 = 64 → wp (BM_behindFactor_117_1 L xs (m + 1) d k x1 x2 x5 x4 g r1) (kBF b s P K g r) kN := by
      intro x5 r1 ex5 er l1 l2
      have ex5' : x5.toNatClampNeg = J.length := by rw [nc_eq, ex5]; rfl
      unfold BM_behindFactor_117_1
      simp only [ex5']
      refine wp_in l1 (by omega) (by omega) ?_
      refine wp_in (show (aw r1 fM_andLast J.length x2 fM_andMany).1 = 64 from l2) (by omega) (by omega) ?_
      refine wp_in (show (aw r1 fM_andLast J.length x2 fM_andMany).1 = 64 from l2) (by omega) (by omega) ?_
      have hst : wp (fn_v (ev L xs (m + 1) d nM_meets [.ref cM, .int 65] g r2) fun v25 g23 r24 => (if am_c2 .eq v25 0 = true then (fn_n (ev L xs (m + 1) d nM_closeAnds [.ref cM] g23 r24) fun g26 r27 => (fn_v (ev L xs (m + 1) d nM_meets [.ref cM, .int 66] g26 r27) fun v30 g28 r29 => (if am_c2 .eq v30 0 = true then (if am_inr x5 (r29 fM_orFirst).1 = true then (if am_inr x5 (r29 fM_orLast).1 = true then (if am_inr x5 (r29 fM_orMany).1 = true then (fn_v (ev L xs (m + 1) d nM_whole [.ref cM, .int 50, .int ((r29 fM_orFirst).2 J.length), .int ((r29 fM_orLast).2 J.length), .int ((r29 fM_orMany).2 J.length)] g28 r29) fun v33 g31 r32 => (if am_c2 .ne (g31 fM_marks) 0 = true then (fn_v (ev L xs (m + 1) d nM_isSign [.ref cM, .int (g31 fM_at), .int 1] g31 r32) fun v36 g34 r35 => (if am_c2 .ne v36 0 = true then (lp L xs nM_behindFactor nm_m206 (m + 1) d k 2 [some (.ref cM), some (.int x1), some (.int v33), some (.int x5), some (.int v33)] (upd (upd (upd (upd (upd g34 fM_at ((g34 fM_at) + 1)) fM_marks ((g34 fM_marks) - 1)) fM_level ((g34 fM_level) - 1)) fM_joints ((g34 fM_joints) - 1)) fM_subject 0) r35) else (fn_v (ev L xs (m + 1) d nM_fail [.ref cM, .int 1, .int (g34 fM_at)] g34 r35) fun v39 g37 r38 => (some (.inl (some (.int 0)), g37, r38))))) else (some (.inl (some (.int v33)), g31, r32)))) else none) else none) else none) else (some (.inl (some (.int 0)), g28, r29))))) else (some (.inl (some (.int 0)), g23, r24)))) (kBF b s P K g r) kN := by
        refine wp_vX (tM_meetsX L xs (by omega) _ k2 hb) ?_ (fun k3 t3 => ?_)
        · refine wp_t (by decide) ?_
          refine wp_n (tM_closeAnds L xs hm (by omega) k2 hjj (by omega) (fun e => by simp at e) ⟨hlap, hO2⟩ hMA2 hMO (by omega)) (fun _ _ _ hx => hx.elim) ?_
          rintro o g3 r3 ⟨rfl, E3, b3, t3, hk3, j3, v, iv, v0, ⟨z1, z2⟩, k3⟩
          refine ⟨rfl, ?_⟩
          have E3' : Ej g r g3 r3 := eF.trans E3
          have hb3 : g3 fM_bad = 0 := b3.trans hb
          have nn3 := E3.2.1
          have jst3 : jst r3 J := hJ2.kp (P := P) j3 hk3
          have jmi3 : jMi g3 J := hJM.up nn3
          have mo3 : ∀ x, x ∈ O ++ [v] → Mi g3 x ∧ 0 < x.toInt := fun x hx => by
            rcases List.mem_append.mp hx with hx | hx
            · exact ⟨⟨(hMO x hx).1.1, by have := (hMO x hx).1.2; omega⟩, (hMO x hx).2⟩
            · rw [List.mem_singleton.mp hx]
              exact ⟨iv, v0⟩
          have jn3 := E3.1.1 fM_joints (by decide)
          have mn3 := E3.1.1 fM_marks (by decide)
          have lv3 := E3.1.1 fM_level (by decide)
          have mk3 : mks r3 K := eK.eq (E3.1.2 fM_mark (by decide))
          refine wp_vX (tM_meetsX L xs (by omega) _ k3 hb3) ?_ (fun k4 t4 => ?_)
          · refine wp_t (by decide) ?_
            refine wp_in (k3.1.1.at 36) (by omega) (by omega) ?_
            refine wp_in (k3.1.1.at 37) (by omega) (by omega) ?_
            refine wp_in (k3.1.1.at 38) (by omega) (by omega) ?_
            refine wp_v (tM_whole L xs hm (by omega) _ k3 (fun e => by simp at e) z2 mo3 (by omega)) (fun _ _ _ hx => hx.elim) ?_
            rintro o g4 r4 ⟨w, rfl, n4, b4, t4, hk4, iw, w0, k4⟩
            refine ⟨w, rfl, ?_⟩
            have E4 : Ej g r g4 r4 := E3'.trans n4.j
            have hb4 : g4 fM_bad = 0 := b4.trans hb3
            have nn4 := n4.2.1
            have mn4 : g4 fM_marks = g fM_marks := (n4.1.1 fM_marks (by decide)).trans mn3
            have jn4 : g4 fM_joints = g fM_joints := (n4.1.1 fM_joints (by decide)).trans jn3
            have lv4 : g4 fM_level = g fM_level := (n4.1.1 fM_level (by decide)).trans lv3
            have q4 := k4.q
            rcases hK with rfl | ⟨K', rfl, hS⟩
            · have mz : g4 fM_marks = 0 := Int32.toInt_inj.mp (by rw [mn4, hmn]; rfl)
              refine wp_f (by rw [mz]; decide) ?_
              have hJ0 : J = [] := List.eq_nil_of_length_eq_zero (by have : np [] = 0 := rfl; omega)
              subst hJ0
              have nz : nn [] = 0 := rfl
              have lz : (([] : List Int32).length : Int) = 0 := rfl
              exact ⟨w, rfl, Or.inr (Or.inr ⟨w0, iw, E4.x, hb4, k4.le (by omega), by rw [lv4, lz]; omega⟩)⟩
            · have lK : ((-1 :: K').length : Int) = K'.length + 1 := by simp
              have lK' : (-1 :: K').length = K'.length + 1 := rfl
              have nK : nn (-1 :: K') = nn K' := by
                show (if (-1 : Int32) = -1 then 0 else 1) + nn K' = nn K'
                rw [if_pos rfl]
                omega
              have pK : np (-1 :: K') = np K' + 1 := by
                show (if (-1 : Int32) = -1 then 1 else 0) + np K' = np K' + 1
                rw [if_pos rfl]
                omega
              have mz : (g4 fM_marks).toInt = K'.length + 1 := by rw [mn4, hmn, lK]
              refine wp_t (by rw [c2_ne]; exact fun e => by rw [e, i32_0] at mz; omega) ?_
              refine wp_vB (tM_isSign L xs (by omega) _ k4 k4.a0) ?_ (fun f => ?_)
              · refine wp_f (by decide) ?_
                refine wp_vZ (tM_fail L xs (by omega) _ _ k4 hb4 q4.2.2.2.2.2.1 (k4.an hb4) (by omega)) (fun g5 r5 h5 => ?_)
                exact ⟨0, rfl, Or.inl ⟨rfl, h5.x E4.x (by omega)⟩⟩
              · refine wp_t (by decide) ?_
                obtain ⟨p1, p2, p3⟩ := k4.ps hb4 (Ms_lt f)
                have k5 := (((p1.upx fM_marks (g4 fM_marks - 1) (by decide) (fun hk => absurd hk (by decide))).upx fM_level (g4 fM_level - 1) (by decide) (fun hk => absurd hk (by decide))).upx fM_joints (g4 fM_joints - 1) (by decide) (fun hk => absurd hk (by decide))).upx fM_subject 0 (by decide) (fun _ => in8_0)
                have x5' : Ex g4 r4 (upd (upd (upd (upd (upd g4 fM_at ((g4 fM_at) + 1)) fM_marks ((g4 fM_marks) - 1)) fM_level ((g4 fM_level) - 1)) fM_joints ((g4 fM_joints) - 1)) fM_subject 0) r4 := ⟨(((p3.x.1.up (by decide)).up (by decide)).up (by decide)).up (by decide), p3.2⟩
                have d1 : (g4 fM_marks - 1).toInt = K'.length := (i32_dec (by omega)).trans (by omega)
                have d2 : (g4 fM_level - 1).toInt = (g fM_level).toInt - 1 := by rw [lv4]; exact i32_dec (by omega)
                have d3 : (g4 fM_joints - 1).toInt = J.length := by rw [jn4]; exact (i32_dec (by omega)).trans (by omega)
                obtain ⟨k, rfl⟩ : ∃ e, k = e + 1 := ⟨k - 1, by omega⟩
                rw [lM_behindFactor_2_1]
                refine wp_mono (hS k J _ _ _ _ _ _ (by omega) ⟨?_, jst3.kp (P := P) (jag.fm n4.1) hk4, jMi.up (g := g3) (by exact nn4) jmi3, hb4, d3, d1, ?_, by omega, by omega⟩ iw w0 ?_ ?_) (kBF_tr (E4.x.trans x5') (by omega) ?_) (fun _ _ _ hx => hx)
                · exact k5.le (by omega)
                · exact (mk3.eq (n4.1.2 fM_mark (by decide))).2
                · show (K'.length : Int) ≤ (g4 fM_level - 1).toInt
                  omega
                · show (g4 fM_level - 1).toInt ≤ 40
                  omega
                · show (g4 fM_level - 1).toInt + ((-1 :: K').length : Int) = (g fM_level).toInt + K'.length
                  omega
          · refine wp_f (by decide) ?_
            have x4' : Ex g r (upd g3 fM_at (g3 fM_at + 1)) r3 := ⟨E3'.x.1.up (by decide), E3'.2.1, by have := E3'.2.2; omega⟩
            have ta := E3'.2.2
            refine ⟨0, rfl, Or.inr (Or.inl ⟨rfl, x4', by omega, ([], O ++ [v]) :: J, K, ⟨k4.le (by omega), ⟨⟨z1, z2⟩, jst3⟩, ⟨(fun _ hx => nomatch hx), mo3, jMi.up (g := g3) (by exact Int.le_refl _) jmi3⟩, hb3, ?_, ?_, mk3, hnp, hKl⟩, ?_, Nat.le_refl _⟩)⟩
            · show (g3 fM_joints).toInt = _
              rw [jn3, hjn]
              rfl
            · show (g3 fM_marks).toInt = _
              rw [mn3, hmn]
            · show (g3 fM_level).toInt + _ = _
              rw [lv3]
        · refine wp_f (by decide) ?_
          have x3' : Ex g r (upd g fM_at (g fM_at + 1)) r2 := ⟨eF.x.1.up (by decide), Int.le_refl _, by omega⟩
          refine ⟨0, rfl, Or.inr (Or.inl ⟨rfl, x3', by omega, (A ++ [x2], O) :: J, K, ⟨k3.le (by omega), ⟨⟨hlap, hO2⟩, hJ2⟩, ⟨hMA2, hMO, jMi.up (g := g) (by exact Int.le_refl _) hJM⟩, hb, hjn, hmn, eK, hnp, hKl⟩, rfl, Nat.le_refl _⟩)⟩
      rw [← er] at hst
      exact hst
    unfold BM_behindFactor_72_1
    simp only [ec']
    refine wp_in (h.1.1.at 10) i1 (by omega) ?_
    refine wp_in (h.1.1.at 35) (by omega) (by omega) ?_
    refine wp_if (fun hz => ?_) (fun hz => ?_)
    · rw [c2_ne] at hz
      have io := (hMA _ (hA.in hz)).1
      have io1 := io.1
      have io2 := io.2
      refine wp_in (h.1.1.at 34) (by omega) (by omega) ?_
      refine wp_in (h.1.1.at 10) io1 (by omega) ?_
      refine t117 _ _ ec ?_ (h.1.1.at 34) (h.1.1.at 35)
      rw [← hr2]
      unfold lapR
      rw [if_neg hz]
      rfl
    · rw [c2_ne, Decidable.not_not] at hz
      refine wp_in (h.1.1.at 33) (by omega) (by omega) ?_
      refine t117 _ _ ec ?_ (h.1.1.at 34) (h.1.1.at 35)
      rw [← hr2]
      unfold lapR
      rw [if_pos hz]
      rfl
theorem bfK (L : Nat) (xs : Nat → Int32) {m d : Nat} (hm : 4294967296 ≤ m) (hd : 4 ≤ d) {b : Int} {s : Sg} {P : List Nat} (hl : b ≤ 1880) : ∀ K, bfS L xs m d b s P K := by
  intro K
  induction K with
  | nil =>
    intro k J x1 x2 x3 x4 g r hk hC hi h0 hv0 hv
    unfold BM_behindFactor_2_1
    refine wp_t ?_ (bf72 L xs hm hd hl (Or.inl rfl) k J x1 x2 x3 x4 g r hk hC hi h0 hv0 hv)
    rw [c2_le, hC.2.2.2.2.2.1]
    exact Int.le_refl 0
  | cons κ K ih =>
    intro k J x1 x2 x3 x4 g r hk hC hi h0 hv0 hv
    have hmn := hC.2.2.2.2.2.1
    have lK : ((κ :: K).length : Int) = K.length + 1 := by simp
    have lK' : (κ :: K).length = K.length + 1 := rfl
    have hmr := hC.2.2.2.2.2.2.1.1
    have hKl := hC.2.2.2.2.2.2.2.2
    have h := hC.1
    have n0 := nn_0 K
    have ed : (g fM_marks - 1).toInt = K.length := (i32_dec (by omega)).trans (by omega)
    have ed' : (g fM_marks - 1).toNatClampNeg = K.length := by rw [nc_eq, ed]; rfl
    by_cases hκ : κ = -1
    · have hC' := hC
      subst hκ
      unfold BM_behindFactor_2_1
      simp only [ed', hmr]
      refine wp_f (by rw [c2_le, i32_0]; omega) ?_
      refine wp_in (h.1.1.at 32) (by omega) (by omega) ?_
      refine wp_t (by decide) ?_
      exact bf72 L xs hm hd hl (Or.inr ⟨K, rfl, ih⟩) k J x1 x2 x3 x4 g r hk hC hi h0 hv0 hv
    · have nK : nn (κ :: K) = 1 + nn K := by
        show (if κ = -1 then 0 else 1) + nn K = _
        rw [if_neg hκ]
      have pK : np (κ :: K) = np K := by
        show (if κ = -1 then 1 else 0) + np K = _
        rw [if_neg hκ]
        omega
      obtain ⟨-, hJ, hJM, hb, hjn, -, hmk, hnp, -⟩ := hC
      have h : Mst (b - 2 - nn (κ :: K)) s (nt x2 :: cfl P J) g r := h
      have q := h.q
      have i1 := hi.1
      have i2 := hi.2
      unfold BM_behindFactor_2_1
      simp only [ed', hmr]
      refine wp_f (by rw [c2_le, i32_0]; omega) ?_
      refine wp_in (h.1.1.at 32) (by omega) (by omega) ?_
      refine wp_f (by rw [c2_eq]; exact hκ) ?_
      refine wp_in (h.1.1.at 32) (by omega) (by omega) ?_
      have k1 := (h.upx fM_marks (g fM_marks - 1) (by decide) (fun hk => absurd hk (by decide))).upx fM_level (g fM_level - 1) (by decide) (fun hk => absurd hk (by decide))
      refine wp_v (wp_and (tM_make L xs (by omega) _ _ _ k1 (by omega)) (yM_make L xs (by omega) _ _ _ k1 (by omega))) (fun _ _ _ hx => hx.elim) ?_
      rintro o g2 r2 ⟨⟨rfl, e2, b2, t2, s2, k2⟩, hk2⟩
      refine ⟨_, rfl, ?_⟩
      have s2' : (g2 fM_nodes).toInt = (g fM_nodes).toInt + 1 := s2
      have k3 : Mst (b - 2 - nn (κ :: K) + 1) s (x2.toInt.toNat :: (g fM_nodes).toInt.toNat :: cfl P J) g2 r2 := k2.perm (List.Perm.swap _ _ _)
      refine wp_n (wp_and (tM_attach L xs (by omega) k3 ⟨by show 0 ≤ (g fM_nodes).toInt; omega, by show (g fM_nodes).toInt < _; omega⟩ ⟨by omega, by omega⟩ (by omega)) (yM_attach L xs (by omega) k3 ⟨by show 0 ≤ (g fM_nodes).toInt; omega, by show (g fM_nodes).toInt < _; omega⟩ ⟨by omega, by omega⟩ (by omega))) (fun _ _ _ hx => hx.elim) ?_
      rintro o g4 r4 ⟨⟨rfl, e4, b4, t4, k4⟩, hk4⟩
      refine ⟨rfl, ?_⟩
      obtain ⟨k, rfl⟩ : ∃ e, k = e + 1 := ⟨k - 1, by omega⟩
      rw [lM_behindFactor_2_1]
      have E4 : En (upd (upd g fM_marks (g fM_marks - 1)) fM_level (g fM_level - 1)) r g4 r4 := e2.trans e4
      have x4' : Ex g r g4 r4 := Ex.trans (g2 := upd (upd g fM_marks (g fM_marks - 1)) fM_level (g fM_level - 1)) (r2 := r) ⟨(Fm.rf.up (by decide)).up (by decide), Int.le_refl _, Int.le_refl _⟩ E4.x
      have hkk : nk (cfl P J) r r4 := (hk2.sub (fun x hx => List.mem_cons_of_mem _ hx)).trans (hk4.sub (fun x hx => List.mem_cons_of_mem _ hx))
      have nn4 := e4.2.1
      have mn4 : g4 fM_marks = g fM_marks - 1 := E4.1.1 fM_marks (by decide)
      have jn4 : g4 fM_joints = g fM_joints := E4.1.1 fM_joints (by decide)
      have lv4 : g4 fM_level = g fM_level - 1 := E4.1.1 fM_level (by decide)
      have d2 : (g fM_level - 1).toInt = (g fM_level).toInt - 1 := i32_dec (by omega)
      refine wp_mono (ih k J _ _ _ _ g4 r4 (by omega) ⟨?_, hJ.kp (P := P) (jag.fm E4.1) hkk, jMi.up (g := g) (by omega) hJM, (b4.trans b2).trans hb, by rw [jn4]; exact hjn, by rw [mn4]; exact ed, (hmk.eq (E4.1.2 fM_mark (by decide))).2, by omega, by omega⟩ ⟨?_, ?_⟩ ?_ ?_ ?_) (kBF_tr x4' (by omega) ?_) (fun _ _ _ hx => hx)
      · exact k4.le (by omega)
      · show 0 ≤ (g fM_nodes).toInt
        omega
      · show (g fM_nodes).toInt < _
        omega
      · show 0 < (g fM_nodes).toInt
        omega
      · rw [lv4, d2]
        omega
      · rw [lv4, d2]
        omega
      · rw [lv4, d2]
        omega
/-- what a sum or a condition leaves -/
def kCN (b : Int) (s : Sg) (P : List Nat) (g : a2_G) (r : a2_A) : Option Value → a2_G → a2_A → Prop := fun o g' r' => ∃ v : Int32, o = some (.int v) ∧ (v = 0 ∧ xB (b + 4) s g r g' r' ∨ 0 < v.toInt ∧ Mi g' v ∧ Ex g r g' r' ∧ g' fM_bad = 0 ∧ (g fM_at).toInt < (g' fM_at).toInt ∧ Mst b s (v.toInt.toNat :: P) g' r' ∧ g' fM_level = g fM_level)
theorem Bcn (L : Nat) (xs : Nat → Int32) (m d k : Nat) (x1 x2 : Int32) (g : a2_G) (r : a2_A) : BM_condition_16 L xs m d k x1 g r = BM_condition_16_1 L xs m d k x1 x2 g r := rfl
theorem tM_cond16b (L : Nat) (xs : Nat → Int32) {m d k : Nat} {x1 x2 : Int32} {g : a2_G} {r : a2_A} {Q : Option Value → a2_G → a2_A → Prop} {X : Nat → a2_G → a2_A → Prop} (h : x1 ≠ 0 ∨ g fM_bad = 1) (hq : Q (some (.int x1)) g r) : wp (BM_condition_16_1 L xs m d k x1 x2 g r) Q X := by
  unfold BM_condition_16_1 BM_condition_52_1
  by_cases e : x1 = 0
  · refine wp_f (by rw [c2_ne, Decidable.not_not]; exact e) ?_
    refine wp_t ?_ hq
    rw [c2_ne, h.resolve_left (fun hh => hh e)]
    decide
  · exact wp_t (by rw [c2_ne]; exact e) hq
theorem tM_cond16 (L : Nat) (xs : Nat → Int32) {m d : Nat} (hm : 4294967296 ≤ m) (hd : 6 ≤ d) {b : Int} {s : Sg} {P : List Nat} (hl : b ≤ 1880) {g0 : a2_G} {r0 : a2_A} (hv0 : 0 ≤ (g0 fM_level).toInt) : ∀ (n k : Nat) (J : List (List Int32 × List Int32)) (K : List Int32) (x2 : Int32) (g : a2_G) (r : a2_A), (g fM_n).toInt < (g fM_at).toInt + n → n < k → CT b s P J K [] g r → Ex g0 r0 g r → (g fM_level).toInt = (g0 fM_level).toInt + K.length → (g fM_level).toInt ≤ 40 → wp (BM_condition_16_1 L xs (m + 1) d k 0 x2 g r) (kCN b s P g0 r0) kN := by
  intro n
  induction n with
  | zero =>
    intro k J K x2 g r hn hk hS hE hL h40
    have := hS.1.an hS.2.2.2.1
    omega
  | succ n ih =>
    intro k J K x2 g r hn hk hS hE hL h40
    have hb := hS.2.2.2.1
    obtain ⟨k, rfl⟩ : ∃ e, k = e + 1 := ⟨k - 1, by omega⟩
    unfold BM_condition_16_1 BM_condition_49
    refine wp_f (by decide) ?_
    refine wp_f (by rw [c2_ne, Decidable.not_not]; exact hb) ?_
    refine wp_v (tM_factor L xs (by omega) hS hl (by omega) h40) (fun _ _ _ hx => hx.elim) ?_
    rintro o g1 r1 ⟨v, rfl, x1 | ⟨rfl, x1, x2, J', K', y1, y2, y3⟩ | ⟨v0, iv, x1, x2, x3, x4⟩⟩
    · refine ⟨v, rfl, ?_⟩
      rw [lM_condition_16_1]
      have fin : wp (BM_condition_16_1 L xs (m + 1) d k 0 v g1 r1) (kCN b s P g0 r0) kN := tM_cond16b L xs (Or.inr x1.2.1) ⟨0, rfl, Or.inl ⟨rfl, hE.trans x1.1, x1.2.1, x1.2.2⟩⟩
      refine wp_if (fun _ => fin) (fun _ => ?_)
      exact wp_t (by rw [x1.2.1]; decide) fin
    · refine ⟨0, rfl, ?_⟩
      refine wp_t (by decide) ?_
      rw [lM_condition_16_1]
      have en := x1.1.1 fM_n (by decide)
      exact ih k J' K' _ g1 r1 (by rw [en]; omega) (by omega) y1 (hE.trans x1) (by omega) y3
    · refine ⟨v, rfl, ?_⟩
      refine wp_f (by rw [c2_le, i32_0]; omega) ?_
      refine wp_f (by rw [c2_ne, Decidable.not_not]; exact x4.2.2.2.1) ?_
      have hKl := hS.2.2.2.2.2.2.2.2
      have lv := congrArg Int32.toInt x3
      have hbf := bfK L xs hm (d := d - 1) (by omega) (s := s) (P := P) hl K m J v v 0 0 g1 r1 (by omega) x4 iv v0 (by omega) (by omega)
      rw [← Bbf, ← Bbf0, ← qM_behindFactor, show d - 1 + 1 = d by omega] at hbf
      refine wp_v hbf (fun _ _ _ hx => hx.elim) ?_
      have en1 := x1.1.1 fM_n (by decide)
      have a0 := hE.2.2
      rintro o g2 r2 ⟨w, rfl, ⟨e, z1⟩ | ⟨e, z1, z2, J', K', c1, c2, c3⟩ | ⟨e, z1, z2, z3, z4, z5⟩⟩
      · refine ⟨w, rfl, ?_⟩
        rw [lM_condition_16_1]
        exact tM_cond16b L xs (Or.inr z1.2.1) ⟨w, rfl, Or.inl ⟨e, (hE.trans x1).trans z1.1, z1.2.1, z1.2.2⟩⟩
      · refine ⟨w, rfl, ?_⟩
        rw [lM_condition_16_1, e]
        have en := z1.1.1 fM_n (by decide)
        exact ih k J' K' _ g2 r2 (by rw [en, en1]; omega) (by omega) c1 ((hE.trans x1).trans z1) (by omega) (by omega)
      · refine ⟨w, rfl, ?_⟩
        rw [lM_condition_16_1]
        have a2 := z2.2.2
        exact tM_cond16b L xs (Or.inl (fun e0 => by rw [e0, i32_0] at e; omega)) ⟨w, rfl, Or.inr ⟨e, z1, (hE.trans x1).trans z2, z3, by omega, z4, Int32.toInt_inj.mp (by omega)⟩⟩
theorem tM_condition (L : Nat) (xs : Nat → Int32) {m d : Nat} (hm : 4294967296 ≤ m) (hd : 7 ≤ d) {b : Int} {s : Sg} {P : List Nat} {g : a2_G} {r : a2_A} (h : Mst b s P g r) (hb : g fM_bad = 0) (hl : b ≤ 1880) (hv0 : 0 ≤ (g fM_level).toInt) (hv : (g fM_level).toInt ≤ 40) : wp (ev L xs (m + 1) d nM_condition [.ref cM] g r) (kCN b s P g r) kN := by
  obtain ⟨d, rfl⟩ : ∃ e, d = e + 1 := ⟨d - 1, by omega⟩
  have q := h.q
  rw [qM_condition]
  have h1 := (h.upx fM_marks 0 (by decide) (fun hk => absurd hk (by decide))).upx fM_joints 0 (by decide) (fun hk => absurd hk (by decide))
  refine wp_n (tM_joint L xs (by omega) h1 (j := 0) rfl (by omega)) (fun _ _ _ hx => hx.elim) ?_
  rintro o g2 r2 ⟨rfl, k2, rfl, rfl⟩
  refine ⟨rfl, ?_⟩
  rw [Bcn L xs (m + 1) d m 0 0]
  have e1 : (aw (aw r fM_andMany 0 0) fM_orMany 0 0 fM_andMany).2 0 = 0 := (aw_at : (aw r fM_andMany 0 0 fM_andMany).2 0 = 0)
  have e2 : (aw (aw r fM_andMany 0 0) fM_orMany 0 0 fM_orMany).2 0 = 0 := aw_at
  refine tM_cond16 L xs hm (by omega) hl hv0 1501 m [([], [])] [] 0 _ _ ?_ (by omega) ⟨?_, ⟨⟨e1, e2⟩, trivial⟩, ⟨(fun _ hx => nomatch hx), (fun _ hx => nomatch hx), trivial⟩, hb, rfl, rfl, trivial, rfl, by decide⟩ ?_ ?_ hv
  · show (g fM_n).toInt < (g fM_at).toInt + (1501 : Nat)
    have := h.a0
    omega
  · exact k2.le (by show b ≤ b - 0; omega)
  · exact ⟨(((((Fm.rf.up (by decide)).up (by decide)).up (by decide)).up (by decide)).aw (by decide)).aw (by decide), Int.le_refl _, Int.le_refl _⟩
  · show (g fM_level).toInt = (g fM_level).toInt + ((0 : Nat) : Int)
    omega
/-- good, with its words, its nodes, at the same level; or bad -/
def kUx (c p : Int) (b : Int) (s : Sg) (P : List Nat) (g : a2_G) (r : a2_A) : Option Value → a2_G → a2_A → Prop := fun o g' r' => o = none ∧ (Ex g r g' r' ∧ g' fM_bad = 0 ∧ g' fM_level = g fM_level ∧ (g fM_at).toInt + p ≤ (g' fM_at).toInt ∧ Mst (b + c) s P g' r' ∨ xB (b + 4) s g r g' r')
theorem tM_conditionOf (L : Nat) (xs : Nat → Int32) {m d : Nat} (hm : 4294967296 ≤ m) (hd : 8 ≤ d) {a : Int32} {b : Int} {s : Sg} {P : List Nat} {g : a2_G} {r : a2_A} (h : Mst b s P g r) (hb : g fM_bad = 0) (ha : Mi g a) (hl : b ≤ 1880) (hv0 : 0 ≤ (g fM_level).toInt) (hv : (g fM_level).toInt ≤ 40) : wp (ev L xs (m + 1) d nM_conditionOf [.ref cM, .int a] g r) (kUx 0 1 b s P g r) kN := by
  obtain ⟨d, rfl⟩ : ∃ e, d = e + 1 := ⟨d - 1, by omega⟩
  have a1 := ha.1
  have a2 := ha.2
  rw [qM_conditionOf]
  unfold BM_conditionOf_26
  refine wp_t (by rw [c2_eq]; exact hb) ?_
  refine wp_v (tM_condition L xs hm (by omega) h hb hl hv0 hv) (fun _ _ _ hx => hx.elim) ?_
  rintro o g1 r1 ⟨v, rfl, ⟨e, x1⟩ | ⟨v0, iv, x1, b1, t1, k1, l1⟩⟩
  · refine ⟨v, rfl, ?_⟩
    refine wp_t (by rw [x1.2.1]; decide) ?_
    exact ⟨rfl, Or.inr x1⟩
  · refine ⟨v, rfl, ?_⟩
    refine wp_f (by rw [c2_ne, Decidable.not_not]; exact b1) ?_
    have nn1 := x1.2.1
    refine wp_nH (tM_attach L xs (by omega) k1 ⟨a1, by omega⟩ iv (by omega)) (fun g2 r2 n2 b2 t2 h2 => ?_)
    have e2 := n2.2.2
    exact ⟨rfl, Or.inl ⟨x1.trans n2.x, b2.trans b1, (n2.1.1 fM_level (by decide)).trans l1, by omega, h2⟩⟩
