/-! The class numbers its nodes. -/
theorem Cz.hi {n : Nat} {D : Nat → TD} {K : Nat → List Nat} {C : Nat → Int32} (h : Cz n D K C) {i j : Nat} {x : Int32} (hj : 9 ≤ j) (hj2 : j < 12) (h9 : j ≠ 11 → i ≠ 0) : Cz n D K (upd C (12 * i + j) x) := by
  obtain ⟨a1, a2, a3, ⟨a4, a7⟩, a5, a6⟩ := h
  have hne : ∀ y t, t < 9 → upd C (12 * i + j) x (12 * y + t) = C (12 * y + t) := fun y t h1 => upd_ne (by omega)
  refine ⟨fun y hy => ?_, fun y hy => ?_, fun y hy l1 c l2 e => ?_, ⟨fun c hc hd => ?_, fun v hv h53 => ?_⟩, a5, fun h0 => ?_⟩
  · have q0 : upd C (12 * i + j) x (12 * y) = C (12 * y) := hne y 0 (by omega)
    rw [q0, hne y 1 (by omega), hne y 2 (by omega), hne y 3 (by omega)]
    exact a1 y hy
  · rw [hne y 5 (by omega), hne y 6 (by omega), hne y 8 (by omega)]
    exact a2 y hy
  · rw [hne c 4 (by omega), hne c 7 (by omega)]
    exact a3 y hy l1 c l2 e
  · rw [hne c 7 (by omega)]
    exact a4 c hc hd
  · rw [hne v 3 (by omega)]
    exact a7 v hv h53
  · have h44 := hne 0 4 (by omega)
    rw [show 12 * 0 + 4 = 4 by omega] at h44
    rw [h44, upd_ne (by omega), upd_ne (by omega)]
    exact a6 h0
section
variable {L : Nat} {xs : Nat → Int32} {m d k : Nat} {n : Nat} {D : Nat → TD} {K : Nat → List Nat} {g : a2_G} {r : a2_A} {F : Fo}
theorem yT_setH {a1 a2 : Int32} (a3 : Int32) (h : Rc n D K g r) {i j : Nat} (hi : i < n) (hj : 9 ≤ j) (hj2 : j < 12) (h9 : j ≠ 11 → i ≠ 0) (e1 : a1.toInt = i) (e2 : a2.toInt = j) : pl (ev L xs (m + 1) d nT_set [.ref cT, .int a1, .int a2, .int a3] g r) (fun o g' r' => o = none ∧ g' = g ∧ Rc n D K g' r' ∧ (r' fT_cells).2 = upd (r fT_cells).2 (12 * i + j) a3) kN := by
  cases d with
  | zero => trivial
  | succ d =>
    have hn := h.lt
    obtain ⟨c1, c2, c3, c4, c5⟩ := h
    have e3 : (a1 * 12).toInt = 12 * i := by
      rw [i32_m12b (x := a1) (by omega) (by omega), e1]
    have e4 : (a1 * 12 + a2).toNatClampNeg = 12 * i + j := tn_at (x12 e3 (by omega) (by omega) e2)
    rw [qT_set]
    simp only [BT_set_34, c2_lt, c2_ge, e1, e2, c1, i32_0, i32_12]
    refine pl_neg (by omega) (pl_neg (by omega) (pl_neg (by omega) (pl_neg (by omega) ?_)))
    refine pl_if (fun _ => ?_) (fun _ => trivial)
    refine ⟨rfl, rfl, ⟨c1, c2, c3, c4, ?_⟩, ?_⟩
    · show Cz n D K (upd (r fT_cells).2 (a1 * 12 + a2).toNatClampNeg a3)
      rw [e4]
      exact c5.hi hj hj2 h9
    · show upd (r fT_cells).2 (a1 * 12 + a2).toNatClampNeg a3 = _
      rw [e4]
theorem yT_getN {a2 : Int32} : pl (ev L xs (m + 1) d nT_get [.ref cT, .int (-1), .int a2] g r) (kE g r (-1)) kN := by
  cases d with
  | zero => trivial
  | succ d =>
    rw [qT_get]
    unfold BT_get_36 BT_get_37
    exact pl_pos (by decide) ⟨rfl, rfl, rfl⟩
/-- the node that is visited next -/
def FR (K : Nat → List Nat) (us : List Nat) (R : Fo) (y : Int32) : Prop := (y = -1 ∧ R = []) ∨ ∃ c S', y = Int32.ofNat c ∧ S' ≠ [] ∧ (S'.map Prod.fst) <:+ us ∧ Vi K c S' R
def kFR (K : Nat → List Nat) (us : List Nat) (R : Fo) (g : a2_G) (r : a2_A) : Option Value → a2_G → a2_A → Prop := fun o g' r' => ∃ y, o = some (.int y) ∧ g' = g ∧ r' = r ∧ FR K us R y
theorem Rc.kid (h : Rc n D K g r) : ∀ i c, i < n → c ∈ K i → c < n := fun _ _ hi hc => h.2.2.2.2.kid hi hc
theorem Rc.zero (h : Rc n D K g r) : ∀ i, i < n → 0 ∉ K i := (h.2.2.2.2.2.2.2.2.2 h.2.2.1).2.2
/-- behind a node without children: its next sibling, or that of a node above it -/
theorem fo_53 (h : Rc n D K g r) {us : List Nat} {R : Fo} {v : Nat} {S : Sk} (hO : Ob K v S) (hR : Re K S R) (hs : (S.map Prod.fst) <:+ us) : (∃ c, c < n ∧ (r fT_cells).2 (12 * v + 7) = Int32.ofNat c ∧ FR K us R (Int32.ofNat c)) ∨ ((r fT_cells).2 (12 * v + 7) = -1 ∧ ((S = [] ∧ R = []) ∨ ∃ u S', S = (u, []) :: S' ∧ Ob K u S' ∧ Re K S' R ∧ (r fT_cells).2 (12 * v + 4) = Int32.ofNat u)) := by
  have hn0 : 0 < n := h.2.2.1
  have hv := Ob.lt hn0 h.kid hO
  obtain ⟨a1, a2, a3, ⟨a4, a7⟩, a5, a6⟩ := h.2.2.2.2
  cases S with
  | nil =>
    have hv0 : v = 0 := hO
    refine Or.inr ⟨a4 v hv (fun i hi => by rw [hv0]; exact h.zero i hi), Or.inl ⟨rfl, hR⟩⟩
  | cons y S =>
    obtain ⟨u, l⟩ := y
    have hO1 := hO
    obtain ⟨⟨a, e⟩, hO'⟩ := hO
    have hu := Ob.lt hn0 h.kid hO'
    obtain ⟨k1, k2, k3⟩ := a3 u hu a v l e
    cases l with
    | nil => exact Or.inr ⟨k3, Or.inr ⟨u, S, rfl, hO', hR.nl, k2⟩⟩
    | cons c l' => exact Or.inl ⟨c, Ob.lt hn0 h.kid (Re.cn hO1 hR).1, k3, Or.inr ⟨c, (u, l') :: S, rfl, (fun e => nomatch e), hs, Re.cn hO1 hR⟩⟩
def FOI (n : Nat) (K : Nat → List Nat) (us : List Nat) (R : Fo) (x2 x3 : Int32) : Prop := (x2 = -1 ∧ R = []) ∨ ∃ v S, x2 = Int32.ofNat v ∧ Ob K v S ∧ Re K S R ∧ 0 ≤ x3.toInt ∧ x3.toInt + (S.length : Int) < n ∧ (S.map Prod.fst) <:+ us
theorem fo_21 (h : Rc n D K g r) {us : List Nat} {R : Fo} {a1 x2 x3 : Int32} (H : ∀ x2 x3, FOI n K us R x2 x3 → pl (lp L xs nT_follower nm_m155 (m + 1) d k 21 [some (.ref cT), some (.int a1), some (.int x2), some (.int x3)] g r) (kFR K us R g r) kN) (hI : FOI n K us R x2 x3) : pl (BT_follower_21 L xs (m + 1) d k a1 x2 x3 g r) (kFR K us R g r) kN := by
  have hn0 : 0 < n := h.2.2.1
  have hlt := h.lt
  unfold BT_follower_21 BT_follower_53
  rcases hI with ⟨rfl, hR⟩ | ⟨v, S, rfl, hO, hR, h0, hb, hs⟩
  · refine pl_if (fun _ => ?_) (fun _ => ?_)
    · exact pl_e yT_getN ⟨-1, rfl, rfl, rfl, Or.inl ⟨rfl, hR⟩⟩
    · refine pl_e yT_getN (pl_neg (by decide) ?_)
      refine pl_e yT_getN ?_
      exact H _ _ (Or.inl ⟨rfl, hR⟩)
  · have hv := Ob.lt hn0 h.kid hO
    have ev : (Int32.ofNat v).toInt = v := on_eq (by omega)
    have hc1 := h.1
    refine pl_neg (by rw [c2_ge, hc1]; omega) ?_
    refine pl_e (yT_get L xs h (i := v) (j := 7) hv (by omega) ev rfl) ?_
    rcases fo_53 h hO hR hs with ⟨c, hcl, e, hf⟩ | ⟨e, hc⟩
    · rw [e]
      have hcn : Int32.ofNat c ≠ -1 := by
        intro q
        have := congrArg Int32.toInt q
        rw [on_eq (by omega)] at this
        have h1 : (-1 : Int32).toInt = -1 := rfl
        omega
      refine pl_pos (by rw [c2_ne]; exact hcn) ?_
      refine pl_e (yT_get L xs h (i := v) (j := 7) hv (by omega) ev rfl) ?_
      rw [e]
      exact ⟨_, rfl, rfl, rfl, hf⟩
    · rw [e]
      refine pl_neg (by decide) ?_
      refine pl_e (yT_get L xs h (i := v) (j := 4) hv (by omega) ev rfl) ?_
      rcases hc with ⟨hS, hRn⟩ | ⟨u, S', hS, hO', hR', e4⟩
      · subst hS
        have hv0 : v = 0 := hO
        have e4 : (r fT_cells).2 (12 * v + 4) = -1 := by
          rw [hv0]
          exact (h.2.2.2.2.2.2.2.2.2 hn0).2.1.1
        rw [e4]
        exact H _ _ (Or.inl ⟨rfl, hRn⟩)
      · rw [e4]
        subst hS
        have hl : ((u, ([] : List Nat)) :: S').length = S'.length + 1 := rfl
        refine H _ _ (Or.inr ⟨u, S', rfl, hO', hR', ?_, ?_, ?_⟩)
        · rw [i32_inc (by omega)]
          omega
        · rw [i32_inc (by omega)]
          omega
        · exact List.IsSuffix.trans (List.suffix_cons u (S'.map Prod.fst)) hs
theorem fo_l (h : Rc n D K g r) {us : List Nat} {R : Fo} {a1 : Int32} : ∀ (k : Nat) (x2 x3 : Int32), FOI n K us R x2 x3 → pl (lp L xs nT_follower nm_m155 (m + 1) d k 21 [some (.ref cT), some (.int a1), some (.int x2), some (.int x3)] g r) (kFR K us R g r) kN
  | 0 => fun _ _ _ => pl_l0
  | k + 1 => fun x2 x3 hI => by
    rw [lT_follower_21]
    exact fo_21 h (fo_l h k) hI
theorem yT_follower (h : Rc n D K g r) {R : Fo} {v : Nat} {S : Sk} (hO : Ob K v S) (hD : ∀ c l, K v = c :: l → Vi K c ((v, l) :: S) R) (hU : K v = [] → Re K S R) (hb : S.length < n) : pl (ev L xs (m + 1) d nT_follower [.ref cT, .int (Int32.ofNat v)] g r) (kFR K (v :: S.map Prod.fst) R g r) kN := by
  have hn0 : 0 < n := h.2.2.1
  have hlt := h.lt
  have hv := Ob.lt hn0 h.kid hO
  have ev : (Int32.ofNat v).toInt = v := on_eq (by omega)
  cases d with
  | zero => trivial
  | succ d =>
    rw [qT_follower]
    have e5 := (h.2.2.2.2.2.1 v hv).1
    refine pl_e (yT_get L xs h (i := v) (j := 5) hv (by omega) ev rfl) ?_
    rw [e5]
    cases hK : K v with
    | nil =>
      refine pl_pos (by decide) ?_
      refine fo_21 h (fo_l h m) (Or.inr ⟨v, S, rfl, hO, hU hK, by decide, ?_, List.suffix_cons v _⟩)
      show (0 : Int) + (S.length : Int) < n
      omega
    | cons c l =>
      have hV := hD c l hK
      have hc := Ob.lt hn0 h.kid hV.1
      have eo : Io (c :: l).head? = Int32.ofNat c := rfl
      rw [eo]
      refine pl_neg ?_ ?_
      · rw [c2_eq]
        intro q
        have := congrArg Int32.toInt q
        rw [on_eq (by omega)] at this
        have h1 : (-1 : Int32).toInt = -1 := rfl
        omega
      · refine pl_e (yT_get L xs h (i := v) (j := 5) hv (by omega) ev rfl) ?_
        rw [e5, hK]
        exact ⟨_, rfl, rfl, rfl, Or.inr ⟨c, (v, l) :: S, rfl, (fun e => nomatch e), List.suffix_refl _, hV⟩⟩
/-- depth and number of what lies above are known -/
def Om (P : Fo) : List Nat → Prop
  | [] => True
  | u :: t => (t.length, u) ∈ (0, 0) :: P ∧ Om P t
theorem Om.up {P : Fo} {x : Nat × Nat} : ∀ {us : List Nat}, Om P us → Om (P ++ [x]) us
  | [], _ => trivial
  | u :: t, h => by
    refine ⟨?_, Om.up h.2⟩
    rcases List.mem_cons.mp h.1 with e | e
    · rw [e]
      exact List.mem_cons_self
    · exact List.mem_cons_of_mem _ (List.mem_append_left _ e)
theorem Om.sf {P : Fo} : ∀ {us t : List Nat}, Om P us → t <:+ us → Om P t
  | [], t, h, hs => by
    rw [List.suffix_nil.mp hs]
    trivial
  | u :: us, t, h, hs => by
    rcases List.suffix_cons_iff.mp hs with e | e
    · rw [e]
      exact h
    · exact Om.sf h.2 e
/-- numbered so far -/
def NC (D : Nat → TD) (P : Fo) (g : a2_G) (r : a2_A) : Prop := (g fT_numbered).toInt = P.length ∧ (g fT_units).toInt = cQ (tr D P) ∧ (g fT_greatestLevel).toInt = mx P ∧ Tb P (fun i => (r fT_cells).2 (12 * i + 11)) (fun x => (r fT_cells).2 (12 * x + 10)) (fun x => (r fT_cells).2 (12 * x + 9))
/-- what is visited next -/
def NV (K : Nat → List Nat) (F P : Fo) (x1 : Int32) : Prop := (x1 = -1 ∧ P = F) ∨ ∃ v S R, x1 = Int32.ofNat v ∧ S ≠ [] ∧ S.length ≤ P.length + 1 ∧ Om P (S.map Prod.fst) ∧ Vi K v S R ∧ P ++ R = F
def NZ (n : Nat) (F : Fo) : Prop := ((ids ((0, 0) :: F)).Nodup ∧ 0 + ((0, 0) :: F).length = n) ∧ ∀ x, x ∈ ids ((0, 0) :: F) → x < n
def kNC (n : Nat) (D : Nat → TD) (K : Nat → List Nat) (F : Fo) : Option Value → a2_G → a2_A → Prop := fun o g r => o = none ∧ Rc n D K g r ∧ NC D F g r
theorem cQ_le : ∀ T : Tf, cQ T ≤ T.length
  | [] => Nat.le_refl _
  | x :: T => by
    have := cQ_le T
    have : kd x.2.1 ≤ 1 := by
      unfold kd
      split <;> omega
    show kd x.2.1 + cQ T ≤ T.length + 1
    omega
theorem mx_le : ∀ {F : Fo} {b : Nat}, (∀ x, x ∈ F → x.1 ≤ b) → mx F ≤ b
  | [], b, _ => Nat.zero_le _
  | x :: F, b, h => by
    have h1 := h x List.mem_cons_self
    have h2 := mx_le (fun y hy => h y (List.mem_cons_of_mem _ hy))
    show max x.1 (mx F) ≤ b
    omega
theorem yT_isUnit (h : Rc n D K g r) {v : Nat} (hv : v < n) : pl (ev L xs (m + 1) d nT_isUnit [.ref cT, .int (Int32.ofNat v)] g r) (kE g r (Int32.ofNat (kd (D v).1))) kN := by
  have hlt := h.lt
  have ev : (Int32.ofNat v).toInt = v := on_eq (by omega)
  cases d with
  | zero => trivial
  | succ d =>
    rw [qT_isUnit]
    unfold BT_isUnit_17 BT_isUnit_22
    refine pl_e (yT_get L xs h (i := v) (j := 0) hv (by omega) ev rfl) ?_
    have e : (r fT_cells).2 (12 * v + 0) = (D v).1 := congrArg (fun x => x.1) (h.2.2.2.2.1 v hv)
    rw [e]
    refine pl_iq (fun e1 => ?_) (fun e1 => ?_)
    · have hk : kd (D v).1 = 1 := if_pos (Or.inl e1)
      exact pl_pos (by decide) ⟨by rw [hk]; rfl, rfl, rfl⟩
    · refine pl_in (fun e2 => ?_) (fun e2 => ?_)
      · have hk : kd (D v).1 = 0 := if_neg (fun q => q.elim e1 e2)
        exact pl_pos (by decide) ⟨by rw [hk]; rfl, rfl, rfl⟩
      · rw [Decidable.not_not] at e2
        have hk : kd (D v).1 = 1 := if_pos (Or.inr e2)
        exact pl_pos (by decide) ⟨by rw [hk]; rfl, rfl, rfl⟩
def NCL (L : Nat) (xs : Nat → Int32) (m d k : Nat) (n : Nat) (D : Nat → TD) (K : Nat → List Nat) (F : Fo) : Prop := ∀ (P : Fo) (x1 x2 x3 : Int32) (g : a2_G) (r : a2_A), Rc n D K g r → NC D P g r → NV K F P x1 → x2.toInt = P.length → pl (lp L xs nT_number nm_m154 (m + 1) d k 9 [some (.ref cT), some (.int x1), some (.int x2), some (.int x3)] g r) (kNC n D K F) kN
theorem nc_b (hz : NZ n F) (H : NCL L xs m d k n D K F) {P : Fo} {v : Nat} {S : Sk} {R : Fo} {x2 : Int32} (h : Rc n D K g r) (hC : NC D P g r) (hS : S ≠ []) (hSP : S.length ≤ P.length + 1) (hOm : Om P (S.map Prod.fst)) (hV : Vi K v S R) (hF : P ++ R = F) (h2 : x2.toInt = P.length) : pl (fn_n (ev L xs (m + 1) d nT_set [.ref cT, .int x2, .int 11, .int (Int32.ofNat v)] g r) fun g4 r5 => (fn_n (ev L xs (m + 1) d nT_set [.ref cT, .int (Int32.ofNat v), .int 10, .int x2] g4 r5) fun g6 r7 => (fn_v (ev L xs (m + 1) d nT_get [.ref cT, .int (Int32.ofNat v), .int 4] g6 r7) fun v10 g8 r9 => (fn_v (ev L xs (m + 1) d nT_get [.ref cT, .int v10, .int 9] g8 r9) fun v13 g11 r12 => (fn_n (ev L xs (m + 1) d nT_set [.ref cT, .int (Int32.ofNat v), .int 9, .int (v13 + 1)] g11 r12) fun g14 r15 => (fn_v (ev L xs (m + 1) d nT_isUnit [.ref cT, .int (Int32.ofNat v)] (upd g14 fT_greatestLevel (if ((g14 fT_greatestLevel) : Int32) < (v13 + 1) then (v13 + 1) else (g14 fT_greatestLevel))) r15) fun v18 g16 r17 => (if am_c2 .eq v18 0 = true then (BT_number_91 L xs (m + 1) d k (Int32.ofNat v) x2 (v13 + 1) 0 (g14 fT_units) g16 r17) else (BT_number_91 L xs (m + 1) d k (Int32.ofNat v) x2 (v13 + 1) 1 (g14 fT_units) g16 r17)))))))) (kNC n D K F) kN := by
  have hn0 : 0 < n := h.2.2.1
  have hlt := h.lt
  have hlen : F.length + 1 ≤ n := ids_len hz.1.1 hz.2
  have hO := hV.1
  have hv := Ob.lt hn0 h.kid hO
  have hv0 : v ≠ 0 := fun e => hS ((Ob.nz hn0 h.kid h.zero hO).mp e)
  have evv : (Int32.ofNat v).toInt = v := on_eq (by omega)
  obtain ⟨R', hR', hD, hU⟩ := hV.hd
  subst hR'
  have hPF : P.length + 1 ≤ F.length := by
    rw [← hF, List.length_append]
    show _ ≤ P.length + (R'.length + 1)
    omega
  have hF' : P ++ [(S.length, v)] ++ R' = F := by
    rw [List.append_assoc]
    exact hF
  have hnd : (ids P ++ v :: ids R').Nodup := by
    have hnd := hz.1.1
    rw [← hF] at hnd
    have hnd2 := (List.nodup_cons.mp hnd).2
    rw [show ids P ++ v :: ids R' = ids (P ++ (S.length, v) :: R') from (ids_app P ((S.length, v) :: R')).symm]
    exact hnd2
  have hvP : v ∉ ids P := fun hm => (List.nodup_append.mp hnd).2.2 v hm v List.mem_cons_self rfl
  obtain ⟨t1, t2, t3, t4⟩ := hC
  have e2o : x2 = Int32.ofNat P.length := i32e (by rw [h2, on_eq (by omega)])
  refine pl_n (yT_setH (Int32.ofNat v) h (i := P.length) (j := 11) (by omega) (by omega) (by omega) (by omega) h2 rfl) (fun _ _ _ e => e) (fun g1 r1 q1 => ?_)
  obtain ⟨-, rfl, k1, c1⟩ := q1
  refine pl_n (yT_setH x2 k1 (i := v) (j := 10) hv (by omega) (by omega) (fun _ => hv0) evv rfl) (fun _ _ _ e => e) (fun g2 r2 q2 => ?_)
  obtain ⟨-, rfl, k2, c2⟩ := q2
  refine pl_e (yT_get L xs k2 (i := v) (j := 4) hv (by omega) evv rfl) ?_
  cases hSS : S with
  | nil => exact absurd hSS hS
  | cons y S' =>
    obtain ⟨u, l⟩ := y
    rw [hSS] at hO hOm
    have hO1 := hO
    obtain ⟨⟨a, e⟩, hO'⟩ := hO
    have hu := Ob.lt hn0 h.kid hO'
    have evu : (Int32.ofNat u).toInt = u := on_eq (by omega)
    have hp := (k2.2.2.2.2.2.2.1 u hu a v l e).2.1
    rw [hp]
    refine pl_e (yT_get L xs k2 (i := u) (j := 9) hu (by omega) evu rfl) ?_
    have hSl : S.length = S'.length + 1 := by rw [hSS]; rfl
    have huv : u ≠ v := fun e0 => by
      have hm := hOm.1
      rw [e0] at hm
      rcases List.mem_cons.mp hm with e3 | e3
      · exact hv0 (Prod.mk.inj e3).2
      · exact hvP (List.mem_map.mpr ⟨_, e3, rfl⟩)
    have hlu : (r2 fT_cells).2 (12 * u + 9) = Int32.ofNat S'.length := by
      rw [c2, upd_ne (by omega), c1, upd_ne (by omega)]
      have hm := hOm.1
      rw [List.length_map] at hm
      rcases List.mem_cons.mp hm with e3 | e3
      · obtain ⟨e4, e5⟩ := Prod.mk.inj e3
        have e5' : u = 0 := e5
        rw [e4, e5']
        exact (h.2.2.2.2.2.2.2.2.2 hn0).1
      · obtain ⟨i, hi⟩ := List.getElem?_of_mem e3
        exact (t4 i _ _ hi).2.2
    rw [hlu]
    have el : Int32.ofNat S'.length + 1 = Int32.ofNat S.length := by
      refine i32e ?_
      rw [i32_inc (by rw [on_eq (by omega)]; omega), on_eq (by omega), on_eq (by omega)]
      omega
    rw [el]
    refine pl_n (yT_setH (Int32.ofNat S.length) k2 (i := v) (j := 9) hv (by omega) (by omega) (fun _ => hv0) evv rfl) (fun _ _ _ e => e) (fun g3 r3 q3 => ?_)
    obtain ⟨-, rfl, k3, c3⟩ := q3
    have k4 : Rc n D K (upd g3 fT_greatestLevel (if (g3 fT_greatestLevel : Int32) < Int32.ofNat S.length then Int32.ofNat S.length else g3 fT_greatestLevel)) r3 := k3
    refine pl_e (yT_isUnit k4 hv) ?_
    have eS : (Int32.ofNat S.length).toInt = S.length := on_eq (by omega)
    have hmx : (if (g3 fT_greatestLevel : Int32) < Int32.ofNat S.length then Int32.ofNat S.length else g3 fT_greatestLevel).toInt = mx (P ++ [(S.length, v)]) := by
      rw [mx_app, mx_one]
      by_cases q : (g3 fT_greatestLevel : Int32) < Int32.ofNat S.length
      · rw [if_pos q, eS]
        have := Int32.lt_iff_toInt_lt.mp q
        omega
      · rw [if_neg q]
        have : ¬ (g3 fT_greatestLevel).toInt < (Int32.ofNat S.length).toInt := fun q2 => q (Int32.lt_iff_toInt_lt.mpr q2)
        omega
    have hcu : cQ (tr D (P ++ [(S.length, v)])) = cQ (tr D P) + kd (D v).1 := by
      rw [tr_app, cQ_app]
      rfl
    have hcl : cQ (tr D P) ≤ P.length := by
      have := cQ_le (tr D P)
      unfold tr at this
      rw [List.length_map] at this
      exact this
    have hk1 : kd (D v).1 ≤ 1 := by
      unfold kd
      split <;> omega
    have ex2 : (x2 + 1).toInt = ((P ++ [(S.length, v)]).length : Int) := by
      rw [i32_inc (by omega), h2, List.length_append]
      rfl
    have fin : ∀ x4 : Int32, x4.toInt = kd (D v).1 → pl (BT_number_91 L xs (m + 1) d k (Int32.ofNat v) x2 (Int32.ofNat S.length) x4 (g3 fT_units) (upd g3 fT_greatestLevel (if (g3 fT_greatestLevel : Int32) < Int32.ofNat S.length then Int32.ofNat S.length else g3 fT_greatestLevel)) r3) (kNC n D K F) kN := by
      intro x4 h4
      unfold BT_number_91
      have k5 : Rc n D K (upd (upd (upd g3 fT_greatestLevel (if (g3 fT_greatestLevel : Int32) < Int32.ofNat S.length then Int32.ofNat S.length else g3 fT_greatestLevel)) fT_units (g3 fT_units + x4)) fT_numbered (x2 + 1)) r3 := k3
      refine pl_v (yT_follower k5 hV.1 hD hU (by omega)) (fun _ _ _ e => e) (fun y g5 r5 q5 => ?_)
      obtain ⟨y', e1, rfl, rfl, hf⟩ := q5
      cases e1
      refine H (P ++ [(S.length, v)]) _ _ _ _ _ k5 ⟨ex2, ?_, hmx, ?_⟩ ?_ ex2
      · show (g3 fT_units + x4).toInt = _
        rw [hcu, ad_eq (by omega) (by omega), t2, h4]
        omega
      · refine t4.snoc hvP (fun i hi => ?_) (fun y hy => ?_) (fun y hy => ?_) ?_ ?_ ?_
        · rw [c3, upd_ne (by omega), c2, upd_ne (by omega), c1, upd_ne (by omega)]
        · rw [c3, upd_ne (by omega), c2, upd_ne (by omega), c1, upd_ne (by omega)]
        · rw [c3, upd_ne (by omega), c2, upd_ne (by omega), c1, upd_ne (by omega)]
        · rw [c3, upd_ne (by omega), c2, upd_ne (by omega), c1, upd_eq]
        · rw [c3, upd_ne (by omega), c2, upd_eq]
          exact e2o
        · rw [c3, upd_eq]
      · rcases hf with ⟨e5, e6⟩ | ⟨c, S2, e5, e6, e7, e8⟩
        · refine Or.inl ⟨e5, ?_⟩
          rw [← hF', e6, List.append_nil]
        · refine Or.inr ⟨c, S2, R', e5, e6, ?_, ?_, e8, hF'⟩
          · have := e7.length_le
            rw [List.length_map, List.length_cons, List.length_map] at this
            rw [List.length_append]
            show S2.length ≤ P.length + 1 + 1
            omega
          · refine Om.sf (us := v :: S.map Prod.fst) ⟨?_, ?_⟩ e7
            · rw [List.length_map]
              exact List.mem_cons_of_mem _ (List.mem_append_right _ List.mem_cons_self)
            · rw [hSS]
              exact hOm.up
    refine pl_iq (fun e0 => fin 0 ?_) (fun e0 => fin 1 ?_)
    · have := congrArg Int32.toInt e0
      rw [on_eq (by omega)] at this
      show (0 : Int) = _
      have h00 : (0 : Int32).toInt = 0 := rfl
      omega
    · have : kd (D v).1 ≠ 0 := fun q => e0 (by rw [q]; rfl)
      show (1 : Int) = _
      omega
theorem nc_9 (hz : NZ n F) (H : NCL L xs m d k n D K F) {P : Fo} {x1 x2 x3 : Int32} (h : Rc n D K g r) (hC : NC D P g r) (hN : NV K F P x1) (h2 : x2.toInt = P.length) : pl (BT_number_9_1 L xs (m + 1) d k x1 x2 x3 g r) (kNC n D K F) kN := by
  have hn0 : 0 < n := h.2.2.1
  have hlt := h.lt
  have hlen : F.length + 1 ≤ n := ids_len hz.1.1 hz.2
  have hc1 := h.1
  unfold BT_number_9_1 BT_number_114_1
  rcases hN with ⟨rfl, rfl⟩ | ⟨v, S, R, rfl, hS, hSP, hOm, hV, hF⟩
  · refine pl_if (fun _ => ⟨rfl, h, hC⟩) (fun _ => pl_pos (by decide) ⟨rfl, h, hC⟩)
  · have hv := Ob.lt hn0 h.kid hV.1
    have hPF : P.length ≤ F.length := by
      rw [← hF, List.length_append]
      omega
    refine pl_neg (by rw [c2_ge, hc1]; omega) (pl_neg ?_ (nc_b hz H h hC hS hSP hOm hV hF h2))
    rw [c2_eq]
    intro q
    have := congrArg Int32.toInt q
    rw [on_eq (by omega)] at this
    have h1 : (-1 : Int32).toInt = -1 := rfl
    omega
theorem nc_l (hz : NZ n F) : ∀ k, NCL L xs m d k n D K F
  | 0 => fun _ _ _ _ _ _ _ _ _ _ => pl_l0
  | k + 1 => fun P x1 x2 x3 g r h hC hN h2 => by
    rw [lT_number_9_1]
    exact nc_9 hz (nc_l hz k) h hC hN h2
theorem yT_number (hz : NZ n F) (h : Rc n D K g r) (hD : Dn K 0 ((0, 0) :: F)) (h1 : g fT_numbered = 0) (h2 : g fT_units = 0) (h3 : g fT_greatestLevel = 0) : pl (ev L xs (m + 1) d nT_number [.ref cT] g r) (kNC n D K F) kN := by
  have hn0 : 0 < n := h.2.2.1
  have hlt := h.lt
  have hlen : F.length + 1 ≤ n := ids_len hz.1.1 hz.2
  have hc1 := h.1
  cases d with
  | zero => trivial
  | succ d =>
    rw [qT_number]
    have hC : NC D [] g r := ⟨by rw [h1]; rfl, by rw [h2]; rfl, by rw [h3]; rfl, Tb.nil⟩
    refine pl_e (yT_get L xs h (i := 0) (j := 5) hn0 (by omega) rfl rfl) ?_
    rw [(h.2.2.2.2.2.1 0 hn0).1]
    obtain ⟨R', hR', hc, hn⟩ := (Vi.start hD).hd
    have hR2 := (List.cons.inj hR').2
    subst hR2
    unfold BT_number_9 BT_number_114
    cases hK : K 0 with
    | nil =>
      have : F = [] := hn hK
      subst this
      exact pl_if (fun _ => ⟨rfl, h, hC⟩) (fun _ => pl_pos (by decide) ⟨rfl, h, hC⟩)
    | cons c l =>
      have hV := hc c l hK
      have hcn := Ob.lt hn0 h.kid hV.1
      have eo : Io (c :: l).head? = Int32.ofNat c := rfl
      rw [eo]
      refine pl_neg (by rw [c2_ge, hc1]; show ¬ (n : Int) ≤ 0; omega) (pl_neg ?_ (nc_b (P := []) (S := [(0, l)]) hz (nc_l hz m) h hC (fun e => nomatch e) (Nat.le_refl _) ⟨List.mem_cons_self, trivial⟩ hV rfl rfl))
      rw [c2_eq]
      intro q
      have := congrArg Int32.toInt q
      rw [on_eq (by omega)] at this
      have h1 : (-1 : Int32).toInt = -1 := rfl
      omega
end
