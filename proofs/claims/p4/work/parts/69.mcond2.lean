/-! The model's conditions, II: compare, deeper, joint, factor. -/
def WC : List Nat := [fM_at, fM_failed, fM_bad, fM_faults, fM_nodes, fM_compared, fM_subject]
def Ec (g : a2_G) (r : a2_A) (g' : a2_G) (r' : a2_A) : Prop := Fm WC WEa g r g' r' ∧ (g fM_nodes).toInt ≤ (g' fM_nodes).toInt ∧ (g fM_at).toInt ≤ (g' fM_at).toInt
theorem En.c {g g' : a2_G} {r r' : a2_A} (h : En g r g' r') : Ec g r g' r' := ⟨h.1.sub (by decide) (by decide), h.2⟩
theorem Ec.x {g g' : a2_G} {r r' : a2_A} (h : Ec g r g' r') : Ex g r g' r' := ⟨h.1.sub (by decide) (by decide), h.2⟩
theorem Ec.trans {g1 g2 g3 : a2_G} {r1 r2 r3 : a2_A} (a : Ec g1 r1 g2 r2) (b : Ec g2 r2 g3 r3) : Ec g1 r1 g3 r3 := ⟨a.1.trans b.1, Int.le_trans a.2.1 b.2.1, Int.le_trans a.2.2 b.2.2⟩
theorem Ec.rf {g : a2_G} {r : a2_A} : Ec g r g r := ⟨Fm.rf, Int.le_refl _, Int.le_refl _⟩
/-- meets, whatever it says -/
theorem tM_meetsW (L : Nat) (xs : Nat → Int32) {m d : Nat} (hd : 3 ≤ d) (w : Int32) {b : Int} {s : Sg} {P : List Nat} {g : a2_G} {r : a2_A} (h : Mst b s P g r) (hb : g fM_bad = 0) : wp (ev L xs (m + 1) d nM_meets [.ref cM, .int w] g r) (fun o g' r' => ∃ v : Int32, o = some (.int v) ∧ En g r g' r' ∧ g' fM_bad = 0 ∧ r' = r ∧ Mst b s P g' r') kN := by
  obtain ⟨d, rfl⟩ : ∃ e, d = e + 3 := ⟨d - 3, by omega⟩
  rw [M_meets L xs m d h.a0 h.W]
  cases hw : Mm g r w with
  | false => exact ⟨0, rfl, En.rf, hb, rfl, h⟩
  | true =>
    obtain ⟨p1, p2, p3⟩ := h.ps hb (Mm_lt hw)
    exact ⟨1, rfl, p3, hb, rfl, p1.le (by omega)⟩
theorem wp_vW {z : Option fn_Z} {b : Int} {s : Sg} {P : List Nat} {g : a2_G} {r : a2_A} {k : Int32 → a2_G → a2_A → Option fn_Z} {Q : Option Value → a2_G → a2_A → Prop} {X : Nat → a2_G → a2_A → Prop} (h : wp z (fun o g' r' => ∃ v : Int32, o = some (.int v) ∧ En g r g' r' ∧ g' fM_bad = 0 ∧ r' = r ∧ Mst b s P g' r') kN) (h1 : ∀ v g', En g r g' r → g' fM_bad = 0 → Mst b s P g' r → wp (k v g' r) Q X) : wp (fn_v z k) Q X := by
  refine wp_v h (fun _ _ _ hx => hx.elim) ?_
  rintro o g' r' ⟨v, rfl, e1, e2, rfl, e4⟩
  exact ⟨v, rfl, h1 v g' e1 e2 e4⟩
def kCP (b : Int) (s : Sg) (P : List Nat) (g : a2_G) (r : a2_A) : Option Value → a2_G → a2_A → Prop := fun o g' r' => o = none ∧ (nk P r r' ∧ Ec g r g' r' ∧ g' fM_bad = 0 ∧ (g fM_at).toInt + 2 ≤ (g' fM_at).toInt ∧ Mst (b - 7) s P g' r' ∨ xB b s g r g' r')
theorem tM_compare (L : Nat) (xs : Nat → Int32) {m d : Nat} (hd : 5 ≤ d) {a : Int32} {b : Int} {s : Sg} {P : List Nat} {g : a2_G} {r : a2_A} (h : Mst b s P g r) (hb : g fM_bad = 0) (ha : Mi g a) (hl : b ≤ 1890) : wp (ev L xs (m + 1) d nM_compare [.ref cM, .int a] g r) (kCP b s P g r) kN := by
  obtain ⟨d, rfl⟩ : ∃ e, d = e + 1 := ⟨d - 1, by omega⟩
  have q := h.q
  have a1 := ha.1
  have a2 := ha.2
  have t153 : ∀ (x2 x3 x4 x5 x6 : Int32) (g1 : a2_G), En g r g1 r → g1 fM_bad = 0 → (g fM_at).toInt + 1 ≤ (g1 fM_at).toInt → Mst (b - 4) s P g1 r → wp (BM_compare_153 L xs (m + 1) d m a x2 x3 x4 x5 x6 g1 r) (kCP b s P g r) kN := by
    intro x2 x3 x4 x5 x6 g1 n1 b1 t1 k1
    have nn1 := n1.2.1
    unfold BM_compare_153
    refine wp_in (k1.1.1.at 5) a1 (by omega) ?_
    have k2 := (k1.upx fM_compared (x6 + x3) (by decide) (fun hk => absurd hk (by decide))).awx fM_value a.toInt.toNat (x6 + x3) (by decide) (fun hk => absurd hk (by decide))
    have ha2 : Mi (upd g1 fM_compared (x6 + x3)) a := ⟨a1, by show a.toInt < (g1 fM_nodes).toInt; omega⟩
    have e2 : Ec g r (upd g1 fM_compared (x6 + x3)) (aw r fM_value a.toInt.toNat (x6 + x3)) := ⟨(n1.c.1.up (by decide)).aw (by decide), n1.2⟩
    refine wp_n (wp_and (tM_operandOf L xs (by omega) k2 b1 ha2 (by omega)) (yM_operandOf L xs (by omega) k2 b1 ha2 (by omega))) (fun _ _ _ hx => hx.elim) ?_
    rintro o g3 r3 ⟨⟨rfl, h3 | h3⟩, hk⟩
    · refine ⟨rfl, rfl, Or.inl ⟨hk, e2.trans h3.1.c, h3.2.1, ?_, h3.2.2.2.le (by omega)⟩⟩
      have := h3.2.2.1
      have e : (upd g1 fM_compared (x6 + x3) fM_at).toInt = (g1 fM_at).toInt := rfl
      omega
    · exact ⟨rfl, rfl, Or.inr (h3.x e2.x (by omega))⟩
  have t127 : ∀ (x2 x3 x4 x5 x6 : Int32) (g1 : a2_G), En g r g1 r → g1 fM_bad = 0 → (g fM_at).toInt + 1 ≤ (g1 fM_at).toInt → Mst (b - 4) s P g1 r → wp (BM_compare_127 L xs (m + 1) d m a x2 x3 x4 x5 x6 g1 r) (kCP b s P g r) kN := by
    intro x2 x3 x4 x5 x6 g1 n1 b1 t1 k1
    unfold BM_compare_127 BM_compare_149
    refine wp_if (fun _ => t153 _ _ _ _ _ _ n1 b1 t1 k1) (fun _ => ?_)
    refine wp_if (fun _ => ?_) (fun _ => ?_)
    · refine wp_vW (tM_meetsW L xs (by omega) _ k1 b1) (fun v g2 n2 b2 k2 => ?_)
      have := n2.2.2
      exact t153 _ _ _ _ _ _ (n1.trans n2) b2 (by omega) k2
    · refine wp_vW (tM_meetsW L xs (by omega) _ k1 b1) (fun v g2 n2 b2 k2 => ?_)
      have := n2.2.2
      exact t153 _ _ _ _ _ _ (n1.trans n2) b2 (by omega) k2
  have t21 : ∀ (x2 x3 : Int32) (g1 : a2_G), En g r g1 r → g1 fM_bad = 0 → Mst b s P g1 r → wp (BM_compare_21 L xs (m + 1) d m a x2 x3 g1 r) (kCP b s P g r) kN := by
    intro x2 x3 g1 n1 b1 k1
    have q1 := k1.q
    have w1 := k1.W.1
    have w2 := k1.W.2
    have ta := n1.2.2
    unfold BM_compare_21 BM_compare_40
    refine wp_f (by rw [c2_ne, Decidable.not_not]; exact b1) ?_
    refine wp_vB (tM_isComparing L xs (by omega) k1 k1.a0) ?_ (fun f => ?_)
    · refine wp_f (by decide) ?_
      refine wp_vZ (tM_fail L xs (by omega) _ _ k1 b1 q1.2.2.2.2.2.1 (k1.an b1) (by omega)) (fun g5 r5 h5 => ?_)
      exact ⟨rfl, Or.inr (h5.x n1.x (by omega))⟩
    · refine wp_t (by decide) ?_
      refine wp_in rfl k1.a0 (by omega) ?_
      obtain ⟨p1, p2, p3⟩ := k1.ps b1 f
      have t2 : (g fM_at).toInt + 1 ≤ (upd g1 fM_at (g1 fM_at + 1) fM_at).toInt := by
        show _ ≤ (g1 fM_at + 1).toInt
        omega
      have t69 : ∀ x4, wp (BM_compare_69 L xs (m + 1) d m a x2 x3 x4 g1 r) (kCP b s P g r) kN := by
        intro x4
        unfold BM_compare_69
        refine wp_in rfl k1.a0 (by omega) ?_
        refine wp_if (fun _ => ?_) (fun _ => t127 _ _ _ _ _ _ (n1.trans p3) b1 t2 p1)
        refine wp_if (fun _ => ?_) (fun _ => t127 _ _ _ _ _ _ (n1.trans p3) b1 t2 p1)
        exact wp_if (fun _ => t127 _ _ _ _ _ _ (n1.trans p3) b1 t2 p1) (fun _ => t127 _ _ _ _ _ _ (n1.trans p3) b1 t2 p1)
      exact wp_if (fun _ => t69 _) (fun _ => t69 _)
  rw [qM_compare]
  refine wp_vW (tM_meetsW L xs (by omega) _ h hb) (fun v1 g1 n1 b1 k1 => ?_)
  refine wp_vW (tM_meetsW L xs (by omega) _ k1 b1) (fun v2 g2 n2 b2 k2 => ?_)
  exact wp_if (fun _ => t21 _ _ _ (n1.trans n2) b2 k2) (fun _ => t21 _ _ _ (n1.trans n2) b2 k2)
theorem tM_joint (L : Nat) (xs : Nat → Int32) {m d : Nat} (hd : 1 ≤ d) {b : Int} {s : Sg} {P : List Nat} {g : a2_G} {r : a2_A} (h : Mst b s P g r) {j : Nat} (hc : (g fM_joints).toInt = j) (h6 : j < 64) : wp (ev L xs (m + 1) d nM_joint [.ref cM] g r) (fun o g' r' => o = none ∧ Mst b s P g' r' ∧ g' = upd (upd g fM_joints (g fM_joints + 1)) fM_subject 0 ∧ r' = aw (aw r fM_andMany j 0) fM_orMany j 0) kN := by
  obtain ⟨d, rfl⟩ : ∃ e, d = e + 1 := ⟨d - 1, by omega⟩
  have ec : (g fM_joints).toNatClampNeg = j := by rw [nc_eq, hc]; rfl
  rw [qM_joint]
  refine wp_in (h.1.1.at 35) (by omega) (by omega) ?_
  refine wp_in (h.1.1.at 38) (by omega) (by omega) ?_
  rw [ec]
  exact ⟨rfl, (((h.upx fM_joints _ (by decide) (fun hk => absurd hk (by decide))).upx fM_subject 0 (by decide) (fun _ => in8_0)).awx fM_andMany j 0 (by decide) (fun hk => absurd hk (by decide))).awx fM_orMany j 0 (by decide) (fun hk => absurd hk (by decide)), rfl, rfl⟩
theorem tM_deeper (L : Nat) (xs : Nat → Int32) {m d : Nat} (hd : 3 ≤ d) (a : Int32) {b : Int} {s : Sg} {P : List Nat} {g : a2_G} {r : a2_A} (h : Mst b s P g r) (hb : g fM_bad = 0) (hlt : (g fM_at).toInt < (g fM_n).toInt) {j : Nat} (hc : (g fM_marks).toInt = j) (h6 : j < 64) : wp (ev L xs (m + 1) d nM_deeper [.ref cM, .int a] g r) (fun o g' r' => o = none ∧ (pB b s P g r g' r' ∨ (g fM_level).toInt ≠ 40 ∧ g' = upd (upd (upd g fM_level (g fM_level + 1)) fM_marks (g fM_marks + 1)) fM_at (g fM_at + 1) ∧ r' = aw r fM_mark j a ∧ Mst (b - 4) s P g' r' ∧ (g' fM_at).toInt = (g fM_at).toInt + 1)) kN := by
  obtain ⟨d, rfl⟩ : ∃ e, d = e + 1 := ⟨d - 1, by omega⟩
  have ec : (g fM_marks).toNatClampNeg = j := by rw [nc_eq, hc]; rfl
  have q := h.q
  rw [qM_deeper]
  refine wp_if (fun h4 => ?_) (fun h4 => ?_)
  · rw [c2_ne] at h4
    refine wp_in (h.1.1.at 32) (by omega) (by omega) ?_
    rw [ec]
    obtain ⟨p1, p2, p3⟩ := ((h.upx fM_level (g fM_level + 1) (by decide) (fun hk => absurd hk (by decide))).upx fM_marks (g fM_marks + 1) (by decide) (fun hk => absurd hk (by decide))).ps hb hlt
    exact ⟨rfl, Or.inr ⟨fun e => h4 (Int32.toInt_inj.mp e), rfl, rfl, p1.awx fM_mark j a (by decide) (fun hk => absurd hk (by decide)), p2⟩⟩
  · refine wp_vZ (tM_fail L xs (by omega) _ _ h hb q.2.2.2.2.2.1 (h.an hb) (by omega)) (fun g5 r5 h5 => ?_)
    exact ⟨rfl, Or.inl h5⟩
/-! A condition under way. -/
def mks (r : a2_A) : List Int32 → Prop
  | [] => True
  | k :: K => (r fM_mark).2 K.length = k ∧ mks r K
def nn : List Int32 → Int
  | [] => 0
  | k :: K => (if k = -1 then 0 else 1) + nn K
def np : List Int32 → Nat
  | [] => 0
  | k :: K => (if k = -1 then 1 else 0) + np K
theorem nn_0 : ∀ K, 0 ≤ nn K
  | [] => Int.le_refl 0
  | k :: K => by
    have := nn_0 K
    unfold nn
    split <;> omega
theorem np_le : ∀ K, np K ≤ K.length
  | [] => Nat.le_refl 0
  | k :: K => by
    have := np_le K
    have e : (k :: K).length = K.length + 1 := rfl
    unfold np
    split <;> omega
theorem mks.kp {r r' : a2_A} : ∀ {K : List Int32}, mks r K → (∀ i, i < K.length → (r' fM_mark).2 i = (r fM_mark).2 i) → mks r' K
  | [], _, _ => trivial
  | _ :: K, h, hk => ⟨(hk K.length (Nat.lt_succ_self _)).trans h.1, h.2.kp (fun i hi => hk i (Nat.lt_succ_of_lt hi))⟩
theorem mks.eq {r r' : a2_A} {K : List Int32} (h : mks r K) (e : r' fM_mark = r fM_mark) : mks r' K := h.kp (fun i _ => by rw [e])
def CT (b : Int) (s : Sg) (P : List Nat) (J : List (List Int32 × List Int32)) (K : List Int32) (T : List Nat) (g : a2_G) (r : a2_A) : Prop := Mst (b - nn K) s (T ++ cfl P J) g r ∧ jst r J ∧ jMi g J ∧ g fM_bad = 0 ∧ (g fM_joints).toInt = J.length ∧ (g fM_marks).toInt = K.length ∧ mks r K ∧ np K + 1 = J.length ∧ K.length ≤ 40
/-- what a factor leaves: a node -/
theorem CT.fa {b c : Int} {s : Sg} {P : List Nat} {J : List (List Int32 × List Int32)} {K : List Int32} {g g' : a2_G} {r r' : a2_A} {v : Int32} (h : CT b s P J K [] g r) (hE : Ec g r g' r') (hk : nk (cfl P J) r r') (hb : g' fM_bad = 0) (hm : Mst (c - nn K) s (nt v :: cfl P J) g' r') : CT c s P J K [nt v] g' r' := by
  obtain ⟨h1, h2, h3, h4, h5, h6, h7, h8, h9⟩ := h
  exact ⟨hm, h2.kp (jag.fm hE.1) hk, h3.up hE.2.1, hb, by rw [hE.1.1 fM_joints (by decide)]; exact h5, by rw [hE.1.1 fM_marks (by decide)]; exact h6, h7.eq (hE.1.2 fM_mark (by decide)), h8, h9⟩
def kFA (b : Int) (s : Sg) (P : List Nat) (J : List (List Int32 × List Int32)) (K : List Int32) (g : a2_G) (r : a2_A) : Option Value → a2_G → a2_A → Prop := fun o g' r' => ∃ v : Int32, o = some (.int v) ∧ (xB (b + 4) s g r g' r' ∨ v = 0 ∧ Ex g r g' r' ∧ (g fM_at).toInt < (g' fM_at).toInt ∧ (∃ J' K', CT b s P J' K' [] g' r' ∧ (g' fM_level).toInt + K.length = (g fM_level).toInt + K'.length ∧ (g' fM_level).toInt ≤ 40) ∨ 0 < v.toInt ∧ Mi g' v ∧ Ex g r g' r' ∧ (g fM_at).toInt < (g' fM_at).toInt ∧ g' fM_level = g fM_level ∧ CT (b - 2) s P J K [nt v] g' r')
theorem tM_factor (L : Nat) (xs : Nat → Int32) {m d : Nat} (hd : 6 ≤ d) {b : Int} {s : Sg} {P : List Nat} {J : List (List Int32 × List Int32)} {K : List Int32} {g : a2_G} {r : a2_A} (h : CT b s P J K [] g r) (hl : b ≤ 1880) (hv0 : (K.length : Int) ≤ (g fM_level).toInt) (hv : (g fM_level).toInt ≤ 40) : wp (ev L xs (m + 1) d nM_factor [.ref cM] g r) (kFA b s P J K g r) kN := by
  obtain ⟨d, rfl⟩ : ∃ e, d = e + 1 := ⟨d - 1, by omega⟩
  have hCT := h
  obtain ⟨h, hJ, hJM, hb, hjn, hmn, hmk, hnp, hK⟩ := h
  have h : Mst (b - nn K) s (cfl P J) g r := h
  have n0 := nn_0 K
  have npl := np_le K
  have q := h.q
  have i0 : 0 ≤ (g fM_at).toInt := h.a0
  have inc := i32_inc (x := g fM_at) (by omega)
  have hl1 : (g fM_level).toInt ≠ 40 → (g fM_level + 1).toInt = (g fM_level).toInt + 1 := fun _ => i32_inc (by omega)
  have hm1 : (g fM_marks + 1).toInt = (g fM_marks).toInt + 1 := i32_inc (by omega)
  have t36 : wp (BM_factor_36 L xs (m + 1) d m g r) (kFA b s P J K g r) kN := by
    unfold BM_factor_36
    refine wp_vB (tM_isSign L xs (by omega) _ h h.a0) ?_ (fun f => ?_)
    · refine wp_t (by decide) ?_
      refine wp_vB (tM_isBehind L xs (by omega) h) ?_ (fun f => ?_)
      · refine wp_t (by decide) ?_
        refine wp_v (wp_and (tM_operand L xs (by omega) h hb (by omega)) (yM_operand L xs (by omega) h hb (by omega))) (fun _ _ _ hx => hx.elim) ?_
        rintro o g1 r1 ⟨⟨rfl, h1⟩ | ⟨rfl, n1, h1⟩, hk1⟩
        · refine ⟨0, rfl, ?_⟩
          refine wp_f (by rw [c2_eq, h1.2.1]; decide) ?_
          exact ⟨0, rfl, Or.inl (h1.x Ex.rf (by omega))⟩
        · refine ⟨_, rfl, ?_⟩
          obtain ⟨e1, b1, t1, k1⟩ := h1
          have q1 := k1.q
          have i8 : In8 (g fM_nodes) := ⟨by omega, by omega⟩
          have an1 := k1.an b1
          refine wp_t (by rw [c2_eq]; exact b1) ?_
          refine wp_vB (tM_isBehind L xs (by omega) k1) ?_ (fun f => ?_)
          · refine wp_t (by decide) ?_
            refine wp_if (fun _ => ?_) (fun _ => ?_)
            · have edec : (g1 fM_at - 1).toInt = (g1 fM_at).toInt - 1 := i32_dec (by omega)
              refine wp_vB (tM_isKind L xs (by omega) _ k1 (by omega)) ?_ (fun f => ?_)
              · refine wp_f (by decide) ?_
                refine wp_vZ (tM_fail L xs (by omega) _ _ k1 b1 q1.2.2.2.2.2.1 (k1.an b1) (by omega)) (fun g5 r5 h5 => ?_)
                exact ⟨0, rfl, Or.inl (h5.x e1.x (by omega))⟩
              · refine wp_t (by decide) ?_
                refine wp_in (k1.1.1.at 4) (by omega) (by omega) ?_
                have k2 := k1.awx fM_kind (g fM_nodes).toNatClampNeg 54 (by decide) (fun hk => absurd hk (by decide))
                refine wp_vP (tM_passed L xs (by omega) k2 (by omega) b1) (fun v2 _ => ?_)
                refine wp_in (k2.1.1.at 5) (by omega) (by omega) ?_
                have k3 := k2.awx fM_value (g fM_nodes).toNatClampNeg v2 (by decide) (fun hk => absurd hk (by decide))
                have E3 : Ec g r g1 (aw (aw r1 fM_kind (g fM_nodes).toNatClampNeg 54) fM_value (g fM_nodes).toNatClampNeg v2) := ⟨(e1.c.1.aw (by decide)).aw (by decide), e1.2⟩
                refine ⟨_, rfl, Or.inr (Or.inr ⟨by omega, ⟨by omega, by omega⟩, E3.x, by omega, e1.1.1 fM_level (by decide), hCT.fa E3 hk1 b1 (k3.le (by omega))⟩)⟩
            · refine wp_in (k1.1.1.at 6) (by omega) (by omega) ?_
              refine wp_v (wp_and (tM_make L xs (by omega) _ _ _ k1 (by omega)) (yM_make L xs (by omega) _ _ _ k1 (by omega))) (fun _ _ _ hx => hx.elim) ?_
              rintro o g2 r2 ⟨⟨rfl, e2, b2, t2, s2, k2⟩, hk2⟩
              refine ⟨_, rfl, ?_⟩
              have q2 := k2.q
              have sb := k2.1.2.2.1.1 fM_subject (by decide)
              refine wp_in (k2.1.1.at 7) (by omega) (by omega) ?_
              have k3 := (k2.awx fM_extra (g1 fM_nodes).toNatClampNeg (g2 fM_subject) (by decide) (fun _ => sb)).perm (List.Perm.swap (g1 fM_nodes).toInt.toNat (g fM_nodes).toInt.toNat _)
              refine wp_n (wp_and (tM_attach L xs (by omega) k3 ⟨by omega, by omega⟩ ⟨by omega, by omega⟩ (by omega)) (yM_attach L xs (by omega) k3 ⟨by omega, by omega⟩ ⟨by omega, by omega⟩ (by omega))) (fun _ _ _ hx => hx.elim) ?_
              rintro o g4 r4 ⟨⟨rfl, e4, b4, t4, k4⟩, hk4⟩
              refine ⟨rfl, ?_⟩
              have E4 : En g r g4 r4 := (e1.trans ⟨e2.1.aw (by decide), e2.2⟩).trans e4
              have nn4 := e4.2.1
              have hkk : nk (cfl P J) r r4 := (hk1.trans (hk2.sub (fun x hx => List.mem_cons_of_mem _ hx))).trans (hk4.sub (fun x hx => List.mem_cons_of_mem _ hx))
              refine ⟨_, rfl, Or.inr (Or.inr ⟨by omega, ⟨by omega, by omega⟩, E4.x, by rw [t4, t2]; omega, E4.1.1 fM_level (by decide), hCT.fa E4.c hkk ((b4.trans b2).trans b1) (k4.le (by omega))⟩)⟩
          · refine wp_f (by decide) ?_
            refine wp_in (k1.1.1.at 6) (by omega) (by omega) ?_
            refine wp_v (wp_and (tM_make L xs (by omega) _ _ _ k1 (by omega)) (yM_make L xs (by omega) _ _ _ k1 (by omega))) (fun _ _ _ hx => hx.elim) ?_
            rintro o g2 r2 ⟨⟨rfl, e2, b2, t2, s2, k2⟩, hk2⟩
            refine ⟨_, rfl, ?_⟩
            have q2 := k2.q
            have k3 := k2.perm (List.Perm.swap (g1 fM_nodes).toInt.toNat (g fM_nodes).toInt.toNat _)
            refine wp_n (wp_and (tM_attach L xs (by omega) k3 ⟨by omega, by omega⟩ ⟨by omega, by omega⟩ (by omega)) (yM_attach L xs (by omega) k3 ⟨by omega, by omega⟩ ⟨by omega, by omega⟩ (by omega))) (fun _ _ _ hx => hx.elim) ?_
            rintro o g4 r4 ⟨⟨rfl, e4, b4, t4, k4⟩, hk4⟩
            refine ⟨rfl, ?_⟩
            have nn4 := e4.2.1
            have q4 := k4.q
            have E4 : En g r g4 r4 := (e1.trans e2).trans e4
            refine wp_in (k4.1.1.at 7) (by omega) (by omega) ?_
            have k5 := (k4.upx fM_subject (g fM_nodes) (by decide) (fun _ => i8)).awx fM_extra (g1 fM_nodes).toNatClampNeg (g fM_nodes) (by decide) (fun _ => i8)
            have E5 : Ec g r (upd g4 fM_subject (g fM_nodes)) (aw r4 fM_extra (g1 fM_nodes).toNatClampNeg (g fM_nodes)) := ⟨(E4.c.1.up (by decide)).aw (by decide), E4.2⟩
            refine wp_n (tM_compare L xs (by omega) k5 (show g4 fM_bad = 0 from (b4.trans b2).trans b1) ⟨by omega, by show _ < (g4 fM_nodes).toInt; omega⟩ (by omega)) (fun _ _ _ hx => hx.elim) ?_
            rintro o g6 r6 ⟨rfl, ⟨hk6, E6, b6, t6, k6⟩ | h6⟩
            · refine ⟨rfl, ?_⟩
              have nn6 : (g4 fM_nodes).toInt ≤ (g6 fM_nodes).toInt := E6.2.1
              have t6' : (g4 fM_at).toInt + 2 ≤ (g6 fM_at).toInt := t6
              rw [t4, t2] at t6'
              have hkk : nk (cfl P J) r r6 := ((hk1.trans (hk2.sub (fun x hx => List.mem_cons_of_mem _ hx))).trans (hk4.sub (fun x hx => List.mem_cons_of_mem _ hx))).trans (hk6.sub (fun x hx => List.mem_cons_of_mem _ hx))
              refine ⟨_, rfl, Or.inr (Or.inr ⟨by omega, ⟨by omega, by omega⟩, (E5.trans E6).x, by omega, (E5.trans E6).1.1 fM_level (by decide), hCT.fa (E5.trans E6) hkk b6 (k6.le (by omega))⟩)⟩
            · exact ⟨rfl, _, rfl, Or.inl ⟨E5.x.trans h6.1, h6.2.1, h6.2.2.le (by omega)⟩⟩
      · refine wp_f (by decide) ?_
        refine wp_if (fun _ => ?_) (fun _ => ?_)
        · refine wp_v (wp_and (tM_make L xs (by omega) _ _ _ h (by omega)) (yM_make L xs (by omega) _ _ _ h (by omega))) (fun _ _ _ hx => hx.elim) ?_
          rintro o g2 r2 ⟨⟨rfl, e2, b2, t2, s2, k2⟩, hk2⟩
          refine ⟨_, rfl, ?_⟩
          have q2 := k2.q
          have sb := k2.1.2.2.1.1 fM_subject (by decide)
          refine wp_in (k2.1.1.at 7) (by omega) (by omega) ?_
          have k3 := k2.awx fM_extra (g fM_nodes).toNatClampNeg (g2 fM_subject) (by decide) (fun _ => sb)
          have E3 : Ec g r g2 (aw r2 fM_extra (g fM_nodes).toNatClampNeg (g2 fM_subject)) := ⟨e2.c.1.aw (by decide), e2.2⟩
          refine wp_n (tM_compare L xs (by omega) k3 (b2.trans hb) ⟨by omega, by omega⟩ (by omega)) (fun _ _ _ hx => hx.elim) ?_
          rintro o g6 r6 ⟨rfl, ⟨hk6, E6, b6, t6, k6⟩ | h6⟩
          · refine ⟨rfl, ?_⟩
            have nn6 := E6.2.1
            rw [t2] at t6
            have hkk : nk (cfl P J) r r6 := hk2.trans (hk6.sub (fun x hx => List.mem_cons_of_mem _ hx))
            refine ⟨_, rfl, Or.inr (Or.inr ⟨by omega, ⟨by omega, by omega⟩, (E3.trans E6).x, by omega, (E3.trans E6).1.1 fM_level (by decide), hCT.fa (E3.trans E6) hkk b6 (k6.le (by omega))⟩)⟩
          · exact ⟨rfl, _, rfl, Or.inl ⟨E3.x.trans h6.1, h6.2.1, h6.2.2.le (by omega)⟩⟩
        · refine wp_vZ (tM_fail L xs (by omega) _ _ h hb q.2.2.2.2.2.1 (h.an hb) (by omega)) (fun g5 r5 h5 => ?_)
          exact ⟨0, rfl, Or.inl (h5.x Ex.rf (by omega))⟩
    · refine wp_f (by decide) ?_
      refine wp_n (tM_deeper L xs (by omega) _ h hb (Ms_lt f) hmn (by omega)) (fun _ _ _ hx => hx.elim) ?_
      rintro o g1 r1 ⟨rfl, h1 | ⟨c1, rfl, rfl, k1, t1⟩⟩
      · refine ⟨rfl, ?_⟩
        have jn := h1.1.1.1 fM_joints (by decide)
        refine wp_n (tM_joint L xs (by omega) h1.2.2 (j := J.length) (by rw [jn]; exact hjn) (by omega)) (fun _ _ _ hx => hx.elim) ?_
        rintro o g2 r2 ⟨rfl, k2, rfl, rfl⟩
        refine ⟨rfl, 0, rfl, Or.inl ⟨h1.1.x.trans ⟨(((Fm.rf.up (by decide)).up (by decide)).aw (by decide)).aw (by decide), Int.le_refl _, Int.le_refl _⟩, h1.2.1, k2.bd.le (by omega)⟩⟩
      · refine ⟨rfl, ?_⟩
        have hl2 := hl1 c1
        refine wp_n (tM_joint L xs (by omega) k1 (j := J.length) hjn (by omega)) (fun _ _ _ hx => hx.elim) ?_
        rintro o g2 r2 ⟨rfl, k2, rfl, rfl⟩
        have e1 : (aw (aw (aw r fM_mark K.length (-1)) fM_andMany J.length 0) fM_orMany J.length 0 fM_andMany).2 J.length = 0 := (aw_at : (aw (aw r fM_mark K.length (-1)) fM_andMany J.length 0 fM_andMany).2 J.length = 0)
        have e2 : (aw (aw (aw r fM_mark K.length (-1)) fM_andMany J.length 0) fM_orMany J.length 0 fM_orMany).2 J.length = 0 := aw_at
        have ag : jag J.length r (aw (aw (aw r fM_mark K.length (-1)) fM_andMany J.length 0) fM_orMany J.length 0) := (jag.aw (r := r) (r' := aw (aw r fM_mark K.length (-1)) fM_andMany J.length 0) (jag.aw (r' := aw r fM_mark K.length (-1)) (fun _ _ => ⟨rfl, rfl, rfl, rfl, rfl, rfl⟩) (Nat.le_refl _)) (Nat.le_refl _))
        refine ⟨rfl, 0, rfl, Or.inr (Or.inl ⟨rfl, ⟨((((((Fm.rf.up (by decide)).up (by decide)).up (by decide)).up (by decide)).up (by decide)).aw (by decide)).aw (by decide) |>.aw (by decide), Int.le_refl _, ?_⟩, ?_, ([], []) :: J, (-1) :: K, ⟨?_, ⟨⟨e1, e2⟩, hJ.kp (P := P) ag nk.rf⟩, ⟨(fun _ hx => nomatch hx), (fun _ hx => nomatch hx), jMi.up (g := g) (by exact Int.le_refl _) hJM⟩, hb, ?_, ?_, ⟨?_, ?_⟩, ?_, ?_⟩, ?_, ?_⟩)⟩
        · show (g fM_at).toInt ≤ (g fM_at + 1).toInt
          omega
        · show (g fM_at).toInt < (g fM_at + 1).toInt
          omega
        · exact k2.le (by show _ ≤ b - ((if (-1 : Int32) = -1 then 0 else 1) + nn K); rw [if_pos rfl]; omega)
        · show (g fM_joints + 1).toInt = ((([], []) :: J).length : Int)
          rw [i32_inc (by omega), hjn]
          rfl
        · show (g fM_marks + 1).toInt = (((-1) :: K).length : Int)
          rw [hm1, hmn]
          rfl
        · exact (aw_at : (aw r fM_mark K.length (-1) fM_mark).2 K.length = -1)
        · exact hmk.kp (fun i hi => (aw_nt (by omega) : (aw r fM_mark K.length (-1) fM_mark).2 i = (r fM_mark).2 i))
        · show (if (-1 : Int32) = -1 then 1 else 0) + np K + 1 = J.length + 1
          rw [if_pos rfl]
          omega
        · show K.length + 1 ≤ 40
          omega
        · show (g fM_level + 1).toInt + K.length = (g fM_level).toInt + ((K.length + 1 : Nat) : Int)
          omega
        · show (g fM_level + 1).toInt ≤ 40
          omega
  rw [qM_factor]
  refine wp_vB (tM_isWord L xs (by omega) _ h h.a0) ?_ (fun f => ?_)
  · exact wp_t (by decide) t36
  · refine wp_f (by decide) ?_
    refine wp_vB (tM_isComparing L xs (by omega) h (by omega)) ?_ (fun f2 => ?_)
    · refine wp_f (by decide) ?_
      refine wp_n (tM_deeper L xs (by omega) _ h hb (Mw_lt f) hmn (by omega)) (fun _ _ _ hx => hx.elim) ?_
      rintro o g1 r1 ⟨rfl, h1 | ⟨c1, rfl, rfl, k1, t1⟩⟩
      · exact ⟨rfl, 0, rfl, Or.inl (h1.x Ex.rf (by omega))⟩
      · have hl2 := hl1 c1
        have hne : g fM_at ≠ -1 := fun e => by
          rw [e] at i0
          exact absurd i0 (by decide)
        refine ⟨rfl, 0, rfl, Or.inr (Or.inl ⟨rfl, ⟨(((Fm.rf.up (by decide)).up (by decide)).up (by decide)).aw (by decide), Int.le_refl _, ?_⟩, ?_, J, (g fM_at) :: K, ⟨?_, hJ.kp (P := P) (fun _ _ => ⟨rfl, rfl, rfl, rfl, rfl, rfl⟩) nk.rf, jMi.up (g := g) (by exact Int.le_refl _) hJM, hb, hjn, ?_, ⟨?_, ?_⟩, ?_, ?_⟩, ?_, ?_⟩)⟩
        · show (g fM_at).toInt ≤ (g fM_at + 1).toInt
          omega
        · show (g fM_at).toInt < (g fM_at + 1).toInt
          omega
        · exact k1.le (by show _ ≤ b - ((if g fM_at = -1 then 0 else 1) + nn K); rw [if_neg hne]; omega)
        · show (g fM_marks + 1).toInt = ((g fM_at :: K).length : Int)
          rw [hm1, hmn]
          rfl
        · exact (aw_at : (aw r fM_mark K.length (g fM_at) fM_mark).2 K.length = g fM_at)
        · exact hmk.kp (fun i hi => (aw_nt (by omega) : (aw r fM_mark K.length (g fM_at) fM_mark).2 i = (r fM_mark).2 i))
        · show (if g fM_at = -1 then 1 else 0) + np K + 1 = J.length
          rw [if_neg hne]
          omega
        · show K.length + 1 ≤ 40
          omega
        · show (g fM_level + 1).toInt + K.length = (g fM_level).toInt + ((K.length + 1 : Nat) : Int)
          omega
        · show (g fM_level + 1).toInt ≤ 40
          omega
    · exact wp_t (by decide) t36
