/-! The model numbers its nodes. -/
section
variable {L : Nat} {xs : Nat → Int32} {m d k : Nat} {n : Nat} {D : Nat → TD} {K : Nat → List Nat} {g0 : a2_G} {r0 : a2_A} {F : Fo}
/-- numbered so far -/
def NM (P : Fo) (g : a2_G) (r : a2_A) : Prop := (g fM_told).toInt = P.length ∧ (g fM_deepest).toInt = mx P ∧ ∃ c, Tb P (r fM_order).2 (r fM_number).2 c
def NS (g0 : a2_G) (r0 : a2_A) (P : Fo) (g : a2_G) (r : a2_A) : Prop := Fm [fM_told, fM_deepest] [fM_number, fM_order] g0 r0 g r ∧ NM P g r
def NW (K : Nat → List Nat) (F P : Fo) (x2 x3 : Int32) : Prop := (x2 = 0 ∧ P = F) ∨ ∃ v S R, x2 = Int32.ofNat v ∧ x3.toInt = (S.length : Int) ∧ S ≠ [] ∧ S.length ≤ P.length + 1 ∧ Vi K v S R ∧ P ++ R = F
def NU (K : Nat → List Nat) (F P : Fo) (x2 x3 : Int32) : Prop := ∃ v S R, x2 = Int32.ofNat v ∧ x3.toInt = (S.length : Int) ∧ S ≠ [] ∧ S.length ≤ P.length ∧ Ob K v S ∧ Re K S R ∧ P ++ R = F
/-- what is to be numbered -/
def NX (n : Nat) (D : Nat → TD) (K : Nat → List Nat) (r0 : a2_A) (F : Fo) : Prop := Mz n D K r0 ∧ 1 ≤ n ∧ n ≤ 8000 ∧ ((ids ((0, 0) :: F)).Nodup ∧ 0 + ((0, 0) :: F).length = n) ∧ ∀ x, x ∈ ids ((0, 0) :: F) → x < n
theorem NX.len (h : NX n D K r0 F) : F.length + 1 ≤ n := by
  have := ids_len h.2.2.2.1.1 h.2.2.2.2
  exact this
theorem NX.kid (h : NX n D K r0 F) : ∀ i c, i < n → c ∈ K i → c < n := fun _ _ hi hc => (h.1.kid hi hc).2
theorem NX.zero (h : NX n D K r0 F) : ∀ i, i < n → 0 ∉ K i := fun _ hi hc => by
  have := (h.1.kid hi hc).1
  omega
def NYL (L : Nat) (xs : Nat → Int32) (m d k : Nat) (K : Nat → List Nat) (g0 : a2_G) (r0 : a2_A) (F : Fo) : Prop := (∀ (P : Fo) (x2 x3 : Int32) (g : a2_G) (r : a2_A), NS g0 r0 P g r → NW K F P x2 x3 → pl (lp L xs nM_numberAll nm_m225 (m + 1) d k 9 [some (.ref cM), some (.int 0), some (.int x2), some (.int x3)] g r) (fun o g' r' => o = none ∧ NS g0 r0 F g' r') kN) ∧
  (∀ (P : Fo) (x2 x3 : Int32) (g : a2_G) (r : a2_A), NS g0 r0 P g r → NU K F P x2 x3 → pl (lp L xs nM_numberAll nm_m225 (m + 1) d k 85 [some (.ref cM), some (.int 0), some (.int x2), some (.int x3)] g r) (fun o g' r' => o = none ∧ NS g0 r0 F g' r') kN)
theorem on_nc {v : Nat} (h : v < 2147483648) : (Int32.ofNat v).toNatClampNeg = v := tn_at (on_eq h)
theorem ny_85 (hX : NX n D K r0 F) (H : NYL L xs m d k K g0 r0 F) {P : Fo} {x2 x3 : Int32} {g : a2_G} {r : a2_A} (h : NS g0 r0 P g r) (hU : NU K F P x2 x3) : pl (BM_numberAll_85 L xs (m + 1) d k 0 x2 x3 g r) (fun o g' r' => o = none ∧ NS g0 r0 F g' r') kN := by
  obtain ⟨v, S, R, rfl, h3, hS, hSP, hO, hR, hF⟩ := hU
  have hn8 := hX.2.2.1
  have hn1 := hX.2.1
  have hv := Ob.lt (by omega) hX.kid hO
  have en := on_nc (v := v) (by omega)
  have hlen := hX.len
  have hPF : P.length ≤ F.length := by
    rw [← hF, List.length_append]
    omega
  cases S with
  | nil => exact absurd rfl hS
  | cons y S =>
    obtain ⟨u, l⟩ := y
    have hO1 := hO
    obtain ⟨⟨a, e⟩, hO'⟩ := hO
    have hu := Ob.lt (by omega) hX.kid hO'
    obtain ⟨k1, k2, k3⟩ := hX.1.2.2.1 u hu a v l e
    have en1 : r fM_next = r0 fM_next := h.1.2 fM_next (by decide)
    have ea1 : r fM_above = r0 fM_above := h.1.2 fM_above (by decide)
    unfold BM_numberAll_85 BM_numberAll_117
    rw [en, en1, ea1, k3, k2]
    refine pl_if (fun _ => ?_) (fun _ => trivial)
    cases l with
    | cons c l' =>
      have hV := Re.cn hO1 hR
      have hc := Ob.lt (by omega) hX.kid hV.1
      have hc0 : c ≠ 0 := fun e0 => by
        have := (Ob.nz (by omega) hX.kid hX.zero hV.1).mp e0
        cases this
      have eo : o0 (c :: l').head? = Int32.ofNat c := rfl
      rw [eo]
      refine pl_pos ?_ (pl_if (fun _ => ?_) (fun _ => trivial))
      · rw [c2_ne]
        intro e0
        have := congrArg Int32.toInt e0
        rw [on_eq (by omega)] at this
        have h00 : (0 : Int32).toInt = 0 := rfl
        omega
      · exact H.1 P _ _ g r h (Or.inr ⟨c, (u, l') :: S, R, rfl, h3, (fun e => nomatch e), by have : ((u, l') :: S).length = ((u, c :: l') :: S).length := rfl; omega, hV, hF⟩)
    | nil =>
      have eo : o0 ([] : List Nat).head? = 0 := rfl
      rw [eo]
      have hR' := hR.nl
      refine pl_neg (by rw [c2_ne]; decide) (pl_if (fun _ => ?_) (fun _ => trivial))
      refine pl_iq (fun e0 => ?_) (fun e0 => ?_)
      · refine pl_if (fun _ => ?_) (fun _ => trivial)
        have hu0 : u = 0 := by
          have := congrArg Int32.toInt e0
          rw [on_eq (by omega)] at this
          have h00 : (0 : Int32).toInt = 0 := rfl
          omega
        have hSn := (Ob.nz (by omega) hX.kid hX.zero hO').mp hu0
        subst hSn
        have hRn : R = [] := hR'
        subst hRn
        exact H.1 P _ _ g r h (Or.inl ⟨rfl, by rw [← hF, List.append_nil]⟩)
      · refine pl_if (fun _ => ?_) (fun _ => trivial)
        have hl : ((u, []) :: S).length = S.length + 1 := rfl
        have h3' : (x3 + -1).toInt = (S.length : Int) := by
          rw [ad_eq (by show -2147483648 ≤ x3.toInt + -1; omega) (by show x3.toInt + -1 < 2147483648; omega), h3]
          show ((S.length + 1 : Nat) : Int) + -1 = _
          omega
        refine H.2 P _ _ g r h ⟨u, S, R, rfl, h3', fun eS => ?_, by omega, hO', hR', hF⟩
        have := (Ob.nz (by omega) hX.kid hX.zero hO').mpr eS
        rw [this] at e0
        exact e0 rfl
theorem ny_9 (hX : NX n D K r0 F) (H : NYL L xs m d k K g0 r0 F) {P : Fo} {x2 x3 : Int32} {g : a2_G} {r : a2_A} (h : NS g0 r0 P g r) (hW : NW K F P x2 x3) : pl (BM_numberAll_9 L xs (m + 1) d k 0 x2 x3 g r) (fun o g' r' => o = none ∧ NS g0 r0 F g' r') kN := by
  have hn8 := hX.2.2.1
  have hn1 := hX.2.1
  have hlen := hX.len
  have h00 : (0 : Int32).toInt = 0 := rfl
  unfold BM_numberAll_9 BM_numberAll_60
  rcases hW with ⟨rfl, rfl⟩ | ⟨v, S, R, rfl, h3, hS, hSP, hV, hF⟩
  · exact pl_pos (by rw [c2_le]; decide) ⟨rfl, h⟩
  · have hv := Ob.lt (by omega) hX.kid hV.1
    have hv0 : v ≠ 0 := fun e => hS ((Ob.nz (by omega) hX.kid hX.zero hV.1).mp e)
    have en := on_nc (v := v) (by omega)
    have ei : (Int32.ofNat v).toInt = v := on_eq (by omega)
    obtain ⟨R', hR', hD, hU⟩ := hV.hd
    subst hR'
    have hPF : P.length + 1 ≤ F.length := by
      rw [← hF, List.length_append]
      show _ ≤ P.length + (R'.length + 1)
      omega
    obtain ⟨t1, t2, c, t3⟩ := h.2
    have et : (g fM_told).toNatClampNeg = P.length := tn_at t1
    have ef : r fM_first = r0 fM_first := h.1.2 fM_first (by decide)
    have efv := (hX.1.2.1 v hv).1
    rw [en, et]
    refine pl_neg (by rw [c2_le, ei, h00]; omega) ?_
    refine pl_if (fun _ => pl_if (fun _ => ?_) (fun _ => trivial)) (fun _ => trivial)
    have hti : (g fM_told + 1).toInt = ((P ++ [(S.length, v)]).length : Int) := by
      rw [i32_inc (by omega), t1, List.length_append]
      rfl
    have hF' : P ++ [(S.length, v)] ++ R' = F := by
      rw [List.append_assoc]
      exact hF
    have hvP : v ∉ ids P := by
      have hnd := hX.2.2.2.1.1
      rw [← hF] at hnd
      have hnd2 := (List.nodup_cons.mp hnd).2
      intro hm
      have hnd3 : (ids P ++ v :: ids R').Nodup := by
        rw [show ids P ++ v :: ids R' = ids (P ++ (S.length, v) :: R') from (ids_app P ((S.length, v) :: R')).symm]
        exact hnd2
      exact (List.nodup_append.mp hnd3).2.2 v hm v List.mem_cons_self rfl
    have eTo : g fM_told = Int32.ofNat P.length := i32e (by rw [t1, on_eq (by omega)])
    -- what it leaves
    have hst : ∀ x4 : Int32, x4.toInt = (max (mx P) S.length : Nat) → NS g0 r0 (P ++ [(S.length, v)]) (upd (upd g fM_told (g fM_told + 1)) fM_deepest x4) (a2_ua (a2_ua r fM_number ((r fM_number).1, upd (r fM_number).2 v (g fM_told))) fM_order ((r fM_order).1, upd (r fM_order).2 P.length (Int32.ofNat v))) := by
      intro x4 h4
      refine ⟨(((h.1.up (by decide)).up (by decide)).ua (by decide)).ua (by decide), hti, ?_, upd c v (Int32.ofNat S.length), ?_⟩
      · show x4.toInt = _
        rw [h4, mx_app, mx_one]
      · refine t3.snoc hvP (fun i hi => ?_) (fun y hy => ?_) (fun y hy => upd_ne hy) ?_ ?_ upd_eq
        · show upd (r fM_order).2 P.length (Int32.ofNat v) i = _
          exact upd_ne (by omega)
        · show upd (r fM_number).2 v (g fM_told) y = _
          exact upd_ne hy
        · show upd (r fM_order).2 P.length (Int32.ofNat v) P.length = _
          exact upd_eq
        · show upd (r fM_number).2 v (g fM_told) v = _
          rw [upd_eq]
          exact eTo
    have hgo : ∀ (x4 : Int32), x4.toInt = (max (mx P) S.length : Nat) → ∀ (r1 : a2_A), r1 = a2_ua (a2_ua r fM_number ((r fM_number).1, upd (r fM_number).2 v (g fM_told))) fM_order ((r fM_order).1, upd (r fM_order).2 P.length (Int32.ofNat v)) → pl (if am_inr (Int32.ofNat v) (r1 fM_first).1 = true then (if am_c2 .le ((r1 fM_first).2 v) 0 = true then (BM_numberAll_85 L xs (m + 1) d k 0 (Int32.ofNat v) x3 (upd (upd g fM_told (g fM_told + 1)) fM_deepest x4) r1) else (if am_inr (Int32.ofNat v) (r1 fM_first).1 = true then (lp L xs nM_numberAll nm_m225 (m + 1) d k 9 [some (.ref cM), some (.int 0), some (.int ((r1 fM_first).2 v)), some (.int (x3 + 1))] (upd (upd g fM_told (g fM_told + 1)) fM_deepest x4) r1) else none)) else none) (fun o g' r' => o = none ∧ NS g0 r0 F g' r') kN := by
      intro x4 h4 r1 hr1
      have hs := hst x4 h4
      rw [← hr1] at hs
      have ef1 : (r1 fM_first).2 v = o0 (K v).head? := by
        have : r1 fM_first = r0 fM_first := by
          rw [hr1]
          exact ef
        rw [this]
        exact efv
      rw [ef1]
      refine pl_if (fun _ => ?_) (fun _ => trivial)
      cases hK : K v with
      | nil =>
        refine pl_pos (by rw [c2_le]; decide) ?_
        refine ny_85 hX H hs ⟨v, S, R', rfl, h3, hS, ?_, hV.1, hU hK, hF'⟩
        rw [List.length_append]
        exact hSP
      | cons c l =>
        have hVc := hD c l hK
        have hc := Ob.lt (by omega) hX.kid hVc.1
        have hc0 : c ≠ 0 := fun e0 => by
          have := (Ob.nz (by omega) hX.kid hX.zero hVc.1).mp e0
          cases this
        have eo : o0 (c :: l).head? = Int32.ofNat c := rfl
        rw [eo]
        refine pl_neg (by rw [c2_le, on_eq (by omega), h00]; omega) (pl_if (fun _ => ?_) (fun _ => trivial))
        refine H.1 _ _ _ _ _ hs (Or.inr ⟨c, (v, l) :: S, R', rfl, ?_, (fun e => nomatch e), ?_, hVc, hF'⟩)
        · rw [i32_inc (by omega), h3]
          rfl
        · rw [List.length_append]
          show S.length + 1 ≤ P.length + 1 + 1
          omega
    refine pl_il (fun e => ?_) (fun e => ?_)
    · have e' : x3.toInt ≤ (g fM_deepest).toInt := e
      exact hgo (g fM_deepest) (by rw [t2]; omega) _ rfl
    · have e' : ¬ x3.toInt ≤ (g fM_deepest).toInt := e
      exact hgo x3 (by rw [h3]; omega) _ rfl
theorem ny_l (hX : NX n D K r0 F) : ∀ k, NYL L xs m d k K g0 r0 F
  | 0 => ⟨fun _ _ _ _ _ _ _ => pl_l0, fun _ _ _ _ _ _ _ => pl_l0⟩
  | k + 1 => ⟨fun P x2 x3 g r h hW => by
      rw [lM_numberAll_9]
      exact ny_9 hX (ny_l hX k) h hW, fun P x2 x3 g r h hU => by
      rw [lM_numberAll_85]
      exact ny_85 hX (ny_l hX k) h hU⟩
theorem zM_numberAll {g : a2_G} {r : a2_A} (hX : NX n D K r F) (hD : Dn K 0 ((0, 0) :: F)) (ht : g fM_told = 0) (hd : g fM_deepest = 0) : pl (ev L xs (m + 1) d nM_numberAll [.ref cM, .int 0] g r) (fun o g' r' => o = none ∧ NS g r F g' r') kN := by
  cases d with
  | zero => trivial
  | succ d =>
    rw [qM_numberAll]
    have h0 : (0 : Int32).toNatClampNeg = 0 := rfl
    rw [h0, (hX.1.2.1 0 hX.2.1).1]
    refine pl_if (fun _ => ?_) (fun _ => trivial)
    have hs : NS g r [] g r := ⟨Fm.rf, by rw [ht]; rfl, by rw [hd]; rfl, fun _ => 0, Tb.nil⟩
    obtain ⟨R', hR', hc, hn⟩ := (Vi.start hD).hd
    have hR2 := (List.cons.inj hR').2
    subst hR2
    refine ny_9 hX (ny_l hX m) hs ?_
    cases hK : K 0 with
    | nil =>
      have : F = [] := hn hK
      exact Or.inl ⟨rfl, this.symm⟩
    | cons c l => exact Or.inr ⟨c, [(0, l)], F, rfl, rfl, (fun e => nomatch e), Nat.le_refl _, hc c l hK, rfl⟩
end
