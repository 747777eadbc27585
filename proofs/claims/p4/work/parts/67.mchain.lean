/-! Chains of floating nodes: lists by next. -/
def nt (x : Int32) : Nat := x.toInt.toNat
def nk (P : List Nat) (r r' : a2_A) : Prop := ∀ x, x ∈ P → (r' fM_next).2 x = (r fM_next).2 x
theorem nk.rf {P : List Nat} {r : a2_A} : nk P r r := fun _ _ => rfl
theorem nk.trans {P : List Nat} {r1 r2 r3 : a2_A} (a : nk P r1 r2) (b : nk P r2 r3) : nk P r1 r3 := fun x hx => (b x hx).trans (a x hx)
theorem nk.sub {P P' : List Nat} {r1 r2 : a2_A} (a : nk P r1 r2) (h : ∀ x, x ∈ P' → x ∈ P) : nk P' r1 r2 := fun x hx => a x (h x hx)
theorem nk.eq {P : List Nat} {r1 r2 : a2_A} (h : r2 fM_next = r1 fM_next) : nk P r1 r2 := fun x _ => by rw [h]
theorem wp_and {z : Option fn_Z} {Q1 Q2 : Option Value → a2_G → a2_A → Prop} {X : Nat → a2_G → a2_A → Prop} (h1 : wp z Q1 kN) (h2 : wp z Q2 X) : wp z (fun o g r => Q1 o g r ∧ Q2 o g r) kN := by
  match z, h1, h2 with
  | some (.inl o, g, r), h1, h2 => exact ⟨h1, h2⟩
theorem Mst.lt {b : Int} {s : Sg} {P : List Nat} {g : a2_G} {r : a2_A} (h : Mst b s P g r) {x : Nat} (hx : x ∈ P) : 0 < x ∧ x < (g fM_nodes).toInt.toNat := by
  obtain ⟨A, a1, a2, a3⟩ := h.2.2
  exact ⟨(a3 x hx).1, (a3 x hx).2.1⟩
theorem Mst.nd {b : Int} {s : Sg} {P : List Nat} {g : a2_G} {r : a2_A} (h : Mst b s P g r) : P.Nodup := by
  obtain ⟨A, a1, a2, a3⟩ := h.2.2
  exact a2
theorem MmkR_nx {t : Nat} {k v p : Int32} {r : a2_A} {x : Nat} (h : x ≠ t) : (MmkR t k v p r fM_next).2 x = (r fM_next).2 x := by
  show (aw (aw (aw (aw (aw (aw (aw r fM_kind t k) fM_value t v) fM_place t p) fM_extra t 0) fM_first t 0) fM_last t 0) fM_next t 0 fM_next).2 x = _
  rw [aw_nt h]
  rfl
theorem yM_make (L : Nat) (xs : Nat → Int32) {m d : Nat} (hd : 1 ≤ d) (k v p : Int32) {b : Int} {s : Sg} {P : List Nat} {g : a2_G} {r : a2_A} (h : Mst b s P g r) (hb : b ≤ 1900) : wp (ev L xs (m + 1) d nM_make [.ref cM, .int k, .int v, .int p] g r) (fun _ _ r' => nk P r r') kN := by
  obtain ⟨d, rfl⟩ : ∃ e, d = e + 1 := ⟨d - 1, by omega⟩
  have q := h.q
  rw [M_make L xs m d (by omega) (by omega) h.N]
  intro x hx
  have := (h.lt hx).2
  exact MmkR_nx (by omega)
theorem MatR_nx {b : Int} {s : Sg} {P : List Nat} {g : a2_G} {r : a2_A} {a t : Int32} (h : Mst b s (t.toInt.toNat :: P) g r) (ha : Mi g a) {x : Nat} (hx : x ∈ P) : (MatR a t r fM_next).2 x = (r fM_next).2 x := by
  obtain ⟨A, f, h5, h6⟩ := h.2.2
  have n1 := (List.nodup_cons.mp h5).1
  have xt : x ≠ t.toInt.toNat := fun e => n1 (e ▸ hx)
  have xA := (h6 x (List.mem_cons_of_mem _ hx)).2.2
  have hin := h.1.2.1.at 1 a.toInt.toNat
  unfold MatR
  by_cases hf : (r fM_first).2 a.toInt.toNat = 0
  · rw [if_pos hf]
    show (aw (aw r fM_above t.toInt.toNat a) fM_next t.toInt.toNat 0 fM_next).2 x = _
    rw [aw_nt xt]
    rfl
  · rw [if_neg hf]
    have hz : vf r fM_first a.toInt.toNat ≠ 0 := fun e => hf (Int32.toInt_inj.mp (by
      have := hin.1
      unfold vf at e
      rw [i32_0]
      omega))
    have hl := (f.2.1 a.toInt.toNat (by have := ha.1; have := ha.2; omega) hz).2.2.1
    have xl : x ≠ ((r fM_last).2 a.toInt.toNat).toInt.toNat := fun e => xA (e ▸ hl)
    show (aw (aw (aw r fM_above t.toInt.toNat a) fM_next t.toInt.toNat 0) fM_next ((r fM_last).2 a.toInt.toNat).toInt.toNat t fM_next).2 x = _
    rw [aw_nt xl, aw_nt xt]
    rfl
theorem yM_attach (L : Nat) (xs : Nat → Int32) {m d : Nat} (hd : 1 ≤ d) {a t : Int32} {b : Int} {s : Sg} {P : List Nat} {g : a2_G} {r : a2_A} (h : Mst b s (t.toInt.toNat :: P) g r) (ha : Mi g a) (ht : Mi g t) (hb : b ≤ 1900) : wp (ev L xs (m + 1) d nM_attach [.ref cM, .int a, .int t] g r) (fun _ _ r' => nk P r r') kN := by
  obtain ⟨d, rfl⟩ : ∃ e, d = e + 1 := ⟨d - 1, by omega⟩
  have q := h.q
  have a1 := ha.1
  have a2 := ha.2
  have t1 := ht.1
  have t2 := ht.2
  rw [M_attach L xs m d ⟨a1, by omega⟩ ⟨t1, by omega⟩ (fun _ => h.1.2.1.at 2 _) h.N]
  exact fun x hx => MatR_nx h ha hx
theorem MfR_nx {n w : Int32} {g : a2_G} {r : a2_A} : MfR n w g r fM_next = r fM_next := by
  unfold MfR
  split
  · split <;> rfl
  · rfl
theorem yM_operand (L : Nat) (xs : Nat → Int32) {m d : Nat} (hd : 3 ≤ d) {b : Int} {s : Sg} {P : List Nat} {g : a2_G} {r : a2_A} (h : Mst b s P g r) (hb : g fM_bad = 0) (hl : b ≤ 1900) : wp (ev L xs (m + 1) d nM_operand [.ref cM] g r) (fun _ _ r' => nk P r r') kN := by
  obtain ⟨d, rfl⟩ : ∃ e, d = e + 3 := ⟨d - 3, by omega⟩
  have q := h.q
  have w := h.W
  rw [qM_operand]
  refine wp_f (by rw [c2_ne, Decidable.not_not]; exact hb) ?_
  refine wp_vB (tM_isOperand L xs (by omega) h h.a0) ?_ (fun f => ?_)
  · refine wp_f (by decide) ?_
    unfold BM_operand_18
    rw [M_fail L xs m _ h.F]
    exact nk.eq MfR_nx
  · refine wp_t (by decide) ?_
    have w1 := w.1
    have w2 := w.2
    refine wp_t (by rw [i32_as, inr_eq]; exact ⟨h.a0, by omega⟩) ?_
    refine wp_t (by rw [i32_as, inr_eq]; exact ⟨h.a0, by omega⟩) ?_
    obtain ⟨p1, p2, p3⟩ := h.ps hb f
    refine wp_v (yM_make L xs (by omega) _ _ _ p1 (by omega) |> wp_and (tM_make L xs (by omega) _ _ _ p1 (by omega))) (fun _ _ _ hx => hx.elim) ?_
    rintro o g' r' ⟨⟨rfl, -⟩, hk⟩
    exact ⟨_, rfl, hk⟩
theorem yM_operandOf (L : Nat) (xs : Nat → Int32) {m d : Nat} (hd : 4 ≤ d) {a : Int32} {b : Int} {s : Sg} {P : List Nat} {g : a2_G} {r : a2_A} (h : Mst b s P g r) (hb : g fM_bad = 0) (ha : Mi g a) (hl : b ≤ 1900) : wp (ev L xs (m + 1) d nM_operandOf [.ref cM, .int a] g r) (fun _ _ r' => nk P r r') kN := by
  obtain ⟨d, rfl⟩ : ∃ e, d = e + 1 := ⟨d - 1, by omega⟩
  have q := h.q
  have a1 := ha.1
  have a2 := ha.2
  rw [qM_operandOf]
  unfold BM_operandOf_15
  refine wp_v (wp_and (tM_operand L xs (by omega) h hb hl) (yM_operand L xs (by omega) h hb hl)) (fun _ _ _ hx => hx.elim) ?_
  rintro o g1 r1 ⟨⟨rfl, h1⟩ | ⟨rfl, n1, h1⟩, hk⟩
  · refine ⟨0, rfl, ?_⟩
    refine wp_t (by decide) ?_
    exact hk
  · refine ⟨_, rfl, ?_⟩
    refine wp_f (by rw [c2_le, i32_0]; omega) ?_
    refine wp_n (wp_and (tM_attach L xs (by omega) h1.2.2.2 ⟨a1, by omega⟩ ⟨by omega, by omega⟩ (by omega)) (yM_attach L xs (by omega) h1.2.2.2 ⟨a1, by omega⟩ ⟨by omega, by omega⟩ (by omega))) (fun _ _ _ hx => hx.elim) ?_
    rintro o g2 r2 ⟨⟨rfl, -⟩, hk2⟩
    exact ⟨rfl, hk.trans hk2⟩
/-- the chain of next from f on -/
def chn (nx : Nat → Int32) : Int32 → List Int32 → Int32 → Prop
  | f, [], l => f = l
  | f, t :: T, l => nx (nt f) = t ∧ chn nx t T l
def lst (nx : Nat → Int32) (f l many : Int32) : List Int32 → Prop
  | [] => many = 0
  | a :: T => a = f ∧ chn nx a T l ∧ many.toInt = (T.length : Int) + 1
theorem chn.kp {nx nx' : Nat → Int32} : ∀ {f l : Int32} {T : List Int32}, chn nx f T l → (∀ x, x ∈ f :: T → nx' (nt x) = nx (nt x)) → chn nx' f T l
  | _, _, [], h, _ => h
  | f, l, t :: T, h, hk => ⟨(hk f List.mem_cons_self).trans h.1, h.2.kp (fun x hx => hk x (List.mem_cons_of_mem _ hx))⟩
theorem lst.kp {nx nx' : Nat → Int32} {f l many : Int32} : ∀ {X : List Int32}, lst nx f l many X → (∀ x, x ∈ X → nx' (nt x) = nx (nt x)) → lst nx' f l many X
  | [], h, _ => h
  | _ :: _, h, hk => ⟨h.1, h.2.1.kp hk, h.2.2⟩
theorem chn.mem {nx : Nat → Int32} : ∀ {f l : Int32} {T : List Int32}, chn nx f T l → l ∈ f :: T
  | _, _, [], h => by rw [show _ = _ from h]; exact List.mem_cons_self
  | _, _, _ :: _, h => List.mem_cons_of_mem _ h.2.mem
theorem upd_eq {f : Nat → Int32} {k : Nat} {x : Int32} : upd f k x k = x := if_pos rfl
theorem upd_ne {f : Nat → Int32} {k j : Nat} {x : Int32} (h : j ≠ k) : upd f k x j = f j := if_neg h
theorem chn.ap {nx : Nat → Int32} {t : Int32} : ∀ {f l : Int32} {T : List Int32}, chn nx f T l → ((f :: T).map nt).Nodup → chn (upd nx (nt l) t) f (T ++ [t]) t
  | f, l, [], h, _ => by
    rw [show f = l from h]
    exact ⟨upd_eq, rfl⟩
  | f, l, u :: T, h, hn => by
    have h2 := List.nodup_cons.mp hn
    have hm : nt l ∈ (u :: T).map nt := List.mem_map.mpr ⟨l, h.2.mem, rfl⟩
    exact ⟨(upd_ne (fun e => h2.1 (by rw [e]; exact hm))).trans h.1, h.2.ap h2.2⟩
/-- one node more at the end: what is written -/
def lapR (qF qL qM j : Nat) (t : Int32) (r : a2_A) : a2_A := aw (aw (if (r qM).2 j = 0 then aw (aw r fM_next (nt t) 0) qF j t else aw (aw r fM_next (nt t) 0) fM_next (nt ((r qL).2 j)) t) qL j t) qM j ((r qM).2 j + 1)
theorem lap {qF qL qM j : Nat} {t : Int32} {r : a2_A} {X : List Int32} (d1 : qF ≠ fM_next) (d2 : qL ≠ fM_next) (d3 : qM ≠ fM_next) (d4 : qF ≠ qL) (d5 : qF ≠ qM) (d6 : qL ≠ qM) (h : lst (r fM_next).2 ((r qF).2 j) ((r qL).2 j) ((r qM).2 j) X) (hn : (X.map nt).Nodup) (ht : nt t ∉ X.map nt) (hX : X.length ≤ 8000) : lst (lapR qF qL qM j t r fM_next).2 ((lapR qF qL qM j t r qF).2 j) ((lapR qF qL qM j t r qL).2 j) ((lapR qF qL qM j t r qM).2 j) (X ++ [t]) := by
  have e3 : (lapR qF qL qM j t r qM).2 j = (r qM).2 j + 1 := aw_at
  have e2 : (lapR qF qL qM j t r qL).2 j = t := by
    unfold lapR
    rw [aw_ne d6]
    exact aw_at
  rw [e2, e3]
  cases X with
  | nil =>
    have hz : (r qM).2 j = 0 := h
    have e1 : (lapR qF qL qM j t r qF).2 j = t := by
      unfold lapR
      rw [aw_ne d5, aw_ne d4, if_pos hz]
      exact aw_at
    rw [e1, hz]
    exact ⟨rfl, rfl, rfl⟩
  | cons a T =>
    obtain ⟨h1, h2, h3⟩ := h
    have hz : ¬ (r qM).2 j = 0 := fun e => by rw [e, i32_0] at h3; omega
    have e1 : (lapR qF qL qM j t r qF).2 j = (r qF).2 j := by
      unfold lapR
      rw [aw_ne d5, aw_ne d4, if_neg hz, aw_ne d1, aw_ne d1]
    have e0 : (lapR qF qL qM j t r fM_next).2 = upd (upd (r fM_next).2 (nt t) 0) (nt ((r qL).2 j)) t := by
      unfold lapR
      rw [aw_ne (fun e => d3 e.symm), aw_ne (fun e => d2 e.symm), if_neg hz, aw_eq, aw_eq]
    rw [e1, e0]
    have hk : chn (upd (r fM_next).2 (nt t) 0) a T ((r qL).2 j) := h2.kp (fun x hx => upd_ne (fun e => ht (by rw [← e]; exact List.mem_map.mpr ⟨x, hx, rfl⟩)))
    refine ⟨h1, hk.ap hn, ?_⟩
    have hl : T.length + 1 ≤ 8000 := hX
    rw [i32_inc (by omega), h3]
    simp
/-- .. and what stays -/
theorem lap_nx {qF qL qM j : Nat} {t : Int32} {r : a2_A} (d1 : qF ≠ fM_next) (d2 : qL ≠ fM_next) (d3 : qM ≠ fM_next) {x : Nat} (h1 : x ≠ nt t) (h2 : (r qM).2 j ≠ 0 → x ≠ nt ((r qL).2 j)) : (lapR qF qL qM j t r fM_next).2 x = (r fM_next).2 x := by
  unfold lapR
  rw [aw_ne (fun e => d3 e.symm), aw_ne (fun e => d2 e.symm)]
  by_cases hz : (r qM).2 j = 0
  · rw [if_pos hz, aw_ne (fun e => d1 e.symm), aw_nt h1]
  · rw [if_neg hz, aw_nt (h2 hz), aw_nt h1]
theorem lap_ne {qF qL qM j : Nat} {t : Int32} {r : a2_A} {q : Nat} (h1 : q ≠ fM_next) (h2 : q ≠ qF) (h3 : q ≠ qL) (h4 : q ≠ qM) : lapR qF qL qM j t r q = r q := by
  unfold lapR
  rw [aw_ne h4, aw_ne h3]
  split
  · rw [aw_ne h2, aw_ne h1]
  · rw [aw_ne h1, aw_ne h1]
theorem lap_nt {qF qL qM j : Nat} {t : Int32} {r : a2_A} {q i : Nat} (hi : i ≠ j) (hq : q ≠ fM_next) : (lapR qF qL qM j t r q).2 i = (r q).2 i := by
  unfold lapR
  rw [aw_nt hi, aw_nt hi]
  split
  · rw [aw_nt hi, aw_ne hq]
  · rw [aw_ne hq, aw_ne hq]
theorem Mst.nx {b : Int} {s : Sg} {P : List Nat} {g : a2_G} {r : a2_A} {t : Nat} {v : Int32} (h : Mst b s P g r) (ht : t ∈ P) (hv : In8 v) : Mst b s P g (aw r fM_next t v) := by
  obtain ⟨A, f, h5, h6⟩ := h.2.2
  refine ⟨⟨h.1.1.aw _ _ _, h.1.2.1.aw _ _ _ (fun _ => hv) (fun e => absurd e (by decide)), h.1.2.2⟩, h.2.1, A, ?_, h5, h6⟩
  unfold TF
  rw [vf_ne (by decide), vf_ne (by decide), vf_eq, vf_ne (by decide)]
  exact f.nx (h6 t ht).2.2
theorem Mst.lap {b : Int} {s : Sg} {P : List Nat} {g : a2_G} {r : a2_A} {qF qL qM j : Nat} {t : Int32} (h : Mst b s P g r) (ht : nt t ∈ P) (hi : In8 t) (hl : (r qM).2 j ≠ 0 → nt ((r qL).2 j) ∈ P) (h1 : qF ∉ [fM_first, fM_last, fM_next, fM_above, fM_its]) (h2 : qL ∉ [fM_first, fM_last, fM_next, fM_above, fM_its]) (h3 : qM ∉ [fM_first, fM_last, fM_next, fM_above, fM_its]) (h4 : qM ∉ QN) : Mst b s P g (lapR qF qL qM j t r) := by
  unfold lapR
  refine Mst.awx (Mst.awx ?_ _ _ _ h2 (fun _ => hi)) _ _ _ h3 (fun hk => absurd hk h4)
  by_cases hz : (r qM).2 j = 0
  · rw [if_pos hz]
    exact (h.nx ht in8_0).awx _ _ _ h1 (fun _ => hi)
  · rw [if_neg hz]
    exact (h.nx ht in8_0).nx (hl hz) hi
/-! Joints. -/
def cfl (P : List Nat) : List (List Int32 × List Int32) → List Nat
  | [] => P
  | (A, O) :: J => A.map nt ++ (O.map nt ++ cfl P J)
def jt (r : a2_A) (j : Nat) (A O : List Int32) : Prop := lst (r fM_next).2 ((r fM_andFirst).2 j) ((r fM_andLast).2 j) ((r fM_andMany).2 j) A ∧ lst (r fM_next).2 ((r fM_orFirst).2 j) ((r fM_orLast).2 j) ((r fM_orMany).2 j) O
def jst (r : a2_A) : List (List Int32 × List Int32) → Prop
  | [] => True
  | (A, O) :: J => jt r J.length A O ∧ jst r J
def jMi (g : a2_G) : List (List Int32 × List Int32) → Prop
  | [] => True
  | (A, O) :: J => (∀ x, x ∈ A → Mi g x ∧ 0 < x.toInt) ∧ (∀ x, x ∈ O → Mi g x ∧ 0 < x.toInt) ∧ jMi g J
theorem jMi.up {g g' : a2_G} (h : (g fM_nodes).toInt ≤ (g' fM_nodes).toInt) : ∀ {J : List (List Int32 × List Int32)}, jMi g J → jMi g' J
  | [], _ => trivial
  | (A, O) :: J, hJ => ⟨fun x hx => ⟨⟨(hJ.1 x hx).1.1, by have := (hJ.1 x hx).1.2; omega⟩, (hJ.1 x hx).2⟩, fun x hx => ⟨⟨(hJ.2.1 x hx).1.1, by have := (hJ.2.1 x hx).1.2; omega⟩, (hJ.2.1 x hx).2⟩, hJ.2.2.up h⟩
def jag (n : Nat) (r r' : a2_A) : Prop := ∀ i, i < n → (r' fM_andFirst).2 i = (r fM_andFirst).2 i ∧ (r' fM_andLast).2 i = (r fM_andLast).2 i ∧ (r' fM_andMany).2 i = (r fM_andMany).2 i ∧ (r' fM_orFirst).2 i = (r fM_orFirst).2 i ∧ (r' fM_orLast).2 i = (r fM_orLast).2 i ∧ (r' fM_orMany).2 i = (r fM_orMany).2 i
theorem jst.kp {P : List Nat} {r r' : a2_A} : ∀ {J : List (List Int32 × List Int32)}, jst r J → jag J.length r r' → nk (cfl P J) r r' → jst r' J
  | [], _, _, _ => trivial
  | (A, O) :: J, h, ha, hk => by
    obtain ⟨⟨h1, h2⟩, h3⟩ := h
    obtain ⟨e1, e2, e3, e4, e5, e6⟩ := ha J.length (Nat.lt_succ_self _)
    refine ⟨⟨?_, ?_⟩, h3.kp (P := P) (fun i hi => ha i (Nat.lt_succ_of_lt hi)) (hk.sub (fun x hx => List.mem_append_right _ (List.mem_append_right _ hx)))⟩
    · rw [e1, e2, e3]
      exact h1.kp (fun x hx => hk _ (List.mem_append_left _ (List.mem_map.mpr ⟨x, hx, rfl⟩)))
    · rw [e4, e5, e6]
      exact h2.kp (fun x hx => hk _ (List.mem_append_right _ (List.mem_append_left _ (List.mem_map.mpr ⟨x, hx, rfl⟩))))
theorem jag.rf {n : Nat} {r : a2_A} : jag n r r := fun _ _ => ⟨rfl, rfl, rfl, rfl, rfl, rfl⟩
theorem jag.trans {n : Nat} {r1 r2 r3 : a2_A} (a : jag n r1 r2) (b : jag n r2 r3) : jag n r1 r3 := fun i hi => ⟨(b i hi).1.trans (a i hi).1, (b i hi).2.1.trans (a i hi).2.1, (b i hi).2.2.1.trans (a i hi).2.2.1, (b i hi).2.2.2.1.trans (a i hi).2.2.2.1, (b i hi).2.2.2.2.1.trans (a i hi).2.2.2.2.1, (b i hi).2.2.2.2.2.trans (a i hi).2.2.2.2.2⟩
theorem jag.fm {W : List Nat} {n : Nat} {g g' : a2_G} {r r' : a2_A} (h : Fm W WEa g r g' r') : jag n r r' := by
  intro i _
  rw [h.2 fM_andFirst (by decide), h.2 fM_andLast (by decide), h.2 fM_andMany (by decide), h.2 fM_orFirst (by decide), h.2 fM_orLast (by decide), h.2 fM_orMany (by decide)]
  exact ⟨rfl, rfl, rfl, rfl, rfl, rfl⟩
theorem jag.aw {n : Nat} {r r' : a2_A} (h : jag n r r') {q i : Nat} {x : Int32} (hi : n ≤ i) : jag n r (aw r' q i x) := by
  intro c hc
  have e : c ≠ i := by omega
  rw [aw_nt e, aw_nt e, aw_nt e, aw_nt e, aw_nt e, aw_nt e]
  exact h c hc
theorem jag.lap {n : Nat} {r r' : a2_A} (h : jag n r r') {qF qL qM j : Nat} {t : Int32} (hi : n ≤ j) : jag n r (lapR qF qL qM j t r') := by
  intro c hc
  have e : c ≠ j := by omega
  rw [lap_nt e (by decide), lap_nt e (by decide), lap_nt e (by decide), lap_nt e (by decide), lap_nt e (by decide), lap_nt e (by decide)]
  exact h c hc
