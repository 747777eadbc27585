/-! The model's parse. -/
/-- what holds of the model between calls -/
def MI (g : a2_G) (r : a2_A) : Prop := ML r ∧ MR r ∧ (∀ k, k ∈ GN → In8 (g k)) ∧ (0 ≤ (g fM_size).toInt ∧ (g fM_size).toInt ≤ 1500) ∧ (0 ≤ (g fM_faults).toInt ∧ (g fM_faults).toInt ≤ 20) ∧ (0 ≤ (g fM_units).toInt ∧ (g fM_units).toInt ≤ 600) ∧ (0 ≤ (g fM_told).toInt ∧ (g fM_told).toInt ≤ 8000) ∧ (0 < (g fM_told).toInt → ∃ A N, N ≤ 8000 ∧ TF A N r ∧ ∀ i : Nat, (i : Int) < (g fM_told).toInt → ((r fM_order).2 i).toInt.toNat < N)
theorem upd_upd {g : a2_G} {k : Nat} {x y : Int32} : upd (upd g k x) k y = upd g k y := by
  funext j
  by_cases h : j = k
  · subst h
    rw [upd_eq, upd_eq]
  · rw [upd_ne h, upd_ne h, upd_ne h]
/-- between two clauses -/
def PH (b : Int) (g : a2_G) (r : a2_A) : Prop := MB g r ∧ (1 ≤ (g fM_nodes).toInt ∧ (g fM_nodes).toInt ≤ 4 * (g fM_at).toInt + b ∧ 0 ≤ (g fM_at).toInt ∧ (g fM_at).toInt ≤ (g fM_n).toInt + 1) ∧ TP [] (g fM_nodes).toInt.toNat r ∧ UI (g fM_at).toInt g r
theorem pa103 (L : Nat) (xs : Nat → Int32) {m d : Nat} {g : a2_G} {r : a2_A} (hML : ML r) (hn : (g fM_n).toInt ≤ 1500) {Q : Option Value → a2_G → a2_A → Prop} : ∀ (j k : Nat) (x : Int32), (g fM_n).toInt ≤ x.toInt + j → 0 ≤ x.toInt → x.toInt ≤ (g fM_n).toInt → j + 1 < k → (∀ (k' : Nat) (y : Int32), k ≤ k' + j + 1 → x.toInt + 1 ≤ y.toInt → y.toInt ≤ (g fM_n).toInt + 1 → wp (BM_parse_56 L xs (m + 1) d k' 0 (upd g fM_at y) r) Q kN) → wp (BM_parse_103 L xs (m + 1) d k 0 (upd g fM_at x) r) Q kN := by
  intro j
  induction j with
  | zero =>
    intro k x h1 h2 h3 hk hK
    obtain ⟨k, rfl⟩ : ∃ e, k = e + 1 := ⟨k - 1, by omega⟩
    unfold BM_parse_103 BM_parse_140
    refine wp_t (by rw [c2_ge]; show (g fM_n).toInt ≤ x.toInt; omega) ?_
    rw [lM_parse_56, upd_upd]
    have e : (x + 1).toInt = x.toInt + 1 := i32_inc (by omega)
    exact hK k (x + 1) (by omega) (by omega) (by omega)
  | succ j ih =>
    intro k x h1 h2 h3 hk hK
    obtain ⟨k, rfl⟩ : ∃ e, k = e + 1 := ⟨k - 1, by omega⟩
    have e : (x + 1).toInt = x.toInt + 1 := i32_inc (by omega)
    have f140 : wp (BM_parse_140 L xs (m + 1) d (k + 1) 0 (upd g fM_at x) r) Q kN := by
      unfold BM_parse_140
      rw [lM_parse_56, upd_upd]
      exact hK k (x + 1) (by omega) (by omega) (by omega)
    unfold BM_parse_103
    refine wp_if (fun _ => f140) (fun hc => ?_)
    rw [c2_ge] at hc
    have hc' : ¬ (g fM_n).toInt ≤ x.toInt := hc
    refine wp_in (hML.at 0) h2 (by show x.toInt < _; omega) ?_
    refine wp_if (fun _ => f140) (fun _ => ?_)
    rw [lM_parse_103, upd_upd]
    exact ih k (x + 1) (by omega) (by omega) (by omega) (by omega) (fun k' y q1 q2 q3 => hK k' y (by omega) (by omega) q3)
def kPA : Option Value → a2_G → a2_A → Prop := fun o g' r' => (∃ v : Int32, o = some (.int v)) ∧ MI g' r' ∧ g' fM_size = 0
theorem pa238 (L : Nat) (xs : Nat → Int32) {m d k : Nat} (hm : 4294967296 ≤ m) (hd : 1 ≤ d) (x2 x3 : Int32) {g : a2_G} {r : a2_A} (h1 : MB g r) (h2 : 1 ≤ (g fM_nodes).toInt) (h3 : (g fM_nodes).toInt ≤ 8000) (h4 : TP [] (g fM_nodes).toInt.toNat r) (h5 : 0 ≤ (g fM_units).toInt ∧ (g fM_units).toInt ≤ 600) : wp (BM_parse_238 L xs (m + 1) d k 0 x2 x3 g r) kPA kN := by
  obtain ⟨m1, m2, m3, m4, m5, m6, m7⟩ := h1
  unfold BM_parse_238
  have sz : (0 : Int32).toInt = 0 := rfl
  refine wp_if (fun _ => ?_) (fun _ => ?_)
  · refine wp_n (tM_numberAll L xs hm hd (N := (g fM_nodes).toInt.toNat) (g := upd g fM_thrown x3) h4 (by omega) (by omega) m1 m2 m3.2.2) (fun _ _ _ hx => hx.elim) ?_
    rintro o g' r' ⟨rfl, F, l', mr', t0, t1, to⟩
    have fr : ∀ q, q ∉ [fM_told, fM_deepest, fM_thrown] → g' q = g q := fun q hq => (F.1 q (fun hh => hq (by rcases List.mem_cons.mp hh with e | hh; rw [e]; decide; rcases List.mem_cons.mp hh with e | hh; rw [e]; decide; exact nomatch hh))).trans (if_neg (fun e => hq (by rw [e]; decide)))
    obtain ⟨A, hT, -, -⟩ := h4
    have hT' : TF A (g fM_nodes).toInt.toNat r' := tr_kp hT (F.2 fM_first (by decide)) (F.2 fM_last (by decide)) (F.2 fM_next (by decide)) (F.2 fM_above (by decide))
    refine ⟨rfl, ⟨_, rfl⟩, ⟨l', mr', fun k hk => ?_, ?_, ?_, ?_, ⟨t0, t1⟩, fun _ => ⟨A, _, by omega, hT', to⟩⟩, ?_⟩
    · rw [fr k (fun hh => by revert hk; revert hh; revert k; decide)]
      exact m3.1 k hk
    · rw [fr fM_size (by decide), m3.2.1]
      decide
    · rw [fr fM_faults (by decide)]
      exact ⟨m6, m7⟩
    · rw [fr fM_units (by decide)]
      exact h5
    · rw [fr fM_size (by decide)]
      exact m3.2.1
  · refine ⟨⟨_, rfl⟩, ⟨m1, m2, fun k hk => ?_, ?_, ⟨m6, m7⟩, ?_, ?_, fun e => ?_⟩, m3.2.1⟩
    · have e : upd (upd g fM_thrown x3) fM_units 0 k = g k := by
        rw [upd_ne (by revert hk; revert k; decide), upd_ne (by revert hk; revert k; decide)]
      rw [e]
      exact m3.1 k hk
    · show 0 ≤ (g fM_size).toInt ∧ (g fM_size).toInt ≤ 1500
      rw [m3.2.1]
      decide
    · show 0 ≤ (0 : Int32).toInt ∧ (0 : Int32).toInt ≤ 600
      decide
    · show 0 ≤ (g fM_told).toInt ∧ (g fM_told).toInt ≤ 8000
      rw [m3.2.2]
      decide
    · have e : 0 < (g fM_told).toInt := e
      rw [m3.2.2] at e
      exact absurd e (by decide)
theorem pa153 (L : Nat) (xs : Nat → Int32) {m d k : Nat} (hm : 4294967296 ≤ m) (hd : 1 ≤ d) {b : Int} {g : a2_G} {r : a2_A} (h : PH b g r) (hb : b ≤ 1800) : wp (BM_parse_153 L xs (m + 1) d k 0 g r) kPA kN := by
  obtain ⟨h1, ⟨h2, h3, h4, h5⟩, h6, h7⟩ := h
  have mb := h1.2.2.2
  have u := h7.1
  have f225 : ∀ x2, wp (BM_parse_225 L xs (m + 1) d k 0 x2 g r) kPA kN := by
    intro x2
    unfold BM_parse_225
    exact wp_if (fun _ => pa238 L xs hm hd _ _ h1 h2 (by omega) h6 (by omega)) (fun _ => pa238 L xs hm hd _ _ h1 h2 (by omega) h6 (by omega))
  have f195 : ∀ x2, wp (BM_parse_195 L xs (m + 1) d k 0 x2 g r) kPA kN := by
    intro x2
    unfold BM_parse_195
    refine wp_if (fun _ => f225 _) (fun hc => ?_)
    refine wp_if (fun _ => f225 _) (fun _ => ?_)
    refine wp_if (fun _ => f225 _) (fun _ => ?_)
    obtain ⟨d, rfl⟩ : ∃ e, d = e + 1 := ⟨d - 1, by omega⟩
    rw [M_note L xs m d mb.2.2.1 mb.2.2.2 (h1.1.at 2) (h1.1.at 3)]
    by_cases hf : g fM_faults = 20
    · rw [if_pos hf]
      exact f225 _
    · rw [if_neg hf]
      have hf' : (g fM_faults).toInt ≠ 20 := fun e => hf (Int32.toInt_inj.mp e)
      have e := i32_inc (x := g fM_faults) (by omega)
      have h1' : MB (upd g fM_faults (g fM_faults + 1)) (Mn 1 (g fM_n) g r) := ⟨(h1.1.aw _ _ _).aw _ _ _, ((h1.2.1.aw _ _ _ (fun hk => absurd hk (by decide)) (fun hk => absurd hk (by decide))).aw _ _ _ (fun hk => absurd hk (by decide)) (fun hk => absurd hk (by decide))), h1.2.2.1.up _ _ (fun hk => absurd hk (by decide)), mb.1, mb.2.1, by show 0 ≤ (g fM_faults + 1).toInt; omega, by show (g fM_faults + 1).toInt ≤ 20; omega⟩
      have h6' : TP [] (g fM_nodes).toInt.toNat (Mn 1 (g fM_n) g r) := h6.eq rfl rfl rfl rfl
      show wp (BM_parse_225 L xs (m + 1) (d + 1) k 0 x2 (upd g fM_faults (g fM_faults + 1)) (Mn 1 (g fM_n) g r)) kPA kN
      unfold BM_parse_225
      exact wp_if (fun _ => pa238 L xs hm hd _ _ h1' h2 (by show (g fM_nodes).toInt ≤ 8000; omega) h6' (by show 0 ≤ (g fM_units).toInt ∧ (g fM_units).toInt ≤ 600; omega)) (fun _ => pa238 L xs hm hd _ _ h1' h2 (by show (g fM_nodes).toInt ≤ 8000; omega) h6' (by show 0 ≤ (g fM_units).toInt ∧ (g fM_units).toInt ≤ 600; omega))
  unfold BM_parse_153 BM_parse_194
  refine wp_if (fun _ => f195 _) (fun _ => ?_)
  refine wp_in (h1.1.at 18) (by decide) (by decide) ?_
  refine wp_if (fun _ => f195 _) (fun _ => ?_)
  refine wp_in (h1.1.at 18) (by decide) (by decide) ?_
  refine wp_if (fun _ => f195 _) (fun _ => ?_)
  refine wp_in (h1.1.at 22) (by decide) (by decide) ?_
  exact wp_if (fun _ => f195 _) (fun _ => f195 _)
theorem pa56 (L : Nat) (xs : Nat → Int32) {m d : Nat} (hm : 4294967296 ≤ m) (hd : 15 ≤ d) {c : Nat} (hcc : 1600 ≤ c) : ∀ (J k : Nat) (g : a2_G) (r : a2_A), (g fM_n).toInt + 2 ≤ (g fM_at).toInt + J → J * c < k → PH (1 + 24 * (g fM_faults).toInt) g r → wp (BM_parse_56 L xs (m + 1) d k 0 g r) kPA kN := by
  intro J
  induction J with
  | zero =>
    intro k g r hJ hk h
    have := h.2.1.2.2.2
    omega
  | succ J ih =>
    intro k g r hJ hk h
    rw [Nat.succ_mul] at hk
    obtain ⟨k, rfl⟩ : ∃ e, k = e + 1 := ⟨k - 1, by omega⟩
    have hPH := h
    obtain ⟨h1, ⟨h2, h3, h4, h5⟩, h6, h7⟩ := h
    have mb := h1.2.2.2
    have k20 : (20 : Int32).toInt = 20 := rfl
    have fx : wp (BM_parse_153 L xs (m + 1) d (k + 1) 0 g r) kPA kN := pa153 L xs hm (by omega) hPH (by omega)
    unfold BM_parse_56
    refine wp_if (fun _ => fx) (fun hc1 => ?_)
    refine wp_if (fun _ => fx) (fun hc2 => ?_)
    rw [c2_ge] at hc1 hc2
    have M0 : Mst (1 + 24 * (g fM_faults).toInt) ((g fM_at).toInt, (g fM_faults).toInt) [] (upd g fM_bad 0) r := ⟨⟨h1.1, h1.2.1, h1.2.2.1.up _ _ (fun hk => absurd hk (by decide)), mb⟩, ⟨⟨h4, Int.le_refl _, by show (g fM_faults).toInt < 20; omega⟩, Int.le_refl _, h2, h3, Or.inl ⟨rfl, by show (g fM_at).toInt ≤ (g fM_n).toInt; omega⟩⟩, h6⟩
    have U0 : UI (g fM_at).toInt (upd g fM_bad 0) r := h7.kp (Fm.rf.up (by decide)) (Int.le_refl _)
    refine wp_n (uM_clause L xs hm (by omega) (B := 1 + 24 * (g fM_faults).toInt + 20) M0 rfl rfl (by show (g fM_at).toInt < (g fM_n).toInt; omega) U0 (by omega) (by omega) (by omega)) (fun _ _ _ hx => hx.elim) ?_
    rintro o g' r' ⟨rfl, en, ⟨b', k', u'⟩ | ⟨b', k', u', w'⟩⟩
    · refine ⟨rfl, ?_⟩
      have en : g' fM_n = g fM_n := en
      refine wp_t (by rw [b']; decide) ?_
      have q := k'.q
      have q2 := k'.2.1
      have fl := q2.2.2.2.2.resolve_left (fun hh => bad_ne hh.1 b')
      obtain ⟨-, f1, f2, f3, f4⟩ := fl
      have f1 : (g fM_faults).toInt < (g' fM_faults).toInt := f1
      have f2 : (g fM_at).toInt ≤ (g' fM_failed).toInt := f2
      refine pa103 L xs k'.1.1 q.2.1 ((g' fM_n).toInt - (g' fM_failed).toInt).toNat (k + 1) (g' fM_failed) (by omega) (by omega) f3 (by rw [en]; omega) (fun k2 y q1 q3 q4 => ?_)
      refine ih k2 _ r' ?_ (by rw [en] at q1; omega) ⟨⟨k'.1.1, k'.1.2.1, k'.1.2.2.1.up _ _ (fun hk => absurd hk (by decide)), k'.1.2.2.2⟩, ⟨q.2.2.2.2.2.2.1, ?_, ?_, q4⟩, k'.2.2, ?_⟩
      · show (g' fM_n).toInt + 2 ≤ y.toInt + J
        rw [en]
        omega
      · show (g' fM_nodes).toInt ≤ 4 * y.toInt + (1 + 24 * (g' fM_faults).toInt)
        omega
      · show 0 ≤ y.toInt
        omega
      · show UI y.toInt (upd g' fM_at y) r'
        exact (u'.kp (Fm.rf.up (by decide)) (Int.le_refl _)).le (by show (g fM_at).toInt ≤ y.toInt; omega)
    · refine ⟨rfl, ?_⟩
      have en : g' fM_n = g fM_n := en
      refine wp_f (by rw [c2_ne, Decidable.not_not]; exact b') ?_
      rw [lM_parse_56]
      have q := k'.q
      have q2 := k'.2.1.1
      have an := k'.an b'
      have w' : (g fM_at).toInt < (g' fM_at).toInt := w'
      have q3 : (g fM_faults).toInt ≤ (g' fM_faults).toInt := q2.2.1
      exact ih k g' r' (by rw [en]; omega) (by omega) ⟨k'.1, ⟨q.2.2.2.2.2.2.1, by omega, by omega, by omega⟩, k'.2.2, u'⟩
theorem uM_parse (L : Nat) (xs : Nat → Int32) {m d : Nat} (hm : 4294967296 ≤ m) (hd : 16 ≤ d) {g : a2_G} {r : a2_A} (h : MI g r) : wp (ev L xs (m + 1) d nM_parse [.ref cM] g r) kPA kN := by
  obtain ⟨d, rfl⟩ : ∃ e, d = e + 1 := ⟨d - 1, by omega⟩
  obtain ⟨d, rfl⟩ : ∃ e, d = e + 1 := ⟨d - 1, by omega⟩
  obtain ⟨h1, h2, h3, h4, h5, h6, h7, h8⟩ := h
  have hN : MN r := ⟨h1.at 4, h1.at 5, h1.at 6, h1.at 7, h1.at 8, h1.at 9, h1.at 10, h1.at 11⟩
  rw [qM_parse]
  rw [M_make L xs m d (g := upd (upd (upd (upd (upd (upd (upd (upd (upd g fM_n (g fM_size)) fM_size 0) fM_at 0) fM_faults 0) fM_nodes 0) fM_units 0) fM_open 0) fM_told 0) fM_deepest 0) (by show 0 ≤ (0 : Int32).toInt; decide) (by show (0 : Int32).toInt < 8000; decide) hN]
  show wp (BM_parse_56 L xs (m + 1) (d + 1) m 0 (MmkG (upd (upd (upd (upd (upd (upd (upd (upd (upd g fM_n (g fM_size)) fM_size 0) fM_at 0) fM_faults 0) fM_nodes 0) fM_units 0) fM_open 0) fM_told 0) fM_deepest 0)) (MmkR 0 0 0 0 r)) kPA kN
  have r1 : ML (MmkR 0 0 0 0 r) := (((((((h1.aw _ _ _).aw _ _ _).aw _ _ _).aw _ _ _).aw _ _ _).aw _ _ _).aw _ _ _).aw _ _ _
  have r2 : MR (MmkR 0 0 0 0 r) := (((((((h2.aw _ _ _ (fun hk => absurd hk (by decide)) (fun hk => absurd hk (by decide))).aw _ _ _ (fun hk => absurd hk (by decide)) (fun hk => absurd hk (by decide))).aw _ _ _ (fun hk => absurd hk (by decide)) (fun hk => absurd hk (by decide))).aw _ _ _ (fun _ => in8_0) (fun hk => absurd hk (by decide))).aw _ _ _ (fun _ => in8_0) (fun hk => absurd hk (by decide))).aw _ _ _ (fun _ => in8_0) (fun hk => absurd hk (by decide))).aw _ _ _ (fun _ => in8_0) (fun hk => absurd hk (by decide))).aw _ _ _ (fun _ => in8_0) (fun hk => absurd hk (by decide))
  have e1 : (1 : Int32).toInt = 1 := rfl
  have z0 : (0 : Int32).toInt = 0 := rfl
  refine pa56 L xs hm (by omega) (c := 1600) (by decide) 1502 m _ _ ?_ (Nat.lt_of_lt_of_le (by decide) hm) ⟨⟨r1, r2, ⟨fun k hk => ?_, rfl, rfl⟩, h4.1, h4.2, ?_, ?_⟩, ⟨?_, ?_, ?_, ?_⟩, ⟨fun _ => False, ?_, List.nodup_nil, fun _ hx => nomatch hx⟩, ?_⟩
  · show (g fM_size).toInt + 2 ≤ (0 : Int32).toInt + (1502 : Nat)
    rw [z0]
    omega
  · have e : MmkG (upd (upd (upd (upd (upd (upd (upd (upd (upd g fM_n (g fM_size)) fM_size 0) fM_at 0) fM_faults 0) fM_nodes 0) fM_units 0) fM_open 0) fM_told 0) fM_deepest 0) k = g k := by
      unfold MmkG
      rw [upd_ne (by revert hk; revert k; decide), upd_ne (by revert hk; revert k; decide), upd_ne (by revert hk; revert k; decide), upd_ne (by revert hk; revert k; decide), upd_ne (by revert hk; revert k; decide), upd_ne (by revert hk; revert k; decide), upd_ne (by revert hk; revert k; decide), upd_ne (by revert hk; revert k; decide), upd_ne (by revert hk; revert k; decide), upd_ne (by revert hk; revert k; decide)]
    rw [e]
    exact h3 k hk
  · exact Int.le_refl 0
  · show (0 : Int32).toInt ≤ 20
    decide
  · show 1 ≤ (0 + 1 : Int32).toInt
    decide
  · show (0 + 1 : Int32).toInt ≤ 4 * (0 : Int32).toInt + (1 + 24 * (0 : Int32).toInt)
    decide
  · exact Int.le_refl 0
  · show (0 : Int32).toInt ≤ (g fM_size).toInt + 1
    rw [z0]
    omega
  · have f0 : vf (MmkR 0 0 0 0 r) fM_first 0 = 0 := by
      show ((aw (aw (aw (aw (aw r fM_kind 0 0) fM_value 0 0) fM_place 0 0) fM_extra 0 0) fM_first 0 0 fM_first).2 0).toInt.toNat = 0
      rw [aw_at]
      rfl
    refine ⟨fun x hx => hx.elim, fun p hp hf => ?_, fun x hx => hx.elim, fun x y hx => hx.elim, fun x hx => hx.elim⟩
    have hp' : p < (0 + 1 : Int32).toInt.toNat := hp
    have e2 : (0 + 1 : Int32).toInt.toNat = 1 := by decide
    rw [e2] at hp'
    have p0 : p = 0 := by omega
    rw [p0] at hf
    exact absurd f0 hf
  · refine ⟨⟨Int.le_refl 0, (by show (0 : Int32).toInt ≤ 10; decide), Int.le_refl 0, (by show 3 * (0 : Int32).toInt ≤ (0 : Int32).toInt; decide)⟩, fun i hi => ?_, fun i hi => ?_, fun i hi => ?_⟩
    · have hi : (i : Int) < (0 : Int32).toInt := hi
      rw [z0] at hi
      omega
    · have hi : (i : Int) + 1 < (0 : Int32).toInt := hi
      rw [z0] at hi
      omega
    · have hi : (i : Int) + 1 = (0 : Int32).toInt := hi
      rw [z0] at hi
      omega
