/-! The model's questions, and its word. -/
def kTh (g : a2_G) (r : a2_A) : Option Value → a2_G → a2_A → Prop := fun o g' r' => (∃ v : Int32, o = some (.int v)) ∧ g' = upd g fM_thrown 0 ∧ r' = r
theorem MI.th {g : a2_G} {r : a2_A} (h : MI g r) : MI (upd g fM_thrown 0) r := by
  obtain ⟨h1, h2, h3, h4, h5, h6, h7, h8⟩ := h
  refine ⟨h1, h2, fun k hk => ?_, h4, h5, h6, h7, h8⟩
  rw [upd_ne (by revert hk; revert k; decide)]
  exact h3 k hk
theorem tM_hasValue (L : Nat) (xs : Nat → Int32) {m d : Nat} (hd : 2 ≤ d) (a : Int32) {g : a2_G} {r : a2_A} : wp (ev L xs (m + 1) d nM_hasValue [.int a] g r) (kB g r True) kN := by
  obtain ⟨d, rfl⟩ : ∃ e, d = e + 1 := ⟨d - 1, by omega⟩
  have f1 : wp (BM_hasValue_113 L xs (m + 1) d m a g r) (kB g r True) kN := by
    unfold BM_hasValue_113 BM_hasValue_118
    exact wp_t (by decide) ⟨_, rfl, Or.inr ⟨rfl, trivial⟩, rfl, rfl⟩
  have f0 : wp (BM_hasValue_118 L xs (m + 1) d m a 0 g r) (kB g r True) kN := by
    unfold BM_hasValue_118
    exact wp_t (by decide) ⟨_, rfl, Or.inl rfl, rfl, rfl⟩
  rw [qM_hasValue]
  repeat' first
    | exact f1
    | exact f0
    | refine wp_if (fun _ => ?_) (fun _ => ?_)
    | refine wp_vB (tM_in L xs (by omega) _ _ _) ?_ (fun _ => ?_)
/-- children one after another -/
theorem tr_nx {A : Nat → Prop} {N : Nat} {r : a2_A} (hT : TF A N r) (s : Nat) {t u : Nat} {W : List Nat} (hs : ∃ p, p < N ∧ vf r fM_first p = s) (h : wk_Ch (fun x y => A x ∧ vf r fM_next x = y ∧ y ≠ 0) s (t :: W)) (hn : (t :: W).Nodup) (hA : ∀ y, y ∈ t :: W → A y) (hu : vf r fM_next t = u) (h0 : u ≠ 0) : wk_Ch (fun x y => A x ∧ vf r fM_next x = y ∧ y ≠ 0) s (u :: t :: W) ∧ (u :: t :: W).Nodup ∧ ∀ y, y ∈ u :: t :: W → A y := by
  have hAt := hA t List.mem_cons_self
  obtain ⟨n1, n2, n3⟩ := hT.2.2.1 t hAt (by rw [hu]; exact h0)
  rw [hu] at n1
  obtain ⟨p, hp, hps⟩ := hs
  refine ⟨⟨⟨hAt, hu, h0⟩, h⟩, List.nodup_cons.mpr ⟨wk_new (fun x y z hx hy => ?_) (fun x hx => ?_) h hn ⟨hAt, hu, h0⟩, hn⟩, fun y hy => ?_⟩
  · exact hT.2.2.2.1 x y hx.1 hy.1 (hx.2.1.trans hy.2.1.symm) (by rw [hx.2.1]; exact hx.2.2)
  · obtain ⟨-, -, m3⟩ := hT.2.2.1 x hx.1 (by rw [hx.2.1]; exact hx.2.2)
    exact m3 p hp (hps.trans hx.2.1.symm)
  · rcases List.mem_cons.mp hy with rfl | hy
    · exact n1
    · exact hA y hy
theorem tM_node112 (L : Nat) (xs : Nat → Int32) {m d : Nat} {A : Nat → Prop} {N : Nat} {g : a2_G} {r : a2_A} (hT : TF A N r) (hN : N ≤ 8000) (hML : ML r) (hMR : MR r) (s : Nat) (hs : ∃ p, p < N ∧ vf r fM_first p = s) : ∀ (n k : Nat) (W : List Nat) (x1 x2 x3 x4 x5 x6 : Int32), N ≤ W.length + n → n < k → 0 ≤ x6.toInt → (x6 = 0 ∨ wk_Ch (fun x y => A x ∧ vf r fM_next x = y ∧ y ≠ 0) s (nt x6 :: W) ∧ (nt x6 :: W).Nodup ∧ ∀ y, y ∈ nt x6 :: W → A y) → wp (BM_node_112 L xs (m + 1) d k x1 x2 x3 x4 x5 x6 g r) (kP g r (fun _ => True)) kN := by
  intro n
  induction n with
  | zero =>
    intro k W x1 x2 x3 x4 x5 x6 hn hk h6 hst
    rcases hst with rfl | ⟨-, h2, h3⟩
    · unfold BM_node_112
      exact wp_t (by decide) ⟨_, rfl, trivial, rfl, rfl⟩
    · have := wk_len N _ h2 (fun y hy => (hT.1 y (h3 y hy)).2.1)
      rw [List.length_cons] at this
      omega
  | succ n ih =>
    intro k W x1 x2 x3 x4 x5 x6 hn hk h6 hst
    rcases hst with rfl | ⟨h1, h2, h3⟩
    · unfold BM_node_112
      exact wp_t (by decide) ⟨_, rfl, trivial, rfl, rfl⟩
    · obtain ⟨k, rfl⟩ : ∃ e, k = e + 1 := ⟨k - 1, by omega⟩
      have hA := h3 _ List.mem_cons_self
      have hlt : x6.toInt.toNat < N := (hT.1 _ hA).2.1
      have inx := hMR.at 3 x6.toInt.toNat
      unfold BM_node_112
      refine wp_if (fun _ => ⟨_, rfl, trivial, rfl, rfl⟩) (fun _ => ?_)
      refine wp_in (hML.at 10) h6 (by omega) ?_
      rw [lM_node_112]
      refine ih k (nt x6 :: W) _ _ _ _ _ _ (by rw [List.length_cons]; omega) (by omega) inx.1 ?_
      by_cases hz : (r fM_next).2 x6.toInt.toNat = 0
      · exact Or.inl hz
      · exact Or.inr (tr_nx hT s hs h1 h2 h3 (u := vf r fM_next (nt x6)) rfl (fun e => hz ((vf_z inx).mp e)))
theorem tM_child238 (L : Nat) (xs : Nat → Int32) {m d : Nat} {A : Nat → Prop} {N : Nat} {g : a2_G} {r : a2_A} (hT : TF A N r) (hN : N ≤ 8000) (hML : ML r) (hMR : MR r) (s : Nat) (hs : ∃ p, p < N ∧ vf r fM_first p = s) : ∀ (n k : Nat) (W : List Nat) (x1 x2 x3 x4 : Int32), N ≤ W.length + n → n < k → 0 ≤ x3.toInt → (x3 = 0 ∨ wk_Ch (fun x y => A x ∧ vf r fM_next x = y ∧ y ≠ 0) s (nt x3 :: W) ∧ (nt x3 :: W).Nodup ∧ ∀ y, y ∈ nt x3 :: W → A y) → wp (BM_child2_38 L xs (m + 1) d k x1 x2 x3 x4 g r) (kP g r (fun _ => True)) kN := by
  have f61 : ∀ (k : Nat) (x1 x2 x3 x4 : Int32), In8 x3 → wp (BM_child2_61 L xs (m + 1) d k x1 x2 x3 x4 g r) (kP g r (fun _ => True)) kN := by
    intro k x1 x2 x3 x4 h3
    unfold BM_child2_61 BM_child2_75
    refine wp_if (fun _ => ⟨_, rfl, trivial, rfl, rfl⟩) (fun _ => ?_)
    refine wp_in (hML.at 12) h3.1 h3.2 ?_
    exact ⟨_, rfl, trivial, rfl, rfl⟩
  have f0 : ∀ (k : Nat) (x1 x2 x4 : Int32), wp (BM_child2_38 L xs (m + 1) d k x1 x2 0 x4 g r) (kP g r (fun _ => True)) kN := by
    intro k x1 x2 x4
    unfold BM_child2_38
    refine wp_if (fun _ => f61 _ _ _ _ _ in8_0) (fun _ => ?_)
    exact wp_t (by decide) (f61 _ _ _ _ _ in8_0)
  intro n
  induction n with
  | zero =>
    intro k W x1 x2 x3 x4 hn hk h6 hst
    rcases hst with rfl | ⟨-, h2, h3⟩
    · exact f0 _ _ _ _
    · have := wk_len N _ h2 (fun y hy => (hT.1 y (h3 y hy)).2.1)
      rw [List.length_cons] at this
      omega
  | succ n ih =>
    intro k W x1 x2 x3 x4 hn hk h6 hst
    rcases hst with rfl | ⟨h1, h2, h3⟩
    · exact f0 _ _ _ _
    · obtain ⟨k, rfl⟩ : ∃ e, k = e + 1 := ⟨k - 1, by omega⟩
      have hA := h3 _ List.mem_cons_self
      have hlt : x3.toInt.toNat < N := (hT.1 _ hA).2.1
      have i8 : In8 x3 := ⟨h6, by omega⟩
      have inx := hMR.at 3 x3.toInt.toNat
      unfold BM_child2_38
      refine wp_if (fun _ => f61 _ _ _ _ _ i8) (fun _ => ?_)
      refine wp_if (fun _ => f61 _ _ _ _ _ i8) (fun _ => ?_)
      refine wp_in (hML.at 10) h6 (by omega) ?_
      rw [lM_child2_38]
      refine ih k (nt x3 :: W) _ _ _ _ (by rw [List.length_cons]; omega) (by omega) inx.1 ?_
      by_cases hz : (r fM_next).2 x3.toInt.toNat = 0
      · exact Or.inl hz
      · exact Or.inr (tr_nx hT s hs h1 h2 h3 (u := vf r fM_next (nt x3)) rfl (fun e => hz ((vf_z inx).mp e)))
theorem tr_fs {A : Nat → Prop} {N : Nat} {r : a2_A} (hT : TF A N r) (hMR : MR r) {t : Nat} (ht : t < N) : (r fM_first).2 t = 0 ∨ wk_Ch (fun x y => A x ∧ vf r fM_next x = y ∧ y ≠ 0) (vf r fM_first t) [nt ((r fM_first).2 t)] ∧ [nt ((r fM_first).2 t)].Nodup ∧ ∀ y, y ∈ [nt ((r fM_first).2 t)] → A y := by
  have inf := hMR.at 1 t
  by_cases hz : (r fM_first).2 t = 0
  · exact Or.inl hz
  · have hz' : vf r fM_first t ≠ 0 := fun e => hz ((vf_z inf).mp e)
    refine Or.inr ⟨rfl, List.nodup_cons.mpr ⟨(fun h => nomatch h), List.nodup_nil⟩, fun y hy => ?_⟩
    rw [List.mem_singleton.mp hy]
    exact (hT.2.1 t ht hz').1
theorem kP_Th {z : Option fn_Z} {g : a2_G} {r : a2_A} {F : Int32 → Prop} (h : wp z (kP (upd g fM_thrown 0) r F) kN) : wp z (kTh g r) kN := wp_mono h (fun o g' r' e => by obtain ⟨v, rfl, -, rfl, rfl⟩ := e; exact ⟨⟨v, rfl⟩, rfl, rfl⟩) (fun _ _ _ hx => hx)
theorem uM_node (L : Nat) (xs : Nat → Int32) {m d : Nat} (hm : 4294967296 ≤ m) (hd : 3 ≤ d) (a1 a2 : Int32) {g : a2_G} {r : a2_A} (h : MI g r) : wp (ev L xs (m + 1) d nM_node [.ref cM, .int a1, .int a2] g r) (kTh g r) kN := by
  obtain ⟨d, rfl⟩ : ∃ e, d = e + 1 := ⟨d - 1, by omega⟩
  obtain ⟨h1, h2, h3, h4, h5, h6, h7, h8⟩ := h
  refine kP_Th (F := fun _ => True) ?_
  have fin : ∀ v, wp (some (.inl (some (.int v)), upd g fM_thrown 0, r)) (kP (upd g fM_thrown 0) r (fun _ => True)) kN := fun v => ⟨v, rfl, trivial, rfl, rfl⟩
  rw [qM_node]
  unfold BM_node_17 BM_node_93 BM_node_159 BM_node_203
  refine wp_if (fun _ => fin _) (fun hc => ?_)
  refine wp_if (fun hc2 => ?_) (fun _ => fin _)
  rw [c2_lt, i32_0] at hc
  rw [c2_lt] at hc2
  obtain ⟨A, N, hN, hT, hor⟩ := h8 (by omega)
  have io := h2.at 5 a1.toInt.toNat
  have hto := hor a1.toInt.toNat (by omega)
  refine wp_in (h1.at 13) (by omega) (by omega) ?_
  refine wp_in (h1.at 4) io.1 io.2 ?_
  refine wp_if (fun _ => fin _) (fun _ => ?_)
  refine wp_if (fun _ => ?_) (fun _ => ?_)
  · refine wp_vB (tM_hasValue L xs (by omega) _) ?_ (fun _ => ?_)
    · exact wp_t (by decide) (fin _)
    · refine wp_f (by decide) ?_
      exact wp_in (h1.at 5) io.1 io.2 (fin _)
  refine wp_if (fun _ => wp_in (h1.at 6) io.1 io.2 (fin _)) (fun _ => ?_)
  refine wp_if (fun _ => ?_) (fun _ => ?_)
  · refine wp_in (h1.at 8) io.1 io.2 ?_
    exact tM_node112 L xs hT hN h1 h2 _ ⟨_, hto, rfl⟩ 8000 m [] _ _ _ _ _ _ (by show N ≤ 0 + 8000; omega) (by omega) (h2.at 1 _).1 (tr_fs hT h2 hto)
  refine wp_if (fun _ => ?_) (fun _ => ?_)
  · refine wp_in (h1.at 11) io.1 io.2 ?_
    refine wp_if (fun _ => ?_) (fun _ => fin _)
    refine wp_in (h1.at 11) io.1 io.2 ?_
    exact wp_in (h1.at 12) (h2.at 4 _).1 (h2.at 4 _).2 (fin _)
  refine wp_if (fun _ => ?_) (fun _ => fin _)
  refine wp_if (fun _ => ?_) (fun _ => ?_)
  · refine wp_vB (tM_in L xs (by omega) _ _ _) ?_ (fun _ => ?_)
    · exact wp_t (by decide) (fin _)
    · refine wp_f (by decide) ?_
      exact wp_in (h1.at 7) io.1 io.2 (fin _)
  · refine wp_in (h1.at 7) io.1 io.2 ?_
    exact wp_in (h1.at 12) (h2.at 0 _).1 (h2.at 0 _).2 (fin _)
theorem uM_child2 (L : Nat) (xs : Nat → Int32) {m d : Nat} (hm : 4294967296 ≤ m) (hd : 1 ≤ d) (a1 a2 : Int32) {g : a2_G} {r : a2_A} (h : MI g r) : wp (ev L xs (m + 1) d nM_child2 [.ref cM, .int a1, .int a2] g r) (kTh g r) kN := by
  obtain ⟨d, rfl⟩ : ∃ e, d = e + 1 := ⟨d - 1, by omega⟩
  obtain ⟨h1, h2, h3, h4, h5, h6, h7, h8⟩ := h
  refine kP_Th (F := fun _ => True) ?_
  have fin : ∀ v, wp (some (.inl (some (.int v)), upd g fM_thrown 0, r)) (kP (upd g fM_thrown 0) r (fun _ => True)) kN := fun v => ⟨v, rfl, trivial, rfl, rfl⟩
  rw [qM_child2]
  unfold BM_child2_21
  refine wp_if (fun _ => fin _) (fun hc => ?_)
  refine wp_if (fun _ => fin _) (fun hc2 => ?_)
  rw [c2_lt, i32_0] at hc
  rw [c2_ge] at hc2
  obtain ⟨A, N, hN, hT, hor⟩ := h8 (by omega)
  have io := h2.at 5 a1.toInt.toNat
  have hto := hor a1.toInt.toNat (by omega)
  refine wp_if (fun _ => ?_) (fun _ => fin _)
  refine wp_in (h1.at 13) (by omega) (by omega) ?_
  refine wp_in (h1.at 8) io.1 io.2 ?_
  exact tM_child238 L xs hT hN h1 h2 _ ⟨_, hto, rfl⟩ 8000 m [] _ _ _ _ (by show N ≤ 0 + 8000; omega) (by omega) (h2.at 1 _).1 (tr_fs hT h2 hto)
theorem uM_faults (L : Nat) (xs : Nat → Int32) {m d : Nat} (hd : 1 ≤ d) {g : a2_G} {r : a2_A} : wp (ev L xs (m + 1) d nM_faults [.ref cM] g r) (kTh g r) kN := by
  obtain ⟨d, rfl⟩ : ∃ e, d = e + 1 := ⟨d - 1, by omega⟩
  rw [qM_faults]
  exact ⟨⟨_, rfl⟩, rfl, rfl⟩
theorem uM_depth (L : Nat) (xs : Nat → Int32) {m d : Nat} (hd : 1 ≤ d) {g : a2_G} {r : a2_A} : wp (ev L xs (m + 1) d nM_depth [.ref cM] g r) (kTh g r) kN := by
  obtain ⟨d, rfl⟩ : ∃ e, d = e + 1 := ⟨d - 1, by omega⟩
  rw [qM_depth]
  exact ⟨⟨_, rfl⟩, rfl, rfl⟩
theorem uM_count (L : Nat) (xs : Nat → Int32) {m d : Nat} (hd : 1 ≤ d) (a1 : Int32) {g : a2_G} {r : a2_A} : wp (ev L xs (m + 1) d nM_count [.ref cM, .int a1] g r) (kTh g r) kN := by
  obtain ⟨d, rfl⟩ : ∃ e, d = e + 1 := ⟨d - 1, by omega⟩
  rw [qM_count]
  unfold BM_count_41
  repeat' refine wp_if (fun _ => ?_) (fun _ => ?_)
  all_goals exact ⟨⟨_, rfl⟩, rfl, rfl⟩
theorem uM_fault (L : Nat) (xs : Nat → Int32) {m d : Nat} (hd : 1 ≤ d) (a1 a2 : Int32) {g : a2_G} {r : a2_A} (h : MI g r) : wp (ev L xs (m + 1) d nM_fault [.ref cM, .int a1, .int a2] g r) (kTh g r) kN := by
  obtain ⟨d, rfl⟩ : ∃ e, d = e + 1 := ⟨d - 1, by omega⟩
  obtain ⟨h1, h2, h3, h4, h5, h6, h7, h8⟩ := h
  have fin : ∀ v, wp (some (.inl (some (.int v)), upd g fM_thrown 0, r)) (kTh g r) kN := fun v => ⟨⟨v, rfl⟩, rfl, rfl⟩
  rw [qM_fault]
  unfold BM_fault_17 BM_fault_47
  refine wp_if (fun _ => fin _) (fun hc => ?_)
  refine wp_if (fun hc2 => ?_) (fun _ => fin _)
  rw [c2_lt, i32_0] at hc
  rw [c2_lt] at hc2
  refine wp_if (fun _ => ?_) (fun _ => ?_)
  · refine wp_if (fun _ => fin _) (fun _ => ?_)
    exact wp_in (h1.at 3) (by omega) (by omega) (fin _)
  · exact wp_in (h1.at 2) (by omega) (by omega) (fin _)
theorem uM_division (L : Nat) (xs : Nat → Int32) {m d : Nat} (hd : 2 ≤ d) (a1 a2 : Int32) {g : a2_G} {r : a2_A} (h : MI g r) : wp (ev L xs (m + 1) d nM_division [.ref cM, .int a1, .int a2] g r) (kTh g r) kN := by
  obtain ⟨d, rfl⟩ : ∃ e, d = e + 1 := ⟨d - 1, by omega⟩
  obtain ⟨h1, h2, h3, h4, h5, h6, h7, h8⟩ := h
  have fin : ∀ v, wp (some (.inl (some (.int v)), upd g fM_thrown 0, r)) (kTh g r) kN := fun v => ⟨⟨v, rfl⟩, rfl, rfl⟩
  have f75 : ∀ x3, In8 x3 → wp (BM_division_75 L xs (m + 1) d m a1 a2 x3 (upd g fM_thrown 0) r) (kTh g r) kN := by
    intro x3 i3
    unfold BM_division_75 BM_division_90
    refine wp_if (fun _ => fin _) (fun _ => ?_)
    exact wp_in (h1.at 12) i3.1 i3.2 (fin _)
  rw [qM_division]
  unfold BM_division_26
  refine wp_if (fun _ => fin _) (fun hc => ?_)
  refine wp_if (fun _ => fin _) (fun hc2 => ?_)
  rw [c2_lt, i32_0] at hc
  rw [c2_ge] at hc2
  refine wp_vB (tM_in L xs (by omega) _ _ _) (wp_f (by decide) (fin _)) (fun _ => ?_)
  refine wp_t (by decide) ?_
  refine wp_if (fun _ => ?_) (fun _ => wp_in (h1.at 14) (by omega) (by omega) (f75 _ (h2.at 6 _)))
  refine wp_if (fun _ => ?_) (fun _ => wp_in (h1.at 15) (by omega) (by omega) (f75 _ (h2.at 7 _)))
  exact wp_if (fun _ => wp_in (h1.at 17) (by omega) (by omega) (f75 _ (h2.at 9 _))) (fun _ => wp_in (h1.at 16) (by omega) (by omega) (f75 _ (h2.at 8 _)))
/-- a word: what both answer -/
def okw (k v : Int32) : Prop := k.toInt = 0 ∧ 0 ≤ v.toInt ∧ v.toInt ≤ 78 ∨ (k.toInt = 1 ∨ k.toInt = 3) ∧ 0 ≤ v.toInt ∧ v.toInt ≤ 99 ∨ k.toInt = 2 ∧ 0 ≤ v.toInt ∧ v.toInt ≤ 99999 ∨ k.toInt = 4 ∨ k.toInt = 5 ∧ 0 ≤ v.toInt ∧ v.toInt ≤ 8
def kWD (n k v : Int32) (o : Option Value) (n' : Int32) : Prop := (¬ okw k v ∧ o = some (.int (-4)) ∧ n' = n) ∨ (okw k v ∧ n.toInt = 1500 ∧ o = some (.int (-1)) ∧ n' = n) ∨ (okw k v ∧ n.toInt ≠ 1500 ∧ o = some (.int (n + 1)) ∧ n' = n + 1)
theorem kWD.eq {n k v : Int32} {o o' : Option Value} {n1 n2 : Int32} (a : kWD n k v o n1) (b : kWD n k v o' n2) : o = o' ∧ n1 = n2 := by
  rcases a with ⟨a1, a2, a3⟩ | ⟨a1, a4, a2, a3⟩ | ⟨a1, a4, a2, a3⟩ <;> rcases b with ⟨b1, b2, b3⟩ | ⟨b1, b4, b2, b3⟩ | ⟨b1, b4, b2, b3⟩
  all_goals first
    | exact ⟨a2.trans b2.symm, a3.trans b3.symm⟩
    | exact absurd b1 a1
    | exact absurd a1 b1
    | exact absurd a4 b4
    | exact absurd b4 a4
theorem tM_inX (L : Nat) (xs : Nat → Int32) {m d : Nat} (hd : 1 ≤ d) (v a c : Int32) {g : a2_G} {r : a2_A} : wp (ev L xs (m + 1) d nM_in [.int v, .int a, .int c] g r) (kP g r (fun w => w = 1 ∧ (a.toInt ≤ v.toInt ∧ v.toInt ≤ c.toInt) ∨ w = 0 ∧ ¬ (a.toInt ≤ v.toInt ∧ v.toInt ≤ c.toInt))) kN := by
  obtain ⟨d, rfl⟩ : ∃ e, d = e + 1 := ⟨d - 1, by omega⟩
  rw [M_in]
  by_cases h : a.toInt ≤ v.toInt ∧ v.toInt ≤ c.toInt
  · rw [decide_eq_true h]
    exact ⟨1, rfl, Or.inl ⟨rfl, h⟩, rfl, rfl⟩
  · rw [decide_eq_false h]
    exact ⟨0, rfl, Or.inr ⟨rfl, h⟩, rfl, rfl⟩
theorem uM_word (L : Nat) (xs : Nat → Int32) {m d : Nat} (hd : 2 ≤ d) (a1 a2 : Int32) {g : a2_G} {r : a2_A} (h : MI g r) : wp (ev L xs (m + 1) d nM_word [.ref cM, .int a1, .int a2] g r) (fun o g' r' => kWD (g fM_size) a1 a2 o (g' fM_size) ∧ MI g' r') kN := by
  obtain ⟨d, rfl⟩ : ∃ e, d = e + 1 := ⟨d - 1, by omega⟩
  obtain ⟨d, rfl⟩ : ∃ e, d = e + 1 := ⟨d - 1, by omega⟩
  have ht := h.th
  obtain ⟨h1, h2, h3, h4, h5, h6, h7, h8⟩ := h
  have f66 : ∀ x3, okw a1 a2 → wp (BM_word_66 L xs (m + 1) (d + 1) m a1 a2 x3 (upd g fM_thrown 0) r) (fun o g' r' => kWD (g fM_size) a1 a2 o (g' fM_size) ∧ MI g' r') kN := by
    intro x3 ho
    unfold BM_word_66
    have k15 : (1500 : Int32).toInt = 1500 := rfl
    refine wp_if (fun hc => ?_) (fun hc => ?_)
    · rw [c2_ne] at hc
      have hc' : (g fM_size).toInt ≠ 1500 := fun e => hc (Int32.toInt_inj.mp e)
      refine wp_in (h1.at 0) h4.1 (by show (g fM_size).toInt < _; omega) ?_
      refine wp_in (h1.at 1) h4.1 (by show (g fM_size).toInt < _; omega) ?_
      have e : (g fM_size + 1).toInt = (g fM_size).toInt + 1 := i32_inc (by omega)
      refine ⟨Or.inr (Or.inr ⟨ho, hc', rfl, rfl⟩), (h1.aw _ _ _).aw _ _ _, (h2.aw _ _ _ (fun hk => absurd hk (by decide)) (fun hk => absurd hk (by decide))).aw _ _ _ (fun hk => absurd hk (by decide)) (fun hk => absurd hk (by decide)), fun k hk => ?_, ?_, h5, h6, h7, fun e0 => ?_⟩
      · rw [upd_ne (by revert hk; revert k; decide)]
        exact ht.2.2.1 k hk
      · show 0 ≤ (g fM_size + 1).toInt ∧ (g fM_size + 1).toInt ≤ 1500
        omega
      · obtain ⟨A, N, q1, q2, q3⟩ := h8 e0
        exact ⟨A, N, q1, tr_kp q2 rfl rfl rfl rfl, q3⟩
    · rw [c2_ne, Decidable.not_not] at hc
      have hc' : (g fM_size).toInt = 1500 := by
        have : g fM_size = 1500 := hc
        rw [this]
        rfl
      exact ⟨Or.inr (Or.inl ⟨ho, hc', rfl, rfl⟩), ht⟩
  have f48 : ∀ x3, (a1.toInt = 4 → okw a1 a2) → (a1.toInt ≠ 4 → (okw a1 a2 ↔ 0 ≤ a2.toInt ∧ a2.toInt ≤ x3.toInt)) → wp (BM_word_48 L xs (m + 1) (d + 1) m a1 a2 x3 (upd g fM_thrown 0) r) (fun o g' r' => kWD (g fM_size) a1 a2 o (g' fM_size) ∧ MI g' r') kN := by
    intro x3 c1 c2
    unfold BM_word_48
    have k4 : (4 : Int32).toInt = 4 := rfl
    refine wp_if (fun hc => ?_) (fun hc => ?_)
    · rw [c2_eq] at hc
      exact f66 _ (c1 (by rw [hc]; rfl))
    · rw [c2_eq] at hc
      have hc' : a1.toInt ≠ 4 := fun e => hc (Int32.toInt_inj.mp e)
      refine wp_vP (tM_inX L xs (by omega) _ _ _) (fun w hw => ?_)
      rcases hw with ⟨rfl, hh⟩ | ⟨rfl, hh⟩
      · refine wp_t (by decide) ?_
        exact f66 _ ((c2 hc').mpr hh)
      · refine wp_f (by decide) ?_
        exact ⟨Or.inl ⟨fun ho => hh ((c2 hc').mp ho), rfl, rfl⟩, ht⟩
  rw [qM_word]
  have k0 : (0 : Int32).toInt = 0 := rfl
  have k5 : (5 : Int32).toInt = 5 := rfl
  have k2 : (2 : Int32).toInt = 2 := rfl
  refine wp_vP (tM_inX L xs (by omega) _ _ _) (fun w hw => ?_)
  rcases hw with ⟨rfl, hh⟩ | ⟨rfl, hh⟩
  · refine wp_t (by decide) ?_
    refine wp_if (fun e0 => ?_) (fun e0 => ?_)
    · rw [c2_ne] at e0
      have e0' : a1.toInt ≠ 0 := fun e => e0 (Int32.toInt_inj.mp e)
      refine wp_if (fun e2 => ?_) (fun e2 => ?_)
      · rw [c2_ne] at e2
        have e2' : a1.toInt ≠ 2 := fun e => e2 (Int32.toInt_inj.mp e)
        refine wp_if (fun e5 => ?_) (fun e5 => ?_)
        · rw [c2_ne] at e5
          have e5' : a1.toInt ≠ 5 := fun e => e5 (Int32.toInt_inj.mp e)
          have k99 : (99 : Int32).toInt = 99 := rfl
          exact f48 99 (fun e => by unfold okw; omega) (fun e => by unfold okw; omega)
        · rw [c2_ne, Decidable.not_not] at e5
          have e5' : a1.toInt = 5 := by rw [e5]; rfl
          have k8 : (8 : Int32).toInt = 8 := rfl
          exact f48 8 (fun e => by omega) (fun e => by unfold okw; omega)
      · rw [c2_ne, Decidable.not_not] at e2
        have e2' : a1.toInt = 2 := by rw [e2]; rfl
        have k8 : (99999 : Int32).toInt = 99999 := rfl
        exact f48 99999 (fun e => by omega) (fun e => by unfold okw; omega)
    · rw [c2_ne, Decidable.not_not] at e0
      have e0' : a1.toInt = 0 := by rw [e0]; rfl
      have k8 : (78 : Int32).toInt = 78 := rfl
      exact f48 78 (fun e => by omega) (fun e => by unfold okw; omega)
  · refine wp_f (by decide) ?_
    exact ⟨Or.inl ⟨fun ho => hh (by unfold okw at ho; omega), rfl, rfl⟩, ht⟩
