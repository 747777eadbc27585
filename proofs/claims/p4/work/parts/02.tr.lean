/-! The abstract machine's values, locals and cells, as the machine has them. -/
def am_tr (b : Nat) (ad : Nat → Nat) (v : Value) : Value := match v with
  | .ref k => .ref (ad k)
  | .retAddr _ => .ref b
  | v => v
theorem am_tr_int (b : Nat) (ad : Nat → Nat) (x : Int32) : am_tr b ad (.int x) = .int x := rfl
theorem am_tr_long (b : Nat) (ad : Nat → Nat) (x : Int64) : am_tr b ad (.long x) = .long x := rfl
theorem am_tr_ref (b : Nat) (ad : Nat → Nat) (k : Nat) : am_tr b ad (.ref k) = .ref (ad k) := rfl
theorem am_tr_cat (b : Nat) (ad : Nat → Nat) (v : Value) : (am_tr b ad v).category = v.category := by cases v <;> rfl
theorem am_tr_R {b : Nat} {ad : Nat → Nat} {v : Value} (h : am_isR v = true) : ∃ x, am_tr b ad v = .ref x := by
  cases v <;> first | exact ⟨_, rfl⟩ | cases h
theorem am_R_cat {v : Value} (h : am_isR v = true) : v.category = 1 := by
  cases v <;> first | rfl | cases h
theorem am_cat_sum (b : Nat) (ad : Nat → Nat) (S : List Value) : ((S.map (am_tr b ad)).map fun v => v.category).sum = (S.map fun v => v.category).sum := by
  rw [List.map_map]
  congr 1
  exact List.map_congr_left fun v _ => am_tr_cat b ad v
theorem am_tr_nar {b : Nat} {ad : Nat → Nat} {ty : FieldType} {v : Value} (h : narrow ty v = v) (h2 : fits ty v = true) : narrow ty (am_tr b ad v) = am_tr b ad v ∧ fits ty (am_tr b ad v) = true := by
  cases v <;> cases ty <;> first | exact ⟨h, h2⟩ | exact ⟨rfl, rfl⟩ | (simp [fits] at h2)
def am_lv (b : Nat) (ad : Nat → Nat) : Nat → am_L → List (Nat × Value)
  | _, [] => []
  | i, none :: t => am_lv b ad (i + 1) t
  | i, some v :: t => (i, am_tr b ad v) :: am_lv b ad (i + 1) t
theorem am_lv_mem {b : Nat} {ad : Nat → Nat} {q : Nat × Value} : ∀ {L : am_L} {i : Nat}, q ∈ am_lv b ad i L ↔ ∃ k v, L[k]? = some (some v) ∧ q = (i + k, am_tr b ad v)
  | [], i => by simp [am_lv]
  | none :: t, i => by
    rw [am_lv, am_lv_mem]
    constructor
    · rintro ⟨k, v, h1, h2⟩
      exact ⟨k + 1, v, h1, by rw [h2]; congr 1; omega⟩
    · rintro ⟨k, v, h1, h2⟩
      cases k with
      | zero => simp at h1
      | succ k => exact ⟨k, v, h1, by rw [h2]; congr 1; omega⟩
  | some w :: t, i => by
    rw [am_lv, List.mem_cons, am_lv_mem]
    constructor
    · rintro (h | ⟨k, v, h1, h2⟩)
      · exact ⟨0, w, rfl, h⟩
      · exact ⟨k + 1, v, h1, by rw [h2]; congr 1; omega⟩
    · rintro ⟨k, v, h1, h2⟩
      cases k with
      | zero =>
        have h3 : w = v := by simpa using h1
        exact Or.inl (by rw [h2, h3]; rfl)
      | succ k => exact Or.inr ⟨k, v, h1, by rw [h2]; congr 1; omega⟩
theorem am_has_sub {ls : Array Slot} {nL : Nat} {l l' : List (Nat × Value)} (h : lv_has ls nL l) (hs : ∀ q ∈ l', q ∈ l) : lv_has ls nL l' := ⟨h.1, h.2.1, fun q hq => h.2.2 q (hs q hq)⟩
def am_LR (b : Nat) (ad : Nat → Nat) (nL : Nat) (L : am_L) (ls : Array Slot) : Prop := L.length = nL ∧ (∀ v, some v ∈ L → v.category = 1) ∧ lv_has ls nL (am_lv b ad 0 L)
theorem am_LR.get {b : Nat} {ad : Nat → Nat} {nL : Nat} {L : am_L} {ls : Array Slot} (h : am_LR b ad nL L ls) {i : Nat} {v : Value} (hi : L[i]? = some (some v)) : ls[i]? = some (.val (am_tr b ad v)) :=
  h.2.2.2.2 (i, am_tr b ad v) (am_lv_mem.mpr ⟨i, v, hi, by simp⟩)
theorem am_LR.in {b : Nat} {ad : Nat → Nat} {nL : Nat} {L : am_L} {ls : Array Slot} (h : am_LR b ad nL L ls) {i : Nat} {v : Value} (hi : L[i]? = some (some v)) : i < nL ∧ ∃ k : Nat, (am_lv b ad 0 L)[k]? = some (i, am_tr b ad v) := by
  refine ⟨by rw [← h.1]; exact (List.getElem?_eq_some_iff.mp hi).1, ?_⟩
  exact List.getElem?_of_mem (am_lv_mem.mpr ⟨i, v, hi, by simp⟩)
theorem am_LR.set {b : Nat} {ad : Nat → Nat} {nL : Nat} {L : am_L} {ls ls' : Array Slot} (h : am_LR b ad nL L ls) {i : Nat} {v : Value} (hc : v.category = 1) (h' : lv_has ls' nL ((i, am_tr b ad v) :: (am_lv b ad 0 L).filter (fun q => !(q.1 == i) && !(q.1 + 1 == i && q.2.category == 2)))) : am_LR b ad nL (L.set i (some v)) ls' := by
  refine ⟨by rw [List.length_set]; exact h.1, fun w hw => ?_, am_has_sub h' fun q hq => ?_⟩
  · rcases List.mem_or_eq_of_mem_set hw with h1 | h1
    · exact h.2.1 w h1
    · rw [Option.some.inj h1]; exact hc
  · obtain ⟨k, w, h1, h2⟩ := am_lv_mem.mp hq
    by_cases hk : k = i
    · subst hk
      have hl : k < L.length := by
        have h3 := (List.getElem?_eq_some_iff.mp h1).1
        rwa [List.length_set] at h3
      rw [List.getElem?_set_self hl] at h1
      have h3 : v = w := by simpa using h1
      rw [h2, ← h3]
      simp
    · rw [List.getElem?_set_ne (Ne.symm hk)] at h1
      refine List.mem_cons_of_mem _ (List.mem_filter.mpr ⟨am_lv_mem.mpr ⟨k, w, h1, h2⟩, ?_⟩)
      have hw : w.category = 1 := h.2.1 w (List.mem_of_getElem? h1)
      rw [h2]
      simp [am_tr_cat, hw, hk]
/-- references within -/
def am_okv (n : Nat) (v : Value) : Prop := match v with
  | .ref k => k < n
  | _ => True
theorem am_okv.mono {n n' : Nat} (h : n ≤ n') {v : Value} (hv : am_okv n v) : am_okv n' v := by
  cases v <;> first | trivial | exact Nat.lt_of_lt_of_le hv h
theorem am_okv.tr {n : Nat} {b : Nat} {ad ad' : Nat → Nat} (h : ∀ k, k < n → ad' k = ad k) {v : Value} (hv : am_okv n v) : am_tr b ad' v = am_tr b ad v := by
  cases v <;> first | rfl | exact congrArg Value.ref (h _ hv)
def am_oke (n : Nat) (e : am_E) : Prop := match e with
  | .inl (_, fs) => ∀ v ∈ fs, am_okv n v
  | _ => True
def am_okh (h : am_H) : Prop := ∀ e ∈ h, am_oke h.length e
theorem am_oke.mono {n n' : Nat} (h : n ≤ n') {e : am_E} (he : am_oke n e) : am_oke n' e := by
  rcases e with ⟨ci, fs⟩ | e
  · exact fun v hv => (he v hv).mono h
  · trivial
/-- array classes: of ints, booleans, longs -/
abbrev am_A3 : Type := ClassId × ClassId × ClassId
def am_te (c3 : am_A3) (b : Nat) (ad : Nat → Nat) (e : am_E) : va_E := match e with
  | .inl (ci, fs) => .inr (ci, fs.map (am_tr b ad))
  | .inr (.inl (z, n, f)) => .inl (if z then c3.2.1 else c3.1, n, .inl f)
  | .inr (.inr (n, f)) => .inl (c3.2.2, n, .inr (.inl f))
abbrev am_ty (c3 : am_A3) : List (ClassId × FieldType) := [(c3.1, .int), (c3.2.1, .boolean), (c3.2.2, .long)]
def am_ws (c3 : am_A3) (b : Nat) (ad : Nat → Nat) (h : am_H) : va_W := h.mapIdx (fun k e => (ad k, am_te c3 b ad e))
theorem am_ws_at {c3 : am_A3} {b : Nat} {ad : Nat → Nat} {h : am_H} {k : Nat} {e : am_E} (hk : h[k]? = some e) : (am_ws c3 b ad h)[k]? = some (ad k, am_te c3 b ad e) := by
  simp [am_ws, hk]
theorem am_ws_set {c3 : am_A3} {b : Nat} {ad : Nat → Nat} {h : am_H} {k : Nat} {e : am_E} : am_ws c3 b ad (h.set k e) = (am_ws c3 b ad h).set k (ad k, am_te c3 b ad e) := by
  simp [am_ws, List.mapIdx_set]
theorem am_te_tr {c3 : am_A3} {n b : Nat} {ad ad' : Nat → Nat} (h : ∀ k, k < n → ad' k = ad k) {e : am_E} (he : am_oke n e) : am_te c3 b ad' e = am_te c3 b ad e := by
  rcases e with ⟨ci, fs⟩ | ⟨z, n, f⟩ | ⟨n, f⟩
  · show Sum.inr (ci, fs.map (am_tr b ad')) = Sum.inr (ci, fs.map (am_tr b ad))
    rw [List.map_congr_left fun v hv => (he v hv).tr h]
  · rfl
  · rfl
theorem am_ws_tr {c3 : am_A3} {b : Nat} {ad ad' : Nat → Nat} {h : am_H} (hok : am_okh h) (hk : ∀ k, k < h.length → ad' k = ad k) : am_ws c3 b ad' h = am_ws c3 b ad h := by
  apply List.ext_getElem?
  intro k
  cases hg : h[k]? with
  | none => simp [am_ws, hg]
  | some e =>
    rw [am_ws_at hg, am_ws_at hg, hk k (List.getElem?_eq_some_iff.mp hg).1, am_te_tr hk (hok e (List.mem_of_getElem? hg))]
theorem am_ws_push {c3 : am_A3} {b : Nat} {ad : Nat → Nat} {h : am_H} {e : am_E} (hok : am_okh h) {q : Nat} :
    am_ws c3 b (va_up ad h.length q) (h ++ [e]) = am_ws c3 b ad h ++ [(q, am_te c3 b (va_up ad h.length q) e)] := by
  have h1 : am_ws c3 b (va_up ad h.length q) (h ++ [e]) = am_ws c3 b (va_up ad h.length q) h ++ [(q, am_te c3 b (va_up ad h.length q) e)] := by
    simp [am_ws, va_up]
  rw [h1, am_ws_tr (ad := ad) hok (fun k hk => by simp [va_up, Nat.ne_of_lt hk])]
/-- how much room the cells take -/
def am_es (e : am_E) : Nat := match e with
  | .inl (_, fs) => fs.length
  | .inr (.inl (_, n, _)) => n
  | .inr (.inr (n, _)) => n
def am_sz (h : am_H) : Nat := (h.map am_es).sum
theorem am_sz_push (h : am_H) (e : am_E) : am_sz (h ++ [e]) = am_sz h + am_es e := by simp [am_sz]
theorem am_sz_set {h : am_H} {k : Nat} {e e' : am_E} (hk : h[k]? = some e) (he : am_es e' = am_es e) : am_sz (h.set k e') = am_sz h := by
  have h1 : (h.set k e').map am_es = h.map am_es := by
    apply List.ext_getElem?
    intro j
    by_cases hj : j = k
    · subst hj
      have hl := (List.getElem?_eq_some_iff.mp hk).1
      rw [List.getElem?_map, List.getElem?_set_self hl, List.getElem?_map, hk]
      simp [he]
    · rw [List.getElem?_map, List.getElem?_set_ne (Ne.symm hj), List.getElem?_map]
  show ((h.set k e').map am_es).sum = (h.map am_es).sum
  rw [h1]
theorem am_okh.set {h : am_H} (hok : am_okh h) {k : Nat} {e : am_E} (he : am_oke h.length e) : am_okh (h.set k e) := by
  intro x hx
  rw [List.length_set]
  rcases List.mem_or_eq_of_mem_set hx with h1 | h1
  · exact hok x h1
  · rw [h1]; exact he
theorem am_okh.push {h : am_H} (hok : am_okh h) {e : am_E} (he : am_oke (h.length + 1) e) : am_okh (h ++ [e]) := by
  intro x hx
  rw [List.length_append, List.length_singleton]
  rcases List.mem_append.mp hx with h1 | h1
  · exact (hok x h1).mono (Nat.le_succ _)
  · rw [List.mem_singleton.mp h1]; exact he
