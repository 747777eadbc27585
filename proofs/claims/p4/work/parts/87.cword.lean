/-! The class's word; the ends of its parse. -/
theorem sP_isWordX (L : Nat) (xs : Nat → Int32) {m d : Nat} (hd : 1 ≤ d) (a1 a2 : Int32) {g : a2_G} {r : a2_A} : wp (ev L xs (m + 1) d nP_isWord [.int a1, .int a2] g r) (kP g r (fun v => v = 0 ∧ ¬ okw a1 a2 ∨ v = 1 ∧ okw a1 a2)) kN := by
  obtain ⟨d, rfl⟩ : ∃ e, d = e + 1 := ⟨d - 1, by omega⟩
  have f1 : okw a1 a2 → wp (some (.inl (some (.int 1)), g, r)) (kP g r (fun v => v = 0 ∧ ¬ okw a1 a2 ∨ v = 1 ∧ okw a1 a2)) kN := fun h => ⟨1, rfl, Or.inr ⟨rfl, h⟩, rfl, rfl⟩
  have f0 : ¬ okw a1 a2 → wp (some (.inl (some (.int 0)), g, r)) (kP g r (fun v => v = 0 ∧ ¬ okw a1 a2 ∨ v = 1 ∧ okw a1 a2)) kN := fun h => ⟨0, rfl, Or.inl ⟨rfl, h⟩, rfl, rfl⟩
  have k0 : (0 : Int32).toInt = 0 := rfl
  have k78 : (78 : Int32).toInt = 78 := rfl
  have k99 : (99 : Int32).toInt = 99 := rfl
  have k9 : (99999 : Int32).toInt = 99999 := rfl
  have k8 : (8 : Int32).toInt = 8 := rfl
  rw [qP_isWord]
  unfold BP_isWord_54 BP_isWord_55 BP_isWord_56 BP_isWord_70 BP_isWord_71 BP_isWord_86 BP_isWord_87 BP_isWord_104 BP_isWord_105
  refine wp_if (fun e0 => ?_) (fun e0 => ?_)
  · refine wp_if (fun h1 => wp_t (by decide) (f0 ?_)) (fun h1 => ?_)
    · rw [c2_lt] at h1; unfold okw; omega
    · refine wp_if (fun h2 => wp_t (by decide) (f0 ?_)) (fun h2 => wp_t (by decide) (f1 ?_))
      · rw [c2_gt] at h2; unfold okw; omega
      · rw [c2_lt] at h1; rw [c2_gt] at h2; unfold okw; omega
  have f56 : a1.toInt = 1 ∨ a1.toInt = 3 → wp (if am_c2 .lt a2 0 = true then (if (0 : Int32) = 0 ∨ (0 : Int32) = 1 then some (.inl (some (.int 0)), g, r) else none) else (if am_c2 .gt a2 99 = true then (if (0 : Int32) = 0 ∨ (0 : Int32) = 1 then some (.inl (some (.int 0)), g, r) else none) else (if (1 : Int32) = 0 ∨ (1 : Int32) = 1 then some (.inl (some (.int 1)), g, r) else none))) (kP g r (fun v => v = 0 ∧ ¬ okw a1 a2 ∨ v = 1 ∧ okw a1 a2)) kN := by
    intro e1
    refine wp_if (fun h1 => wp_t (by decide) (f0 ?_)) (fun h1 => ?_)
    · rw [c2_lt] at h1; unfold okw; omega
    · refine wp_if (fun h2 => wp_t (by decide) (f0 ?_)) (fun h2 => wp_t (by decide) (f1 ?_))
      · rw [c2_gt] at h2; unfold okw; omega
      · rw [c2_lt] at h1; rw [c2_gt] at h2; unfold okw; omega
  refine wp_if (fun e1 => f56 (Or.inl e1)) (fun e1 => ?_)
  refine wp_if (fun e2 => ?_) (fun e2 => ?_)
  · refine wp_if (fun h1 => wp_t (by decide) (f0 ?_)) (fun h1 => ?_)
    · rw [c2_lt] at h1; unfold okw; omega
    · refine wp_if (fun h2 => wp_t (by decide) (f0 ?_)) (fun h2 => wp_t (by decide) (f1 ?_))
      · rw [c2_gt] at h2; unfold okw; omega
      · rw [c2_lt] at h1; rw [c2_gt] at h2; unfold okw; omega
  refine wp_if (fun e3 => f56 (Or.inr e3)) (fun e3 => ?_)
  refine wp_if (fun e4 => f1 (by unfold okw; omega)) (fun e4 => ?_)
  refine wp_if (fun e5 => ?_) (fun e5 => f0 (by unfold okw; omega))
  refine wp_if (fun h1 => wp_t (by decide) (f0 ?_)) (fun h1 => ?_)
  · rw [c2_lt] at h1; unfold okw; omega
  · refine wp_if (fun h2 => wp_t (by decide) (f0 ?_)) (fun h2 => wp_t (by decide) (f1 ?_))
    · rw [c2_gt] at h2; unfold okw; omega
    · rw [c2_lt] at h1; rw [c2_gt] at h2; unfold okw; omega
theorem sR_isFullX (L : Nat) (xs : Nat → Int32) {m d : Nat} (hd : 1 ≤ d) {g : a2_G} {r : a2_A} : wp (ev L xs (m + 1) d nR_isFull [.ref cR] g r) (kP g r (fun v => v = 0 ∧ (g fR_size).toInt < 1500 ∨ v = 1 ∧ ¬ (g fR_size).toInt < 1500)) kN := by
  obtain ⟨d, rfl⟩ : ∃ e, d = e + 1 := ⟨d - 1, by omega⟩
  rw [qR_isFull]
  unfold BR_isFull_15
  refine wp_if (fun h => wp_t (by decide) ?_) (fun h => wp_t (by decide) ?_)
  · rw [c2_lt] at h
    exact ⟨0, rfl, Or.inl ⟨rfl, h⟩, rfl, rfl⟩
  · rw [c2_lt] at h
    exact ⟨1, rfl, Or.inr ⟨rfl, h⟩, rfl, rfl⟩
theorem sP_word (L : Nat) (xs : Nat → Int32) {m d : Nat} (hd : 2 ≤ d) (a1 a2 : Int32) {g : a2_G} {r : a2_A} (h : CI g r) : wp (ev L xs (m + 1) d nP_word [.ref cP, .int a1, .int a2] g r) (fun o g' r' => kWD (g fR_size) a1 a2 o (g' fR_size) ∧ CI g' r') kN := by
  obtain ⟨d, rfl⟩ : ∃ e, d = e + 1 := ⟨d - 1, by omega⟩
  obtain ⟨d, rfl⟩ : ∃ e, d = e + 1 := ⟨d - 1, by omega⟩
  have c := h.1
  rw [qP_word]
  refine wp_vP (sP_isWordX L xs (by omega) a1 a2) (fun v hv => ?_)
  rcases hv with ⟨rfl, ho⟩ | ⟨rfl, ho⟩
  · refine wp_f (by decide) ?_
    exact ⟨Or.inl ⟨ho, rfl, rfl⟩, h⟩
  · refine wp_t (by decide) ?_
    unfold BP_word_34
    refine wp_vP (sR_isFullX L xs (by omega)) (fun w hw => ?_)
    rcases hw with ⟨rfl, hc⟩ | ⟨rfl, hc⟩
    · refine wp_t (by decide) ?_
      refine wp_v (sR_add L xs (by omega) a1 a2 h (by omega)) (fun _ _ _ hx => hx.elim) ?_
      rintro o g' r' ⟨rfl, q1, q2⟩
      exact ⟨_, rfl, Or.inr (Or.inr ⟨ho, by omega, rfl, q2⟩), q1⟩
    · refine wp_f (by decide) ?_
      exact ⟨Or.inr (Or.inl ⟨ho, by omega, rfl, rfl⟩), h⟩
theorem CI.cs {g : a2_G} {r : a2_A} (h : CI g r) : Cs (g fT_made).toInt g r := ⟨h, by have := h.1.1; omega⟩
theorem sP_finish (L : Nat) (xs : Nat → Int32) {m d : Nat} (hm : 4294967296 ≤ m) (hd : 5 ≤ d) {g : a2_G} {r : a2_A} (h : CI g r) : wp (ev L xs (m + 1) d nP_finish [.ref cP] g r) (fun o g' r' => (∃ v : Int32, o = some (.int v)) ∧ CI g' r' ∧ g' fR_size = 0) (fun x g' r' => x = 11 ∧ CI g' r' ∧ g' fR_size = 0) := by
  obtain ⟨d, rfl⟩ : ∃ e, d = e + 1 := ⟨d - 1, by omega⟩
  rw [qP_finish]
  refine wp_n (sR_clear L xs (by omega) h) (fun _ _ _ hx => hx.elim) ?_
  rintro o g1 r1 ⟨rfl, c1, s1⟩
  refine ⟨rfl, ?_⟩
  refine wp_vP (sR_faultCount L xs (by omega) c1) (fun v _ => ?_)
  refine wp_if (fun _ => ?_) (fun _ => ⟨rfl, c1, s1⟩)
  refine wp_nT (sT_number L xs hm (by omega) c1.cs) (fun g2 r2 c2 f2 => ?_)
  refine wp_vP (sT_unitCount L xs (by omega) c2.1) (fun v _ => ?_)
  exact ⟨⟨_, rfl⟩, c2.1, f2.2.1.trans s1⟩
