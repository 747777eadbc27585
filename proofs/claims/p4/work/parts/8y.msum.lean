/-! The model's sums, with their trees. -/
theorem pl_and {z : Option fn_Z} {Q Q' : Option Value → a2_G → a2_A → Prop} {X X' : Nat → a2_G → a2_A → Prop} (h : pl z Q X) (h' : pl z Q' X') : pl z (fun o g r => Q o g r ∧ Q' o g r) (fun x g r => X x g r ∧ X' x g r) := by
  match z, h, h' with
  | none, _, _ => trivial
  | some (.inl o, g, r), h, h' => exact ⟨h, h'⟩
  | some (.inr x, g, r), h, h' => exact ⟨h, h'⟩
theorem b2_as {x : Option R2} {k k' : Nat → Sjt → Tf → Option R2} : b2 (b2 x k) k' = b2 x (fun q s a => b2 (k q s a) k') := by
  cases x <;> rfl
theorem b2_o {q : Nat} {a : Tf} {k : Nat → Sjt → Tf → Option R2} : b2 (o2 q a) k = k q none a := rfl
abbrev Kx : Type := Int32 × (Nat × Tf) × Int32 × (Nat × Tf)
def sgs : List Kx → List (Nat × Tf)
  | [] => []
  | c :: st => sgs st ++ ((if c.1 = 0 then [] else [c.2.1]) ++ (if c.2.2.1 = 0 then [] else [c.2.2.2]))
def Skr : List Kx → a2_A → Prop
  | [], _ => True
  | c :: st, r => ((r fM_sumSign).2 st.length = c.1 ∧ (c.1 ≠ 0 → (r fM_sums).2 st.length = Int32.ofNat c.2.1.1) ∧ (r fM_productSign).2 st.length = c.2.2.1 ∧ (c.2.2.1 ≠ 0 → (r fM_products).2 st.length = Int32.ofNat c.2.2.2.1)) ∧ Skr st r
noncomputable def csU (w : Ws) : List Kx → Nat → Tf → Option R2
  | [], q, U => o2 q U
  | c :: st, q, U => b2 (tv w 3 q none (jT c.2.2.1 c.2.2.2.2 U)) fun q _ P => b2 (tv w 1 q none (jT c.1 c.2.1.2 P)) fun q _ S => if st = [] then o2 q S else csU w st (q + 1) S
theorem Skr.fr : ∀ {st : List Kx} {r r' : a2_A}, Skr st r → (∀ i, i < st.length → (r' fM_sumSign).2 i = (r fM_sumSign).2 i ∧ (r' fM_sums).2 i = (r fM_sums).2 i ∧ (r' fM_productSign).2 i = (r fM_productSign).2 i ∧ (r' fM_products).2 i = (r fM_products).2 i) → Skr st r'
  | [], _, _, _, _ => trivial
  | c :: st, r, r', h, he => by
    obtain ⟨h1, h2⟩ := h
    obtain ⟨e1, e2, e3, e4⟩ := he st.length (by simp)
    refine ⟨?_, Skr.fr h2 (fun i hi => he i (by simp; omega))⟩
    rw [e1, e2, e3, e4]
    exact h1
theorem Skr.we {st : List Kx} {r r' : a2_A} (h : Skr st r) (he : ∀ q, q ∉ WEa → r' q = r q) : Skr st r' := h.fr (fun i _ => by
  rw [he fM_sumSign (by decide), he fM_sums (by decide), he fM_productSign (by decide), he fM_products (by decide)]
  exact ⟨rfl, rfl, rfl, rfl⟩)
section
variable {L : Nat} {xs : Nat → Int32} {m d : Nat} {w : Ws} {f : Gh} {p : Nat} {g : a2_G} {r : a2_A} {k : Int32 → a2_G → a2_A → Option fn_Z} {Q : Option Value → a2_G → a2_A → Prop} {X : Nat → a2_G → a2_A → Prop} {n : Nat} {D : Nat → TD} {K : Nat → List Nat} {N : Nat → Int32} {l : List (Nat × Tf)}
def WK : List Nat := [fM_sums, fM_sumSign, fM_products, fM_productSign]
theorem Am.ua (h : Am w f p n D K g r) {j : Nat} {x : Nat × (Nat → Int32)} (hj : j ∈ WSa) (hj2 : j ∉ WEa) (hx : x.1 = (r j).1) : Am w f p n D K g (a2_ua r j x) := by
  have e : ∀ q, q ∈ WEa → a2_ua r j x q = r q := fun q hq => (show a2_ua r j x q = r q from if_neg (fun (e : q = j) => hj2 (e ▸ hq)))
  refine ⟨h.1.ua hj hx, h.2.1, h.2.2.1, h.2.2.2.1, ?_⟩
  unfold Mz Sz
  rw [e fM_kind (by decide), e fM_value (by decide), e fM_place (by decide), e fM_extra (by decide), e fM_first (by decide), e fM_last (by decide), e fM_next (by decide), e fM_above (by decide)]
  exact h.2.2.2.2
theorem Pn.ua (h : Pn w f n D K N p l g r) {j : Nat} {x : Nat × (Nat → Int32)} (hj : j ∈ WSa) (hj2 : j ∉ WEa) (hx : x.1 = (r j).1) : Pn w f n D K N p l g (a2_ua r j x) := by
  obtain ⟨n', D', K', h1, h2, h3⟩ := h
  refine ⟨n', D', K', h1.ua hj hj2 hx, h2, fun y hy => ?_⟩
  rw [show a2_ua r j x fM_next = r fM_next from if_neg (fun (e : fM_next = j) => hj2 (e ▸ (by decide : fM_next ∈ WEa)))]
  exact h3 y hy
theorem Am.ug (h : Am w f p n D K g r) {j : Nat} {x : Int32} (hj : j ∈ WU) : Am w f p n D K (upd g j x) r := by
  have h2 : j ≠ fM_nodes := (by decide : ∀ j, j ∈ WU → j ≠ fM_nodes) j hj
  refine ⟨h.1.ug hj, ?_⟩
  unfold Rm
  rw [upd_ne h2.symm]
  exact h.2
theorem Pn.ug (h : Pn w f n D K N p l g r) {j : Nat} {x : Int32} (hj : j ∈ WU) : Pn w f n D K N p l (upd g j x) r := by
  obtain ⟨n', D', K', h1, h2⟩ := h
  exact ⟨n', D', K', h1.ug hj, h2⟩
/-- joined, with or without what stands left of it -/
theorem ml_jo {s : Int32} {x1 : Int32} {a u : Nat} {A U : Tf} (hn : 1 ≤ n) (hx : s ≠ 0 → x1 = Int32.ofNat a) (h : Pn w f n D K N p (l ++ (if s = 0 then [] else [(a, A)]) ++ [(u, U)]) g r) (hk : ∀ v g' r', Pn w f n D K N p (l ++ [(v, jT s A U)]) g' r' → (∀ q, q ∉ WEa → r' q = r q) → (∀ k, k ≠ fM_nodes → g' k = g k) → pl (k (Int32.ofNat v) g' r') Q X) : pl (fn_v (ev L xs (m + 1) d nM_joined [.ref cM, .int x1, .int s, .int (Int32.ofNat u)] g r) k) Q X := by
  by_cases hs : s = 0
  · rw [if_pos hs, List.append_nil] at h
    have h' : Pn w f n D K N p (l ++ [(u, jT s A U)]) g r := by
      unfold jT
      rw [if_pos hs]
      exact h
    refine pl_v (Q1 := kE g r (Int32.ofNat u)) (X1 := kN) ?_ (fun _ _ _ e => e.elim) (fun x g' r' e => ?_)
    · cases d with
      | zero => trivial
      | succ d =>
        rw [qM_joined]
        exact pl_neg (by rw [c2_ne, hs]; decide) ⟨rfl, rfl, rfl⟩
    · obtain ⟨e1, rfl, rfl⟩ := e
      cases e1
      exact hk u g' r' h' (fun _ _ => rfl) (fun _ _ => rfl)
  · rw [if_neg hs, List.append_assoc] at h
    rw [hx hs]
    exact zM_joined hn hs h hk
/-- behind a unit: done, or one more unit is wanted -/
def kMU (w : Ws) (f : Gh) (n : Nat) (D : Nat → TD) (K : Nat → List Nat) (N : Nat → Int32) (z : Option R2) : Option Value → a2_G → a2_A → Prop := fun o g r => ∃ x : Int32, o = some (.int x) ∧ ((∃ b, Bd w f b g r) ∨ (∃ v q S, x = Int32.ofNat v ∧ z = some (q, none, S) ∧ Pn w f n D K N q [(v, S)] g r) ∨ (x = 0 ∧ ∃ c st q, Pn w f n D K N q (sgs (c :: st)) g r ∧ Skr (c :: st) r ∧ (g fM_contexts).toInt = ((st.length + 1 : Nat) : Int) ∧ z = b2 (tv w 4 q none []) fun q _ U => csU w (c :: st) q U))
end
