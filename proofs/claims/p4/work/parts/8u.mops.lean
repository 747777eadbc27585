/-! The model's tree: what make and attach do to it; rules beside the reading. -/
section
variable {L : Nat} {xs : Nat → Int32} {m d : Nat} {n : Nat} {D : Nat → TD} {K : Nat → List Nat} {g : a2_G} {r : a2_A}
theorem zM_make (a1 a2 a3 : Int32) {e0 : Int32} (he : st38 a1 → e0 = 0) (hL : ML r) (h : Rm n D K g r) (he53 : a1 = 53 → e0 = -1 := by intro h; first | rfl | exact absurd h (by decide)) : pl (ev L xs (m + 1) d nM_make [.ref cM, .int a1, .int a2, .int a3] g r) (fun o g' r' => o = some (.int (Int32.ofNat n)) ∧ Rm (n + 1) (fD D n (a1, a2, a3, e0)) (fK K n []) g' r' ∧ g' = upd g fM_nodes (g fM_nodes + 1) ∧ ML r' ∧ (r' fM_next).2 = upd (r fM_next).2 n 0 ∧ ∀ q, q ∉ WEa → r' q = r q) kN := by
  cases d with
  | zero => trivial
  | succ d =>
    obtain ⟨h1, h2, h3, h4⟩ := h
    have en : (g fM_nodes).toNatClampNeg = n := tn_at h1
    rw [qM_make, en]
    refine pl_if (fun c => ?_) (fun _ => trivial)
    refine pl_if (fun _ => pl_if (fun _ => pl_if (fun _ => pl_if (fun _ => pl_if (fun _ => pl_if (fun _ => pl_if (fun _ => ?_) (fun _ => trivial)) (fun _ => trivial)) (fun _ => trivial)) (fun _ => trivial)) (fun _ => trivial)) (fun _ => trivial)) (fun _ => trivial)
    rw [inr_eq, hL.at 4, h1] at c
    have hi := i32_inc (x := g fM_nodes) (by omega)
    refine ⟨?_, ⟨?_, by omega, by omega, h4.mk (by rfl) (by rfl) (by rfl) (by rfl) (by rfl) (by rfl) (by rfl) (by rfl) he he53⟩, rfl, ?_, by rfl, fun q hq => ?_⟩
    · rw [show g fM_nodes = Int32.ofNat n from Int32.toInt_inj.mp (by rw [h1, on_eq (by omega)])]
    · show (g fM_nodes + 1).toInt = ((n + 1 : Nat) : Int)
      omega
    · exact (((((((hL.ua (by rfl)).ua (by rfl)).ua (by rfl)).ua (by rfl)).ua (by rfl)).ua (by rfl)).ua (by rfl)).ua (by rfl)
    · have hF : Fm [fM_nodes] WEa g r (upd g fM_nodes (g fM_nodes + 1)) _ := (((((((((Fm.rf (g := g) (r := r)).up (k := fM_nodes) (x := g fM_nodes + 1) (by decide)).ua (k := fM_kind) (x := ((r fM_kind).1, (upd (r fM_kind).2 n a1))) (by decide)).ua (k := fM_value) (x := ((r fM_value).1, (upd (r fM_value).2 n a2))) (by decide)).ua (k := fM_place) (x := ((r fM_place).1, (upd (r fM_place).2 n a3))) (by decide)).ua (k := fM_extra) (x := ((r fM_extra).1, (upd (r fM_extra).2 n 0))) (by decide)).ua (k := fM_first) (x := ((r fM_first).1, (upd (r fM_first).2 n 0))) (by decide)).ua (k := fM_last) (x := ((r fM_last).1, (upd (r fM_last).2 n 0))) (by decide)).ua (k := fM_next) (x := ((r fM_next).1, (upd (r fM_next).2 n 0))) (by decide)).ua (k := fM_above) (x := ((r fM_above).1, (upd (r fM_above).2 n 0))) (by decide)
      exact hF.2 q hq
theorem zM_attach {i c : Nat} (hi : i < n) (hc0 : 0 < c) (hc : c < n) (hd : ∀ j, j < n → c ∉ K j) (hL : ML r) (h : Rm n D K g r) : pl (ev L xs (m + 1) d nM_attach [.ref cM, .int (Int32.ofNat i), .int (Int32.ofNat c)] g r) (fun o g' r' => o = none ∧ Rm n D (fK K i (K i ++ [c])) g' r' ∧ g' = g ∧ ML r' ∧ (∀ y, y ≠ c → y ∉ K i → (r' fM_next).2 y = (r fM_next).2 y) ∧ ∀ q, q ∉ WEa → r' q = r q) kN := by
  cases d with
  | zero => trivial
  | succ d =>
    obtain ⟨h1, h2, h3, h4⟩ := h
    have ei : (Int32.ofNat i).toNatClampNeg = i := tn_at (on_eq (by omega))
    have ec : (Int32.ofNat c).toNatClampNeg = c := tn_at (on_eq (by omega))
    rw [qM_attach, ei, ec]
    unfold BM_attach_45
    rw [ei]
    have hhead : ∀ x, (K i).head? = some x → 0 < x ∧ x < 2147483648 := fun x hx => by
      have := h4.kid hi (List.mem_of_head? hx)
      omega
    refine pl_if (fun _ => pl_if (fun _ => pl_if (fun _ => ?_) (fun _ => trivial)) (fun _ => trivial)) (fun _ => trivial)
    have hf := (h4.2.1 i hi).1
    refine pl_in (fun e => ?_) (fun e => ?_)
    · rw [hf] at e
      have hne : (K i).head? ≠ none := fun e2 => e ((o0_nz hhead).mpr e2)
      have hK : K i ≠ [] := fun e2 => hne (by rw [e2]; rfl)
      obtain ⟨y, hy⟩ : ∃ y, (K i).getLast? = some y := by
        cases hz : (K i).getLast? with
        | none => exact absurd (List.getLast?_eq_none_iff.mp hz) hK
        | some y => exact ⟨y, rfl⟩
      obtain ⟨l, hl⟩ := List.getLast?_eq_some_iff.mp hy
      have hyk := h4.kid hi (c := y) (by rw [hl]; exact List.mem_append_right _ List.mem_cons_self)
      have ey : ((r fM_last).2 i).toNatClampNeg = y := by
        rw [(h4.2.1 i hi).2 y hy]
        exact tn_at (on_eq (by omega))
      refine pl_if (fun _ => pl_if (fun _ => pl_if (fun _ => ?_) (fun _ => trivial)) (fun _ => trivial)) (fun _ => trivial)
      rw [ey]
      refine ⟨rfl, ⟨h1, h2, h3, h4.at h3 hi hc0 hc hd (Or.inr ⟨l, y, hl, rfl, rfl⟩) (by rfl) (by rfl) (by rfl) (by rfl) (by rfl) (by rfl) (by rfl) (by rfl)⟩, rfl, ?_, fun z hz1 hz2 => ?_, fun q hq => ?_⟩
      · exact (((hL.ua (by rfl)).ua (by rfl)).ua (by rfl)).ua (by rfl)
      · show upd (upd (r fM_next).2 c 0) y (Int32.ofNat c) z = _
        rw [upd_ne (fun e => hz2 (by rw [hl, e]; exact List.mem_append_right _ List.mem_cons_self)), upd_ne hz1]
      · have hne : ∀ j, j ∈ WEa → q ≠ j := fun j hj e => hq (e ▸ hj)
        simp only [a2_ua, if_neg (hne fM_above (by decide)), if_neg (hne fM_next (by decide)), if_neg (hne fM_last (by decide))]
    · rw [Decidable.not_not, hf] at e
      have hK : K i = [] := List.head?_eq_none_iff.mp ((o0_nz hhead).mp e)
      refine pl_if (fun _ => pl_if (fun _ => ?_) (fun _ => trivial)) (fun _ => trivial)
      refine ⟨rfl, ⟨h1, h2, h3, h4.at h3 hi hc0 hc hd (Or.inl ⟨hK, rfl, rfl⟩) (by rfl) (by rfl) (by rfl) (by rfl) (by rfl) (by rfl) (by rfl) (by rfl)⟩, rfl, ?_, fun z hz1 hz2 => ?_, fun q hq => ?_⟩
      · exact (((hL.ua (by rfl)).ua (by rfl)).ua (by rfl)).ua (by rfl)
      · show upd (r fM_next).2 c 0 z = _
        rw [upd_ne hz1]
      · have hne : ∀ j, j ∈ WEa → q ≠ j := fun j hj e => hq (e ▸ hj)
        simp only [a2_ua, if_neg (hne fM_above (by decide)), if_neg (hne fM_next (by decide)), if_neg (hne fM_last (by decide)), if_neg (hne fM_first (by decide))]
end
/-- kinds and places of the nodes that stood there -/
def FkC (c : Int32) (r : a2_A) (g' : a2_G) (r' : a2_A) : Prop := c.toInt ≤ (g' fM_nodes).toInt ∧ ∀ i : Nat, (i : Int) < c.toInt → (r' fM_kind).2 i = (r fM_kind).2 i ∧ (r' fM_place).2 i = (r fM_place).2 i
def Fk (g : a2_G) (r : a2_A) (g' : a2_G) (r' : a2_A) : Prop := FkC (g fM_nodes) r g' r'
theorem Fk.rf {g : a2_G} {r : a2_A} : Fk g r g r := ⟨Int.le_refl _, fun _ _ => ⟨rfl, rfl⟩⟩
theorem Fk.tr {g g' g'' : a2_G} {r r' r'' : a2_A} (a : Fk g r g' r') (b : Fk g' r' g'' r'') : Fk g r g'' r'' := ⟨Int.le_trans a.1 b.1, fun i hi => ⟨(b.2 i (Int.lt_of_lt_of_le hi a.1)).1.trans (a.2 i hi).1, (b.2 i (Int.lt_of_lt_of_le hi a.1)).2.trans (a.2 i hi).2⟩⟩
theorem Fk.of {n n' : Nat} {D D' : Nat → TD} {K K' : Nat → List Nat} {g g' : a2_G} {r r' : a2_A} (h : Rm n D K g r) (h' : Rm n' D' K' g' r') (hn : n ≤ n') (hD : ∀ i, i < n → D' i = D i) : Fk g r g' r' := by
  obtain ⟨a1, -, -, a2, -⟩ := h
  obtain ⟨b1, -, -, b2, -⟩ := h'
  refine ⟨by rw [a1, b1]; omega, fun i hi => ?_⟩
  rw [a1] at hi
  have hi' : i < n := by omega
  rw [(a2 i hi').1, (a2 i hi').2.2.1, (b2 i (by omega)).1, (b2 i (by omega)).2.2.1, hD i hi']
  exact ⟨rfl, rfl⟩
def Am (w : Ws) (f : Gh) (p n : Nat) (D : Nat → TD) (K : Nat → List Nat) (g : a2_G) (r : a2_A) : Prop := Gd w f p g r ∧ Rm n D K g r
def Vw (P : Nat → Prop) (n : Nat) (D : Nat → TD) (K : Nat → List Nat) (v : Nat) (T : Tf) (n' : Nat) (D' : Nat → TD) (K' : Nat → List Nat) : Prop := n ≤ n' ∧ (∀ i, i < n → K' i = K i ∧ D' i = D i) ∧ Tr K' D' n n' v T ∧ (∀ j, j < n' → v ∈ K' j → P j) ∧ ∀ j, n ≤ j → j < n' → ∀ x, x ∈ K' j → n ≤ x
def Wt (P : Nat → Prop) (w : Ws) (f : Gh) (n : Nat) (D : Nat → TD) (K : Nat → List Nat) (q v : Nat) (T : Tf) (g : a2_G) (r : a2_A) : Prop := ∃ n' D' K', Am w f q n' D' K' g r ∧ Vw P n D K v T n' D' K'
def LfM (w : Ws) (f : Gh) (S : Nat → a2_G → a2_A → Prop) : Prop := (∀ p g r, S p g r → Gd w f p g r) ∧ ∀ p g r, S p g r → p < w.2.2 → S (p + 1) (upd g fM_at (g fM_at + 1)) r
theorem Am.up {w : Ws} {f : Gh} {p n : Nat} {D : Nat → TD} {K : Nat → List Nat} {g : a2_G} {r : a2_A} (h : Am w f p n D K g r) (hp : p < w.2.2) : Am w f (p + 1) n D K (upd g fM_at (g fM_at + 1)) r := ⟨h.1.up hp, h.2⟩
theorem Am.lf {w : Ws} {f : Gh} {n : Nat} {D : Nat → TD} {K : Nat → List Nat} : LfM w f (fun p => Am w f p n D K) := ⟨fun _ _ _ h => h.1, fun _ _ _ h hp => h.up hp⟩
theorem Wt.lf {P : Nat → Prop} {w : Ws} {f : Gh} {n : Nat} {D : Nat → TD} {K : Nat → List Nat} {v : Nat} {T : Tf} : LfM w f (fun p => Wt P w f n D K p v T) := ⟨fun _ _ _ h => by
  obtain ⟨n', D', K', h1, -⟩ := h
  exact h1.1, fun _ _ _ h hp => by
  obtain ⟨n', D', K', h1, h2⟩ := h
  exact ⟨n', D', K', h1.up hp, h2⟩⟩
section
variable {L : Nat} {xs : Nat → Int32} {m d : Nat} {w : Ws} {f : Gh} {p : Nat} {g : a2_G} {r : a2_A} {k : Int32 → a2_G → a2_A → Option fn_Z} {kn : a2_G → a2_A → Option fn_Z} {Q : Option Value → a2_G → a2_A → Prop} {X : Nat → a2_G → a2_A → Prop} {S : Nat → a2_G → a2_A → Prop}
theorem ml_ms {a : Int32} (hS : LfM w f S) (h : S p g r) (h1 : ww w p a = true → ∀ g', S (p + 1) g' r → pl (k 1 g' r) Q X) (h0 : ww w p a = false → pl (k 0 g r) Q X) : pl (fn_v (ev L xs (m + 1) d nM_meets [.ref cM, .int a] g r) k) Q X := by
  have hG := hS.1 p g r h
  refine pl_v (Q1 := fun o g' r' => r' = r ∧ (ww w p a = true ∧ o = some (.int 1) ∧ S (p + 1) g' r ∨ ww w p a = false ∧ o = some (.int 0) ∧ g' = g)) (X1 := kN) ?_ (fun _ _ _ e => e.elim) (fun v g' r' e => ?_)
  · cases d with
    | zero => trivial
    | succ d =>
      rw [qM_meets]
      refine pl_neg (by rw [c2_ne, hG.2.2.1]; decide) ?_
      unfold BM_meets_19
      refine pl_u (xM_isWord L xs a hG.1.mrd hG.2.2.2.1) (fun e => pl_pos (by decide) ?_) (fun e => pl_neg (by decide) ?_)
      · exact ⟨rfl, Or.inl ⟨e, rfl, hS.2 p g r h (ww_iff.mp e).1⟩⟩
      · exact ⟨rfl, Or.inr ⟨e, rfl, rfl⟩⟩
  · obtain ⟨rfl, ⟨e1, e2, e3⟩ | ⟨e1, e2, rfl⟩⟩ := e
    · cases e2
      exact h1 e1 g' e3
    · cases e2
      exact h0 e1
theorem ml_mb {a : Int32} (hS : LfM w f S) (h : S p g r) (hk : ∀ v g', S (sk (ww w p a) p) g' r → pl (k v g' r) Q X) : pl (fn_v (ev L xs (m + 1) d nM_meets [.ref cM, .int a] g r) k) Q X := ml_ms hS h (fun e g' h' => hk 1 g' (by rw [e]; exact h')) (fun e => hk 0 g (by rw [e]; exact h))
theorem ml_mu {a : Int32} (hS : LfM w f S) (h : S p g r) (h1 : ww w p a = true → ∀ g', S (p + 1) g' r → pl (k 1 g' r) Q X) (h0 : ww w p a = false → ∀ g' r', Bd w f p g' r' → pl (k 0 g' r') Q X) : pl (fn_v (ev L xs (m + 1) d nM_must [.ref cM, .int a] g r) k) Q X := by
  refine pl_v (Q1 := fun o g' r' => ww w p a = true ∧ o = some (.int 1) ∧ r' = r ∧ S (p + 1) g' r ∨ ww w p a = false ∧ o = some (.int 0) ∧ Bd w f p g' r') (X1 := kN) ?_ (fun _ _ _ e => e.elim) (fun v g' r' e => ?_)
  · cases d with
    | zero => trivial
    | succ d =>
      rw [qM_must]
      unfold BM_must_20 BM_must_25
      refine ml_ms hS h (fun e g' h' => pl_pos (by decide) (pl_pos (by decide) (Or.inl ⟨e, rfl, rfl, h'⟩))) (fun e => pl_neg (by decide) ?_)
      have hG := hS.1 p g r h
      refine pm_fa hG hG.2.2.2.1 hG.2.2.2.2 (fun g2 r2 h2 _ => ?_)
      exact pl_pos (by decide) (pl_pos (by decide) (Or.inr ⟨e, rfl, h2⟩))
  · rcases e with ⟨e1, e2, rfl, e4⟩ | ⟨e1, e2, e3⟩
    · cases e2
      exact h1 e1 g' e4
    · cases e2
      exact h0 e1 g' r' e3
theorem ml_mk {a : Int32} (hS : LfM w f S) (h : S p g r) (h1 : wk w p a = true → ∀ g', S (p + 1) g' r → pl (k 1 g' r) Q X) (h0 : wk w p a = false → ∀ g' r', Bd w f p g' r' → pl (k 0 g' r') Q X) : pl (fn_v (ev L xs (m + 1) d nM_mustBe [.ref cM, .int a] g r) k) Q X := by
  refine pl_v (Q1 := fun o g' r' => wk w p a = true ∧ o = some (.int 1) ∧ r' = r ∧ S (p + 1) g' r ∨ wk w p a = false ∧ o = some (.int 0) ∧ Bd w f p g' r') (X1 := kN) ?_ (fun _ _ _ e => e.elim) (fun v g' r' e => ?_)
  · cases d with
    | zero => trivial
    | succ d =>
      have hG := hS.1 p g r h
      rw [qM_mustBe]
      refine pl_neg (by rw [c2_ne, hG.2.2.1]; decide) ?_
      refine pl_u (xM_isKind L xs a hG.1.mrd hG.2.2.2.1) (fun e => pl_pos (by decide) ?_) (fun e => pl_neg (by decide) ?_)
      · exact Or.inl ⟨e, rfl, rfl, hS.2 p g r h (wk_iff.mp e).1⟩
      · unfold BM_mustBe_19
        refine pm_fa hG hG.2.2.2.1 hG.2.2.2.2 (fun g2 r2 h2 _ => ?_)
        exact pl_pos (by decide) (Or.inr ⟨e, rfl, h2⟩)
  · rcases e with ⟨e1, e2, rfl, e4⟩ | ⟨e1, e2, e3⟩
    · cases e2
      exact h1 e1 g' e4
    · cases e2
      exact h0 e1 g' r' e3
theorem ml_pa (hG : Gd w f (p + 1) g r) (hk : pl (k (w.2.1 p) g r) Q X) : pl (fn_v (ev L xs (m + 1) d nM_passed [.ref cM] g r) k) Q X := by
  refine pl_v (Q1 := kE g r (w.2.1 p)) (X1 := kN) ?_ (fun _ _ _ e => e.elim) (fun v g' r' e => ?_)
  · cases d with
    | zero => trivial
    | succ d =>
      rw [qM_passed]
      unfold BM_passed_22
      have e1 := hG.2.2.2.1
      refine pl_il (fun e => by exfalso; rw [e1, i32_0] at e; omega) (fun _ => ?_)
      have e2 : (g fM_at - 1).toNatClampNeg = p := by
        rw [nc_eq, i32_dec (x := g fM_at) (by omega)]
        omega
      rw [e2, hG.1.mrd.2.1]
      exact pl_if (fun _ => ⟨rfl, rfl, rfl⟩) (fun _ => trivial)
  · obtain ⟨e1, rfl, rfl⟩ := e
    cases e1
    exact hk
end
