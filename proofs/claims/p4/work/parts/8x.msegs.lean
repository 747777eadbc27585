/-! The model: finished trees that wait, one behind the other. -/
def Sgm (K : Nat → List Nat) (D : Nat → TD) : Nat → List (Nat × Tf) → Nat → Prop
  | a, [], b => a = b
  | a, e :: l, b => ∃ m, Tr K D a m e.1 e.2 ∧ Sgm K D m l b
section
variable {K K' : Nat → List Nat} {D D' : Nat → TD}
theorem Sgm.le : ∀ {l : List (Nat × Tf)} {a b : Nat}, Sgm K D a l b → a ≤ b
  | [], _, _, h => Nat.le_of_eq h
  | e :: l, a, b, h => by
    obtain ⟨m, h1, h2⟩ := h
    have := h1.rg
    have := Sgm.le h2
    omega
theorem Sgm.loc : ∀ {l : List (Nat × Tf)} {a b : Nat}, Sgm K D a l b → (∀ y, a ≤ y → y < b → K' y = K y ∧ D' y = D y) → Sgm K' D' a l b
  | [], _, _, h, _ => h
  | e :: l, a, b, h, hy => by
    obtain ⟨m, h1, h2⟩ := h
    have h3 := h1.rg
    have h4 := Sgm.le h2
    exact ⟨m, h1.loc (fun y a1 a2 => hy y a1 (by omega)), Sgm.loc h2 (fun y a1 a2 => hy y (by omega) a2)⟩
theorem Sgm.app : ∀ {l l' : List (Nat × Tf)} {a m b : Nat}, Sgm K D a l m → Sgm K D m l' b → Sgm K D a (l ++ l') b
  | [], [], a, m, b, h, h' => Eq.trans h h'
  | [], e :: l', a, m, b, h, h' => by
    obtain ⟨m', h1, h2⟩ := h'
    have h0 : a = m := h
    exact ⟨m', by rw [h0]; exact h1, h2⟩
  | e :: l, l', a, m, b, h, h' => by
    obtain ⟨m', h1, h2⟩ := h
    exact ⟨m', h1, Sgm.app h2 h'⟩
theorem Sgm.spl : ∀ {l l' : List (Nat × Tf)} {a b : Nat}, Sgm K D a (l ++ l') b → ∃ m, Sgm K D a l m ∧ Sgm K D m l' b
  | [], l', a, b, h => ⟨a, rfl, h⟩
  | e :: l, l', a, b, h => by
    obtain ⟨m', h1, h2⟩ := h
    obtain ⟨m, h3, h4⟩ := Sgm.spl h2
    exact ⟨m, ⟨m', h1, h3⟩, h4⟩
/-- two trees under a node made behind them -/
theorem Tr.two {a m b l u v : Nat} {A U : Tf} (hl : Tr K D a m l A) (hu : Tr K D m b u U) (hv : b = v) (hK : K v = [l, u]) : Tr K D a (v + 1) v (nd (D v) (A ++ U)) := by
  have rl := hl.rg
  have ru := hu.rg
  obtain ⟨G, g1, g2, g3, g4, g5⟩ := hl
  obtain ⟨H, h1, h2, h3, h4, h5⟩ := hu
  refine Tr.fo (G := G ++ H) ?_ ?_ (fun x hx => ?_) ?_ (fun hx => ?_) (by omega) (by rw [List.length_append]; omega)
  · rw [hK]
    exact DnL.app (l := [l]) (DnL.one g1) (DnL.one h1)
  · rw [g2, h2, tr_app]
  · rw [ids_app] at hx
    rcases List.mem_append.mp hx with e | e
    · have := g3 x e
      omega
    · have := h3 x e
      omega
  · rw [ids_app]
    refine List.nodup_append.mpr ⟨g4, h4, fun x hx y hy e => ?_⟩
    have := g3 x hx
    have := h3 y hy
    omega
  · rw [ids_app] at hx
    rcases List.mem_append.mp hx with e | e
    · have := g3 v e
      omega
    · have := h3 v e
      omega
end
/-- finished trees that wait since the state (n, D, K) -/
def Pq (n : Nat) (D : Nat → TD) (K : Nat → List Nat) (l : List (Nat × Tf)) (n' : Nat) (D' : Nat → TD) (K' : Nat → List Nat) : Prop := n ≤ n' ∧ (∀ i, i < n → K' i = K i ∧ D' i = D i) ∧ Sgm K' D' n l n' ∧ (∀ e, e ∈ l → ∀ j, j < n' → e.1 ∉ K' j) ∧ ∀ j, n ≤ j → j < n' → ∀ x, x ∈ K' j → n ≤ x
def Pn (w : Ws) (f : Gh) (n : Nat) (D : Nat → TD) (K : Nat → List Nat) (N : Nat → Int32) (q : Nat) (l : List (Nat × Tf)) (g : a2_G) (r : a2_A) : Prop := ∃ n' D' K', Am w f q n' D' K' g r ∧ Pq n D K l n' D' K' ∧ ∀ y, y < n → (r fM_next).2 y = N y
theorem Pn.lf {w : Ws} {f : Gh} {n : Nat} {D : Nat → TD} {K : Nat → List Nat} {N : Nat → Int32} {l : List (Nat × Tf)} : LfM w f (fun p => Pn w f n D K N p l) := ⟨fun _ _ _ h => by
  obtain ⟨n', D', K', h1, -⟩ := h
  exact h1.1, fun _ _ _ h hp => by
  obtain ⟨n', D', K', h1, h2⟩ := h
  exact ⟨n', D', K', h1.up hp, h2⟩⟩
section
variable {L : Nat} {xs : Nat → Int32} {m d : Nat} {w : Ws} {f : Gh} {p : Nat} {g : a2_G} {r : a2_A} {k : Int32 → a2_G → a2_A → Option fn_Z} {kn : a2_G → a2_A → Option fn_Z} {Q : Option Value → a2_G → a2_A → Prop} {X : Nat → a2_G → a2_A → Prop} {n : Nat} {D : Nat → TD} {K : Nat → List Nat} {N : Nat → Int32} {l : List (Nat × Tf)}
theorem Pn.one {v : Nat} {T : Tf} (h : Pn w f n D K N p [(v, T)] g r) : Wn NP w f n D K N p v T g r := by
  obtain ⟨n', D', K', hA, ⟨h1, h2, ⟨m', h3, h4⟩, h5, h6⟩, hN⟩ := h
  exact ⟨n', D', K', hA, ⟨h1, h2, (show m' = n' from h4) ▸ h3, fun j hj hx => h5 _ List.mem_cons_self j hj hx, h6⟩, hN⟩
theorem Pn.nil (h : Am w f p n D K g r) : Pn w f n D K (r fM_next).2 p [] g r := ⟨n, D, K, h, ⟨Nat.le_refl _, fun _ _ => ⟨rfl, rfl⟩, rfl, (fun e he => nomatch he), fun j h1 h2 => by omega⟩, fun _ _ => rfl⟩
/-- one more -/
theorem Pq.snoc {n1 n2 v : Nat} {D1 D2 : Nat → TD} {K1 K2 : Nat → List Nat} {T : Tf} (h : Pq n D K l n1 D1 K1) (hv : Vw NP n1 D1 K1 v T n2 D2 K2) : Pq n D K (l ++ [(v, T)]) n2 D2 K2 := by
  obtain ⟨a1, a2, a3, a4, a5⟩ := h
  obtain ⟨b1, b2, b3, b4, b5⟩ := hv
  have rv := b3.rg
  refine ⟨by omega, fun i hi => ?_, ?_, fun e he j hj hx => ?_, fun j h1 h2 x hx => ?_⟩
  · rw [(b2 i (by omega)).1, (b2 i (by omega)).2]
    exact a2 i hi
  · exact (a3.loc (fun y h1 h2 => b2 y h2)).app ⟨n2, b3, rfl⟩
  · rcases List.mem_append.mp he with he | he
    · have ge : ∃ t, t = e.1 ∧ t < n1 := by
        clear a4
        have : ∀ {l : List (Nat × Tf)} {a b : Nat}, Sgm K1 D1 a l b → e ∈ l → e.1 < b := by
          intro l
          induction l with
          | nil => exact fun _ hm => nomatch hm
          | cons y l ih =>
            intro a b hs hm
            obtain ⟨m', s1, s2⟩ := hs
            rcases List.mem_cons.mp hm with rfl | hm
            · have := s1.rg
              have := Sgm.le s2
              omega
            · exact ih s2 hm
        exact ⟨e.1, rfl, this a3 he⟩
      obtain ⟨t, rfl, ht⟩ := ge
      by_cases hj1 : j < n1
      · rw [(b2 j hj1).1] at hx
        exact a4 e he j hj1 hx
      · have := b5 j (by omega) hj _ hx
        omega
    · rw [List.mem_singleton.mp he] at hx
      exact b4 j hj hx
  · by_cases hj1 : j < n1
    · rw [(b2 j hj1).1] at hx
      exact a5 j h1 hj1 x hx
    · have := b5 j (by omega) h2 x hx
      omega
theorem Pn.snoc {n1 v q : Nat} {D1 : Nat → TD} {K1 : Nat → List Nat} {N1 : Nat → Int32} {T : Tf} (h : Pq n D K l n1 D1 K1) (hN : ∀ y, y < n → N1 y = N y) (hv : Wn NP w f n1 D1 K1 N1 q v T g r) : Pn w f n D K N q (l ++ [(v, T)]) g r := by
  obtain ⟨n2, D2, K2, hA, hq, hN2⟩ := hv
  have h1 := h.1
  exact ⟨n2, D2, K2, hA, h.snoc hq, fun y hy => (hN2 y (by omega)).trans (hN y hy)⟩
def jT (s : Int32) (A U : Tf) : Tf := if s = 0 then U else nd (55, s, pT A, -1) (A ++ U)
theorem zM_joined {s : Int32} {a u : Nat} {A U : Tf} (hn : 1 ≤ n) (hs : s ≠ 0) (h : Pn w f n D K N p (l ++ [(a, A), (u, U)]) g r) (hk : ∀ v g' r', Pn w f n D K N p (l ++ [(v, jT s A U)]) g' r' → (∀ q, q ∉ WEa → r' q = r q) → (∀ k, k ≠ fM_nodes → g' k = g k) → pl (k (Int32.ofNat v) g' r') Q X) : pl (fn_v (ev L xs (m + 1) d nM_joined [.ref cM, .int (Int32.ofNat a), .int s, .int (Int32.ofNat u)] g r) k) Q X := by
  refine pl_v (Q1 := fun o g' r' => (∃ v, o = some (.int (Int32.ofNat v)) ∧ Pn w f n D K N p (l ++ [(v, jT s A U)]) g' r') ∧ (∀ q, q ∉ WEa → r' q = r q) ∧ ∀ k, k ≠ fM_nodes → g' k = g k) (X1 := kN) ?_ (fun _ _ _ e => e.elim) (fun x g' r' e => ?_)
  · cases d with
    | zero => trivial
    | succ d =>
      rw [qM_joined]
      obtain ⟨n1, D1, K1, hA, ⟨a1, a2, a3, a4, a5⟩, hN⟩ := h
      obtain ⟨m0, s1, s2⟩ := a3.spl
      obtain ⟨m1, t1, m2, t2, t3⟩ := s2
      have ra := t1.rg
      have ru := t2.rg
      have hs1 := s1.le
      have h8 := hA.2.2.2.1
      have t3' : m2 = n1 := t3
      refine pl_pos (by rw [c2_ne]; exact hs) ?_
      refine pl_if (fun _ => ?_) (fun _ => trivial)
      have ep : (r fM_place).2 (Int32.ofNat a).toNatClampNeg = pT A := by
        rw [tn_at (on_eq (by omega)), t1.pT]
        exact (hA.2.2.2.2.1 a (by omega)).2.2.1
      rw [ep]
      refine pl_v (zM_make 55 s (pT A) (e0 := -1) (fun q => absurd q.2 (by decide)) hA.ml hA.2) (fun _ _ _ e => e) (fun v0 g1 r1 e => ?_)
      obtain ⟨e1, e2, e3, e4, e5, e6⟩ := e
      cases e1
      have hkid : ∀ {j x}, j < n1 → x ∈ K1 j → x < n1 := fun hj hx => (hA.2.2.2.2.kid hj hx).2
      have hda : ∀ j, j < n1 + 1 → a ∉ fK K1 n1 [] j := fun j hj hx => by
        by_cases e : j = n1
        · rw [e, fK_eq] at hx
          cases hx
        · rw [fK_ne e] at hx
          exact a4 (a, A) (List.mem_append_right _ List.mem_cons_self) j (by omega) hx
      refine pl_n (zM_attach (i := n1) (c := a) (by omega) (by omega) (by omega) hda e4 e2) (fun _ _ _ e => e) (fun g2 r2 e => ?_)
      obtain ⟨-, f2, rfl, f4, f5, f6⟩ := e
      have hdu : ∀ j, j < n1 + 1 → u ∉ fK (fK K1 n1 []) n1 (fK K1 n1 [] n1 ++ [a]) j := fun j hj hx => by
        by_cases e : j = n1
        · rw [e, fK_eq, fK_eq] at hx
          have := List.mem_singleton.mp hx
          omega
        · rw [fK_ne e, fK_ne e] at hx
          exact a4 (u, U) (List.mem_append_right _ (List.mem_cons_of_mem _ List.mem_cons_self)) j (by omega) hx
      refine pl_n (zM_attach (i := n1) (c := u) (by omega) (by omega) (by omega) hdu f4 f2) (fun _ _ _ e => e) (fun g3 r3 e => ?_)
      obtain ⟨-, k2, rfl, k4, k5, k6⟩ := e
      have hK3 : ∀ y, y ≠ n1 → fK (fK (fK K1 n1 []) n1 (fK K1 n1 [] n1 ++ [a])) n1 (fK (fK K1 n1 []) n1 (fK K1 n1 [] n1 ++ [a]) n1 ++ [u]) y = K1 y := fun y hy => by
        rw [fK_ne hy, fK_ne hy, fK_ne hy]
      have hKv : fK (fK (fK K1 n1 []) n1 (fK K1 n1 [] n1 ++ [a])) n1 (fK (fK K1 n1 []) n1 (fK K1 n1 [] n1 ++ [a]) n1 ++ [u]) n1 = [a, u] := by
        rw [fK_eq, fK_eq, fK_eq]
        rfl
      have hG : Gd w f p g3 r3 := ((hA.1.nd e4 (fun k hk => by rw [e3, upd_ne hk]) (by have := e2.1; omega) e6).nd f4 (fun _ _ => rfl) (by have := e2.1; omega) f6).nd k4 (fun _ _ => rfl) (by have := e2.1; omega) k6
      generalize fK (fK (fK K1 n1 []) n1 (fK K1 n1 [] n1 ++ [a])) n1 (fK (fK K1 n1 []) n1 (fK K1 n1 [] n1 ++ [a]) n1 ++ [u]) = K3 at *
      refine ⟨?_, fun q hq => (k6 q hq).trans ((f6 q hq).trans (e6 q hq)), fun k hk => by rw [e3, upd_ne hk]⟩
      refine ⟨n1, rfl, n1 + 1, fD D1 n1 (55, s, pT A, -1), K3, ⟨hG, k2⟩, ⟨by omega, fun i hi => ?_, ?_, fun e he j hj hx => ?_, fun j h1 h2 x hx => ?_⟩, fun y hy => ?_⟩
      · rw [hK3 i (by omega), fD_ne (by omega)]
        exact a2 i hi
      · refine (s1.loc (fun y h1 h2 => ⟨hK3 y (by omega), fD_ne (by omega)⟩)).app ⟨n1 + 1, ?_, rfl⟩
        have q := Tr.two (K := K3) (D := fD D1 n1 (55, s, pT A, -1)) (v := n1) (t1.loc (fun y h1 h2 => ⟨hK3 y (by omega), fD_ne (by omega)⟩)) (t2.loc (fun y h1 h2 => ⟨hK3 y (by omega), fD_ne (by omega)⟩)) t3 hKv
        rw [fD_eq] at q
        unfold jT
        rw [if_neg hs]
        exact q
      · by_cases ej : j = n1
        · rw [ej, hKv] at hx
          rcases List.mem_append.mp he with he | he
          · have : ∀ {l : List (Nat × Tf)} {a b : Nat}, Sgm K1 D1 a l b → e ∈ l → e.1 < b := by
              intro l
              induction l with
              | nil => exact fun _ hm => nomatch hm
              | cons y l ih =>
                intro a b hs hm
                obtain ⟨m', s1, s2⟩ := hs
                rcases List.mem_cons.mp hm with rfl | hm
                · have := s1.rg
                  have := Sgm.le s2
                  omega
                · exact ih s2 hm
            have := this s1 he
            rcases List.mem_cons.mp hx with hx | hx
            · omega
            · have := List.mem_singleton.mp hx
              omega
          · rw [List.mem_singleton.mp he] at hx
            have hx' : n1 ∈ [a, u] := hx
            rcases List.mem_cons.mp hx' with hx | hx
            · have : m2 = n1 := t3
              omega
            · have := List.mem_singleton.mp hx
              have : m2 = n1 := t3
              omega
        · rw [hK3 j ej] at hx
          rcases List.mem_append.mp he with he | he
          · exact a4 e (List.mem_append_left _ he) j (by omega) hx
          · rw [List.mem_singleton.mp he] at hx
            have hx' : n1 ∈ K1 j := hx
            have := hkid (by omega : j < n1) hx'
            omega
      · by_cases ej : j = n1
        · rw [ej, hKv] at hx
          rcases List.mem_cons.mp hx with hx | hx
          · omega
          · have := List.mem_singleton.mp hx
            omega
        · rw [hK3 j ej] at hx
          exact a5 j h1 (by omega) x hx
      · have hny : y ≠ n1 := by omega
        rw [k5 y (by omega) (fun hx => ?_), f5 y (by omega) (fun hx => ?_), e5, upd_ne hny]
        · exact hN y hy
        · rw [fK_eq] at hx
          cases hx
        · rw [fK_eq, fK_eq] at hx
          have := List.mem_singleton.mp hx
          omega
  · obtain ⟨⟨v, e1, e2⟩, e3, e4⟩ := e
    cases e1
    exact hk v g' r' e2 e3 e4
end
