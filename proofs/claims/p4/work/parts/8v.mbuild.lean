/-! The model: a node that is being built. -/
section
variable {P : Nat → Prop} {n n1 n2 v u : Nat} {D D1 D2 : Nat → TD} {K K1 K2 : Nat → List Nat} {dd d' : TD} {F T : Tf}
theorem Vw.hg (hq : Vw P n D K v (nd dd F) n1 D1 K1) (hu : Vw NP n1 D1 K1 u T n2 D2 K2) : Vw P n D K v (nd dd (F ++ T)) n2 D2 (fK K2 v (K2 v ++ [u])) := by
  obtain ⟨a1, a2, a3, a4, a5⟩ := hu
  obtain ⟨b1, b2, b3, b4, b5⟩ := hq
  have ru := a3.rg
  have rv := b3.rg
  have hv : K2 v = K1 v := (a2 v (by omega)).1
  refine ⟨by omega, fun i hi => ?_, ?_, fun j hj hx => ?_, fun j hj1 hj2 x hx => ?_⟩
  · rw [fK_ne (by omega), (a2 i (by omega)).1, (a2 i (by omega)).2]
    exact b2 i hi
  · refine b3.grow (b := n1) (a3.loc (fun y hy1 hy2 => ⟨fK_ne (by omega), rfl⟩)) a1 (fun y hy1 hy2 hy3 => ?_) (by rw [fK_eq, hv]) (fun y hy1 hy2 => (a2 y hy2).2)
    rw [fK_ne hy3]
    exact (a2 y hy2).1
  · by_cases e : j = v
    · rw [e, fK_eq, hv] at hx
      rcases List.mem_append.mp hx with hx | hx
      · rw [e]
        exact b4 v (by omega) hx
      · have := List.mem_singleton.mp hx
        omega
    · rw [fK_ne e] at hx
      by_cases e4 : j < n1
      · rw [(a2 j e4).1] at hx
        exact b4 j e4 hx
      · have := a5 j (by omega) hj v hx
        omega
  · by_cases e : j = v
    · rw [e, fK_eq, hv] at hx
      rcases List.mem_append.mp hx with hx | hx
      · exact b5 v rv.1 rv.2 x hx
      · have := List.mem_singleton.mp hx
        omega
    · rw [fK_ne e] at hx
      by_cases e4 : j < n1
      · rw [(a2 j e4).1] at hx
        exact b5 j hj1 e4 x hx
      · have := a5 j (by omega) hj2 x hx
        omega
theorem Vw.h2 (hv : v < n1) (hu : Vw NP n1 D1 K1 n1 T n2 D2 K2) : Vw (fun j => j = v) n1 D1 (fK K1 v (K1 v ++ [n1])) n1 T n2 D2 (fK K2 v (K2 v ++ [n1])) := by
  obtain ⟨a1, a2, a3, a4, a5⟩ := hu
  have hv2 : K2 v = K1 v := (a2 v hv).1
  refine ⟨a1, fun i hi => ⟨?_, (a2 i hi).2⟩, a3.loc (fun y hy1 hy2 => ⟨fK_ne (by omega), rfl⟩), fun j hj hx => ?_, fun j hj1 hj2 x hx => ?_⟩
  · by_cases e : i = v
    · rw [e, fK_eq, fK_eq, hv2]
    · rw [fK_ne e, fK_ne e]
      exact (a2 i hi).1
  · by_cases e : j = v
    · exact e
    · rw [fK_ne e] at hx
      exact (a4 j hj hx).elim
  · rw [fK_ne (by omega)] at hx
    exact a5 j hj1 hj2 x hx
theorem Vw.bq (hq : Vw P n D K v (nd dd F) n1 D1 K1) (hu : Vw (fun j => j = v) n1 D1 (fK K1 v (K1 v ++ [n1])) n1 T n2 D2 K2) : Vw P n D K v (nd dd (F ++ T)) n2 D2 K2 := by
  obtain ⟨a1, a2, a3, a4, a5⟩ := hu
  obtain ⟨b1, b2, b3, b4, b5⟩ := hq
  have ru := a3.rg
  have rv := b3.rg
  have hv : K2 v = K1 v ++ [n1] := (a2 v (by omega)).1.trans fK_eq
  have ho : ∀ i, i < n1 → i ≠ v → K2 i = K1 i := fun i hi e => (a2 i hi).1.trans (fK_ne e)
  refine ⟨by omega, fun i hi => ⟨(ho i (by omega) (by omega)).trans (b2 i hi).1, (a2 i (by omega)).2.trans (b2 i hi).2⟩, ?_, fun j hj hx => ?_, fun j hj1 hj2 x hx => ?_⟩
  · exact b3.grow (b := n1) a3 a1 (fun y hy1 hy2 hy3 => ho y hy2 hy3) hv (fun y hy1 hy2 => (a2 y hy2).2)
  · by_cases e : j = v
    · rw [e, hv] at hx
      rcases List.mem_append.mp hx with hx | hx
      · rw [e]
        exact b4 v (by omega) hx
      · have := List.mem_singleton.mp hx
        omega
    · by_cases e4 : j < n1
      · rw [ho j e4 e] at hx
        exact b4 j e4 hx
      · have := a5 j (by omega) hj v hx
        omega
  · by_cases e : j = v
    · rw [e, hv] at hx
      rcases List.mem_append.mp hx with hx | hx
      · exact b5 v rv.1 rv.2 x hx
      · have := List.mem_singleton.mp hx
        omega
    · by_cases e4 : j < n1
      · rw [ho j e4 e] at hx
        exact b5 j hj1 e4 x hx
      · have := a5 j (by omega) hj2 x hx
        omega
theorem Vw.sd (hq : Vw P n D K v (nd dd F) n1 D1 K1) : Vw P n D K v (nd d' F) n1 (fD D1 v d') K1 := by
  obtain ⟨b1, b2, b3, b4, b5⟩ := hq
  have rv := b3.rg
  refine ⟨b1, fun i hi => ⟨(b2 i hi).1, ?_⟩, b3.setd (fun y hy => fD_ne hy) fD_eq, b4, b5⟩
  rw [fD_ne (by omega)]
  exact (b2 i hi).2
theorem Vw.nw (hk : ∀ j, j < n → ∀ x, x ∈ K j → x < n) : Vw NP n D K n (nd dd []) (n + 1) (fD D n dd) (fK K n []) := by
  refine ⟨by omega, fun i hi => ⟨fK_ne (by omega), fD_ne (by omega)⟩, ?_, fun j hj hx => ?_, fun j hj1 hj2 x hx => ?_⟩
  · have := Tr.new (K := fK K n []) (D := fD D n dd) (v := n) fK_eq
    rw [fD_eq] at this
    exact this
  · by_cases e : j = n
    · rw [e, fK_eq] at hx
      cases hx
    · rw [fK_ne e] at hx
      have := hk j (by omega) _ hx
      omega
  · rw [show j = n by omega, fK_eq] at hx
    cases hx
end
/-- Wt, with the chains of older nodes left alone -/
def Wn (P : Nat → Prop) (w : Ws) (f : Gh) (n : Nat) (D : Nat → TD) (K : Nat → List Nat) (N : Nat → Int32) (q v : Nat) (T : Tf) (g : a2_G) (r : a2_A) : Prop := ∃ n' D' K', Am w f q n' D' K' g r ∧ Vw P n D K v T n' D' K' ∧ ∀ y, y < n → (r fM_next).2 y = N y
theorem Wn.lf {P : Nat → Prop} {w : Ws} {f : Gh} {n : Nat} {D : Nat → TD} {K : Nat → List Nat} {N : Nat → Int32} {v : Nat} {T : Tf} : LfM w f (fun p => Wn P w f n D K N p v T) := ⟨fun _ _ _ h => by
  obtain ⟨n', D', K', h1, -⟩ := h
  exact h1.1, fun _ _ _ h hp => by
  obtain ⟨n', D', K', h1, h2⟩ := h
  exact ⟨n', D', K', h1.up hp, h2⟩⟩
section
variable {L : Nat} {xs : Nat → Int32} {m d : Nat} {w : Ws} {f : Gh} {p : Nat} {g : a2_G} {r : a2_A} {k : Int32 → a2_G → a2_A → Option fn_Z} {kn : a2_G → a2_A → Option fn_Z} {Q : Option Value → a2_G → a2_A → Prop} {X : Nat → a2_G → a2_A → Prop} {n : Nat} {D : Nat → TD} {K : Nat → List Nat} {P : Nat → Prop}
theorem Am.ml (h : Am w f p n D K g r) : ML r := h.1.1.2.1
/-- a good state, though nodes' rows and the number of nodes have changed -/
theorem Gd.nd {g' : a2_G} {r' : a2_A} (h : Gd w f p g r) (hL : ML r') (hg : ∀ k, k ≠ fM_nodes → g' k = g k) (hn : 1 ≤ (g' fM_nodes).toInt) (hr : ∀ q, q ∉ WEa → r' q = r q) : Gd w f p g' r' := by
  have hF : Fm [fM_nodes] WEa g r g' r' := ⟨fun k hk => hg k (fun e => hk (by rw [e]; exact List.mem_singleton.mpr rfl)), hr⟩
  exact h.fr (h.1.fr (Fn.e hF) hL hn) hF
/-- a node made -/
theorem ml_nm {a1 a2 a3 : Int32} (e0 : Int32) (he : st38 a1 → e0 = 0) (h : Am w f p n D K g r) (hk : ∀ g' r', Wn NP w f n D K (r fM_next).2 p n (nd (a1, a2, a3, e0) []) g' r' → pl (k (Int32.ofNat n) g' r') Q X) (he53 : a1 = 53 → e0 = -1 := by intro h; first | rfl | exact absurd h (by decide)) : pl (fn_v (ev L xs (m + 1) d nM_make [.ref cM, .int a1, .int a2, .int a3] g r) k) Q X := pl_v (zM_make a1 a2 a3 he h.ml h.2 he53) (fun _ _ _ e => e.elim) (fun v g' r' e => by
  obtain ⟨e1, e2, e3, e4, e5, e6⟩ := e
  cases e1
  refine hk g' r' ⟨n + 1, _, _, ⟨h.1.nd e4 (fun k hk => by rw [e3, upd_ne hk]) ?_ e6, e2⟩, Vw.nw (fun j hj x hx => (h.2.2.2.2.kid hj hx).2), fun y hy => by rw [e5, upd_ne (by omega)]⟩
  have := e2.1
  omega)
/-- a finished child hung below what is being built -/
theorem ml_hg {N : Nat → Int32} {v u n1 q : Nat} {D1 : Nat → TD} {K1 : Nat → List Nat} {N1 : Nat → Int32} {dd : TD} {F T : Tf} (hn : 1 ≤ n) (hq : Vw P n D K v (nd dd F) n1 D1 K1) (hN : ∀ y, y < n → N1 y = N y) (hu : Wn NP w f n1 D1 K1 N1 q u T g r) (hk : ∀ g' r', Wn P w f n D K N q v (nd dd (F ++ T)) g' r' → pl (kn g' r') Q X) : pl (fn_n (ev L xs (m + 1) d nM_attach [.ref cM, .int (Int32.ofNat v), .int (Int32.ofNat u)] g r) kn) Q X := by
  obtain ⟨n2, D2, K2, hA, hu, hN2⟩ := hu
  have ru := hu.2.2.1.rg
  have rv := hq.2.2.1.rg
  have h1 := hu.1
  have h2 := hq.1
  refine pl_n (zM_attach (i := v) (c := u) (by omega) (by omega) (by omega) (fun j hj hx => hu.2.2.2.1 j hj hx) hA.ml hA.2) (fun _ _ _ e => e.elim) (fun g' r' e => ?_)
  obtain ⟨-, e2, rfl, e4, e5, e6⟩ := e
  refine hk g' r' ⟨n2, D2, _, ⟨hA.1.nd e4 (fun _ _ => rfl) (by have := hA.2.1; have := hA.2.2.1; omega) e6, e2⟩, hq.hg hu, fun y hy => ?_⟩
  rw [e5 y (by omega) (fun hx => ?_), hN2 y (by omega), hN y hy]
  rw [(hu.2.1 v (by omega)).1] at hx
  have := hq.2.2.2.2 v rv.1 rv.2 y hx
  omega
theorem ml_hf {N : Nat → Int32} {v u n1 q : Nat} {D1 : Nat → TD} {K1 : Nat → List Nat} {N1 : Nat → Int32} {dd : TD} {F T : Tf} (hn : 1 ≤ n) (hq : Vw P n D K v (nd dd F) n1 D1 K1) (hN : ∀ y, y < n → N1 y = N y) (hu : Wn NP w f n1 D1 K1 N1 q u T g r) (hk : ∀ g' r', Wn P w f n D K N q v (nd dd (F ++ T)) g' r' → Fk g r g' r' → pl (kn g' r') Q X) : pl (fn_n (ev L xs (m + 1) d nM_attach [.ref cM, .int (Int32.ofNat v), .int (Int32.ofNat u)] g r) kn) Q X := by
  obtain ⟨n2, D2, K2, hA, hu, hN2⟩ := hu
  have ru := hu.2.2.1.rg
  have rv := hq.2.2.1.rg
  have h1 := hu.1
  have h2 := hq.1
  refine pl_n (zM_attach (i := v) (c := u) (by omega) (by omega) (by omega) (fun j hj hx => hu.2.2.2.1 j hj hx) hA.ml hA.2) (fun _ _ _ e => e.elim) (fun g' r' e => ?_)
  obtain ⟨-, e2, rfl, e4, e5, e6⟩ := e
  refine hk g' r' ⟨n2, D2, _, ⟨hA.1.nd e4 (fun _ _ => rfl) (by have := hA.2.1; have := hA.2.2.1; omega) e6, e2⟩, hq.hg hu, fun y hy => ?_⟩ (Fk.of hA.2 e2 (Nat.le_refl _) (fun _ _ => rfl))
  rw [e5 y (by omega) (fun hx => ?_), hN2 y (by omega), hN y hy]
  rw [(hu.2.1 v (by omega)).1] at hx
  have := hq.2.2.2.2 v rv.1 rv.2 y hx
  omega
/-- hung as soon as it is made -/
theorem ml_h2 {N : Nat → Int32} {v n1 q : Nat} {D1 : Nat → TD} {K1 : Nat → List Nat} {N1 : Nat → Int32} {dd : TD} {F T : Tf} (hn : 1 ≤ n) (hq : Vw P n D K v (nd dd F) n1 D1 K1) (hN : ∀ y, y < n → N1 y = N y) (hu : Wn NP w f n1 D1 K1 N1 q n1 T g r) (hk : ∀ N2 g' r', (∀ y, y < n → N2 y = N y) → Wn (fun j => j = v) w f n1 D1 (fK K1 v (K1 v ++ [n1])) N2 q n1 T g' r' → pl (kn g' r') Q X) : pl (fn_n (ev L xs (m + 1) d nM_attach [.ref cM, .int (Int32.ofNat v), .int (Int32.ofNat n1)] g r) kn) Q X := by
  obtain ⟨n2, D2, K2, hA, hu, hN2⟩ := hu
  have ru := hu.2.2.1.rg
  have rv := hq.2.2.1.rg
  have h1 := hu.1
  have h2 := hq.1
  refine pl_n (zM_attach (i := v) (c := n1) (by omega) (by omega) (by omega) (fun j hj hx => hu.2.2.2.1 j hj hx) hA.ml hA.2) (fun _ _ _ e => e.elim) (fun g' r' e => ?_)
  obtain ⟨-, e2, rfl, e4, e5, e6⟩ := e
  refine hk (r' fM_next).2 g' r' (fun y hy => ?_) ⟨n2, D2, _, ⟨hA.1.nd e4 (fun _ _ => rfl) (by have := hA.2.1; have := hA.2.2.1; omega) e6, e2⟩, Vw.h2 rv.2 hu, fun y hy => rfl⟩
  rw [e5 y (by omega) (fun hx => ?_), hN2 y (by omega), hN y hy]
  rw [(hu.2.1 v (by omega)).1] at hx
  have := hq.2.2.2.2 v rv.1 rv.2 y hx
  omega
theorem Wn.bk {N : Nat → Int32} {v n1 q : Nat} {D1 : Nat → TD} {K1 : Nat → List Nat} {N2 : Nat → Int32} {dd : TD} {F T : Tf} (hq : Vw P n D K v (nd dd F) n1 D1 K1) (hN : ∀ y, y < n → N2 y = N y) (hu : Wn (fun j => j = v) w f n1 D1 (fK K1 v (K1 v ++ [n1])) N2 q n1 T g r) : Wn P w f n D K N q v (nd dd (F ++ T)) g r := by
  obtain ⟨n2, D2, K2, hA, hu, hN2⟩ := hu
  have h2 := hq.1
  exact ⟨n2, D2, K2, hA, hq.bq hu, fun y hy => (hN2 y (by omega)).trans (hN y hy)⟩
end
