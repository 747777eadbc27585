/-! A node that is being built. -/
theorem upT_inj {F G : Tf} (h : upT F = upT G) : F = G := by
  unfold upT at h
  refine List.map_inj_right (fun x y e => ?_) |>.mp h
  have e1 := congrArg Prod.fst e
  have e2 := congrArg Prod.snd e
  dsimp only at e1 e2
  exact Prod.ext (by omega) e2
theorem nd_inj {d d' : TD} {F F' : Tf} (h : nd d F = nd d' F') : d = d' ∧ F = F' := by
  unfold nd at h
  injection h with h1 h2
  exact ⟨congrArg Prod.snd h1, upT_inj h2⟩
section
variable {K K' : Nat → List Nat} {D D' : Nat → TD} {a b c v u : Nat} {T : Tf} {d d' : TD} {F : Tf}
theorem Tr.un (h : Tr K D a b v T) : ∃ G, DnL K (K v) G ∧ T = nd (D v) (tr D G) ∧ (∀ x, x ∈ ids G → a ≤ x ∧ x < b) ∧ (ids G).Nodup ∧ v ∉ ids G ∧ a ≤ v ∧ v < b ∧ a + G.length + 1 = b := by
  obtain ⟨F, ⟨k, h1⟩, h2, h3, h4, h9⟩ := h
  cases k with
  | zero => cases h1
  | succ k =>
    obtain ⟨G, g1, g2⟩ := po_succ.mp h1
    have e : ids F = v :: ids G := by
      rw [g2]
      show v :: ids (up1 G) = _
      rw [up1_ids]
    rw [e] at h3 h4
    obtain ⟨n1, n2⟩ := List.nodup_cons.mp h4
    refine ⟨G, ⟨k, g1⟩, ?_, fun x hx => h3 x (List.mem_cons_of_mem _ hx), n2, n1, (h3 v List.mem_cons_self).1, (h3 v List.mem_cons_self).2, by rw [g2, List.length_cons, up1_len] at h9; omega⟩
    rw [h2, g2]
    show (0, D v) :: tr D (up1 G) = _
    rw [trf_up]
    rfl
theorem Tr.fo {G : Fo} (h1 : DnL K (K v) G) (h2 : T = nd (D v) (tr D G)) (h3 : ∀ x, x ∈ ids G → a ≤ x ∧ x < b) (h4 : (ids G).Nodup) (h5 : v ∉ ids G) (h6 : a ≤ v) (h7 : v < b ∧ a + G.length + 1 = b) : Tr K D a b v T := by
  have e : ids ((0, v) :: up1 G) = v :: ids G := by
    show v :: ids (up1 G) = _
    rw [up1_ids]
  refine ⟨(0, v) :: up1 G, Dn.node h1, ?_, fun x hx => ?_, ?_, by rw [List.length_cons, up1_len]; omega⟩
  · rw [h2]
    show _ = (0, D v) :: tr D (up1 G)
    rw [trf_up]
    rfl
  · rw [e] at hx
    rcases List.mem_cons.mp hx with rfl | hx
    · exact ⟨h6, h7.1⟩
    · exact h3 x hx
  · rw [e]
    exact List.nodup_cons.mpr ⟨h5, h4⟩
theorem Tr.rg (h : Tr K D a b v T) : a ≤ v ∧ v < b := by
  obtain ⟨G, -, -, -, -, -, h, h', -⟩ := h.un
  exact ⟨h, h'⟩
theorem Tr.da (h : Tr K D a b v (nd d F)) : D v = d := by
  obtain ⟨G, -, h, -⟩ := h.un
  exact (nd_inj h).1.symm
theorem Tr.pT (h : Tr K D a b v T) : pT T = (D v).2.2.1 := by
  obtain ⟨G, -, h, -⟩ := h.un
  rw [h]
  rfl
theorem Tr.new (h : K v = []) : Tr K D v (v + 1) v (nd (D v) []) := Tr.fo (G := []) (by rw [h]; exact DnL.nil) rfl (fun x hx => nomatch hx) List.nodup_nil (fun hx => nomatch hx) (Nat.le_refl _) ⟨by omega, rfl⟩
/-- one more child, lying behind -/
theorem Tr.grow (h : Tr K D a b v (nd d F)) (hu : Tr K' D' b c u T) (hbc : b ≤ c) (hk : ∀ y, a ≤ y → y < b → y ≠ v → K' y = K y) (hkv : K' v = K v ++ [u]) (hD : ∀ y, a ≤ y → y < b → D' y = D y) : Tr K' D' a c v (nd d (F ++ T)) := by
  obtain ⟨G, h1, h2, h3, h4, h5, h6, h7⟩ := h.un
  obtain ⟨e1, e2⟩ := nd_inj h2
  obtain ⟨U, u1, u2, u3, u4, u5⟩ := hu
  have g1 : DnL K' (K v) G := h1.loc (fun y hy => hk y (h3 y hy).1 (h3 y hy).2 (fun e => h5 (e ▸ hy)))
  refine Tr.fo (G := G ++ U) ?_ ?_ (fun x hx => ?_) ?_ (fun hx => ?_) h6 (by rw [List.length_append]; omega)
  · rw [hkv]
    exact g1.app (DnL.one u1)
  · rw [hD v h6 h7.1, e1, e2, u2, tr_app, tr_loc (D := D) (D' := D') (F := G) (fun y hy => hD y (h3 y hy).1 (h3 y hy).2)]
  · rw [ids_app] at hx
    rcases List.mem_append.mp hx with e | e
    · have := h3 x e
      omega
    · have := u3 x e
      omega
  · rw [ids_app]
    refine List.nodup_append.mpr ⟨h4, u4, fun x hx y hy e => ?_⟩
    have := h3 x hx
    have := u3 y hy
    omega
  · rw [ids_app] at hx
    rcases List.mem_append.mp hx with e | e
    · exact h5 e
    · have := u3 v e
      omega
theorem Tr.setd (h : Tr K D a b v (nd d F)) (hD : ∀ y, y ≠ v → D' y = D y) (hv : D' v = d') : Tr K D' a b v (nd d' F) := by
  obtain ⟨G, h1, h2, h3, h4, h5, h6, h7⟩ := h.un
  refine Tr.fo (G := G) h1 ?_ h3 h4 h5 h6 h7
  rw [hv, (nd_inj h2).2, tr_loc (D := D) (D' := D') (F := G) (fun y hy => hD y (fun e => h5 (e ▸ hy)))]
end
def At (w : Ws) (f : Gh) (p n : Nat) (D : Nat → TD) (K : Nat → List Nat) (g : a2_G) (r : a2_A) : Prop := Ro w f p g r ∧ Rc n D K g r
/-- what was made since: a node v with what lies below it, hanging at most where P says -/
def Vq (P : Nat → Prop) (n : Nat) (D : Nat → TD) (K : Nat → List Nat) (v : Nat) (T : Tf) (n' : Nat) (D' : Nat → TD) (K' : Nat → List Nat) : Prop := (n ≤ n' ∧ 1 ≤ n) ∧ (∀ i, i < n → K' i = K i ∧ D' i = D i) ∧ Tr K' D' n n' v T ∧ (∀ j, j < n' → v ∈ K' j → P j) ∧ ∀ j, n ≤ j → j < n' → ∀ x, x ∈ K' j → n ≤ x
def Vt (P : Nat → Prop) (w : Ws) (f : Gh) (n : Nat) (D : Nat → TD) (K : Nat → List Nat) (q v : Nat) (T : Tf) (g : a2_G) (r : a2_A) : Prop := ∃ n' D' K', At w f q n' D' K' g r ∧ Vq P n D K v T n' D' K'
def NP : Nat → Prop := fun _ => False
def Fxx (g g' : a2_G) : Prop := g' fX_subject = g fX_subject ∧ g' fX_latestHow = g fX_latestHow
theorem Fxx.t {g g' g'' : a2_G} (h : Fxx g g') (h' : Fxx g' g'') : Fxx g g'' := ⟨h'.1.trans h.1, h'.2.trans h.2⟩
theorem Fxx.rf {g : a2_G} : Fxx g g := ⟨rfl, rfl⟩
theorem Fxx.c {g g' : a2_G} {r r' : a2_A} (h : cpF cpTT g r g' r') : Fxx g g' := ⟨h.1 _ (by unfold cpTT; decide), h.1 _ (by unfold cpTT; decide)⟩
def kYT : Nat → a2_G → a2_A → Prop := fun _ _ _ => True
theorem Rc.tm {n : Nat} {D : Nat → TD} {K : Nat → List Nat} {g : a2_G} {r : a2_A} (h : Rc n D K g r) : Tm g r := by
  obtain ⟨c1, c2, c3, c4, -⟩ := h
  exact ⟨by omega, by omega, by omega, c4⟩
theorem At.ru {w : Ws} {f : Gh} {p n : Nat} {D : Nat → TD} {K : Nat → List Nat} {g : a2_G} {r : a2_A} (h : At w f p n D K g r) : Ru w f p g r := ⟨h.1, h.2.tm⟩
theorem At.up {w : Ws} {f : Gh} {p n : Nat} {D : Nat → TD} {K : Nat → List Nat} {g : a2_G} {r : a2_A} (h : At w f p n D K g r) (hp : p < w.2.2) : At w f (p + 1) n D K (upd g fR_at (g fR_at + 1)) r := ⟨h.1.up hp, h.2⟩
/-- states that go along with the reading -/
def Lf (w : Ws) (f : Gh) (S : Nat → a2_G → a2_A → Prop) : Prop := (∀ p g r, S p g r → Ru w f p g r) ∧ ∀ p g r, S p g r → p < w.2.2 → S (p + 1) (upd g fR_at (g fR_at + 1)) r
theorem At.lf {w : Ws} {f : Gh} {n : Nat} {D : Nat → TD} {K : Nat → List Nat} : Lf w f (fun p => At w f p n D K) := ⟨fun _ _ _ h => h.ru, fun _ _ _ h hp => h.up hp⟩
theorem Vt.lf {P : Nat → Prop} {w : Ws} {f : Gh} {n : Nat} {D : Nat → TD} {K : Nat → List Nat} {v : Nat} {T : Tf} : Lf w f (fun p => Vt P w f n D K p v T) := ⟨fun _ _ _ h => by
  obtain ⟨n', D', K', h1, -⟩ := h
  exact h1.ru, fun _ _ _ h hp => by
  obtain ⟨n', D', K', h1, h2⟩ := h
  exact ⟨n', D', K', h1.up hp, h2⟩⟩
section
variable {L : Nat} {xs : Nat → Int32} {m d : Nat} {w : Ws} {f : Gh} {p : Nat} {g : a2_G} {r : a2_A} {k : Int32 → a2_G → a2_A → Option fn_Z} {kn : a2_G → a2_A → Option fn_Z} {Q : Option Value → a2_G → a2_A → Prop} {S : Nat → a2_G → a2_A → Prop}
theorem pl_kYT {z : Option fn_Z} {X : Nat → a2_G → a2_A → Prop} (h : pl z Q X) : pl z Q kYT := pl_mono h (fun _ _ _ e => e) (fun _ _ _ _ => trivial)
theorem rl_ad (hS : Lf w f S) (h : S p g r) (hp : p < w.2.2) (hk : ∀ g', S (p + 1) g' r → Fxx g g' → pl (kn g' r) Q kYT) : pl (fn_n (ev L xs (m + 1) d nR_advance [.ref cR] g r) kn) Q kYT := pl_n (xR_advance L xs (hS.1 p g r h).1) (fun _ _ _ e => e.elim) (fun g' r' e => by
  obtain ⟨-, rfl, ⟨-, rfl⟩ | ⟨e, -⟩⟩ := e
  · exact hk _ (hS.2 p g _ h hp) Fxx.rf
  · exact absurd hp e)
theorem rl_sk {a : Int32} (hS : Lf w f S) (h : S p g r) (h1 : ww w p a = true → ∀ g', S (p + 1) g' r → Fxx g g' → pl (k 1 g' r) Q kYT) (h0 : ww w p a = false → pl (k 0 g r) Q kYT) : pl (fn_v (ev L xs (m + 1) d nR_skip [.ref cR, .int a] g r) k) Q kYT := pl_v (xR_skip L xs a (hS.1 p g r h).1) (fun _ _ _ e => e.elim) (fun v g' r' e => by
  obtain ⟨rfl, ⟨e, e2, rfl⟩ | ⟨e, e2, rfl⟩⟩ := e
  · cases e2
    exact h1 e _ (hS.2 p g _ h (ww_iff.mp e).1) Fxx.rf
  · cases e2
    exact h0 e)
theorem rl_mb {a : Int32} (hS : Lf w f S) (h : S p g r) (hk : ∀ v g', S (sk (ww w p a) p) g' r → Fxx g g' → pl (k v g' r) Q kYT) : pl (fn_v (ev L xs (m + 1) d nR_skip [.ref cR, .int a] g r) k) Q kYT := rl_sk hS h (fun e g' h' x' => hk 1 g' (by rw [e]; exact h') x') (fun e => hk 0 g (by rw [e]; exact h) Fxx.rf)
theorem rl_rf {a : Int32} (h : Ru w f p g r) : pl (fn_n (ev L xs (m + 1) d nR_refuse [.ref cR, .int a] g r) kn) Q kYT := pl_n (xR_refuse a h) (fun x g' r' e => trivial) (fun _ _ e => e.elim)
theorem rl_rq {a : Int32} (hS : Lf w f S) (h : S p g r) (hk : ww w p a = true → ∀ g', S (p + 1) g' r → Fxx g g' → pl (kn g' r) Q kYT) : pl (fn_n (ev L xs (m + 1) d nR_require [.ref cR, .int a] g r) kn) Q kYT := by
  refine pl_n (Q1 := fun o g' r' => r' = r ∧ ww w p a = true ∧ S (p + 1) g' r ∧ Fxx g g') (X1 := kYT) ?_ (fun _ _ _ _ => trivial) (fun g' r' e => ?_)
  · cases d with
    | zero => trivial
    | succ d =>
      rw [qR_require]
      refine rl_sk hS h (fun e g' h' x' => pl_pos (by decide) ⟨rfl, e, h', x'⟩) (fun e => pl_neg (by decide) ?_)
      exact rl_rf (hS.1 p g r h)
  · obtain ⟨rfl, e1, e2, e3⟩ := e
    exact hk e1 g' e2 e3
theorem rl_rk {a : Int32} (hS : Lf w f S) (h : S p g r) (hk : wk w p a = true → ∀ g', S (p + 1) g' r → Fxx g g' → pl (k (w.2.1 p) g' r) Q kYT) : pl (fn_v (ev L xs (m + 1) d nR_requireKind [.ref cR, .int a] g r) k) Q kYT := by
  refine pl_v (Q1 := fun o g' r' => o = some (.int (w.2.1 p)) ∧ r' = r ∧ wk w p a = true ∧ S (p + 1) g' r ∧ Fxx g g') (X1 := kYT) ?_ (fun _ _ _ _ => trivial) (fun v g' r' e => ?_)
  · cases d with
    | zero => trivial
    | succ d =>
      rw [qR_requireKind]
      refine pl_u (xR_isKind L xs a (hS.1 p g r h).1) (fun e => ?_) (fun e => ?_)
      · refine pl_pos (by decide) ?_
        unfold BR_requireKind_13
        refine pl_e (xR_value L xs (hS.1 p g r h).1) ?_
        have hp := (wk_iff.mp e).1
        rw [if_pos hp]
        exact rl_ad hS h hp (fun g' h' q => ⟨rfl, rfl, e, h', q⟩)
      · refine pl_neg (by decide) ?_
        exact rl_rf (hS.1 p g r h)
  · obtain ⟨e0, rfl, e1, e2, e3⟩ := e
    cases e0
    exact hk e1 g' e2 e3
theorem rl_rs {a : Int32} (hS : Lf w f S) (h : S p g r) (hk : wg w p a = true → ∀ g', S (p + 1) g' r → Fxx g g' → pl (kn g' r) Q kYT) : pl (fn_n (ev L xs (m + 1) d nR_requireSign [.ref cR, .int a] g r) kn) Q kYT := by
  refine pl_n (Q1 := fun o g' r' => r' = r ∧ wg w p a = true ∧ S (p + 1) g' r ∧ Fxx g g') (X1 := kYT) ?_ (fun _ _ _ _ => trivial) (fun g' r' e => ?_)
  · cases d with
    | zero => trivial
    | succ d =>
      rw [qR_requireSign]
      refine pl_u (xR_isSign L xs a 0 (j := 0) rfl (by decide) (hS.1 p g r h).1) (fun e => ?_) (fun e => ?_)
      · refine pl_pos (by decide) ?_
        unfold BR_requireSign_14
        exact rl_ad hS h (wg_iff.mp e).1 (fun g' h' q => ⟨rfl, e, h', q⟩)
      · refine pl_neg (by decide) ?_
        exact rl_rf (hS.1 p g r h)
  · obtain ⟨rfl, e1, e2, e3⟩ := e
    exact hk e1 g' e2 e3
theorem Ro.pla (h : Ro w f p g r) : g fR_at = Int32.ofNat p := Int32.toInt_inj.mp (by rw [h.2.2.2.1, on_eq (by have := h.2.2.2.2.1; have := h.2.2.2.2.2.1; omega)])
variable {n : Nat} {D : Nat → TD} {K : Nat → List Nat}
/-- a node made -/
theorem rl_mk {a1 a2 a3 : Int32} (e0 : Int32) (he : False ∨ e0 = -1) (h : At w f p n D K g r) (hk : ∀ g' r', Vt NP w f n D K p n (nd (a1, a2, a3, e0) []) g' r' → Fxx g g' → pl (k (Int32.ofNat n) g' r') Q kYT) : pl (fn_v (ev L xs (m + 1) d nT_make [.ref cT, .int a1, .int a2, .int a3] g r) k) Q kYT := pl_v (yT_make L xs a1 a2 a3 h.2 he) (fun _ _ _ _ => trivial) (fun v g' r' e => by
  obtain ⟨⟨e1, e2⟩, e3⟩ := e
  cases e1
  refine hk g' r' ⟨n + 1, _, _, ⟨h.1.t e3, e2⟩, ⟨Nat.le_succ _, h.2.2.2.1⟩, fun i hi => ⟨fK_ne (by omega), fD_ne (by omega)⟩, ?_, fun j hj hx => ?_, fun j hj1 hj2 x hx => ?_⟩ (Fxx.c e3)
  · have := Tr.new (K := fK K n []) (D := fD D n (a1, a2, a3, e0)) (v := n) fK_eq
    rw [fD_eq] at this
    exact this
  · by_cases e : j = n
    · rw [e, fK_eq] at hx
      cases hx
    · rw [fK_ne e] at hx
      have := h.2.2.2.2.2.kid (by omega : j < n) hx
      omega
  · rw [show j = n by omega, fK_eq] at hx
    cases hx)
/-- a child hung below what is being built -/
theorem rl_hg {P : Nat → Prop} {v u n1 q : Nat} {D1 : Nat → TD} {K1 : Nat → List Nat} {dd : TD} {F T : Tf} (hq : Vq P n D K v (nd dd F) n1 D1 K1) (hu : Vt NP w f n1 D1 K1 q u T g r) (hk : ∀ g' r', Vt P w f n D K q v (nd dd (F ++ T)) g' r' → Fxx g g' → pl (kn g' r') Q kYT) : pl (fn_n (ev L xs (m + 1) d nT_append [.ref cT, .int (Int32.ofNat v), .int (Int32.ofNat u)] g r) kn) Q kYT := by
  obtain ⟨n2, D2, K2, hA, a1, a2, a3, a4, a5⟩ := hu
  obtain ⟨b1, b2, b3, b4, b5⟩ := hq
  have ru := a3.rg
  have rv := b3.rg
  refine pl_n (yT_append L xs hA.2 (i := v) (c := u) (by omega) (by omega) (by omega) rfl rfl (fun j hj hx => a4 j hj hx)) (fun _ _ _ _ => trivial) (fun g' r' e => ?_)
  obtain ⟨⟨-, e2⟩, e3⟩ := e
  have hv : K2 v = K1 v := (a2 v (by omega)).1
  rw [hv] at e2
  refine hk g' r' ⟨n2, D2, _, ⟨hA.1.t e3, e2⟩, by omega, fun i hi => ?_, ?_, fun j hj hx => ?_, fun j hj1 hj2 x hx => ?_⟩ (Fxx.c e3)
  · rw [fK_ne (by omega), (a2 i (by omega)).1, (a2 i (by omega)).2]
    exact b2 i hi
  · refine b3.grow (b := n1) (a3.loc (fun y hy1 hy2 => ⟨fK_ne (by omega), rfl⟩)) a1.1 (fun y hy1 hy2 hy3 => ?_) fK_eq (fun y hy1 hy2 => (a2 y hy2).2)
    rw [fK_ne hy3]
    exact (a2 y hy2).1
  · by_cases e : j = v
    · rw [e, fK_eq] at hx
      rcases List.mem_append.mp hx with hx | hx
      · rw [e]
        exact b4 v (by omega) hx
      · have := List.mem_singleton.mp hx
        omega
    · rw [fK_ne e] at hx
      by_cases e4 : j < n1
      · rw [(a2 j e4).1] at hx
        exact b4 j e4 hx
      · have := a5 j (by omega) hj v hx
        omega
  · by_cases e : j = v
    · rw [e, fK_eq] at hx
      rcases List.mem_append.mp hx with hx | hx
      · exact b5 v rv.1 rv.2 x hx
      · have := List.mem_singleton.mp hx
        omega
    · rw [fK_ne e] at hx
      by_cases e4 : j < n1
      · rw [(a2 j e4).1] at hx
        exact b5 j hj1 e4 x hx
      · have := a5 j (by omega) hj2 x hx
        omega
/-- a node hung below what is being built as soon as it is made -/
theorem rl_h2 {P : Nat → Prop} {v n1 q : Nat} {D1 : Nat → TD} {K1 : Nat → List Nat} {dd : TD} {F T : Tf} (hq : Vq P n D K v (nd dd F) n1 D1 K1) (hu : Vt NP w f n1 D1 K1 q n1 T g r) (hk : ∀ g' r', Vt (fun j => j = v) w f n1 D1 (fK K1 v (K1 v ++ [n1])) q n1 T g' r' → Fxx g g' → pl (kn g' r') Q kYT) : pl (fn_n (ev L xs (m + 1) d nT_append [.ref cT, .int (Int32.ofNat v), .int (Int32.ofNat n1)] g r) kn) Q kYT := by
  obtain ⟨n2, D2, K2, hA, a1, a2, a3, a4, a5⟩ := hu
  obtain ⟨b1, b2, b3, b4, b5⟩ := hq
  have ru := a3.rg
  have rv := b3.rg
  refine pl_n (yT_append L xs hA.2 (i := v) (c := n1) (by omega) (by omega) (by omega) rfl rfl (fun j hj hx => a4 j hj hx)) (fun _ _ _ _ => trivial) (fun g' r' e => ?_)
  obtain ⟨⟨-, e2⟩, e3⟩ := e
  have hv : K2 v = K1 v := (a2 v (by omega)).1
  rw [hv] at e2
  refine hk g' r' ⟨n2, D2, _, ⟨hA.1.t e3, e2⟩, a1, fun i hi => ?_, ?_, fun j hj hx => ?_, fun j hj1 hj2 x hx => ?_⟩ (Fxx.c e3)
  · refine ⟨?_, (a2 i hi).2⟩
    by_cases e : i = v
    · rw [e, fK_eq, fK_eq]
    · rw [fK_ne e, fK_ne e]
      exact (a2 i hi).1
  · exact a3.loc (fun y hy1 hy2 => ⟨fK_ne (by omega), rfl⟩)
  · by_cases e : j = v
    · exact e
    · rw [fK_ne e] at hx
      exact (a4 j hj hx).elim
  · rw [fK_ne (by omega)] at hx
    exact a5 j hj1 hj2 x hx
theorem Vq.bk {P : Nat → Prop} {v n1 q : Nat} {D1 : Nat → TD} {K1 : Nat → List Nat} {dd : TD} {F T : Tf} (hq : Vq P n D K v (nd dd F) n1 D1 K1) (hu : Vt (fun j => j = v) w f n1 D1 (fK K1 v (K1 v ++ [n1])) q n1 T g r) : Vt P w f n D K q v (nd dd (F ++ T)) g r := by
  obtain ⟨n2, D2, K2, hA, a1, a2, a3, a4, a5⟩ := hu
  obtain ⟨b1, b2, b3, b4, b5⟩ := hq
  have ru := a3.rg
  have rv := b3.rg
  have hv : K2 v = K1 v ++ [n1] := (a2 v (by omega)).1.trans fK_eq
  have ho : ∀ i, i < n1 → i ≠ v → K2 i = K1 i := fun i hi e => (a2 i hi).1.trans (fK_ne e)
  refine ⟨n2, D2, K2, hA, by omega, fun i hi => ⟨(ho i (by omega) (by omega)).trans (b2 i hi).1, (a2 i (by omega)).2.trans (b2 i hi).2⟩, ?_, fun j hj hx => ?_, fun j hj1 hj2 x hx => ?_⟩
  · exact b3.grow (b := n1) a3 a1.1 (fun y hy1 hy2 hy3 => ho y hy2 hy3) hv (fun y hy1 hy2 => (a2 y hy2).2)
  · by_cases e : j = v
    · rw [e, hv] at hx
      rcases List.mem_append.mp hx with hx | hx
      · rw [e]
        exact b4 v (by omega) hx
      · have := List.mem_singleton.mp hx
        omega
    · by_cases e4 : j < n1
      · rw [ho j e4 e] at hx
        exact b4 j e4 hx
      · have := a5 j (by omega) hj v hx
        omega
  · by_cases e : j = v
    · rw [e, hv] at hx
      rcases List.mem_append.mp hx with hx | hx
      · exact b5 v rv.1 rv.2 x hx
      · have := List.mem_singleton.mp hx
        omega
    · by_cases e4 : j < n1
      · rw [ho j e4 e] at hx
        exact b5 j hj1 e4 x hx
      · have := a5 j (by omega) hj2 x hx
        omega
/-- its data set -/
theorem rl_st {P : Nat → Prop} {v j : Nat} {a2 a3 : Int32} {dd d' : TD} {F : Tf} (hv : Vt P w f n D K p v (nd dd F) g r) (hj : j < 4) (e2 : a2.toInt = j) (hk1 : (dd.1 ≠ 53 ∧ dd.1 ≠ 41)) (hk2 : (d'.1 ≠ 53 ∧ d'.1 ≠ 41)) (hd : ((if j = 0 then a3 else dd.1), (if j = 1 then a3 else dd.2.1), (if j = 2 then a3 else dd.2.2.1), (if j = 3 then a3 else dd.2.2.2)) = d') (hk : ∀ g' r', Vt P w f n D K p v (nd d' F) g' r' → Fxx g g' → pl (kn g' r') Q kYT) : pl (fn_n (ev L xs (m + 1) d nT_set [.ref cT, .int (Int32.ofNat v), .int a2, .int a3] g r) kn) Q kYT := by
  obtain ⟨n2, D2, K2, hA, a1, b2, b3, b4, b5⟩ := hv
  have rv := b3.rg
  have ed := b3.da
  have hlt := hA.2.lt
  refine pl_n (yT_set L xs a3 hA.2 (i := v) (by omega) hj (on_eq (by omega)) e2 (d' := d') (by rw [ed]; exact hk1) hk2 (by rw [ed]; exact hd)) (fun _ _ _ _ => trivial) (fun g' r' e => ?_)
  obtain ⟨⟨-, e2⟩, e3⟩ := e
  refine hk g' r' ⟨n2, _, K2, ⟨hA.1.t e3, e2⟩, a1, fun i hi => ⟨(b2 i hi).1, ?_⟩, b3.setd (fun y hy => fD_ne hy) fD_eq, b4, b5⟩ (Fxx.c e3)
  rw [fD_ne (by omega)]
  exact (b2 i hi).2
end
