/-! The class's conditions, with their trees. -/
def Sb3 (s : Sjt) (n : Nat) (D : Nat → TD) (g : a2_G) : Prop := match s with
  | none => g fX_subject = -1
  | some x => g fX_latestHow = x.1 ∧ ∃ i, i < n ∧ g fX_subject = Int32.ofNat i ∧ (D i).1 = 41 ∧ (D i).2.2.1 = Int32.ofNat x.2
theorem Sb3.of {s : Sjt} {n n' : Nat} {D D' : Nat → TD} {g g' : a2_G} (h : Sb3 s n D g) (hn : n ≤ n') (hD : ∀ i, i < n → D' i = D i) (e : Fxx g g') : Sb3 s n' D' g' := by
  cases s with
  | none => exact e.1.trans h
  | some x =>
    obtain ⟨h1, i, h2, h3, h4, h5⟩ := h
    exact ⟨e.2.trans h1, i, by omega, e.1.trans h3, by rw [hD i h2]; exact h4, by rw [hD i h2]; exact h5⟩
theorem Sb3.f {s : Sjt} {n : Nat} {D : Nat → TD} {g g' : a2_G} (h : Sb3 s n D g) (e : Fxx g g') : Sb3 s n D g' := h.of (Nat.le_refl _) (fun _ _ => rfl) e
/-- Vt, with the subject -/
def VS (P : Nat → Prop) (w : Ws) (f : Gh) (n : Nat) (D : Nat → TD) (K : Nat → List Nat) (q v : Nat) (T : Tf) (s : Sjt) (g : a2_G) (r : a2_A) : Prop := ∃ n' D' K', At w f q n' D' K' g r ∧ Vq P n D K v T n' D' K' ∧ Sb3 s n' D' g
theorem VS.lf {P : Nat → Prop} {w : Ws} {f : Gh} {n : Nat} {D : Nat → TD} {K : Nat → List Nat} {v : Nat} {T : Tf} {s : Sjt} : Lf w f (fun p => VS P w f n D K p v T s) := ⟨fun _ _ _ h => by
  obtain ⟨n', D', K', h1, -⟩ := h
  exact h1.ru, fun _ _ _ h hp => by
  obtain ⟨n', D', K', h1, h2, h3⟩ := h
  exact ⟨n', D', K', h1.up hp, h2, h3.f Fxx.rf⟩⟩
theorem VS.vt {P : Nat → Prop} {w : Ws} {f : Gh} {n : Nat} {D : Nat → TD} {K : Nat → List Nat} {q v : Nat} {T : Tf} {s : Sjt} {g : a2_G} {r : a2_A} (h : VS P w f n D K q v T s g r) : Vt P w f n D K q v T g r := by
  obtain ⟨n', D', K', h1, h2, -⟩ := h
  exact ⟨n', D', K', h1, h2⟩
theorem Vt.vs {P : Nat → Prop} {w : Ws} {f : Gh} {n : Nat} {D : Nat → TD} {K : Nat → List Nat} {q v : Nat} {T : Tf} {s : Sjt} {g0 g : a2_G} {r : a2_A} (h : Vt P w f n D K q v T g r) (hs : Sb3 s n D g0) (e : Fxx g0 g) : VS P w f n D K q v T s g r := by
  obtain ⟨n', D', K', h1, h2⟩ := h
  exact ⟨n', D', K', h1, h2, hs.of h2.1.1 (fun i hi => (h2.2.1 i hi).2) e⟩
def kC2 (w : Ws) (f : Gh) (n : Nat) (D : Nat → TD) (K : Nat → List Nat) (z : Option R2) : Option Value → a2_G → a2_A → Prop := fun o g r => ∃ v q s T, o = some (.int (Int32.ofNat v)) ∧ z = some (q, s, T) ∧ VS NP w f n D K q v T s g r
section
variable {L : Nat} {xs : Nat → Int32} {m d k0 : Nat} {w : Ws} {f : Gh} {p : Nat} {g : a2_G} {r : a2_A} {z : Option fn_Z} {k : Int32 → a2_G → a2_A → Option fn_Z} {kn : a2_G → a2_A → Option fn_Z} {Q : Option Value → a2_G → a2_A → Prop} {PQ : Option R2 → Option Value → a2_G → a2_A → Prop} {n : Nat} {D : Nat → TD} {K : Nat → List Nat} {P : Nat → Prop} {v : Nat} {dd : TD} {F T : Tf} {S : Nat → a2_G → a2_A → Prop}
theorem rl_vC {zA : Option R2} {Kz : Nat → Sjt → Tf → Option R2} (h : pl z (kC2 w f n D K zA) kYT) (hk : ∀ v q s T g' r', zA = some (q, s, T) → VS NP w f n D K q v T s g' r' → pl (k (Int32.ofNat v) g' r') (PQ (Kz q s T)) kYT) : pl (fn_v z k) (PQ (b2 zA Kz)) kYT := pl_v h (fun _ _ _ _ => trivial) (fun v g' r' e => by
  obtain ⟨v', q, s, T, e1, e2, e3⟩ := e
  cases e1
  have := hk v' q s T g' r' e2 e3
  rw [e2]
  exact this)
theorem At.x (h : At w f p n D K g r) {j : Nat} (x : Int32) (hj : j / 100 = 5) : At w f p n D K (upd g j x) r := by
  have e : upd g j x fT_made = g fT_made := upd_ne (fun e => by rw [← e] at hj; exact absurd hj (by decide))
  refine ⟨h.1.x x hj, ?_⟩
  unfold Rc
  rw [e]
  exact h.2
theorem Vt.x (h : Vt P w f n D K p v T g r) {j : Nat} (x : Int32) (hj : j / 100 = 5) : Vt P w f n D K p v T (upd g j x) r := by
  obtain ⟨n', D', K', h1, h2⟩ := h
  exact ⟨n', D', K', h1.x x hj, h2⟩
/-- a relation made, and its subject noted -/
theorem yT_rel {hh x1 : Int32} {u : Nat} {kv : Int32 → a2_G → a2_A → Option fn_Z} (h : At w f p n D K g r) {i : Nat} (hi : i < n) (hg : g fX_subject = Int32.ofNat i) (h41 : (D i).1 = 41) (hp : (D i).2.2.1 = Int32.ofNat u) (hk : ∀ g' r', At w f p (n + 1) (fD D n (53, hh, x1, Int32.ofNat u)) (fK K n []) g' r' → Fxx g g' → pl (kv (Int32.ofNat n) g' r') Q kYT) : pl (fn_v (ev L xs (m + 1) d nT_make [.ref cT, .int 53, .int hh, .int x1] g r) fun v g1 r1 => fn_n (ev L xs (m + 1) d nT_set [.ref cT, .int v, .int 3, .int (g1 fX_subject)] g1 r1) fun g2 r2 => kv v g2 r2) Q kYT := by
  have hlt := h.2.lt
  refine pl_v (yT_make L xs 53 hh x1 h.2 (e0 := -1) (Or.inr rfl)) (fun _ _ _ _ => trivial) (fun v0 g1 r1 e => ?_)
  obtain ⟨⟨e1, e2⟩, e3⟩ := e
  cases e1
  rw [show g1 fX_subject = Int32.ofNat i from (Fxx.c e3).1.trans hg]
  refine pl_n (yT_set3 L xs e2 (i := n) (s := i) (e := Int32.ofNat u) (by omega) (on_eq (by omega)) (by rw [fD_eq]) hi (by rw [fD_ne (by omega)]; exact h41) (by rw [fD_ne (by omega)]; exact hp)) (fun _ _ _ _ => trivial) (fun g2 r2 e => ?_)
  obtain ⟨⟨-, e4⟩, e5⟩ := e
  have ed : fD (fD D n (53, hh, x1, -1)) n ((fD D n (53, hh, x1, -1) n).1, (fD D n (53, hh, x1, -1) n).2.1, (fD D n (53, hh, x1, -1) n).2.2.1, Int32.ofNat u) = fD D n (53, hh, x1, Int32.ofNat u) := by
    funext y
    by_cases ey : y = n
    · rw [ey, fD_eq, fD_eq, fD_eq]
    · rw [fD_ne ey, fD_ne ey, fD_ne ey]
  rw [ed] at e4
  exact hk g2 r2 ⟨(h.1.t e3).t e5, e4⟩ ((Fxx.c e3).t (Fxx.c e5))
/-- one more child of what is built, with the subject -/
theorem rl_hs {v u n1 q : Nat} {D1 : Nat → TD} {K1 : Nat → List Nat} {dd : TD} {F T : Tf} {s : Sjt} (hq : Vq P n D K v (nd dd F) n1 D1 K1) (hu : VS NP w f n1 D1 K1 q u T s g r) (hk : ∀ g' r', VS P w f n D K q v (nd dd (F ++ T)) s g' r' → pl (kn g' r') Q kYT) : pl (fn_n (ev L xs (m + 1) d nT_append [.ref cT, .int (Int32.ofNat v), .int (Int32.ofNat u)] g r) kn) Q kYT := by
  obtain ⟨n2, D2, K2, hA, ⟨a1, a2, a3, a4, a5⟩, hs⟩ := hu
  obtain ⟨b1, b2, b3, b4, b5⟩ := hq
  have ru := a3.rg
  have rv := b3.rg
  refine pl_n (yT_append L xs hA.2 (i := v) (c := u) (by omega) (by omega) (by omega) rfl rfl (fun j hj hx => a4 j hj hx)) (fun _ _ _ _ => trivial) (fun g' r' e => ?_)
  obtain ⟨⟨-, e2⟩, e3⟩ := e
  have hv : K2 v = K1 v := (a2 v (by omega)).1
  rw [hv] at e2
  refine hk g' r' ⟨n2, D2, _, ⟨hA.1.t e3, e2⟩, ⟨by omega, fun i hi => ?_, ?_, fun j hj hx => ?_, fun j hj1 hj2 x hx => ?_⟩, hs.f (Fxx.c e3)⟩
  · rw [fK_ne (by omega), (a2 i (by omega)).1, (a2 i (by omega)).2]
    exact b2 i hi
  · refine b3.grow (b := n1) (a3.loc (fun y hy1 hy2 => ⟨fK_ne (by omega), rfl⟩)) a1.1 (fun y hy1 hy2 hy3 => ?_) fK_eq (fun y hy1 hy2 => (a2 y hy2).2)
    rw [fK_ne hy3]
    exact (a2 y hy2).1
  · by_cases e : j = v
    · rw [e, fK_eq] at hx
      rcases List.mem_append.mp hx with hx | hx
      · rw [e]
        exact b4 v (by omega) hx
      · have := List.mem_singleton.mp hx
        omega
    · rw [fK_ne e] at hx
      by_cases e4 : j < n1
      · rw [(a2 j e4).1] at hx
        exact b4 j e4 hx
      · have := a5 j (by omega) hj v hx
        omega
  · by_cases e : j = v
    · rw [e, fK_eq] at hx
      rcases List.mem_append.mp hx with hx | hx
      · exact b5 v rv.1 rv.2 x hx
      · have := List.mem_singleton.mp hx
        omega
    · rw [fK_ne e] at hx
      by_cases e4 : j < n1
      · rw [(a2 j e4).1] at hx
        exact b5 j hj1 e4 x hx
      · have := a5 j (by omega) hj2 x hx
        omega
/-- what was made before, hung below the node made last -/
theorem rl_wr {n1 : Nat} {s : Sjt} {D1 : Nat → TD} {K1 : Nat → List Nat} (hq : Vq NP n D K v T n1 D1 K1) (hA : At w f p (n1 + 1) (fD D1 n1 dd) (fK K1 n1 []) g r) (hkid : ∀ j, j < n1 → ∀ x, x ∈ K1 j → x < n1) (hs : Sb3 s (n1 + 1) (fD D1 n1 dd) g) (hk : ∀ g' r', VS NP w f n D K p n1 (nd dd T) s g' r' → pl (kn g' r') Q kYT) : pl (fn_n (ev L xs (m + 1) d nT_append [.ref cT, .int (Int32.ofNat n1), .int (Int32.ofNat v)] g r) kn) Q kYT := by
  obtain ⟨b1, b2, b3, b4, b5⟩ := hq
  have rv := b3.rg
  refine pl_n (yT_append L xs hA.2 (i := n1) (c := v) (by omega) (by omega) (by omega) rfl rfl (fun j hj hx => ?_)) (fun _ _ _ _ => trivial) (fun g2 r2 e => ?_)
  · by_cases e : j = n1
    · rw [e, fK_eq] at hx
      cases hx
    · rw [fK_ne e] at hx
      exact b4 j (by omega) hx
  · obtain ⟨⟨-, e4⟩, e5⟩ := e
    refine hk g2 r2 ⟨n1 + 1, _, _, ⟨hA.1.t e5, e4⟩, ⟨by omega, fun i hi => ?_, ?_, fun j hj hx => ?_, fun j hj1 hj2 x hx => ?_⟩, hs.f (Fxx.c e5)⟩
    · rw [fK_ne (by omega), fK_ne (by omega), fD_ne (by omega)]
      exact b2 i hi
    · have q := Tr.wrap (K := fK (fK K1 n1 []) n1 (fK K1 n1 [] n1 ++ [v])) (D := fD D1 n1 dd) (v := n1) (u := v) (l := []) (b := n1 + 1) (T' := []) (b3.loc (fun y hy1 hy2 => ⟨by rw [fK_ne (by omega), fK_ne (by omega)], fD_ne (by omega)⟩)) TrL.nil (by rw [fK_eq, fK_eq]; rfl) b1.1 (by omega)
      rw [fD_eq, List.append_nil] at q
      exact q
    · by_cases e : j = n1
      · rw [e, fK_eq, fK_eq] at hx
        have := List.mem_singleton.mp hx
        omega
      · rw [fK_ne e, fK_ne e] at hx
        have := hkid j (by omega) _ hx
        omega
    · by_cases e : j = n1
      · rw [e, fK_eq, fK_eq] at hx
        have := List.mem_singleton.mp hx
        omega
      · rw [fK_ne e, fK_ne e] at hx
        exact b5 j hj1 (by omega) x hx
/-- a node made around its first child, with the subject -/
theorem rl_js {a b : Int32} {s : Sjt} (h : VS NP w f n D K p v T s g r) (hk : ∀ v' g' r', VS NP w f n D K p v' (nd (a, b, pT T, -1) T) s g' r' → pl (k (Int32.ofNat v') g' r') Q kYT) : pl (fn_v (ev L xs (m + 1) d nX_join [.ref cX, .int a, .int b, .int (Int32.ofNat v)] g r) k) Q kYT := by
  refine pl_v (Q1 := fun o g' r' => ∃ v', o = some (.int (Int32.ofNat v')) ∧ VS NP w f n D K p v' (nd (a, b, pT T, -1) T) s g' r') (X1 := kYT) ?_ (fun _ _ _ _ => trivial) (fun v0 g' r' e => ?_)
  · cases d with
    | zero => trivial
    | succ d =>
      rw [qX_join]
      obtain ⟨n1, D1, K1, hA, ⟨b1, b2, b3, b4, b5⟩, hs⟩ := h
      have rv := b3.rg
      have hlt := hA.2.lt
      refine pl_e (yT_get L xs hA.2 (i := v) (j := 2) (by omega) (by omega) (on_eq (by omega)) rfl) ?_
      have ep : (r fT_cells).2 (12 * v + 2) = pT T := by
        rw [b3.pT]
        exact congrArg (fun x => x.2.2.1) (hA.2.2.2.2.2.1 v (by omega))
      rw [ep]
      refine pl_v (yT_make L xs a b (pT T) hA.2 (e0 := -1) (Or.inr rfl)) (fun _ _ _ _ => trivial) (fun v0 g1 r1 e => ?_)
      obtain ⟨⟨e1, e2⟩, e3⟩ := e
      cases e1
      refine rl_wr ⟨b1, b2, b3, b4, b5⟩ ⟨hA.1.t e3, e2⟩ (fun j hj x hx => hA.2.2.2.2.2.kid hj hx) (hs.of (Nat.le_succ _) (fun i hi => fD_ne (by omega)) (Fxx.c e3)) (fun g2 r2 h2 => ⟨n1, rfl, h2⟩)
  · obtain ⟨v', e1, e2⟩ := e
    cases e1
    exact hk v' g' r' e2
theorem yX_comparing27 (x1 : Int32) {g0 : a2_G} (hS : Lf w f S) (h : S p g r) (hs : Fxx g0 g) : pl (BX_comparing_27 L xs (m + 1) d k0 x1 g r) (fun o g' r' => o = some (.int (cm2 w x1 p).1) ∧ S (cm2 w x1 p).2 g' r' ∧ Fxx g0 g') kYT := by
  have hr := hS.1 _ _ _ h
  unfold BX_comparing_27 cm2
  refine rl_sk hS h (fun e g1 h1 q1 => pl_neg (by decide) ?_) (fun e => pl_pos (by decide) ?_)
  · rw [e, if_pos rfl]
    exact rl_mb hS h1 (fun v g2 h2 q2 => ⟨rfl, h2, (hs.t q1).t q2⟩)
  rw [e, if_neg (by decide)]
  refine rl_sk hS h (fun e g1 h1 q1 => pl_neg (by decide) ?_) (fun e => pl_pos (by decide) ?_)
  · rw [e, if_pos rfl]
    exact rl_mb hS h1 (fun v g2 h2 q2 => ⟨rfl, h2, (hs.t q1).t q2⟩)
  rw [e, if_neg (by decide)]
  refine rl_sk hS h (fun e g1 h1 q1 => pl_neg (by decide) ?_) (fun e => pl_pos (by decide) ?_)
  · rw [e, if_pos rfl]
    exact rl_mb hS h1 (fun v g2 h2 q2 => ⟨rfl, h2, (hs.t q1).t q2⟩)
  rw [e, if_neg (by decide)]
  unfold BX_comparing_139
  refine pl_u (xR_isKind L xs 5 hr.1) (fun e5 => pl_neg (by decide) ?_) (fun e5 => pl_pos (by decide) (rl_rf hr))
  have hp := (wk_iff.mp e5).1
  refine pl_e (xR_value L xs hr.1) ?_
  refine pl_if (fun _ => rl_rf hr) (fun _ => ?_)
  refine pl_e (xR_value L xs hr.1) ?_
  refine pl_if (fun _ => ?_) (fun _ => rl_rf hr)
  unfold BX_comparing_147
  refine pl_e (xR_value L xs hr.1) ?_
  rw [if_pos hp]
  exact rl_ad hS h hp (fun g2 h2 q2 => ⟨rfl, h2, hs.t q2⟩)
theorem yX_comparing (hS : Lf w f S) (h : S p g r) : pl (ev L xs (m + 1) d nX_comparing [.ref cX] g r) (fun o g' r' => o = some (.int (cmp w p).1) ∧ S (cmp w p).2 g' r' ∧ Fxx g g') kYT := by
  cases d with
  | zero => trivial
  | succ d =>
    rw [qX_comparing]
    unfold cmp cm1
    refine rl_mb hS h (fun v g1 h1 q1 => ?_)
    refine rl_sk hS h1 (fun e g2 h2 q2 => pl_neg (by decide) ?_) (fun e => pl_pos (by decide) ?_)
    · rw [e]
      exact yX_comparing27 3 hS h2 (q1.t q2)
    · rw [e]
      exact yX_comparing27 0 hS h1 q1
theorem yX_rel134 {q : Nat} {u : Nat} {hh : Int32} (x1 x2 x3 : Int32) (h : VS NP w f n D K q v (nd dd F) (some (hh, u)) g r) : pl (BX_relation_134 L xs (m + 1) d k0 x1 x2 x3 (Int32.ofNat v) g r) (kC2 w f n D K (some (q + 1, some (hh, u), nd dd (F ++ l1 (od w q))))) kYT := by
  unfold BX_relation_134
  obtain ⟨n1, D1, K1, hA, hq, hs⟩ := h
  refine rl_op hA (fun e g1 r1 h1 q1 => ?_)
  exact rl_hs hq (h1.vs hs q1) (fun g2 r2 h2 => ⟨v, _, _, _, rfl, rfl, h2⟩)
/-- a relation whose subject stands further ahead -/
theorem yX_rel87a {q : Nat} {u : Nat} {hh : Int32} (x1 x3 : Int32) (h : At w f q n D K g r) (hs : Sb3 (some (hh, u)) n D g) : pl (BX_relation_87 L xs (m + 1) d k0 x1 0 x3 g r) (kC2 w f n D K (some (q + 1, some (hh, u), nd (53, hh, x1, Int32.ofNat u) (l1 (od w q))))) kYT := by
  unfold BX_relation_87
  rw [hs.1]
  obtain ⟨hs0, i, hi, hg, h41, hpp⟩ := id hs
  refine yT_rel h hi hg h41 hpp (fun g2 r2 h2 q2 => ?_)
  refine pl_pos (by decide) ?_
  refine yX_rel134 (v := n) (dd := (53, hh, x1, Int32.ofNat u)) (F := []) x1 0 x3 ⟨n + 1, _, _, h2, ⟨⟨Nat.le_succ _, h.2.2.2.1⟩, fun i hi => ⟨fK_ne (by omega), fD_ne (by omega)⟩, ?_, fun j hj hx => ?_, fun j hj1 hj2 x hx => ?_⟩, hs.of (Nat.le_succ _) (fun i hi => fD_ne (by omega)) q2⟩
  · have := Tr.new (K := fK K n []) (D := fD D n (53, hh, x1, Int32.ofNat u)) (v := n) fK_eq
    rw [fD_eq] at this
    exact this
  · by_cases e : j = n
    · rw [e, fK_eq] at hx
      cases hx
    · rw [fK_ne e] at hx
      have := h.2.2.2.2.2.kid (by omega : j < n) hx
      omega
  · rw [show j = n by omega, fK_eq] at hx
    cases hx
/-- one with its subject in it -/
theorem yX_rel87b {q : Nat} {u : Nat} {hh a : Int32} (x1 x3 : Int32) (h : Vt NP w f n D K q v (l1 (41, a, Int32.ofNat u, -1)) g r) (hs : g fX_latestHow = hh) (hv : g fX_subject = Int32.ofNat v) : pl (BX_relation_87 L xs (m + 1) d k0 x1 1 x3 g r) (kC2 w f n D K (some (q + 1, some (hh, u), nd (53, hh, x1, Int32.ofNat u) (l1 (41, a, Int32.ofNat u, -1) ++ l1 (od w q))))) kYT := by
  unfold BX_relation_87
  rw [hs]
  obtain ⟨n1, D1, K1, hA, hq⟩ := h
  have rv := hq.2.2.1.rg
  have hlt := hA.2.lt
  have ed : D1 v = (41, a, Int32.ofNat u, -1) := Tr.da (F := []) hq.2.2.1
  refine yT_rel hA rv.2 hv (by rw [ed]) (by rw [ed]) (fun g2 r2 h2 x2 => ?_)
  refine pl_neg (by decide) ?_
  rw [show g2 fX_subject = Int32.ofNat v from x2.1.trans hv]
  have hne : v ≠ n1 := by omega
  refine rl_wr (s := some (hh, u)) hq h2 (fun j hj x hx => hA.2.2.2.2.2.kid hj hx) ⟨x2.2.trans hs, v, by omega, x2.1.trans hv, by rw [fD_ne hne, ed], by rw [fD_ne hne, ed]⟩ (fun g3 r3 h3 => ?_)
  exact yX_rel134 x1 1 x3 h3
theorem yX_relation {s : Sjt} (h : At w f p n D K g r) (hs : Sb3 s n D g) : pl (ev L xs (m + 1) d nX_relation [.ref cX] g r) (kC2 w f n D K (some (rl w p s))) kYT := by
  cases d with
  | zero => trivial
  | succ d =>
    rw [qX_relation]
    refine pl_e (xR_place L xs) ?_
    have epl := h.1.pla
    have h30 : (wo w p && wm w (p + 1)) = false → pl (BX_relation_30 L xs (m + 1) d m (g fR_at) g r) (kC2 w f n D K (some (rl w p s))) kYT := by
      intro e
      unfold BX_relation_30 BX_relation_31 rl
      rw [e, if_neg (by decide), epl]
      refine pl_e (xX_isComparing L xs 0 (j := 0) rfl (by decide) h.1) ?_
      refine pl_neg (by decide) ?_
      cases s with
      | some x =>
        obtain ⟨hh, u⟩ := x
        refine pl_pos ?_ ?_
        · rw [c2_ne]
          obtain ⟨-, i, hi, e1, -⟩ := hs
          have hlt := h.2.lt
          rw [e1]
          intro e2
          have := congrArg Int32.toInt e2
          rw [on_eq (by omega), show (-1 : Int32).toInt = -1 from rfl] at this
          omega
        unfold BX_relation_56
        refine pl_pos (by decide) ?_
        unfold BX_relation_71
        refine pl_neg (by decide) ?_
        dsimp only
        cases e2 : wm w p with
        | true =>
          refine pl_neg (by decide) ?_
          rw [if_pos rfl]
          unfold BX_relation_79
          refine pl_v (yX_comparing At.lf h) (fun _ _ _ _ => trivial) (fun v0 g' r' e => ?_)
          obtain ⟨e3, e4, e5⟩ := e
          cases e3
          obtain ⟨-, i, hi, e6, e7⟩ := hs
          exact yX_rel87a _ _ (e4.x _ rfl) ⟨rfl, i, hi, e5.1.trans e6, e7⟩
        | false =>
          refine pl_pos (by decide) ?_
          rw [if_neg (by decide)]
          exact yX_rel87a _ _ h hs
      | none =>
        refine pl_neg (by rw [c2_ne]; exact fun e => e hs) ?_
        dsimp only
        refine pl_v (Q1 := kC2 w f n D K (some (p + 1, none, l1 (54, w.2.1 p, Int32.ofNat p, -1)))) (X1 := kYT) ?_ (fun _ _ _ _ => trivial) (fun v0 g' r' e => e)
        cases d with
        | zero => trivial
        | succ d =>
          rw [qX_conditionName]
          refine pl_u (xR_isKind L xs 1 h.1) (fun e => pl_pos (by decide) ?_) (fun e => pl_neg (by decide) ?_)
          · unfold BX_conditionName_36
            have hp := (wk_iff.mp e).1
            refine pl_e (xR_value L xs h.1) ?_
            rw [if_pos hp]
            refine rl_mk (-1) (Or.inr rfl) h (fun g1 r1 h1 q1 => ?_)
            exact rl_ad Vt.lf h1 hp (fun g2 h2 q2 => ⟨n, _, _, _, rfl, rfl, h2.vs (s := none) hs (q1.t q2)⟩)
          · unfold BX_conditionName_28
            refine pl_u (xR_isOperand L xs h.1) (fun e2 => pl_neg (by decide) ?_) (fun e2 => pl_pos (by decide) (rl_rf h.ru))
            exact rl_ad At.lf h (wo_iff.mp e2).1 (fun g1 h1 _ => rl_rf h1.ru)
    refine pl_u (xR_isOperand L xs h.1) (fun e => pl_neg (by decide) ?_) (fun e => pl_pos (by decide) (h30 (by rw [e]; rfl)))
    refine pl_u (xX_isComparing L xs 1 (j := 1) rfl (by decide) h.1) (fun e2 => pl_neg (by decide) ?_) (fun e2 => pl_pos (by decide) (h30 (by rw [e2, Bool.and_false])))
    unfold BX_relation_31 rl
    rw [e, e2, Bool.and_self, if_pos rfl, epl]
    refine pl_e (xX_isComparing L xs 0 (j := 0) rfl (by decide) h.1) ?_
    refine pl_pos (by decide) ?_
    unfold BX_relation_56
    refine pl_neg (by decide) ?_
    refine rl_op h (fun _ g1 r1 h1 q1 => ?_)
    unfold BX_relation_71
    refine pl_pos (by decide) ?_
    unfold BX_relation_79
    refine pl_v (yX_comparing Vt.lf (h1.x (j := fX_subject) (Int32.ofNat n) rfl)) (fun _ _ _ _ => trivial) (fun v0 g' r' e => ?_)
    obtain ⟨e3, e4, e5⟩ := e
    cases e3
    exact yX_rel87b _ _ (e4.x _ rfl) rfl e5.1
end
/-- the contracts of condition, conjunction, factor at depth d -/
def YC (L : Nat) (xs : Nat → Int32) (m d : Nat) (w : Ws) (f : Gh) : Prop := ∀ (p : Nat) (a : Int32) (n : Nat) (D : Nat → TD) (K : Nat → List Nat) (g : a2_G) (r : a2_A), At w f p n D K g r →
  pl (ev L xs (m + 1) d nX_condition [.ref cX, .int a] g r) (kC2 w f n D K (tv w 5 p none [])) kYT ∧
  (∀ s, Sb3 s n D g → pl (ev L xs (m + 1) d nX_conjunction [.ref cX, .int a] g r) (kC2 w f n D K (tv w 7 p s [])) kYT) ∧
  ∀ s, Sb3 s n D g → pl (ev L xs (m + 1) d nX_factor [.ref cX, .int a] g r) (kC2 w f n D K (tv w 9 p s [])) kYT
theorem yX_condition_t (L : Nat) (xs : Nat → Int32) {m d k : Nat} {w : Ws} {f : Gh} {n : Nat} {D : Nat → TD} {K : Nat → List Nat} {dd : TD} (hC : YC L xs m d w f) {a : Int32} (H : ∀ (v : Nat) (x2 x4 : Int32) (p : Nat) (s : Sjt) (F : Tf) (g : a2_G) (r : a2_A), VS NP w f n D K p v (nd dd F) s g r → 0 ≤ x4.toInt → x4.toInt ≤ p → pl (lp L xs nX_condition nm_m96 (m + 1) d k 38 [some (.ref cX), some (.int a), some (.int x2), some (.int (Int32.ofNat v)), some (.int x4)] g r) (kC2 w f n D K (b2 (tv w 6 p s F) fun q s c => some (q, s, nd dd c))) kYT) (v : Nat) (x2 x4 : Int32) {p : Nat} {s : Sjt} {F : Tf} {g : a2_G} {r : a2_A} (h : VS NP w f n D K p v (nd dd F) s g r) (h0 : 0 ≤ x4.toInt) (hx : x4.toInt ≤ p) : pl (BX_condition_38 L xs (m + 1) d k a x2 (Int32.ofNat v) x4 g r) (kC2 w f n D K (b2 (tv w 6 p s F) fun q s c => some (q, s, nd dd c))) kYT := by
  have hr := VS.lf.1 _ _ _ h
  have hle := hr.le
  rw [tv_6]
  unfold BX_condition_38
  refine pl_if (fun hc => ?_) (fun hc => ?_)
  · rw [c2_ge] at hc
    have hc' : (1500 : Int) ≤ x4.toInt := hc
    have hn : ¬ p < w.2.2 := by omega
    rw [ww_out hn]
    exact ⟨v, p, s, _, rfl, rfl, h⟩
  · have h15 : x4.toInt < 1500 := by
      rw [c2_ge] at hc
      have hc' : ¬ (1500 : Int) ≤ x4.toInt := hc
      omega
    refine rl_sk VS.lf h (fun e g1 h1 q1 => pl_neg (by decide) ?_) (fun e => pl_pos (by decide) ?_)
    · rw [e, if_pos rfl]
      obtain ⟨n1, D1, K1, hA, hq, hs⟩ := h1
      refine pl_v ((hC (p + 1) a n1 D1 K1 g1 r hA).2.1 s hs) (fun _ _ _ _ => trivial) (fun v0 g2 r2 q => ?_)
      obtain ⟨v2, q2, s2, T2, e1, e2, h2⟩ := q
      cases e1
      rw [e2]
      refine rl_hs hq h2 (fun g3 r3 h3 => ?_)
      have e5 := i32_inc (x := x4) (by omega)
      have e6 := tv_le e2
      exact H v _ (x4 + 1) q2 s2 _ g3 r3 h3 (by omega) (by omega)
    · rw [e]
      exact ⟨v, p, s, _, rfl, rfl, h⟩
theorem yX_condition_l (L : Nat) (xs : Nat → Int32) {m d : Nat} {w : Ws} {f : Gh} {n : Nat} {D : Nat → TD} {K : Nat → List Nat} {dd : TD} (hC : YC L xs m d w f) {a : Int32} : ∀ (k : Nat), ∀ (v : Nat) (x2 x4 : Int32) (p : Nat) (s : Sjt) (F : Tf) (g : a2_G) (r : a2_A), VS NP w f n D K p v (nd dd F) s g r → 0 ≤ x4.toInt → x4.toInt ≤ p → pl (lp L xs nX_condition nm_m96 (m + 1) d k 38 [some (.ref cX), some (.int a), some (.int x2), some (.int (Int32.ofNat v)), some (.int x4)] g r) (kC2 w f n D K (b2 (tv w 6 p s F) fun q s c => some (q, s, nd dd c))) kYT := by
  intro k
  induction k with
  | zero => exact fun _ _ _ _ _ _ _ _ _ _ _ => pl_l0
  | succ k ih =>
    intro v x2 x4 p s F g r h h0 hx
    rw [lX_condition_38]
    exact yX_condition_t L xs hC ih v x2 x4 h h0 hx
theorem yX_conjunction_t (L : Nat) (xs : Nat → Int32) {m d k : Nat} {w : Ws} {f : Gh} {n : Nat} {D : Nat → TD} {K : Nat → List Nat} {dd : TD} (hC : YC L xs m d w f) {a : Int32} (H : ∀ (v : Nat) (x2 x4 : Int32) (p : Nat) (s : Sjt) (F : Tf) (g : a2_G) (r : a2_A), VS NP w f n D K p v (nd dd F) s g r → 0 ≤ x4.toInt → x4.toInt ≤ p → pl (lp L xs nX_conjunction nm_m97 (m + 1) d k 33 [some (.ref cX), some (.int a), some (.int x2), some (.int (Int32.ofNat v)), some (.int x4)] g r) (kC2 w f n D K (b2 (tv w 8 p s F) fun q s c => some (q, s, nd dd c))) kYT) (v : Nat) (x2 x4 : Int32) {p : Nat} {s : Sjt} {F : Tf} {g : a2_G} {r : a2_A} (h : VS NP w f n D K p v (nd dd F) s g r) (h0 : 0 ≤ x4.toInt) (hx : x4.toInt ≤ p) : pl (BX_conjunction_33 L xs (m + 1) d k a x2 (Int32.ofNat v) x4 g r) (kC2 w f n D K (b2 (tv w 8 p s F) fun q s c => some (q, s, nd dd c))) kYT := by
  have hr := VS.lf.1 _ _ _ h
  have hle := hr.le
  rw [tv_8]
  unfold BX_conjunction_33
  refine pl_if (fun hc => ?_) (fun hc => ?_)
  · rw [c2_ge] at hc
    have hc' : (1500 : Int) ≤ x4.toInt := hc
    have hn : ¬ p < w.2.2 := by omega
    rw [ww_out hn]
    exact ⟨v, p, s, _, rfl, rfl, h⟩
  · have h15 : x4.toInt < 1500 := by
      rw [c2_ge] at hc
      have hc' : ¬ (1500 : Int) ≤ x4.toInt := hc
      omega
    refine rl_sk VS.lf h (fun e g1 h1 q1 => pl_neg (by decide) ?_) (fun e => pl_pos (by decide) ?_)
    · rw [e, if_pos rfl]
      obtain ⟨n1, D1, K1, hA, hq, hs⟩ := h1
      refine pl_v ((hC (p + 1) a n1 D1 K1 g1 r hA).2.2 s hs) (fun _ _ _ _ => trivial) (fun v0 g2 r2 q => ?_)
      obtain ⟨v2, q2, s2, T2, e1, e2, h2⟩ := q
      cases e1
      rw [e2]
      refine rl_hs hq h2 (fun g3 r3 h3 => ?_)
      have e5 := i32_inc (x := x4) (by omega)
      have e6 := tv_le e2
      exact H v _ (x4 + 1) q2 s2 _ g3 r3 h3 (by omega) (by omega)
    · rw [e]
      exact ⟨v, p, s, _, rfl, rfl, h⟩
theorem yX_conjunction_l (L : Nat) (xs : Nat → Int32) {m d : Nat} {w : Ws} {f : Gh} {n : Nat} {D : Nat → TD} {K : Nat → List Nat} {dd : TD} (hC : YC L xs m d w f) {a : Int32} : ∀ (k : Nat), ∀ (v : Nat) (x2 x4 : Int32) (p : Nat) (s : Sjt) (F : Tf) (g : a2_G) (r : a2_A), VS NP w f n D K p v (nd dd F) s g r → 0 ≤ x4.toInt → x4.toInt ≤ p → pl (lp L xs nX_conjunction nm_m97 (m + 1) d k 33 [some (.ref cX), some (.int a), some (.int x2), some (.int (Int32.ofNat v)), some (.int x4)] g r) (kC2 w f n D K (b2 (tv w 8 p s F) fun q s c => some (q, s, nd dd c))) kYT := by
  intro k
  induction k with
  | zero => exact fun _ _ _ _ _ _ _ _ _ _ _ => pl_l0
  | succ k ih =>
    intro v x2 x4 p s F g r h h0 hx
    rw [lX_conjunction_33]
    exact yX_conjunction_t L xs hC ih v x2 x4 h h0 hx
theorem yX_conds (L : Nat) (xs : Nat → Int32) {m : Nat} (w : Ws) (f : Gh) : ∀ d, YC L xs m d w f := by
  intro d
  induction d with
  | zero => exact fun _ _ _ _ _ _ _ _ => ⟨trivial, fun _ _ => trivial, fun _ _ => trivial⟩
  | succ d ih =>
    intro p a n D K g r h
    refine ⟨?_, fun s hs => ?_, fun s hs => ?_⟩
    · rw [qX_condition, tv_5]
      refine rl_vC ((ih p a n D K (upd g fX_subject (-1)) r (h.x (-1) rfl)).2.1 none rfl) (fun v q s T g1 r1 e1 h1 => ?_)
      refine pl_u (xR_isReserved L xs 66 0 (j := 0) rfl (by decide) (VS.lf.1 _ _ _ h1).1) (fun e => pl_pos (by decide) ?_) (fun e => pl_neg (by decide) ?_)
      · rw [show ww w q 66 = true from e, if_pos rfl]
        refine rl_js h1 (fun v2 g2 r2 h2 => ?_)
        exact yX_condition_t L xs ih (yX_condition_l L xs ih _) v2 _ 0 h2 (by decide) (by show (0 : Int) ≤ _; omega)
      · rw [show ww w q 66 = false from e]
        exact ⟨v, q, s, T, rfl, rfl, h1⟩
    · rw [qX_conjunction, tv_7]
      refine rl_vC ((ih p a n D K g r h).2.2 s hs) (fun v q s T g1 r1 e1 h1 => ?_)
      refine pl_u (xR_isReserved L xs 65 0 (j := 0) rfl (by decide) (VS.lf.1 _ _ _ h1).1) (fun e => pl_pos (by decide) ?_) (fun e => pl_neg (by decide) ?_)
      · rw [show ww w q 65 = true from e, if_pos rfl]
        refine rl_js h1 (fun v2 g2 r2 h2 => ?_)
        exact yX_conjunction_t L xs ih (yX_conjunction_l L xs ih _) v2 _ 0 h2 (by decide) (by show (0 : Int) ≤ _; omega)
      · rw [show ww w q 65 = false from e]
        exact ⟨v, q, s, T, rfl, rfl, h1⟩
    · rw [qX_factor, tv_9]
      have h66 : (ww w p 64 && !wc w (p + 1)) = false → pl (BX_factor_66 L xs (m + 1) d m a g r) (kC2 w f n D K (if wg w p 0 then b2 (tv w 5 (p + 1) none []) (fun q _ b => o2 (q + 1) b) else some (rl w p s))) kYT := by
        intro e
        unfold BX_factor_66
        refine pl_u (xR_isSign L xs 0 0 (j := 0) rfl (by decide) h.1) (fun e0 => pl_neg (by decide) ?_) (fun e0 => pl_pos (by decide) ?_)
        · rw [show wg w p 0 = true from e0, if_pos rfl]
          refine rl_gd At.lf h (wg_iff.mp e0).1 (fun g1 h1 _ => ?_)
          refine rl_vC (ih (p + 1) (a + 1) n D K g1 r h1).1 (fun v q s2 T g2 r2 e2 h2 => ?_)
          refine rl_rs VS.lf h2 (fun _ g3 h3 _ => ?_)
          obtain ⟨n4, D4, K4, hA4, hq4, -⟩ := h3
          exact ⟨v, _, _, _, rfl, rfl, n4, D4, K4, hA4.x (-1) rfl, hq4, rfl⟩
        · rw [show wg w p 0 = false from e0, if_neg (by decide)]
          exact pl_v (yX_relation h hs) (fun _ _ _ _ => trivial) (fun v g1 r1 q => q)
      refine pl_u (xR_isReserved L xs 64 0 (j := 0) rfl (by decide) h.1) (fun e => pl_neg (by decide) ?_) (fun e => pl_pos (by decide) ?_)
      · refine pl_u (xR_isComparingWord L xs 1 (j := 1) rfl (by decide) h.1) (fun e2 => pl_pos (by decide) ?_) (fun e2 => pl_neg (by decide) ?_)
        · have e3 : (ww w p 64 && !wc w (p + 1)) = false := by rw [e2, Bool.not_true, Bool.and_false]
          rw [e3, if_neg (by decide)]
          exact h66 e3
        · rw [show ww w p 64 = true from e, e2, Bool.not_false, Bool.and_self, if_pos rfl]
          refine pl_e (xR_place L xs) ?_
          rw [h.1.pla]
          refine rl_mk (-1) (Or.inr rfl) h (fun g1 r1 h1 q1 => ?_)
          refine rl_gd VS.lf (h1.vs hs q1) (ww_iff.mp e).1 (fun g2 h2 q2 => ?_)
          obtain ⟨n2, D2, K2, hA, hq, hs2⟩ := h2
          refine rl_vC ((ih (p + 1) (a + 1) n2 D2 K2 g2 r1 hA).2.2 s hs2) (fun v q s3 T g3 r3 e3 h3 => ?_)
          exact rl_hs hq h3 (fun g4 r4 h4 => ⟨n, q, s3, _, rfl, rfl, h4⟩)
      · have e3 : (ww w p 64 && !wc w (p + 1)) = false := by rw [show ww w p 64 = false from e]; rfl
        rw [e3, if_neg (by decide)]
        exact h66 e3
