/-! The chain of open nodes, from the root to the innermost. -/
abbrev Ce : Type := TD × Tf
def hdI (l : List Nat) (n : Nat) : Nat := match l with
  | [] => n
  | v :: _ => v
def hdL (l : List Nat) : List Nat := match l with
  | [] => []
  | v :: _ => [v]
def clp : List Ce → Tf
  | [] => []
  | e :: c => nd e.1 (e.2 ++ clp c)
def Zc (K : Nat → List Nat) (D : Nat → TD) (n : Nat) : List Nat → List Ce → Prop
  | [], [] => True
  | v :: l, e :: c => D v = e.1 ∧ v < hdI l n ∧ (∃ R, K v = R ++ hdL l ∧ TrL K D (v + 1) (hdI l n) R e.2) ∧ Zc K D n l c
  | _, _ => False
def attC : Nat → List Ce → Ce → List Ce
  | 0, x :: c, e => [(x.1, x.2 ++ clp c), e]
  | i + 1, x :: c, e => x :: attC i c e
  | _, [], e => [e]
def attI : Nat → List Nat → Nat → List Nat
  | 0, v :: _, u => [v, u]
  | i + 1, v :: l, u => v :: attI i l u
  | _, [], u => [u]
section
variable {K K' : Nat → List Nat} {D D' : Nat → TD} {n n' : Nat}
theorem Zc.hd : ∀ {l : List Nat} {c : List Ce}, Zc K D n l c → hdI l n ≤ n
  | [], _, _ => Nat.le_refl _
  | v :: l, [], h => nomatch h
  | v :: l, e :: c, h => by
    have h1 := h.2.1
    have h2 := Zc.hd h.2.2.2
    show v ≤ n
    omega
theorem Zc.len : ∀ {l : List Nat} {c : List Ce}, Zc K D n l c → l.length = c.length
  | [], [], _ => rfl
  | [], _ :: _, h => nomatch h
  | v :: l, [], h => nomatch h
  | v :: l, e :: c, h => congrArg (· + 1) (Zc.len h.2.2.2)
theorem Zc.tr : ∀ {l : List Nat} {v : Nat} {c : List Ce}, Zc K D n (v :: l) c → Tr K D v n v (clp c)
  | _, _, [], h => nomatch h
  | [], v, [e], h => by
    obtain ⟨h1, h2, ⟨R, h3, h4⟩, -⟩ := h
    have q := Tr.node (K := K) (D := D) (v := v) (b := n) (T := e.2) (by rw [h3]; exact (List.append_nil R).symm ▸ h4) h2
    rw [h1] at q
    show Tr K D v n v (nd e.1 (e.2 ++ []))
    rw [List.append_nil]
    exact q
  | [], v, e :: e' :: c, h => nomatch h.2.2.2
  | u :: l, v, e :: c, h => by
    obtain ⟨h1, h2, ⟨R, h3, h4⟩, h5⟩ := h
    have h6 := Zc.tr h5
    have h7 := Zc.hd h5
    have h2' : v < u := h2
    have h7' : u ≤ n := h7
    have q := Tr.node (K := K) (D := D) (v := v) (b := n) (T := e.2 ++ clp c) (by rw [h3]; exact h4.app (TrL.one h6) h2' h7') (by omega)
    rw [h1] at q
    exact q
/-- the nodes of a chain grow -/
theorem Zc.ge : ∀ {l : List Nat} {c : List Ce} {i t : Nat}, Zc K D n l c → l[i]? = some t → hdI l n ≤ t ∧ t < n
  | [], _, i, t, _, ht => by simp at ht
  | v :: l, [], _, _, h, _ => nomatch h
  | v :: l, e :: c, 0, t, h, ht => by
    have : v = t := by simpa using ht
    subst this
    have h2 := h.2.1
    have h3 := Zc.hd h.2.2.2
    exact ⟨Nat.le_refl _, by omega⟩
  | v :: l, e :: c, i + 1, t, h, ht => by
    have q := Zc.ge h.2.2.2 (i := i) (t := t) (by simpa using ht)
    have h2 := h.2.1
    exact ⟨by show v ≤ t; omega, q.2⟩
theorem Zc.loc : ∀ {l : List Nat} {c : List Ce}, Zc K D n l c → (∀ y, hdI l n ≤ y → y < n → K' y = K y ∧ D' y = D y) → Zc K' D' n l c
  | [], [], _, _ => trivial
  | [], _ :: _, h, _ => nomatch h
  | v :: l, [], h, _ => nomatch h
  | v :: l, e :: c, h, hy => by
    obtain ⟨h1, h2, ⟨R, h3, h4⟩, h5⟩ := h
    have h6 := Zc.hd h5
    have hy' : ∀ y, v ≤ y → y < n → K' y = K y ∧ D' y = D y := hy
    refine ⟨(hy' v (Nat.le_refl _) (by omega)).2.trans h1, h2, ⟨R, (hy' v (Nat.le_refl _) (by omega)).1.trans h3, h4.loc (fun y hy1 hy2 => hy' y (by omega) (by omega))⟩, Zc.loc h5 (fun y hy1 hy2 => hy' y (by omega) hy2)⟩
theorem TrL.of_tr {a b v : Nat} {d : TD} {F : Tf} (h : Tr K D a b v (nd d F)) (hv : a = v) : TrL K D (v + 1) b (K v) F := by
  obtain ⟨G, h1, h2, h3, h4, h5, h6, h7⟩ := h.un
  refine ⟨G, h1, (nd_inj h2).2, fun x hx => ?_, h4, by omega⟩
  have q := h3 x hx
  have : x ≠ v := fun e => h5 (e ▸ hx)
  omega
theorem attI_hd : ∀ {i : Nat} {l : List Nat} {u n t : Nat}, l[i]? = some t → hdI (attI i l u) n = hdI l n
  | 0, [], _, _, _, h => by simp at h
  | i + 1, [], _, _, _, h => by simp at h
  | 0, v :: l, _, _, _, _ => rfl
  | i + 1, v :: l, _, _, _, _ => rfl
theorem hdI_any {l : List Nat} {n n' i t : Nat} (h : l[i]? = some t) : hdI l n = hdI l n' := by
  cases l with
  | nil => simp at h
  | cons v l => rfl
theorem hdL_att {i : Nat} {l : List Nat} {u t : Nat} (h : l[i]? = some t) : hdL (attI i l u) = hdL l := by
  cases l with
  | nil => simp at h
  | cons v l => cases i <;> rfl
/-- a finished node hung below the i-th of the chain -/
theorem Zc.att : ∀ {i : Nat} {l : List Nat} {c : List Ce} {t : Nat} {d : TD} {F : Tf}, Zc K D n l c → l[i]? = some t → n < n' → (∀ y, y < n → y ≠ t → K' y = K y) → K' t = K t ++ [n] → (∀ y, y < n → D' y = D y) → Tr K' D' n n' n (nd d F) → Zc K' D' n' (attI i l n) (attC i c (d, F))
  | _, [], _, _, _, _, _, ht, _, _, _, _, _ => by simp at ht
  | _, v :: l, [], _, _, _, h, _, _, _, _, _, _ => nomatch h
  | 0, v :: l, e :: c, t, d, F, h, ht, hn, hk, hkt, hD, hT => by
    have ev : v = t := by simpa using ht
    subst ev
    have hlt := (Zc.ge h (i := 0) (t := v) rfl).2
    have htr := Zc.tr h
    obtain ⟨h1, -, -, -⟩ := h
    have htl := TrL.of_tr (d := e.1) (F := e.2 ++ clp c) htr rfl
    refine ⟨(hD v hlt).trans h1, hlt, ⟨K v, hkt, ?_⟩, hT.da, hn, ⟨K' n, (List.append_nil _).symm, ?_⟩, trivial⟩
    · exact htl.loc (fun y hy1 hy2 => ⟨hk y hy2 (by omega), hD y hy2⟩)
    · exact TrL.of_tr hT rfl
  | i + 1, v :: l, e :: c, t, d, F, h, ht, hn, hk, hkt, hD, hT => by
    have ht' : l[i]? = some t := by simpa using ht
    obtain ⟨h1, h2, ⟨R, h3, h4⟩, h5⟩ := h
    have hge := Zc.ge h5 ht'
    have hih := Zc.att h5 ht' hn hk hkt hD hT
    refine ⟨(hD v (by omega)).trans h1, ?_, ⟨R, ?_, ?_⟩, hih⟩
    · show v < hdI (attI i l n) n'
      rw [attI_hd ht', hdI_any (n' := n) ht']
      exact h2
    · show K' v = R ++ hdL (attI i l n)
      rw [hdL_att ht', hk v (by omega) (by omega)]
      exact h3
    · show TrL K' D' (v + 1) (hdI (attI i l n) n') R e.2
      rw [attI_hd ht', hdI_any (n' := n) ht']
      exact h4.loc (fun y hy1 hy2 => ⟨hk y (by omega) (by omega), hD y (by omega)⟩)
/-- a node's data set -/
theorem Zc.st : ∀ {i : Nat} {l : List Nat} {c : List Ce} {t : Nat} {e : Ce} {d' : TD}, Zc K D n l c → l[i]? = some t → c[i]? = some e → Zc K (fD D t d') n l (c.set i (d', e.2))
  | _, [], _, _, _, _, _, ht, _ => by simp at ht
  | _, v :: l, [], _, _, _, h, _, _ => nomatch h
  | 0, v :: l, e0 :: c, t, e, d', h, ht, he => by
    have ev : v = t := by simpa using ht
    have ee : e0 = e := by simpa using he
    subst ev
    subst ee
    obtain ⟨h1, h2, ⟨R, h3, h4⟩, h5⟩ := h
    refine ⟨fD_eq, h2, ⟨R, h3, h4.loc (fun y hy1 hy2 => ⟨rfl, fD_ne (by omega)⟩)⟩, ?_⟩
    exact Zc.loc h5 (fun y hy1 hy2 => ⟨rfl, fD_ne (by omega)⟩)
  | i + 1, v :: l, e0 :: c, t, e, d', h, ht, he => by
    have ht' : l[i]? = some t := by simpa using ht
    have he' : c[i]? = some e := by simpa using he
    obtain ⟨h1, h2, ⟨R, h3, h4⟩, h5⟩ := h
    have hge := Zc.ge h5 ht'
    refine ⟨(fD_ne (by omega)).trans h1, h2, ⟨R, h3, h4.loc (fun y hy1 hy2 => ⟨rfl, fD_ne (by omega)⟩)⟩, ?_⟩
    exact Zc.st h5 ht' he'
end
