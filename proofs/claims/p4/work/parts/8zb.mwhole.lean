/-! The model: rows of waiting trees, put under one node. -/
def cat : List (Nat × Tf) → Tf
  | [] => []
  | e :: l => e.2 ++ cat l
theorem cat_app : ∀ (l l' : List (Nat × Tf)), cat (l ++ l') = cat l ++ cat l'
  | [], _ => rfl
  | e :: l, l' => by
    show e.2 ++ cat (l ++ l') = e.2 ++ cat l ++ cat l'
    rw [cat_app l l', List.append_assoc]
def fsts (l : List (Nat × Tf)) : List Nat := l.map Prod.fst
/-- next of each is the following one -/
def chT (N : Nat → Int32) : List (Nat × Tf) → Prop
  | [] => True
  | [_] => True
  | e :: e' :: l => N e.1 = Int32.ofNat e'.1 ∧ chT N (e' :: l)
theorem chT.fr {N N' : Nat → Int32} : ∀ {l : List (Nat × Tf)}, chT N l → (∀ e, e ∈ l → N' e.1 = N e.1) → chT N' l
  | [], _, _ => trivial
  | [_], _, _ => trivial
  | e :: e' :: l, h, hy => ⟨(hy e List.mem_cons_self).trans h.1, chT.fr h.2 (fun x hx => hy x (List.mem_cons_of_mem _ hx))⟩
theorem chT.snoc {N : Nat → Int32} {v : Nat} {T : Tf} : ∀ {l : List (Nat × Tf)} {u : Nat} {U : Tf}, chT N (l ++ [(u, U)]) → N u = Int32.ofNat v → chT N (l ++ [(u, U)] ++ [(v, T)])
  | [], _, _, _, hu => ⟨hu, trivial⟩
  | [_], _, _, h, hu => ⟨h.1, hu, trivial⟩
  | e :: e' :: l, u, U, h, hu => ⟨h.1, chT.snoc (l := e' :: l) h.2 hu⟩
section
variable {K : Nat → List Nat} {D : Nat → TD}
theorem Sgm.trl : ∀ {l : List (Nat × Tf)} {a b : Nat}, Sgm K D a l b → TrL K D a b (fsts l) (cat l)
  | [], _, _, h => TrL.nil' h
  | e :: l, a, b, h => by
    obtain ⟨m, h1, h2⟩ := h
    have h3 := h1.rg
    exact TrL.app (l := [e.1]) (TrL.one h1) (Sgm.trl h2) (by omega) h2.le
theorem Tr.many {a b v : Nat} {l : List (Nat × Tf)} (h : Sgm K D a l b) (hv : b = v) (hK : K v = fsts l) : Tr K D a (v + 1) v (nd (D v) (cat l)) := by
  have hle := h.le
  obtain ⟨G, g1, g2, g3, g4, g5⟩ := h.trl
  refine Tr.fo (G := G) (by rw [hK]; exact g1) (by rw [g2]) (fun x hx => ?_) g4 (fun hx => ?_) (by omega) (by omega)
  · have := g3 x hx
    omega
  · have := g3 v hx
    omega
theorem Sgm.mem {a b : Nat} {l : List (Nat × Tf)} (h : Sgm K D a l b) {e : Nat × Tf} (he : e ∈ l) : a ≤ e.1 ∧ e.1 < b := by
  induction l generalizing a with
  | nil => cases he
  | cons y l ih =>
    obtain ⟨m', s1, s2⟩ := h
    have r1 := s1.rg
    have r2 := s2.le
    rcases List.mem_cons.mp he with rfl | he
    · omega
    · have := ih s2 he
      omega
theorem Sgm.nodup {a b : Nat} {l : List (Nat × Tf)} (h : Sgm K D a l b) : (fsts l).Nodup := by
  induction l generalizing a with
  | nil => exact List.nodup_nil
  | cons y l ih =>
    obtain ⟨m', s1, s2⟩ := h
    refine List.nodup_cons.mpr ⟨fun hx => ?_, ih s2⟩
    obtain ⟨e, he, e2⟩ := List.mem_map.mp hx
    have := s2.mem he
    have := s1.rg
    omega
end
theorem fsts_app (l l' : List (Nat × Tf)) : fsts (l ++ l') = fsts l ++ fsts l' := List.map_append
def whT (k : Int32) (l : List (Nat × Tf)) : Tf := if l.length = 1 then cat l else nd (k, 0, pT (cat l), -1) (cat l)
/-- what the loop of whole() has done: those of l1 hang, those of l2 wait -/
def WhS (w : Ws) (f : Gh) (p n1 v : Nat) (D1 : Nat → TD) (K1 : Nat → List Nat) (l1 l2 : List (Nat × Tf)) (r0 : a2_A) (g0 g : a2_G) (r : a2_A) : Prop := Gd w f p g r ∧ Rm n1 D1 (fK K1 v (fsts l1)) g r ∧ chT (r fM_next).2 l2 ∧ (∀ q, q ∉ WEa → r q = r0 q) ∧ g = g0
section
variable {L : Nat} {xs : Nat → Int32} {m d k : Nat} {w : Ws} {f : Gh} {p n1 v : Nat} {D1 : Nat → TD} {K1 : Nat → List Nat} {r0 : a2_A} {g0 : a2_G} {N0 : Nat → Int32} {ls : List (Nat × Tf)}
def kWh (w : Ws) (f : Gh) (p n1 v : Nat) (D1 : Nat → TD) (K1 : Nat → List Nat) (ls : List (Nat × Tf)) (r0 : a2_A) (g0 : a2_G) (N0 : Nat → Int32) : Option Value → a2_G → a2_A → Prop := fun o g r => o = some (.int (Int32.ofNat v)) ∧ WhS w f p n1 v D1 K1 ls [] r0 g0 g r ∧ ∀ y, y ∉ fsts ls → (r fM_next).2 y = N0 y
theorem wh_t (hv : v < n1) (hls : ∀ e, e ∈ ls → 0 < e.1 ∧ e.1 < n1 ∧ e.1 ≠ v) (hd : ∀ e, e ∈ ls → ∀ j, j < n1 → j ≠ v → e.1 ∉ K1 j) (hnd : (fsts ls).Nodup) (hlen : ls.length < 8000) (x1 x2 x3 x4 : Int32) (h4 : x4.toInt = ls.length)
    (H : ∀ (l1 l2 : List (Nat × Tf)) (x6 x7 x8 : Int32) (g : a2_G) (r : a2_A), ls = l1 ++ l2 → x7.toInt = l1.length → (∀ e l, l2 = e :: l → x6 = Int32.ofNat e.1) → WhS w f p n1 v D1 K1 l1 l2 r0 g0 g r → (∀ y, y ∉ fsts ls → (r fM_next).2 y = N0 y) → pl (lp L xs nM_whole nm_m208 (m + 1) d k 28 [some (.ref cM), some (.int x1), some (.int x2), some (.int x3), some (.int x4), some (.int (Int32.ofNat v)), some (.int x6), some (.int x7), some (.int x8)] g r) (kWh w f p n1 v D1 K1 ls r0 g0 N0) kN)
    (l1 l2 : List (Nat × Tf)) (x6 x7 x8 : Int32) (g : a2_G) (r : a2_A) (e : ls = l1 ++ l2) (h7 : x7.toInt = l1.length) (h6 : ∀ e l, l2 = e :: l → x6 = Int32.ofNat e.1) (h : WhS w f p n1 v D1 K1 l1 l2 r0 g0 g r) (hN : ∀ y, y ∉ fsts ls → (r fM_next).2 y = N0 y) : pl (BM_whole_28_1 L xs (m + 1) d k x1 x2 x3 x4 (Int32.ofNat v) x6 x7 x8 g r) (kWh w f p n1 v D1 K1 ls r0 g0 N0) kN := by
  unfold BM_whole_28_1
  have hll : ls.length = l1.length + l2.length := by rw [e, List.length_append]
  refine pl_ih (fun c => ?_) (fun c => ?_)
  · rw [h4, h7] at c
    cases l2 with
    | cons a l2 =>
      simp at hll
      omega
    | nil =>
      rw [List.append_nil] at e
      subst e
      exact ⟨rfl, h, hN⟩
  · rw [h4, h7] at c
    cases l2 with
    | nil =>
      simp at hll
      omega
    | cons a l2 =>
      obtain ⟨hG, hR, hc, hq, hg⟩ := h
      rw [h6 a l2 rfl]
      have ha : a ∈ ls := by rw [e]; exact List.mem_append_right _ List.mem_cons_self
      obtain ⟨a1, a2, a3⟩ := hls a ha
      have h8 := hR.2.2.1
      have ea : (Int32.ofNat a.1).toNatClampNeg = a.1 := tn_at (on_eq (by omega))
      have hnd2 : (fsts l1).Nodup ∧ (a.1 :: fsts l2).Nodup ∧ ∀ x, x ∈ fsts l1 → x ∈ a.1 :: fsts l2 → False := by
        rw [e, fsts_app] at hnd
        obtain ⟨n1, n2, n3⟩ := List.nodup_append.mp hnd
        exact ⟨n1, n2, fun x h1 h2 => n3 x h1 x h2 rfl⟩
      have hda : ∀ j, j < n1 → a.1 ∉ fK K1 v (fsts l1) j := fun j hj hx => by
        by_cases ej : j = v
        · rw [ej, fK_eq] at hx
          exact hnd2.2.2 _ hx List.mem_cons_self
        · rw [fK_ne ej] at hx
          exact hd a ha j hj ej hx
      refine pl_if (fun _ => ?_) (fun _ => trivial)
      rw [ea]
      refine pl_n (zM_attach (i := v) (c := a.1) hv a1 a2 hda hG.1.2.1 hR) (fun _ _ _ e => e) (fun g2 r2 q => ?_)
      obtain ⟨-, q2, rfl, q4, q5, q6⟩ := q
      rw [fK_eq] at q2 q5
      have hK : fK (fK K1 v (fsts l1)) v (fsts l1 ++ [a.1]) = fK K1 v (fsts (l1 ++ [a])) := by
        funext j
        by_cases ej : j = v
        · rw [ej, fK_eq, fK_eq, fsts_app]
          rfl
        · rw [fK_ne ej, fK_ne ej, fK_ne ej]
      rw [hK] at q2
      have hx7 := i32_inc (x := x7) (by omega)
      refine H (l1 ++ [a]) l2 _ (x7 + 1) _ g2 r2 (by rw [e, List.append_assoc]; rfl) (by rw [List.length_append, hx7, h7]; rfl) (fun b l eb => ?_) ⟨hG.nd q4 (fun _ _ => rfl) (by have := hR.1; omega) q6, q2, ?_, fun q hq' => (q6 q hq').trans (hq q hq'), hg⟩ (fun y hy => ?_)
      · subst eb
        exact hc.1
      · have hc2 : chT (r fM_next).2 l2 := by
          cases l2 with
          | nil => trivial
          | cons b l2 => exact hc.2
        refine hc2.fr (fun b hb => ?_)
        have hb2 : b.1 ∈ fsts l2 := List.mem_map.mpr ⟨b, hb, rfl⟩
        exact q5 b.1 (fun e1 => (List.nodup_cons.mp hnd2.2.1).1 (e1 ▸ hb2)) (fun e1 => hnd2.2.2 _ e1 (List.mem_cons_of_mem _ hb2))
      · rw [e, fsts_app] at hy
        have hy1 : y ∉ fsts l1 := fun q => hy (List.mem_append_left _ q)
        have hy2 : y ≠ a.1 := fun q => hy (List.mem_append_right _ (by rw [q]; exact List.mem_cons_self))
        rw [q5 y hy2 hy1]
        exact hN y (by rw [e, fsts_app]; exact hy)
theorem wh_r (hv : v < n1) (hls : ∀ e, e ∈ ls → 0 < e.1 ∧ e.1 < n1 ∧ e.1 ≠ v) (hd : ∀ e, e ∈ ls → ∀ j, j < n1 → j ≠ v → e.1 ∉ K1 j) (hnd : (fsts ls).Nodup) (hlen : ls.length < 8000) (x1 x2 x3 x4 : Int32) (h4 : x4.toInt = ls.length) : ∀ (k : Nat) (l1 l2 : List (Nat × Tf)) (x6 x7 x8 : Int32) (g : a2_G) (r : a2_A), ls = l1 ++ l2 → x7.toInt = l1.length → (∀ e l, l2 = e :: l → x6 = Int32.ofNat e.1) → WhS w f p n1 v D1 K1 l1 l2 r0 g0 g r → (∀ y, y ∉ fsts ls → (r fM_next).2 y = N0 y) → pl (lp L xs nM_whole nm_m208 (m + 1) d k 28 [some (.ref cM), some (.int x1), some (.int x2), some (.int x3), some (.int x4), some (.int (Int32.ofNat v)), some (.int x6), some (.int x7), some (.int x8)] g r) (kWh w f p n1 v D1 K1 ls r0 g0 N0) kN
  | 0 => fun _ _ _ _ _ _ _ _ _ _ _ _ => pl_l0
  | k + 1 => fun l1 l2 x6 x7 x8 g r e h7 h6 h hN => by
    rw [lM_whole_28_1]
    exact wh_t hv hls hd hnd hlen x1 x2 x3 x4 h4 (wh_r hv hls hd hnd hlen x1 x2 x3 x4 h4 k) l1 l2 x6 x7 x8 g r e h7 h6 h hN
end
