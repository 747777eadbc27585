/-! The model: whole(). -/
theorem tr_hdT {K : Nat → List Nat} {D : Nat → TD} {a b v : Nat} {T X : Tf} (h : Tr K D a b v T) : pT (T ++ X) = (D v).2.2.1 := by
  obtain ⟨G, -, h2, -⟩ := h.un
  rw [h2]
  rfl
section
variable {L : Nat} {xs : Nat → Int32} {m d : Nat} {w : Ws} {f : Gh} {p : Nat} {g : a2_G} {r : a2_A} {k : Int32 → a2_G → a2_A → Option fn_Z} {Q : Option Value → a2_G → a2_A → Prop} {X : Nat → a2_G → a2_A → Prop} {n : Nat} {D : Nat → TD} {K : Nat → List Nat} {N : Nat → Int32} {l : List (Nat × Tf)}
theorem zM_whole {kd many x3 : Int32} {e1 : Nat × Tf} {ls : List (Nat × Tf)} (hn : 1 ≤ n) (hkd : ¬ st38 kd) (hm : many.toInt = ((ls.length + 1 : Nat) : Int)) (hc : chT (r fM_next).2 (e1 :: ls)) (h : Pn w f n D K N p (l ++ e1 :: ls) g r) (hk : ∀ v g' r', Pn w f n D K N p (l ++ [(v, whT kd (e1 :: ls))]) g' r' → (∀ q, q ∉ WEa → r' q = r q) → (∀ k, k ≠ fM_nodes → g' k = g k) → (∀ e, e ∈ l → (r' fM_next).2 e.1 = (r fM_next).2 e.1) → Fk g r g' r' → pl (k (Int32.ofNat v) g' r') Q X) : pl (fn_v (ev L xs (m + 1) d nM_whole [.ref cM, .int kd, .int (Int32.ofNat e1.1), .int x3, .int many] g r) k) Q X := by
  refine pl_v (Q1 := fun o g' r' => (∃ v, o = some (.int (Int32.ofNat v)) ∧ Pn w f n D K N p (l ++ [(v, whT kd (e1 :: ls))]) g' r') ∧ (∀ q, q ∉ WEa → r' q = r q) ∧ (∀ k, k ≠ fM_nodes → g' k = g k) ∧ (∀ e, e ∈ l → (r' fM_next).2 e.1 = (r fM_next).2 e.1) ∧ Fk g r g' r') (X1 := kN) ?_ (fun _ _ _ e => e.elim) (fun x g' r' e => ?_)
  · cases d with
    | zero => trivial
    | succ d =>
      rw [qM_whole]
      refine pl_in (fun c1 => ?_) (fun c1 => ?_)
      · have hl2 : ls ≠ [] := fun e => c1 (i32e (by rw [hm, e]; rfl))
        have hw : whT kd (e1 :: ls) = nd (kd, 0, pT (cat (e1 :: ls)), -1) (cat (e1 :: ls)) := by
          unfold whT
          rw [if_neg]
          intro e
          have : ls.length = 0 := by simpa using e
          exact hl2 (List.length_eq_zero_iff.mp this)
        rw [hw]
        obtain ⟨n1, D1, K1, hA, ⟨a1, a2, a3, a4, a5⟩, hN⟩ := h
        obtain ⟨m0, s1, s2⟩ := a3.spl
        have s3 : ∃ m1, Tr K1 D1 m0 m1 e1.1 e1.2 ∧ Sgm K1 D1 m1 ls n1 := s2
        obtain ⟨m1, t1, t2⟩ := s3
        have hs1 := s1.le
        have hs2 := s2.le
        have r1 := t1.rg
        have h8 := hA.2.2.2.1
        have ea : (Int32.ofNat e1.1).toNatClampNeg = e1.1 := tn_at (on_eq (by have := t2.le; omega))
        refine pl_if (fun _ => ?_) (fun _ => trivial)
        have ep : (r fM_place).2 (Int32.ofNat e1.1).toNatClampNeg = pT (cat (e1 :: ls)) := by
          rw [ea]
          show _ = pT (e1.2 ++ cat ls)
          rw [tr_hdT t1]
          exact (hA.2.2.2.2.1 e1.1 (by have := t2.le; omega)).2.2.1
        rw [ep]
        refine pl_v (zM_make kd 0 (pT (cat (e1 :: ls))) (e0 := -1) (fun q => absurd q hkd) hA.ml hA.2) (fun _ _ _ e => e) (fun v0 g1 r1' e => ?_)
        obtain ⟨f1, f2, f3, f4, f5, f6⟩ := e
        cases f1
        have hG1 : Gd w f p g1 r1' := hA.1.nd f4 (fun k hk => by rw [f3, upd_ne hk]) (by have := f2.1; omega) f6
        have hmem : ∀ e, e ∈ e1 :: ls → m0 ≤ e.1 ∧ e.1 < n1 := fun e he => s2.mem he
        have hlen : (e1 :: ls).length < 8000 := by
          have q := List.Nodup.length_le_of_subset s2.nodup (l₂ := List.range n1) (fun x hx => by
            obtain ⟨e, he, rfl⟩ := List.mem_map.mp hx
            exact List.mem_range.mpr (hmem e he).2)
          have q2 : (fsts (e1 :: ls)).length = (e1 :: ls).length := List.length_map _
          rw [List.length_range, q2] at q
          have := f2.2.2.1
          omega
        have hK0 : fK (fK K1 n1 []) n1 (fsts []) = fK K1 n1 [] := by
          funext j
          by_cases ej : j = n1
          · rw [ej, fK_eq, fK_eq]
            rfl
          · rw [fK_ne ej]
        have hch1 : chT (r1' fM_next).2 (e1 :: ls) := hc.fr (fun e he => by rw [f5, upd_ne (by have := hmem e he; omega)])
        refine pl_mono (wh_t (r0 := r1') (g0 := g1) (N0 := (r1' fM_next).2) (K1 := fK K1 n1 []) (D1 := fD D1 n1 (kd, 0, pT (cat (e1 :: ls)), -1)) (n1 := n1 + 1) (v := n1) (ls := e1 :: ls) (by omega) (fun e he => by have := hmem e he; omega) (fun e he j hj ej hx => ?_) s2.nodup hlen kd (Int32.ofNat e1.1) x3 many hm (wh_r (by omega) (fun e he => by have := hmem e he; omega) (fun e he j hj ej hx => ?_) s2.nodup hlen kd (Int32.ofNat e1.1) x3 many hm m) [] (e1 :: ls) (Int32.ofNat e1.1) 0 0 g1 r1' rfl rfl (fun e l eq => by cases eq; rfl) ⟨hG1, by rw [hK0]; exact f2, hch1, fun _ _ => rfl, rfl⟩ (fun _ _ => rfl)) (fun o g2 r2 q => ?_) (fun _ _ _ q => q)
        · rw [fK_ne ej] at hx
          exact a4 e (List.mem_append_right _ he) j (by omega) hx
        · rw [fK_ne ej] at hx
          exact a4 e (List.mem_append_right _ he) j (by omega) hx
        · obtain ⟨q1, ⟨q2, q3, -, q5, rfl⟩, q6⟩ := q
          have hKv : fK (fK K1 n1 []) n1 (fsts (e1 :: ls)) n1 = fsts (e1 :: ls) := fK_eq
          have hK3 : ∀ y, y ≠ n1 → fK (fK K1 n1 []) n1 (fsts (e1 :: ls)) y = K1 y := fun y hy => by rw [fK_ne hy, fK_ne hy]
          generalize fK (fK K1 n1 []) n1 (fsts (e1 :: ls)) = K3 at *
          have hnx : ∀ y, y < n1 → y ∉ fsts (e1 :: ls) → (r2 fM_next).2 y = (r fM_next).2 y := fun y hy hm => by
            rw [q6 y hm, f5, upd_ne (by omega)]
          refine ⟨⟨n1, q1, n1 + 1, fD D1 n1 (kd, 0, pT (cat (e1 :: ls)), -1), K3, ⟨q2, q3⟩, ⟨by omega, fun i hi => ?_, ?_, fun e he j hj hx => ?_, fun j j1 j2 x hx => ?_⟩, fun y hy => ?_⟩, fun q hq => (q5 q hq).trans (f6 q hq), fun k hk => by rw [f3, upd_ne hk], fun e he => ?_, Fk.of hA.2 q3 (Nat.le_succ _) (fun i hi => fD_ne (by omega))⟩
          · rw [hK3 i (by omega), fD_ne (by omega)]
            exact a2 i hi
          · refine (s1.loc (fun y y1 y2 => ⟨hK3 y (by omega), fD_ne (by omega)⟩)).app ⟨n1 + 1, ?_, rfl⟩
            have q := Tr.many (K := K3) (D := fD D1 n1 (kd, 0, pT (cat (e1 :: ls)), -1)) (v := n1) (s2.loc (fun y y1 y2 => ⟨hK3 y (by omega), fD_ne (by omega)⟩)) rfl hKv
            rw [fD_eq] at q
            exact q
          · by_cases ej : j = n1
            · rw [ej, hKv] at hx
              obtain ⟨e', he', ex⟩ := List.mem_map.mp hx
              have hb := hmem e' he'
              rcases List.mem_append.mp he with he | he
              · have := s1.mem he
                omega
              · rw [List.mem_singleton.mp he] at ex
                have ex' : e'.1 = n1 := ex
                omega
            · rw [hK3 j ej] at hx
              rcases List.mem_append.mp he with he | he
              · exact a4 e (List.mem_append_left _ he) j (by omega) hx
              · rw [List.mem_singleton.mp he] at hx
                have hx' : n1 ∈ K1 j := hx
                have := (hA.2.2.2.2.kid (by omega : j < n1) hx').2
                omega
          · by_cases ej : j = n1
            · rw [ej, hKv] at hx
              obtain ⟨e', he', ex⟩ := List.mem_map.mp hx
              have hb := hmem e' he'
              omega
            · rw [hK3 j ej] at hx
              exact a5 j j1 (by omega) x hx
          · rw [hnx y (by omega) (fun hx => ?_)]
            · exact hN y hy
            · obtain ⟨e', he', ex⟩ := List.mem_map.mp hx
              have hb := hmem e' he'
              omega
          · have hb := s1.mem he
            refine hnx e.1 (by omega) (fun hx => ?_)
            obtain ⟨e', he', ex⟩ := List.mem_map.mp hx
            have hb' := hmem e' he'
            omega
      · rw [Decidable.not_not] at c1
        have hl0 : ls = [] := by
          have : (1 : Int) = ((ls.length + 1 : Nat) : Int) := by rw [← hm, c1]; rfl
          exact List.length_eq_zero_iff.mp (by omega)
        subst hl0
        have hw : whT kd [e1] = e1.2 := by
          unfold whT
          rw [if_pos (show [e1].length = 1 from rfl)]
          exact List.append_nil _
        refine ⟨⟨e1.1, rfl, ?_⟩, fun _ _ => rfl, fun _ _ => rfl, fun _ _ => rfl, Fk.rf⟩
        rw [hw]
        exact h
  · obtain ⟨⟨v, e1, e2⟩, e3, e4, e5, e6⟩ := e
    cases e1
    exact hk v g' r' e2 e3 e4 e5 e6
end
