/-! What is counted in a tree; a tree grows at its end. -/
def kd (k : Int32) : Nat := if k = 1 ∨ k = 2 then 1 else 0
/-- how many units -/
def cQ : Tf → Nat
  | [] => 0
  | x :: T => kd x.2.1 + cQ T
theorem cQ_app : ∀ (A B : Tf), cQ (A ++ B) = cQ A + cQ B
  | [], B => (Nat.zero_add _).symm
  | x :: A, B => by
    show kd x.2.1 + cQ (A ++ B) = kd x.2.1 + cQ A + cQ B
    rw [cQ_app A B]
    omega
theorem cQ_up : ∀ (A : Tf), cQ (upT A) = cQ A
  | [] => rfl
  | x :: A => by
    show kd x.2.1 + cQ (upT A) = kd x.2.1 + cQ A
    rw [cQ_up A]
theorem cQ_nd (d : TD) (A : Tf) : cQ (nd d A) = kd d.1 + cQ A := by
  show kd d.1 + cQ (upT A) = _
  rw [cQ_up]
theorem cQ_l1 (d : TD) : cQ (l1 d) = kd d.1 := rfl
theorem clp_c (e : Ce) (l : List Ce) : cQ (clp (e :: l)) = kd e.1.1 + (cQ e.2 + cQ (clp l)) := by
  show cQ (nd e.1 (e.2 ++ clp l)) = _
  rw [cQ_nd, cQ_app]
theorem cQ_att : ∀ (i : Nat) (ch : List Ce) (e : Ce), cQ (clp (attC i ch e)) = cQ (clp ch) + (kd e.1.1 + cQ e.2)
  | 0, [], e => by
    show cQ (clp [e]) = _
    rw [clp_c]
    show kd e.1.1 + (cQ e.2 + 0) = 0 + _
    omega
  | i + 1, [], e => by
    show cQ (clp [e]) = _
    rw [clp_c]
    show kd e.1.1 + (cQ e.2 + 0) = 0 + _
    omega
  | 0, a :: l, e => by
    show cQ (clp [(a.1, a.2 ++ clp l), e]) = _
    rw [clp_c, clp_c, clp_c]
    show kd a.1.1 + (cQ (a.2 ++ clp l) + (kd e.1.1 + (cQ e.2 + 0))) = _
    rw [cQ_app]
    omega
  | i + 1, a :: l, e => by
    show cQ (clp (a :: attC i l e)) = _
    rw [clp_c, clp_c, cQ_att i l e]
    omega
theorem cQ_set : ∀ (i : Nat) (ch : List Ce) (e e' : Ce), kd e.1.1 = kd e'.1.1 → cQ e.2 = cQ e'.2 → cQ (clp (ch.set i e)) = cQ (clp (ch.set i e'))
  | _, [], _, _, _, _ => rfl
  | 0, a :: l, e, e', h1, h2 => by
    show cQ (clp (e :: l)) = cQ (clp (e' :: l))
    rw [clp_c, clp_c, h1, h2]
  | i + 1, a :: l, e, e', h1, h2 => by
    show cQ (clp (a :: l.set i e)) = cQ (clp (a :: l.set i e'))
    rw [clp_c, clp_c, cQ_set i l e e' h1 h2]
theorem cQ_ren {i : Nat} {ch : List Ce} {k k' v v' : Int32} (h : kd k = kd k') : cQ (clp (renC i ch k v)) = cQ (clp (renC i ch k' v')) := by
  unfold renC
  cases ch[i]? with
  | none => rfl
  | some e => exact cQ_set _ _ _ _ h rfl
/-- what is read holds no unit -/
def nk2 (x : Option R2) : Prop := ∀ r, x = some r → cQ r.2.2 = 0
theorem nk_o {q : Nat} {a : Tf} (h : cQ a = 0) : nk2 (o2 q a) := fun r e => by
  cases e
  exact h
theorem nk_s {q : Nat} {s : Sjt} {a : Tf} (h : cQ a = 0) : nk2 (some (q, s, a)) := fun r e => by
  cases e
  exact h
theorem nk_n : nk2 none := fun r e => by cases e
theorem nk_i {c : Prop} [Decidable c] {a b : Option R2} (ha : nk2 a) (hb : nk2 b) : nk2 (if c then a else b) := by
  by_cases h : c
  · rw [if_pos h]; exact ha
  · rw [if_neg h]; exact hb
theorem nk_b {X : Option R2} {K : Nat → Sjt → Tf → Option R2} (hx : nk2 X) (hk : ∀ q s a, cQ a = 0 → nk2 (K q s a)) : nk2 (b2 X K) := fun r e => by
  cases hX : X with
  | none => rw [hX] at e; cases e
  | some y =>
    rw [hX] at e
    exact hk _ _ _ (hx y hX) r e
theorem kd_0 {k : Int32} (h1 : k ≠ 1) (h2 : k ≠ 2) : kd k = 0 := if_neg (fun e => e.elim h1 h2)
theorem kd_od (w : Ws) (p : Nat) : kd (od w p).1 = 0 := kd_0 (k := 41) (by decide) (by decide)
theorem kd_nm (w : Ws) (k : Int32) (p : Nat) : kd (nm w k p).1 = kd k := rfl
theorem nk_rl (w : Ws) (p : Nat) (s : Sjt) : nk2 (some (rl w p s)) := fun r e => by
  cases e
  have h53 : ∀ x y z, kd ((53, x, y, z) : TD).1 = 0 := fun _ _ _ => kd_0 (k := 53) (by decide) (by decide)
  have h54 : ∀ x y z, kd ((54, x, y, z) : TD).1 = 0 := fun _ _ _ => kd_0 (k := 54) (by decide) (by decide)
  unfold rl
  split
  · show cQ (nd _ (l1 _ ++ l1 _)) = 0
    rw [cQ_nd, cQ_app, cQ_l1, cQ_l1, kd_od, kd_od, h53]
  · split
    · split
      · show cQ (nd _ (l1 _)) = 0
        rw [cQ_nd, cQ_l1, kd_od, h53]
      · show cQ (nd _ (l1 _)) = 0
        rw [cQ_nd, cQ_l1, kd_od, h53]
    · show cQ (l1 _) = 0
      rw [cQ_l1, h54]
theorem kd_lit : kd 55 = 0 ∧ kd 50 = 0 ∧ kd 51 = 0 ∧ kd 52 = 0 ∧ kd 40 = 0 ∧ kd 42 = 0 ∧ kd 46 = 0 ∧ kd 47 = 0 ∧ kd 43 = 0 ∧ kd 44 = 0 ∧ kd 45 = 0 ∧ kd 13 = 0 ∧ kd 14 = 0 ∧ kd 15 = 0 ∧ kd 16 = 0 ∧ kd 17 = 0 ∧ kd 18 = 0 ∧ kd 19 = 0 ∧ kd 21 = 0 ∧ kd 41 = 0 ∧ kd 26 = 0 ∧ kd 27 = 0 ∧ kd 28 = 0 ∧ kd 29 = 0 ∧ kd 30 = 0 ∧ kd 31 = 0 ∧ kd 32 = 0 ∧ kd 33 = 0 ∧ kd 34 = 0 ∧ kd 35 = 0 ∧ kd 36 = 0 ∧ kd 37 = 0 ∧ kd 38 = 0 := by decide
theorem st2_nk {w : Ws} {F : F2} (hF : ∀ t p s a, cQ a = 0 → nk2 (F t p s a)) (t p : Nat) (s : Sjt) (a : Tf) (ha : cQ a = 0) : nk2 (st2 w F t p s a) := by
  unfold st2
  split
  all_goals
    repeat' first
      | exact nk_n
      | exact nk_rl _ _ _
      | refine nk_i ?_ ?_
      | refine hF _ _ _ _ ?_
      | refine nk_o ?_
      | refine nk_s ?_
      | refine nk_b ?_ (fun _ _ _ _ => ?_)
  all_goals first
    | rfl
    | assumption
    | (simp only [cQ_nd, cQ_app, cQ_l1, kd_od, kd_nm, kd_lit, *]; done)
    | (simp only [cQ_nd, cQ_app, cQ_l1, kd_od, kd_nm, kd_lit, *]; first | rfl | decide)
    | (split <;> simp only [cQ_nd, cQ_app, cQ_l1, kd_od, kd_nm, kd_lit, *] <;> rfl)
theorem it2_nk (w : Ws) : ∀ k t p s a, cQ a = 0 → nk2 (it2 w k t p s a)
  | 0 => fun _ _ _ _ _ => nk_n
  | k + 1 => st2_nk (it2_nk w k)
theorem tv_nk {w : Ws} {t p q : Nat} {s s' : Sjt} {a T : Tf} (ha : cQ a = 0) (e : tv w t p s a = some (q, s', T)) : cQ T = 0 := by
  obtain ⟨n, hn⟩ := tv_ex e
  exact it2_nk w n t p s a ha _ hn
theorem slc_nk (w : Ws) (p : Nat) : cQ (slc w p).2 = 0 := by
  have h2 : ∀ q a, cQ a = 0 → cQ (sl2 w q a).2 = 0 := fun q a ha => by
    unfold sl2
    split
    · show cQ (a ++ l1 _) = 0
      rw [cQ_app, ha, cQ_l1]
      rfl
    · exact ha
  unfold slc sl1
  split
  · exact h2 _ _ (by rw [cQ_app, cQ_l1, kd_od, cQ_l1]; rfl)
  · exact h2 _ _ (by rw [cQ_l1, kd_od])
def upn (d : Nat) (F : Fo) : Fo := F.map fun x => (x.1 + d, x.2)
theorem upn_app (d : Nat) (F G : Fo) : upn d (F ++ G) = upn d F ++ upn d G := List.map_append
theorem upn_up (d : Nat) : ∀ F : Fo, upn d (up1 F) = upn (d + 1) F
  | [] => rfl
  | x :: F => by
    show (x.1 + 1 + d, x.2) :: upn d (up1 F) = (x.1 + (d + 1), x.2) :: upn (d + 1) F
    rw [upn_up d F, Nat.add_assoc, Nat.add_comm 1 d]
theorem upn_0 : ∀ F : Fo, upn 0 F = F
  | [] => rfl
  | x :: F => by
    show (x.1 + 0, x.2) :: upn 0 F = _
    rw [upn_0 F]
    rfl
theorem poL_app_inv {f : Nat → Option Fo} : ∀ {l l' : List Nat} {H : Fo}, poL f (l ++ l') = some H → ∃ F G, poL f l = some F ∧ poL f l' = some G ∧ H = F ++ G
  | [], l', H, h => ⟨[], H, rfl, h, rfl⟩
  | x :: l, l', H, h => by
    obtain ⟨a, b, h1, h2, rfl⟩ := poL_cons.mp h
    obtain ⟨F, G, h3, h4, rfl⟩ := poL_app_inv h2
    exact ⟨a ++ F, G, poL_cons.mpr ⟨a, F, h1, h3, rfl⟩, h4, by rw [List.append_assoc]⟩
theorem upn_up1 (d : Nat) : ∀ F : Fo, up1 (upn d F) = upn (d + 1) F
  | [] => rfl
  | x :: F => by
    show (x.1 + d + 1, x.2) :: up1 (upn d F) = (x.1 + (d + 1), x.2) :: upn (d + 1) F
    rw [upn_up1 d F, Nat.add_assoc]
section
variable {K K' : Nat → List Nat} {D : Nat → TD} {n : Nat}
theorem Zc.mem : ∀ {i : Nat} {l : List Nat} {v : Nat} {c : List Ce} {t k : Nat} {G : Fo}, Zc K D n (v :: l) c → (v :: l)[i]? = some t → po K k v = some G → t ∈ ids G
  | 0, l, v, c, t, k, G, _, ht, hG => by
    cases ht
    obtain ⟨H, rfl⟩ := po_hd hG
    exact List.mem_cons_self
  | i + 1, [], _, _, _, _, _, _, ht, _ => by cases ht
  | i + 1, v1 :: l, v, [], t, k, G, hZ, _, _ => hZ.elim
  | i + 1, v1 :: l, v, e :: c, t, k, G, hZ, ht, hG => by
    obtain ⟨-, -, ⟨R, z3, -⟩, z5⟩ := hZ
    cases k with
    | zero => cases hG
    | succ k =>
      obtain ⟨H, h1, rfl⟩ := po_succ.mp hG
      rw [z3] at h1
      obtain ⟨HR, H1, h2, h3, rfl⟩ := poL_app_inv h1
      obtain ⟨a, b, h4, h5, rfl⟩ := poL_cons.mp h3
      have := Zc.mem z5 (show (v1 :: l)[i]? = some t from ht) h4
      show t ∈ v :: ids (up1 (HR ++ (a ++ b)))
      rw [up1_ids, ids_app, ids_app]
      exact List.mem_cons_of_mem _ (List.mem_append_right _ (List.mem_append_left _ this))
/-- hung below a node of the chain: behind all others -/
theorem Zc.pre : ∀ {i : Nat} {l : List Nat} {v : Nat} {c : List Ce} {t : Nat} {G A : Fo}, Zc K D n (v :: l) c → (v :: l)[i]? = some t → Dn K v G → (ids G).Nodup → (∀ x, x ∈ ids G → x < n) → (∀ y, y < n → y ≠ t → K' y = K y) → K' t = K t ++ [n] → Dn K' n A → Dn K' v (G ++ upn (i + 1) A)
  | 0, l, v, c, t, G, A, hZ, ht, ⟨k, hG⟩, hnd, hl, hK, hKt, hA => by
    cases ht
    cases k with
    | zero => cases hG
    | succ k =>
      obtain ⟨H, h1, rfl⟩ := po_succ.mp hG
      have hH : DnL K (K v) H := ⟨k, h1⟩
      have e1 : ids ((0, v) :: up1 H) = v :: ids H := by
        show v :: ids (up1 H) = _
        rw [up1_ids]
      rw [e1] at hnd hl
      have hH' : DnL K' (K v) H := hH.loc (fun y hy => hK y (hl y (List.mem_cons_of_mem _ hy)) (fun e => (List.nodup_cons.mp hnd).1 (e ▸ hy)))
      have h2 := hH'.app (DnL.one hA)
      rw [← hKt] at h2
      have h3 := Dn.node h2
      rw [up1_app] at h3
      have e2 : up1 A = upn (0 + 1) A := by
        have := upn_up1 0 A
        rw [upn_0] at this
        exact this
      rw [e2] at h3
      exact h3
  | i + 1, [], v, c, t, G, A, hZ, ht, _, _, _, _, _, _ => by cases ht
  | i + 1, v1 :: l, v, e :: c, t, G, A, hZ, ht, ⟨k, hG⟩, hnd, hl, hK, hKt, hA => by
    obtain ⟨z1, z2, ⟨R, z3, z4⟩, z5⟩ := hZ
    have ht' : (v1 :: l)[i]? = some t := ht
    have htge := (Zc.ge z5 ht').1
    have hv1 : v < v1 := z2
    have htv : v1 ≤ t := htge
    cases k with
    | zero => cases hG
    | succ k =>
      obtain ⟨H, h1, rfl⟩ := po_succ.mp hG
      rw [z3] at h1
      obtain ⟨HR, H1, h2, h3, rfl⟩ := poL_app_inv h1
      obtain ⟨a, b, h4, h5, rfl⟩ := poL_cons.mp h3
      have hb : b = [] := (Option.some.inj h5).symm
      subst hb
      rw [List.append_nil] at *
      have e1 : ids ((0, v) :: up1 (HR ++ a)) = v :: (ids HR ++ ids a) := by
        show v :: ids (up1 (HR ++ a)) = _
        rw [up1_ids, ids_app]
      rw [e1] at hnd hl
      obtain ⟨hnv, hnd2⟩ := List.nodup_cons.mp hnd
      obtain ⟨n1, n2, n3⟩ := List.nodup_append.mp hnd2
      have ih := Zc.pre z5 ht' ⟨k, h4⟩ n2 (fun x hx => hl x (List.mem_cons_of_mem _ (List.mem_append_right _ hx))) hK hKt hA
      have hta : t ∈ ids a := Zc.mem z5 ht' h4
      have hR : DnL K' R HR := DnL.loc ⟨k, h2⟩ (fun y hy => hK y (hl y (List.mem_cons_of_mem _ (List.mem_append_left _ hy))) (fun e => n3 y hy t hta e))
      have h6 := hR.app (DnL.one ih)
      have hKv : K' v = R ++ [v1] := by
        rw [hK v (hl v List.mem_cons_self) (by omega)]
        exact z3
      rw [← hKv] at h6
      have h7 := Dn.node h6
      rw [← List.append_assoc, up1_app, upn_up1] at h7
      exact h7
  | i + 1, v1 :: l, v, [], t, G, A, hZ, _, _, _, _, _, _, _ => hZ.elim
end
