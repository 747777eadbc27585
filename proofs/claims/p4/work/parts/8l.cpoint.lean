/-! What a clause does to the chain, and where the class keeps the chain's nodes. -/
abbrev Xs : Type := List Ce × Nat × Nat × Nat
def renC (i : Nat) (ch : List Ce) (k v : Int32) : List Ce := match ch[i]? with
  | none => ch
  | some e => ch.set i ((k, v, e.1.2.2.1, e.1.2.2.2), e.2)
/-- what stands behind SELECT's file: its children, and where the period is -/
def sl2 (w : Ws) (q : Nat) (a : Tf) : Nat × Tf := if ww w q 11 then (sk (ww w (q + 1) 67) (q + 1) + 1, a ++ l1 (6, w.2.1 (sk (ww w (q + 1) 67) (q + 1)), Int32.ofNat q, -1)) else (q, a)
def sl1 (w : Ws) (q : Nat) (a : Tf) : Nat × Tf := if ww w q 7 then sl2 w (sk (ww w (q + 1) 67) (q + 1) + 1) (a ++ l1 (5, w.2.1 (sk (ww w (q + 1) 67) (q + 1)) - 8, Int32.ofNat q, -1)) else sl2 w q a
def slc (w : Ws) (p : Nat) : Nat × Tf := sl1 w (sk (ww w (p + 3) 48) (p + 3) + 1) (l1 (od w (sk (ww w (p + 3) 48) (p + 3))))
/-- an item's name, and what stands behind it -/
def itn (w : Ws) (q : Nat) : Int32 × Nat := if wk w q 1 then (w.2.1 q + 1, q + 1) else (0, sk (ww w q 18) q)
/-- ONE CLAUSE: where it ends, and the chain behind it -/
noncomputable def yC (w : Ws) (c : CU) (x : Xs) (p : Nat) : Option (Nat × Xs) :=
  if wk w p 1 then
    if ww w (p + 1) 16 then some (p + 3, attC (if oT c = 9 then oN c + 2 else oN c + 1) x.1 ((23, w.2.1 p, Int32.ofNat p, -1), []), x.2.1, (if oT c = 9 then oN c + 2 else oN c + 1) + 1, 0)
    else some (p + 2, attC (if x.2.2.1 = 0 then oN c + 1 else x.2.2.1) x.1 ((24, w.2.1 p, Int32.ofNat p, -1), []), x.2.1, x.2.2.1, (if x.2.2.1 = 0 then oN c + 1 else x.2.2.1) + 1)
  else if wk w p 2 then
    match oP c (w.2.1 p), tv w 24 (itn w (p + 1)).2 none [] with
    | some k, some (q, _, F) => some (q, attC (x.2.1 + k) x.1 ((12, 1000 * w.2.1 p + (itn w (p + 1)).1, Int32.ofNat p, -1), F), x.2)
    | _, _ => none
  else if wb w p then
    match tv w 11 p none [] with
    | some (q, _, F) => some (q + 1, attC (if x.2.2.2 = 0 then (if x.2.2.1 = 0 then oN c + 1 else x.2.2.1) else x.2.2.2) x.1 ((25, 0, Int32.ofNat p, -1), F), x.2)
    | none => none
  else if (w.2.1 p).toInt = 0 then some (p + 3, attC (oN c) x.1 ((0, 0, Int32.ofNat p, -1), []), x.2)
  else if (w.2.1 p).toInt = 2 then some (p + 3, renC (oN c) x.1 1 (w.2.1 (p + 1)), x.2)
  else if (w.2.1 p).toInt = 3 then some (p + 3, renC (oN c) x.1 2 (w.2.1 (p + 1)), x.2)
  else if (w.2.1 p).toInt = 4 then some (p + 3, attC (oN c) x.1 ((3, 0, Int32.ofNat p, -1), []), x.2)
  else if (w.2.1 p).toInt = 5 then some ((slc w p).1 + 1, attC (oN c + 1) x.1 ((4, w.2.1 (p + 1), Int32.ofNat p, -1), (slc w p).2), x.2)
  else if (w.2.1 p).toInt = 12 then some (p + 3, attC (oN c) x.1 ((7, 0, Int32.ofNat p, -1), []), x.2)
  else if (w.2.1 p).toInt = 13 then some (p + 3, attC (oN c + 1) x.1 ((8, 0, Int32.ofNat p, -1), []), oN c + 2, x.2.2)
  else if (w.2.1 p).toInt = 14 then some (p + 3, attC (oN c + 1) x.1 ((9, 0, Int32.ofNat p, -1), []), oN c + 2, x.2.2)
  else if (w.2.1 p).toInt = 15 then some (p + 3, attC (oN c + 1) x.1 ((10, 0, Int32.ofNat p, -1), []), oN c + 2, x.2.2)
  else if (w.2.1 p).toInt = 17 then some (p + 3, attC (oN c + 2) x.1 ((11, w.2.1 (p + 1), Int32.ofNat p, -1), []), oN c + 3, x.2.2)
  else if (w.2.1 p).toInt = 30 then
    if ww w (p + 2) 31 then
      match tv w 38 (p + 3) none [] with
      | some (q, _, F) => some (q + 1, attC (oN c) x.1 ((20, 0, Int32.ofNat p, -1), F), x.2.1, 0, 0)
      | none => none
    else some (p + 3, attC (oN c) x.1 ((20, 0, Int32.ofNat p, -1), []), x.2.1, 0, 0)
  else if (w.2.1 p).toInt = 32 then some (p + 2, attC (oN c + 1) x.1 ((22, 0, Int32.ofNat p, -1), []), x.2)
  else if (w.2.1 p).toInt = 33 then
    if ww w (p + 1) 32 then some (p + 3, x.1, x.2.1, 0, 0) else some (p + 4, x)
  else none
def Pt (ids : List Nat) (i : Nat) (a : Int32) : Prop := ∃ t, ids[i]? = some t ∧ a = Int32.ofNat t
def Po (ids : List Nat) (i : Nat) (a : Int32) : Prop := i = 0 ∧ a = -1 ∨ i ≠ 0 ∧ Pt ids i a
theorem attI_old : ∀ {i j : Nat} {l : List Nat} {u : Nat}, j ≤ i → i < l.length → (attI i l u)[j]? = l[j]?
  | _, _, [], _, _, h => absurd h (Nat.not_lt_zero _)
  | 0, 0, v :: l, _, _, _ => rfl
  | i + 1, 0, v :: l, _, _, _ => rfl
  | i + 1, j + 1, v :: l, u, hj, hi => by
    show (attI i l u)[j]? = l[j]?
    exact attI_old (Nat.le_of_succ_le_succ hj) (Nat.lt_of_succ_lt_succ hi)
  | 0, j + 1, v :: l, _, hj, _ => by omega
theorem attI_new : ∀ {i : Nat} {l : List Nat} {u : Nat}, i < l.length → (attI i l u)[i + 1]? = some u
  | _, [], _, h => absurd h (Nat.not_lt_zero _)
  | 0, v :: l, _, _ => rfl
  | i + 1, v :: l, u, h => attI_new (i := i) (l := l) (Nat.lt_of_succ_lt_succ h)
theorem Pt.lt {ids : List Nat} {i : Nat} {a : Int32} (h : Pt ids i a) : i < ids.length := by
  obtain ⟨t, h1, -⟩ := h
  exact (List.getElem?_eq_some_iff.mp h1).1
theorem Pt.att {ids : List Nat} {i j v : Nat} {a : Int32} (h : Pt ids j a) (hj : j ≤ i) (hi : i < ids.length) : Pt (attI i ids v) j a := by
  obtain ⟨t, h1, h2⟩ := h
  exact ⟨t, (attI_old hj hi).trans h1, h2⟩
theorem Pt.new {ids : List Nat} {i v : Nat} (hi : i < ids.length) : Pt (attI i ids v) (i + 1) (Int32.ofNat v) := ⟨v, attI_new hi, rfl⟩
theorem Po.att {ids : List Nat} {i j v : Nat} {a : Int32} (h : Po ids j a) (hj : j ≤ i) (hi : i < ids.length) : Po (attI i ids v) j a := h.imp id (fun e => ⟨e.1, e.2.att hj hi⟩)
/-- where the class keeps them, by the innermost unit's state st; u units and io items are open -/
def Hc (u : Nat) (st : Int) (io : Nat) (y : Nat × Nat × Nat) (ids : List Nat) (g : a2_G) (r : a2_A) : Prop :=
  Pt ids 0 0 ∧ (∀ i, i < u → Pt ids (i + 1) ((r fU_handles).2 i)) ∧
  (2 ≤ st → st ≤ 11 → Pt ids (u + 1) (g fC_openDivision)) ∧
  (4 ≤ st → st ≤ 5 → Pt ids (u + 2) (g fC_section)) ∧
  (5 ≤ st → st ≤ 7 → u + 2 ≤ y.1 ∧ (st = 5 → u + 3 ≤ y.1) ∧ Pt ids y.1 (g fI_holder) ∧ ∀ i, i < io → Pt ids (y.1 + 1 + i) ((r fI_openHandles).2 i)) ∧
  (st = 9 → Pt ids (u + 2) (g fC_declaratives)) ∧
  (8 ≤ st → st ≤ 11 → Po ids y.2.1 (g fC_section) ∧ Po ids y.2.2 (g fC_paragraph) ∧ (y.2.1 ≠ 0 → u + 2 ≤ y.2.1 ∧ (st = 9 → u + 3 ≤ y.2.1)) ∧ (y.2.2 ≠ 0 → u + 2 ≤ y.2.2 ∧ y.2.1 < y.2.2 ∧ (st = 9 → u + 3 ≤ y.2.2)) ∧ (st = 8 → y.2.1 = 0 ∧ y.2.2 = 0))
theorem Hc.fr {u : Nat} {st : Int} {io : Nat} {y : Nat × Nat × Nat} {ids : List Nat} {g g' : a2_G} {r r' : a2_A} (h : Hc u st io y ids g r) (hg : ∀ k, 6 ≤ k / 100 → g' k = g k) (hr : ∀ q, 6 ≤ q / 100 → r' q = r q) : Hc u st io y ids g' r' := by
  unfold Hc at h ⊢
  rw [hr fU_handles (by decide), hg fC_openDivision (by decide), hg fC_section (by decide), hg fI_holder (by decide), hr fI_openHandles (by decide), hg fC_declaratives (by decide), hg fC_paragraph (by decide)]
  exact h
def n53 (ch : List Ce) : Prop := ∀ e, e ∈ ch → (e.1.1 ≠ 53 ∧ e.1.1 ≠ 41)
theorem n53.att : ∀ {i : Nat} {ch : List Ce} {e : Ce}, n53 ch → (e.1.1 ≠ 53 ∧ e.1.1 ≠ 41) → n53 (attC i ch e)
  | _, [], e, _, he => by
    cases ‹Nat› <;> exact fun y hy => (List.mem_singleton.mp hy) ▸ he
  | 0, x :: c, e, h, he => fun y hy => by
    rcases List.mem_cons.mp hy with rfl | hy
    · exact h x List.mem_cons_self
    · rw [List.mem_singleton.mp hy]
      exact he
  | i + 1, x :: c, e, h, he => fun y hy => by
    rcases List.mem_cons.mp hy with rfl | hy
    · exact h _ List.mem_cons_self
    · exact n53.att (fun z hz => h z (List.mem_cons_of_mem _ hz)) he y hy
/-- the class's tree between two clauses -/
def TS (c : CU) (x : Xs) (g : a2_G) (r : a2_A) : Prop := ∃ n D K ids, Rc n D K g r ∧ Zc K D n ids x.1 ∧ Hc (oN c) (oT c).toInt (oI c) x.2 ids g r ∧ (∀ i, i + 1 < oN c → oS c i = 12) ∧ n53 x.1
/-- behind a clause -/
def kTC (z : Option (Nat × Xs)) (c' : CU) : Option Value → a2_G → a2_A → Prop := fun _ g r => ∃ q x', z = some (q, x') ∧ (g fR_at).toInt = q ∧ TS c' x' g r
section
variable {L : Nat} {xs : Nat → Int32} {m d : Nat} {w : Ws} {f : Gh} {p : Nat} {g : a2_G} {r : a2_A} {k : Int32 → a2_G → a2_A → Option fn_Z} {kn : a2_G → a2_A → Option fn_Z} {Q : Option Value → a2_G → a2_A → Prop} {n : Nat} {D : Nat → TD} {K : Nat → List Nat}
/-- what was built, hung below a node of the chain -/
theorem rl_at {ids : List Nat} {ch : List Ce} {i q : Nat} {a : Int32} {dd : TD} {F : Tf} (hZ : Zc K D n ids ch) (ha : Pt ids i a) (hv : Vt NP w f n D K q n (nd dd F) g r) (hk : ∀ n' D' K' g' r', At w f q n' D' K' g' r' → Zc K' D' n' (attI i ids n) (attC i ch (dd, F)) → cpF cpTT g r g' r' → pl (kn g' r') Q kYT) : pl (fn_n (ev L xs (m + 1) d nT_append [.ref cT, .int a, .int (Int32.ofNat n)] g r) kn) Q kYT := by
  obtain ⟨n1, D1, K1, hA, b1, b2, b3, b4, b5⟩ := hv
  obtain ⟨t, ht, rfl⟩ := ha
  have hlt := (Zc.ge hZ ht).2
  have rv := b3.rg
  refine pl_n (yT_append L xs hA.2 (i := t) (c := n) (by omega) (by omega) (by omega) rfl rfl (fun j hj hx => b4 j hj hx)) (fun _ _ _ _ => trivial) (fun g' r' e => ?_)
  obtain ⟨⟨-, e2⟩, e3⟩ := e
  refine hk n1 D1 _ g' r' ⟨hA.1.t e3, e2⟩ ?_ e3
  refine Zc.att hZ ht rv.2 (fun y hy1 hy2 => (fK_ne hy2).trans (b2 y hy1).1) ?_ (fun y hy => (b2 y hy).2) ?_
  · rw [fK_eq, (b2 t hlt).1]
  · exact b3.loc (fun y hy1 hy2 => ⟨fK_ne (by omega), rfl⟩)
theorem rl_hd {c : CU} {st : Int} {io : Nat} {y : Nat × Nat × Nat} {ids : List Nat} (hc : Cv c g r) (hh : Hc (oN c) st io y ids g r) (hk : ∀ a, Pt ids (oN c) a → pl (k a g r) Q kYT) : pl (fn_v (ev L xs (m + 1) d nU_handle [.ref cU] g r) k) Q kYT := by
  refine pl_v (Q1 := fun o g' r' => ∃ a, o = some (.int a) ∧ Pt ids (oN c) a ∧ g' = g ∧ r' = r) (X1 := kYT) ?_ (fun _ _ _ _ => trivial) (fun v g' r' e => ?_)
  · cases d with
    | zero => trivial
    | succ d =>
      rw [qU_handle]
      unfold BU_handle_22
      refine pl_if (fun e => ?_) (fun e => ?_)
      · rw [c2_le] at e
        have e' : (g fU_size).toInt ≤ 0 := e
        have := hc.1
        refine ⟨0, rfl, ?_, rfl, rfl⟩
        rw [show oN c = 0 by omega]
        exact hh.1
      · rw [c2_le] at e
        obtain ⟨e1, e2⟩ := hc.top e
        refine pl_if (fun _ => ⟨_, rfl, ?_, rfl, rfl⟩) (fun _ => trivial)
        rw [e1]
        have := hh.2.1 (oN c - 1) (by omega)
        rw [show oN c - 1 + 1 = oN c by omega] at this
        exact this
  · obtain ⟨a, e1, e2, rfl, rfl⟩ := e
    cases e1
    exact hk _ e2
theorem rl_ss {a : Int32} (hk : ∀ r', (∀ q, q ≠ fU_states → r' q = r q) → pl (kn g r') Q kYT) : pl (fn_n (ev L xs (m + 1) d nU_setState [.ref cU, .int a] g r) kn) Q kYT := by
  refine pl_n (Q1 := fun o g' r' => g' = g ∧ ∀ q, q ≠ fU_states → r' q = r q) (X1 := kYT) ?_ (fun _ _ _ _ => trivial) (fun g' r' e => ?_)
  · cases d with
    | zero => trivial
    | succ d =>
      rw [qU_setState]
      unfold BU_setState_19
      refine pl_if (fun _ => ⟨rfl, fun _ _ => rfl⟩) (fun _ => pl_if (fun _ => ⟨rfl, fun q hq => if_neg hq⟩) (fun _ => trivial))
  · obtain ⟨rfl, e2⟩ := e
    exact hk r' e2
theorem oT_ss {c : CU} {a : Int32} (h : oN c ≠ 0) : oT (sS c a) = a := by
  unfold sS oT
  rw [if_neg h]
  show (if oN c = 0 then -1 else upd (oS c) (oN c - 1) a (oN c - 1)) = a
  rw [if_neg h, upd_eq]
theorem oN_ss {c : CU} {a : Int32} : oN (sS c a) = oN c := by
  unfold sS
  split
  · rfl
  · rfl
theorem oI_ss {c : CU} {a : Int32} : oI (sS c a) = oI c := by
  unfold sS
  split
  · rfl
  · rfl
theorem oS_ss {c : CU} {a : Int32} {i : Nat} (h : i + 1 < oN c) : oS (sS c a) i = oS c i := by
  unfold sS
  split
  · rfl
  · show upd (oS c) (oN c - 1) a i = oS c i
    exact upd_ne (by omega)
theorem oB_N {c : CU} {lo hi : Int} (h : oB c lo hi = true) (h0 : 0 ≤ lo) : oN c ≠ 0 ∧ lo ≤ (oT c).toInt ∧ (oT c).toInt ≤ hi := by
  unfold oB at h
  rw [Bool.and_eq_true, decide_eq_true_eq, decide_eq_true_eq] at h
  refine ⟨fun e => ?_, h⟩
  unfold oT at h
  rw [if_pos e] at h
  have : (-1 : Int32).toInt = -1 := rfl
  omega
end
