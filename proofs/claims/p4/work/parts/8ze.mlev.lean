/-! The model's conditions: levels. -/
/-- a level: places of open NOTs (innermost first), factors that wait, conjunctions that wait -/
abbrev Lv : Type := List Nat × List (Nat × Tf) × List (Nat × Tf)
def l00 : Lv := ([], [], [])
def nts : List Nat → Tf → Tf
  | [], U => U
  | p :: ps, U => nts ps (nd (52, 0, Int32.ofNat p, -1) U)
noncomputable def cdO (w : Ws) (fin : Nat → Sjt → Tf → Option R2) (ors : List (Nat × Tf)) (q : Nat) (s : Sjt) (C : Tf) : Option R2 := b2 (tv w 6 q s (cat ors ++ C)) fun q2 s2 o => fin q2 s2 (if ors = [] ∧ ww w q 66 = false then o else nd (50, 0, pT (cat ors ++ C), -1) o)
noncomputable def cdA (w : Ws) (fin : Nat → Sjt → Tf → Option R2) (ands ors : List (Nat × Tf)) (q : Nat) (s : Sjt) (U : Tf) : Option R2 := b2 (tv w 8 q s (cat ands ++ U)) fun q1 s1 c => cdO w fin ors q1 s1 (if ands = [] ∧ ww w q 65 = false then c else nd (51, 0, pT (cat ands ++ U), -1) c)
/-- what is left behind a factor U -/
noncomputable def cdU (w : Ws) : List Lv → Nat → Sjt → Tf → Option R2
  | [], q, s, U => some (q, s, U)
  | lv :: rest, q, s, U => cdA w (fun q s R => if rest = [] then some (q, s, R) else cdU w rest (q + 1) none R) lv.2.1 lv.2.2 q s (nts lv.1 U)
theorem cdU_c (w : Ws) (lv : Lv) (rest : List Lv) (q : Nat) (s : Sjt) (U : Tf) : cdU w (lv :: rest) q s U = cdA w (fun q s R => if rest = [] then some (q, s, R) else cdU w rest (q + 1) none R) lv.2.1 lv.2.2 q s (nts lv.1 U) := rfl
theorem b2_id {x : Option R2} : b2 x (fun q s T => some (q, s, T)) = x := by
  cases x <;> rfl
theorem b2_s {q : Nat} {s : Sjt} {a : Tf} {k : Nat → Sjt → Tf → Option R2} : b2 (some (q, s, a)) k = k q s a := rfl
theorem cat_s (l : List (Nat × Tf)) (u : Nat) (U : Tf) : cat (l ++ [(u, U)]) = cat l ++ U := by
  rw [cat_app]
  show cat l ++ (U ++ []) = _
  rw [List.append_nil]
theorem pT_app {A B : Tf} (h : A ≠ []) : pT (A ++ B) = pT A := by
  cases A with
  | nil => exact absurd rfl h
  | cons a A => rfl
theorem nd_ne (dd : TD) (F : Tf) : nd dd F ≠ [] := fun e => nomatch e
section
variable {w : Ws} {fin : Nat → Sjt → Tf → Option R2} {ands ors : List (Nat × Tf)} {q p u c : Nat} {s : Sjt} {U C : Tf}
theorem app_ne {A B : Tf} (h : B ≠ []) : A ++ B ≠ [] := fun e => h (List.append_eq_nil_iff.mp e).2
theorem whT_ne {k : Int32} (h : U ≠ []) : whT k (ands ++ [(u, U)]) ≠ [] := by
  unfold whT
  split
  · rw [cat_s]
    exact app_ne h
  · exact nd_ne _ _
theorem cdA_no (h : ww w q 65 = false) (u : Nat) : cdA w fin ands ors q s U = cdO w fin ors q s (whT 51 (ands ++ [(u, U)])) := by
  unfold cdA
  rw [tv_8, if_neg (by rw [h]; exact Bool.false_ne_true), b2_s]
  refine congrArg (cdO w fin ors q s) ?_
  unfold whT
  rw [cat_s]
  cases ands with
  | nil => rw [if_pos ⟨rfl, h⟩, if_pos (show ([] ++ _ : List (Nat × Tf)).length = 1 from rfl)]
  | cons a l => rw [if_neg (fun e => nomatch e.1), if_neg (by simp)]
theorem cdO_or (h : ww w q 66 = true) (hC : C ≠ []) (c : Nat) : cdO w fin ors q s C = b2 (tv w 7 (q + 1) s []) (fun q s V => cdO w fin (ors ++ [(c, C)]) q s V) := by
  unfold cdO
  rw [tv_6, if_pos h, b2_as]
  refine congrArg (b2 _) (funext fun q' => funext fun s' => funext fun V => ?_)
  rw [cat_s]
  refine congrArg (b2 _) (funext fun q2 => funext fun s2 => funext fun o => ?_)
  rw [if_neg (fun e => by rw [h] at e; exact absurd e.2 (by decide)), if_neg (fun e => absurd e.1 (by simp)), pT_app (app_ne hC)]
theorem cdO_no (h : ww w q 66 = false) (c : Nat) : cdO w fin ors q s C = fin q s (whT 50 (ors ++ [(c, C)])) := by
  unfold cdO
  rw [tv_6, if_neg (by rw [h]; exact Bool.false_ne_true), b2_s]
  refine congrArg (fin q s) ?_
  unfold whT
  rw [cat_s]
  cases ors with
  | nil => rw [if_pos ⟨rfl, h⟩, if_pos (show ([] ++ _ : List (Nat × Tf)).length = 1 from rfl)]
  | cons a l => rw [if_neg (fun e => nomatch e.1), if_neg (by simp)]
theorem cd_7 : b2 (tv w 7 p s []) (fun q s C => cdO w fin ors q s C) = b2 (tv w 9 p s []) (fun q s U => cdA w fin [] ors q s U) := by
  rw [tv_7, b2_as]
  refine congrArg (b2 _) (funext fun q => funext fun s => funext fun b => ?_)
  cases h : ww w q 65 with
  | true =>
    rw [if_pos rfl, b2_as]
    unfold cdA
    refine congrArg (b2 _) (funext fun q2 => funext fun s2 => funext fun o => ?_)
    rw [b2_s, h, if_neg (fun e => absurd e.2 (by decide))]
    rfl
  | false =>
    rw [if_neg Bool.false_ne_true, b2_s]
    unfold cdA
    rw [tv_8, if_neg (by rw [h]; exact Bool.false_ne_true), b2_s, if_pos ⟨rfl, h⟩]
    rfl
theorem cd_5 {s0 : Sjt} : b2 (tv w 5 p s0 []) fin = b2 (tv w 9 p none []) (fun q s U => cdA w fin [] [] q s U) := by
  rw [← cd_7, tv_5, b2_as]
  refine congrArg (b2 _) (funext fun q => funext fun s => funext fun b => ?_)
  cases h : ww w q 66 with
  | true =>
    rw [if_pos rfl, b2_as]
    unfold cdO
    refine congrArg (b2 _) (funext fun q2 => funext fun s2 => funext fun o => ?_)
    rw [b2_s, h, if_neg (fun e => absurd e.2 (by decide))]
    rfl
  | false =>
    rw [if_neg Bool.false_ne_true, b2_s]
    unfold cdO
    rw [tv_6, if_neg (by rw [h]; exact Bool.false_ne_true), b2_s, if_pos ⟨rfl, h⟩]
    rfl
theorem cdA_and (h : ww w q 65 = true) (hU : U ≠ []) (u : Nat) : cdA w fin ands ors q s U = b2 (tv w 9 (q + 1) s []) (fun q s V => cdA w fin (ands ++ [(u, U)]) ors q s V) := by
  unfold cdA
  rw [tv_8, if_pos h, b2_as]
  refine congrArg (b2 _) (funext fun q' => funext fun s' => funext fun V => ?_)
  rw [cat_s]
  refine congrArg (b2 _) (funext fun q2 => funext fun s2 => funext fun o => ?_)
  rw [if_neg (fun e => by rw [h] at e; exact absurd e.2 (by decide)), if_neg (fun e => absurd e.1 (by simp)), pT_app (app_ne hU)]
theorem cdA_or (h : ww w q 65 = false) (h2 : ww w q 66 = true) (hU : U ≠ []) (u c : Nat) : cdA w fin ands ors q s U = b2 (tv w 9 (q + 1) s []) (fun q s V => cdA w fin [] (ors ++ [(c, whT 51 (ands ++ [(u, U)]))]) q s V) := by
  rw [cdA_no h u, cdO_or h2 (whT_ne hU) c, cd_7]
theorem cdA_end (h : ww w q 65 = false) (h2 : ww w q 66 = false) (u c : Nat) : cdA w fin ands ors q s U = fin q s (whT 50 (ors ++ [(c, whT 51 (ands ++ [(u, U)]))])) := by
  rw [cdA_no h u, cdO_no h2 c]
theorem cd_top {s0 : Sjt} : tv w 5 p s0 [] = b2 (tv w 9 p none []) (cdU w [l00]) := by
  rw [← b2_id (x := tv w 5 p s0 []), cd_5]
  rfl
theorem cd_not {ps : List Nat} {rest : List Lv} (h : (ww w p 64 && !wc w (p + 1)) = true) : b2 (tv w 9 p s []) (cdU w ((ps, ands, ors) :: rest)) = b2 (tv w 9 (p + 1) s []) (cdU w ((p :: ps, ands, ors) :: rest)) := by
  rw [tv_9, if_pos h, b2_as]
  rfl
theorem cd_par {lv : Lv} {rest : List Lv} (h0 : (ww w p 64 && !wc w (p + 1)) = false) (h : wg w p 0 = true) : b2 (tv w 9 p s []) (cdU w (lv :: rest)) = b2 (tv w 9 (p + 1) none []) (cdU w (l00 :: lv :: rest)) := by
  rw [tv_9, if_neg (by rw [h0]; exact Bool.false_ne_true), if_pos h, b2_as, cd_5]
  refine congrArg (b2 _) (funext fun q => funext fun s => funext fun b => ?_)
  show _ = cdA w (fun q s R => if lv :: rest = [] then some (q, s, R) else cdU w (lv :: rest) (q + 1) none R) [] [] q s b
  refine congrArg (fun F => cdA w F [] [] q s b) (funext fun q => funext fun s => funext fun b => ?_)
  rw [if_neg (by simp)]
  rfl
theorem cd_rel {lv : Lv} {rest : List Lv} (h0 : (ww w p 64 && !wc w (p + 1)) = false) (h : wg w p 0 = false) : b2 (tv w 9 p s []) (cdU w (lv :: rest)) = cdU w (lv :: rest) (rl w p s).1 (rl w p s).2.1 (rl w p s).2.2 := by
  rw [tv_9, if_neg (by rw [h0]; exact Bool.false_ne_true), if_neg (by rw [h]; exact Bool.false_ne_true)]
  rfl
end
/-! their rows -/
theorem chT.frs {N N' : Nat → Int32} {x : Nat × Tf} : ∀ {l : List (Nat × Tf)}, chT N (l ++ [x]) → (∀ e, e ∈ l → N' e.1 = N e.1) → chT N' (l ++ [x])
  | [], _, _ => trivial
  | [e], h, hy => ⟨(hy e List.mem_cons_self).trans h.1, trivial⟩
  | e :: e' :: l, h, hy => ⟨(hy e List.mem_cons_self).trans h.1, chT.frs (l := e' :: l) h.2 (fun a ha => hy a (List.mem_cons_of_mem _ ha))⟩
def JL (j : Nat) (l : List (Nat × Tf)) (M F La N : Nat → Int32) : Prop := (M j).toInt = (l.length : Int) ∧ (∀ e l', l = e :: l' → F j = Int32.ofNat e.1) ∧ (∀ e l', l = l' ++ [e] → La j = Int32.ofNat e.1) ∧ chT N l
theorem JL.fr {j : Nat} {l : List (Nat × Tf)} {M F La N M' F' La' N' : Nat → Int32} (h : JL j l M F La N) (h1 : M' j = M j) (h2 : F' j = F j) (h3 : La' j = La j) (h4 : ∀ e, e ∈ l → N' e.1 = N e.1) : JL j l M' F' La' N' := by
  obtain ⟨a, b, c, d⟩ := h
  refine ⟨by rw [h1]; exact a, fun e l' q => by rw [h2]; exact b e l' q, fun e l' q => by rw [h3]; exact c e l' q, d.fr h4⟩
theorem JL.nil {j : Nat} {M F La N : Nat → Int32} (h : M j = 0) : JL j [] M F La N := ⟨by rw [h]; rfl, (fun e l' q => nomatch q), (fun e l' q => absurd q (by simp)), trivial⟩
theorem JL.add {j : Nat} {l : List (Nat × Tf)} {M F La N M' F' La' N' : Nat → Int32} {u : Nat} {U : Tf} (h : JL j l M F La N) (hl : l.length ≤ 8000) (h1 : M' j = M j + 1) (h2 : F' j = if M j = 0 then Int32.ofNat u else F j) (h3 : La' j = Int32.ofNat u) (h4 : ∀ e l0, l = l0 ++ [e] → N' e.1 = Int32.ofNat u ∧ ∀ e', e' ∈ l0 → N' e'.1 = N e'.1) : JL j (l ++ [(u, U)]) M' F' La' N' := by
  obtain ⟨a, b, c, d⟩ := h
  refine ⟨?_, fun e l' q => ?_, fun e l' q => ?_, ?_⟩
  · rw [h1, i32_inc (by omega), a, List.length_append]
    rfl
  · rw [h2]
    cases l with
    | nil =>
      rw [if_pos (i32e a)]
      have q' : [(u, U)] = e :: l' := q
      injection q' with q1 q2
      rw [← q1]
    | cons x l =>
      rw [if_neg (fun e0 => by rw [e0, i32_0] at a; simp at a; omega)]
      rw [List.cons_append] at q
      injection q with q1 q2
      exact b e l (by rw [q1])
  · rw [h3]
    have q1 := congrArg List.getLast? q
    rw [List.getLast?_append, List.getLast?_append] at q1
    have q2 : some (u, U) = some e := q1
    injection q2 with q3
    rw [← q3]
  · rcases List.eq_nil_or_concat l with rfl | ⟨l0, x, rfl⟩
    · exact trivial
    · rw [List.concat_eq_append] at d ⊢
      obtain ⟨e1, e2⟩ := h4 x l0 List.concat_eq_append
      exact chT.snoc (u := x.1) (U := x.2) (d.frs e2) e1
def LvR (j : Nat) (lv : Lv) (r : a2_A) : Prop := JL j lv.2.1 (r fM_andMany).2 (r fM_andFirst).2 (r fM_andLast).2 (r fM_next).2 ∧ JL j lv.2.2 (r fM_orMany).2 (r fM_orFirst).2 (r fM_orLast).2 (r fM_next).2 ∧ ∀ p, p ∈ lv.1 → p ≤ 1500
def Jtr : List Lv → a2_A → Prop
  | [], _ => True
  | lv :: rest, r => LvR rest.length lv r ∧ Jtr rest r
def wt : List Lv → List (Nat × Tf)
  | [] => []
  | lv :: rest => wt rest ++ (lv.2.2 ++ lv.2.1)
def mkl : List Lv → List Int32
  | [] => []
  | lv :: rest => lv.1.map Int32.ofNat ++ (if rest = [] then [] else -1 :: mkl rest)
def Mkr : List Int32 → (Nat → Int32) → Prop
  | [], _ => True
  | x :: l, M => M l.length = x ∧ Mkr l M
theorem Mkr.fr : ∀ {l : List Int32} {M M' : Nat → Int32}, Mkr l M → (∀ i, i < l.length → M' i = M i) → Mkr l M'
  | [], _, _, _, _ => trivial
  | x :: l, M, M', h, hy => ⟨(hy l.length (by simp)).trans h.1, Mkr.fr h.2 (fun i hi => hy i (by simp; omega))⟩
/-- the rows of level i are the same -/
def Js (r r' : a2_A) (i : Nat) : Prop := (r' fM_andMany).2 i = (r fM_andMany).2 i ∧ (r' fM_andFirst).2 i = (r fM_andFirst).2 i ∧ (r' fM_andLast).2 i = (r fM_andLast).2 i ∧ (r' fM_orMany).2 i = (r fM_orMany).2 i ∧ (r' fM_orFirst).2 i = (r fM_orFirst).2 i ∧ (r' fM_orLast).2 i = (r fM_orLast).2 i
theorem Js.we {r r' : a2_A} (h : ∀ q, q ∉ WEa → r' q = r q) (i : Nat) : Js r r' i := by
  unfold Js
  rw [h fM_andMany (by decide), h fM_andFirst (by decide), h fM_andLast (by decide), h fM_orMany (by decide), h fM_orFirst (by decide), h fM_orLast (by decide)]
  exact ⟨rfl, rfl, rfl, rfl, rfl, rfl⟩
theorem LvR.fr {j : Nat} {lv : Lv} {r r' : a2_A} (h : LvR j lv r) (hj : Js r r' j) (hN : ∀ e, e ∈ lv.2.2 ++ lv.2.1 → (r' fM_next).2 e.1 = (r fM_next).2 e.1) : LvR j lv r' := ⟨h.1.fr hj.1 hj.2.1 hj.2.2.1 (fun e he => hN e (List.mem_append_right _ he)), h.2.1.fr hj.2.2.2.1 hj.2.2.2.2.1 hj.2.2.2.2.2 (fun e he => hN e (List.mem_append_left _ he)), h.2.2⟩
theorem Jtr.fr : ∀ {st : List Lv} {r r' : a2_A}, Jtr st r → (∀ i, i < st.length → Js r r' i) → (∀ e, e ∈ wt st → (r' fM_next).2 e.1 = (r fM_next).2 e.1) → Jtr st r'
  | [], _, _, _, _, _ => trivial
  | lv :: rest, r, r', h, hj, hN => ⟨h.1.fr (hj rest.length (by simp)) (fun e he => hN e (List.mem_append_right _ he)), Jtr.fr h.2 (fun i hi => hj i (by simp; omega)) (fun e he => hN e (List.mem_append_left _ he))⟩
/-- the subject of abbreviated relations -/
def Sj2 (s : Sjt) (g : a2_G) (r : a2_A) : Prop := match s with
  | none => g fM_subject = 0
  | some q => g fM_compared = q.1 ∧ ∃ i : Nat, 0 < i ∧ (i : Int) < (g fM_nodes).toInt ∧ g fM_subject = Int32.ofNat i ∧ (r fM_kind).2 i = 41 ∧ (r fM_place).2 i = Int32.ofNat q.2
theorem Sj2.fr {s : Sjt} {g g' : a2_G} {r r' : a2_A} (h : Sj2 s g r) (h1 : g' fM_subject = g fM_subject) (h2 : g' fM_compared = g fM_compared) (hF : Fk g r g' r') : Sj2 s g' r' := by
  cases s with
  | none => exact h1.trans h
  | some q =>
    obtain ⟨a1, i, a2, a3, a4, a5, a6⟩ := h
    exact ⟨h2.trans a1, i, a2, Int.lt_of_lt_of_le a3 hF.1, h1.trans a4, (hF.2 i a3).1.trans a5, (hF.2 i a3).2.trans a6⟩
theorem Sj2.pos {q : Int32 × Nat} {g : a2_G} {r : a2_A} (h : Sj2 (some q) g r) : 0 < (g fM_subject).toInt := by
  obtain ⟨-, i, a2, a3, a4, -⟩ := h
  have := Int32.toInt_lt (g fM_nodes)
  rw [a4, on_eq (by omega)]
  omega
/-- a condition that is being read: levels st, trees l on top -/
def CS (w : Ws) (f : Gh) (n : Nat) (D : Nat → TD) (K : Nat → List Nat) (N : Nat → Int32) (st : List Lv) (l : List (Nat × Tf)) (s : Sjt) (q : Nat) (g : a2_G) (r : a2_A) : Prop := Pn w f n D K N q (wt st ++ l) g r ∧ (Jtr st r ∧ (g fM_joints).toInt = (st.length : Int)) ∧ (Mkr (mkl st) (r fM_mark).2 ∧ (g fM_marks).toInt = ((mkl st).length : Int)) ∧ Sj2 s g r
section
variable {w : Ws} {f : Gh} {n : Nat} {D : Nat → TD} {K : Nat → List Nat} {N : Nat → Int32} {st : List Lv} {l l' : List (Nat × Tf)} {s : Sjt} {q q' : Nat} {g g' : a2_G} {r r' : a2_A}
theorem CS.gd (h : CS w f n D K N st l s q g r) : Gd w f q g r := h.1.gd
theorem CS.lf : LfM w f (fun p => CS w f n D K N st l s p) := ⟨fun _ _ _ h => h.gd, fun _ _ _ h hp => ⟨Pn.lf.2 _ _ _ h.1 hp, h.2.1, h.2.2.1, h.2.2.2.fr (upd_ne (by decide)) (upd_ne (by decide)) Fk.rf⟩⟩
theorem CS.fr (h : CS w f n D K N st l s q g r) (hP : Pn w f n D K N q' (wt st ++ l') g' r') (h1 : g' fM_joints = g fM_joints) (h2 : g' fM_marks = g fM_marks) (h3 : g' fM_subject = g fM_subject) (h4 : g' fM_compared = g fM_compared) (hr : ∀ q, q ∉ WEa → r' q = r q) (hN : ∀ e, e ∈ wt st → (r' fM_next).2 e.1 = (r fM_next).2 e.1) (hF : Fk g r g' r') : CS w f n D K N st l' s q' g' r' := by
  refine ⟨hP, ⟨h.2.1.1.fr (fun i _ => Js.we hr i) hN, by rw [h1]; exact h.2.1.2⟩, ⟨?_, by rw [h2]; exact h.2.2.1.2⟩, h.2.2.2.fr h3 h4 hF⟩
  rw [hr fM_mark (by decide)]
  exact h.2.2.1.1
theorem Pn.fa (h : Pn w f n D K N q l g r) : (fsts l).Nodup ∧ (∀ e, e ∈ l → n ≤ e.1 ∧ e.1 < 8000) ∧ l.length ≤ 8000 := by
  obtain ⟨n1, D1, K1, hA, ⟨a1, a2, a3, a4, a5⟩, hN⟩ := h
  have h8 := hA.2.2.2.1
  refine ⟨a3.nodup, fun e he => ?_, ?_⟩
  · have := a3.mem he
    omega
  · have q := List.Nodup.length_le_of_subset a3.nodup (l₂ := List.range n1) (fun x hx => by
      obtain ⟨e, he, rfl⟩ := List.mem_map.mp hx
      exact List.mem_range.mpr (a3.mem he).2)
    have q2 : (fsts l).length = l.length := List.length_map _
    rw [List.length_range, q2] at q
    omega
theorem nd_sep {l1 l2 : List (Nat × Tf)} {a b : Nat × Tf} (h : (fsts (l1 ++ l2)).Nodup) (ha : a ∈ l1) (hb : b ∈ l2) : a.1 ≠ b.1 := by
  rw [fsts_app] at h
  exact (List.nodup_append.mp h).2.2 a.1 (List.mem_map.mpr ⟨a, ha, rfl⟩) b.1 (List.mem_map.mpr ⟨b, hb, rfl⟩)
theorem Pn.ne {u : Nat} {U : Tf} (h : Pn w f n D K N q (l ++ [(u, U)]) g r) : U ≠ [] := by
  obtain ⟨n1, D1, K1, hA, ⟨a1, a2, a3, a4, a5⟩, hN⟩ := h
  obtain ⟨m0, s1, s2⟩ := a3.spl
  obtain ⟨m1, t1, t2⟩ := s2
  obtain ⟨G, -, h2, -⟩ := t1.un
  intro e
  have h2' : U = _ := h2
  rw [e] at h2'
  exact nomatch h2'
/-- next of a tree that waits may be set -/
theorem Pn.nx (h : Pn w f n D K N q l g r) {e : Nat × Tf} (he : e ∈ l) (x : Int32) : Pn w f n D K N q l g (a2_ua r fM_next ((r fM_next).1, upd (r fM_next).2 e.1 x)) := by
  obtain ⟨n1, D1, K1, hA, hq, hN⟩ := h
  obtain ⟨a1, a2, a3, a4, a5⟩ := hq
  have hm := a3.mem he
  obtain ⟨b1, b2, b3, b4⟩ := hA.2.2.2.2
  refine ⟨n1, D1, K1, ⟨hA.1.ua (by decide) (by rfl), hA.2.1, hA.2.2.1, hA.2.2.2.1, b1, b2, fun i hi l1 c l2 ek => ?_, b4⟩, ⟨a1, a2, a3, a4, a5⟩, fun y hy => ?_⟩
  · obtain ⟨c1, c2, c3⟩ := b3 i hi l1 c l2 ek
    refine ⟨c1, c2, ?_⟩
    show upd (r fM_next).2 e.1 x c = _
    rw [upd_ne (fun ec => ?_)]
    · exact c3
    · refine a4 e he i hi ?_
      rw [ek, ← ec]
      exact List.mem_append_right _ List.mem_cons_self
  · show upd (r fM_next).2 e.1 x y = _
    rw [upd_ne (by omega)]
    exact hN y hy
end
