/-! One clause of the class, with its tree. -/
section
variable {L : Nat} {xs : Nat → Int32} {m d k0 : Nat} {w : Ws} {f : Gh} {p : Nat} {c : CU} {x : Xs} {g : a2_G} {r : a2_A} {k : Int32 → a2_G → a2_A → Option fn_Z} {kn : a2_G → a2_A → Option fn_Z} {Q : Option Value → a2_G → a2_A → Prop} {n : Nat} {D : Nat → TD} {K : Nat → List Nat} {ids : List Nat} {ch : List Ce} {S : Nat → a2_G → a2_A → Prop}
theorem rl_nf (hS : Lf w f S) (h : S p g r) (hk : ∀ g', S (itn w p).2 g' r → pl (k (itn w p).1 g' r) Q kYT) : pl (fn_v (ev L xs (m + 1) d nI_nameOrFiller [.ref cI] g r) k) Q kYT := by
  refine pl_v (Q1 := fun o g' r' => o = some (.int (itn w p).1) ∧ r' = r ∧ S (itn w p).2 g' r) (X1 := kYT) ?_ (fun _ _ _ _ => trivial) (fun v g' r' e => ?_)
  · cases d with
    | zero => trivial
    | succ d =>
      rw [qI_nameOrFiller]
      unfold itn
      refine pl_u (xR_isKind L xs 1 (hS.1 p g r h).1) (fun e => pl_neg (by decide) ?_) (fun e => pl_pos (by decide) ?_)
      · rw [e, if_pos rfl]
        exact rl_rk hS h (fun _ g1 h1 _ => ⟨rfl, rfl, h1⟩)
      · rw [e, if_neg Bool.false_ne_true]
        exact rl_mb hS h (fun _ g1 h1 _ => ⟨rfl, rfl, h1⟩)
  · obtain ⟨e1, rfl, e3⟩ := e
    cases e1
    exact hk g' e3
end
/-- what goes on behind an item's clauses -/
def pI (c : CU) (x : Xs) (lv : Int32) (i : Nat) (dd : TD) (z : Option R2) : Option (Nat × Xs) := match z with
  | some (q, _, F) => some (q, attC (x.2.1 + i) x.1 (dd, F), x.2)
  | none => none
section
variable {L : Nat} {xs : Nat → Int32} {m d : Nat} {w : Ws} {f : Gh} {c : CU} {x : Xs} {n : Nat} {D : Nat → TD} {K : Nat → List Nat} {ids : List Nat}
theorem yI_item_t {k i : Nat} {lv : Int32} {dd : TD} (hd53 : (dd.1 ≠ 53 ∧ dd.1 ≠ 41)) (hc : Cv c f.2.1 f.2.2) (hs : 5 ≤ (oT c).toInt ∧ (oT c).toInt ≤ 7) (hi : i ≤ oI c) (h88 : lv = 88 → i = oI c) (hZ : Zc K D n ids x.1) (hh : Hc (oN c) (oT c).toInt (oI c) x.2 ids f.2.1 f.2.2) (h12 : ∀ i, i + 1 < oN c → oS c i = 12) (h53 : n53 x.1) (H : ∀ (x4 : Int32) (p : Nat) (F : Tf) (g : a2_G) (r : a2_A), Vt NP w f n D K p n (nd dd F) g r → 0 ≤ x4.toInt → x4.toInt ≤ p → pl (lp L xs nI_readItem nm_m66 (m + 1) d k 74 [some (.ref cI), some (.int lv), some (.int (Int32.ofNat i)), some (.int (Int32.ofNat n)), some (.int x4)] g r) (kTC (pI c x lv i dd (tv w 24 p none F)) (sP c lv i)) kYT) (x4 : Int32) {p : Nat} {F : Tf} {g : a2_G} {r : a2_A} (h : Vt NP w f n D K p n (nd dd F) g r) (h0 : 0 ≤ x4.toInt) (hx : x4.toInt ≤ p) : pl (BI_readItem_74 L xs (m + 1) d k lv (Int32.ofNat i) (Int32.ofNat n) x4 g r) (kTC (pI c x lv i dd (tv w 24 p none F)) (sP c lv i)) kYT := by
  have hr := Vt.lf.1 _ _ _ h
  have hle := hr.le
  have h104 : pl (BI_readItem_104 L xs (m + 1) d k lv (Int32.ofNat i) (Int32.ofNat n) x4 g r) (kTC (pI c x lv i dd (tv w 24 p none F)) (sP c lv i)) kYT := by
    unfold BI_readItem_104
    refine rl_rk Vt.lf h (fun e g1 h1 _ => ?_)
    rw [tv_24, e, if_pos rfl]
    exact pl_n (yI_place hd53 hc hs hi h88 hZ hh h12 h53 h1) (fun _ _ _ q => q) (fun g2 r2 q => q)
  unfold BI_readItem_74
  refine pl_if (fun _ => h104) (fun hc1 => ?_)
  have h15 : x4.toInt < 1500 := by
    rw [c2_ge] at hc1
    have hc' : ¬ (1500 : Int) ≤ x4.toInt := hc1
    omega
  refine pl_u (xR_isKind L xs 4 hr.1) (fun _ => pl_pos (by decide) h104) (fun e => pl_neg (by decide) ?_)
  rw [tv_24, e, if_neg Bool.false_ne_true]
  refine pl_n (yI_itemClause h) (fun _ _ _ _ => trivial) (fun g1 r1 q => ?_)
  obtain ⟨-, q1, s1, T1, e1, h1⟩ := q
  obtain ⟨q2, s2, T2, e2, e3⟩ := b2_some e1
  rw [e2]
  cases e3
  have e5 := i32_inc (x := x4) (by omega)
  have e6 := tv_lt25 e2
  exact H (x4 + 1) _ _ g1 r1 h1 (by omega) (by omega)
theorem yI_item_l {i : Nat} {lv : Int32} {dd : TD} (hd53 : (dd.1 ≠ 53 ∧ dd.1 ≠ 41)) (hc : Cv c f.2.1 f.2.2) (hs : 5 ≤ (oT c).toInt ∧ (oT c).toInt ≤ 7) (hi : i ≤ oI c) (h88 : lv = 88 → i = oI c) (hZ : Zc K D n ids x.1) (hh : Hc (oN c) (oT c).toInt (oI c) x.2 ids f.2.1 f.2.2) (h12 : ∀ i, i + 1 < oN c → oS c i = 12) (h53 : n53 x.1) : ∀ (k : Nat) (x4 : Int32) (p : Nat) (F : Tf) (g : a2_G) (r : a2_A), Vt NP w f n D K p n (nd dd F) g r → 0 ≤ x4.toInt → x4.toInt ≤ p → pl (lp L xs nI_readItem nm_m66 (m + 1) d k 74 [some (.ref cI), some (.int lv), some (.int (Int32.ofNat i)), some (.int (Int32.ofNat n)), some (.int x4)] g r) (kTC (pI c x lv i dd (tv w 24 p none F)) (sP c lv i)) kYT := by
  intro k
  induction k with
  | zero => exact fun _ _ _ _ _ _ _ _ => pl_l0
  | succ k ih =>
    intro x4 p F g r h h0 hx
    rw [lI_readItem_74]
    exact yI_item_t hd53 hc hs hi h88 hZ hh h12 h53 ih x4 h h0 hx
theorem oP_i {v : Int32} {i : Nat} (h : oP c v = some i) : i ≤ oI c ∧ (v = 88 → i = oI c) := by
  unfold oP at h
  have := kpN_le (oL c) v (oI c)
  split at h
  · rename_i h1
    cases h
    refine ⟨by omega, fun e => ?_⟩
    rw [e] at h1
    exact absurd h1 (by decide)
  · split at h
    · split at h
      · cases h
      · cases h
        exact ⟨Nat.le_refl _, fun _ => rfl⟩
    · rename_i h1 h2
      split at h
      · split at h
        · cases h
        · cases h
          exact ⟨this, fun e => absurd e h2⟩
      · cases h
theorem yI_readItem {p : Nat} {g : a2_G} {r : a2_A} (h : At w f p n D K g r) (hp : p < w.2.2) (hc : Cv c f.2.1 f.2.2) (hs : 5 ≤ (oT c).toInt ∧ (oT c).toInt ≤ 7) (hZ : Zc K D n ids x.1) (hh : Hc (oN c) (oT c).toInt (oI c) x.2 ids f.2.1 f.2.2) (h12 : ∀ i, i + 1 < oN c → oS c i = 12) (h53 : n53 x.1) : pl (ev L xs (m + 1) d nI_readItem [.ref cI] g r) (fun o g' r' => ∃ i, oP c (w.2.1 p) = some i ∧ kTC (pI c x (w.2.1 p) i (12, 1000 * w.2.1 p + (itn w (p + 1)).1, Int32.ofNat p, -1) (tv w 24 (itn w (p + 1)).2 none [])) (sP c (w.2.1 p) i) o g' r') kYT := by
  cases d with
  | zero => trivial
  | succ d =>
    have hcv := h.cv hc
    rw [qI_readItem]
    refine pl_e (xR_value L xs h.1) ?_
    rw [if_pos hp]
    refine pl_e (xI_keptOpen L xs hcv (w.2.1 p)) ?_
    cases hP : oP c (w.2.1 p) with
    | none => exact pl_neg (by decide) (rl_rf h.ru)
    | some i =>
      obtain ⟨hi, h88⟩ := oP_i hP
      have h49 := hcv.2.2.2.2.2.2.2.1
      have hne : pV (some i) ≠ -1 := by
        show Int32.ofNat i ≠ -1
        intro e
        have e2 := congrArg Int32.toInt e
        rw [on_eq (by omega), show (-1 : Int32).toInt = -1 from rfl] at e2
        omega
      refine pl_pos (by rw [c2_ne]; exact hne) ?_
      unfold BI_readItem_27
      refine pl_e (xR_place L xs) ?_
      rw [h.1.pla]
      refine rl_mk (-1) (Or.inr rfl) h (fun g1 r1 h1 _ => ?_)
      refine rl_ad Vt.lf h1 hp (fun g2 h2 _ => ?_)
      refine rl_nf Vt.lf h2 (fun g3 h3 => ?_)
      refine rl_sv h3 (by decide) (fun g4 r4 h4 _ => ?_)
      refine pl_mono (yI_item_t (i := i) (lv := w.2.1 p) (by show ((12 : Int32) ≠ 53 ∧ (12 : Int32) ≠ 41); decide) hc hs hi h88 hZ hh h12 h53 (yI_item_l (by show ((12 : Int32) ≠ 53 ∧ (12 : Int32) ≠ 41); decide) hc hs hi h88 hZ hh h12 h53 _) 0 h4 (by decide) (by show (0 : Int) ≤ _; omega)) (fun o g' r' e => ⟨i, rfl, e⟩) (fun _ _ _ e => e)
end
