/-! Words behind the last one say nothing. -/
def Ag (w w' : Ws) : Prop := w.2.2 = w'.2.2 ∧ ∀ i, i < w.2.2 → w.1 i = w'.1 i ∧ w.2.1 i = w'.2.1 i
section
variable {w w' : Ws}
theorem wk_ag (h : Ag w w') (p : Nat) (k : Int32) : wk w p k = wk w' p k := by
  unfold wk
  rw [← h.1]
  by_cases c : p < w.2.2
  · rw [(h.2 p c).1]
  · rw [decide_eq_false c]
    rfl
theorem wk_and (h : Ag w w') (p : Nat) (k : Int32) (F : Int32 → Bool) : (wk w p k && F (w.2.1 p)) = (wk w' p k && F (w'.2.1 p)) := by
  rw [wk_ag h]
  cases e : wk w' p k with
  | false => rfl
  | true =>
    rw [← wk_ag h] at e
    rw [(h.2 p (wk_iff.mp e).1).2]
theorem ww_ag (h : Ag w w') (p : Nat) (v : Int32) : ww w p v = ww w' p v := wk_and h p 0 (fun x => decide (x = v))
theorem wg_ag (h : Ag w w') (p : Nat) (v : Int32) : wg w p v = wg w' p v := wk_and h p 5 (fun x => decide (x = v))
theorem wo_ag (h : Ag w w') (p : Nat) : wo w p = wo w' p := by
  unfold wo
  rw [wk_ag h, wk_ag h, wk_ag h]
theorem wc_ag (h : Ag w w') (p : Nat) : wc w p = wc w' p := by
  unfold wc
  rw [wk_and h p 5 (fun x => decide (2 ≤ x.toInt) && decide (x.toInt ≤ 4)), wk_and h p 0 (fun x => decide (68 ≤ x.toInt) && decide (x.toInt ≤ 70))]
theorem wm_ag (h : Ag w w') (p : Nat) : wm w p = wm w' p := by
  unfold wm
  rw [ww_ag h, wc_ag h, ww_ag h, wc_ag h]
theorem wb_ag (h : Ag w w') (p : Nat) : wb w p = wb w' p := wk_and h p 0 (fun x => decide (36 ≤ x.toInt) && decide (x.toInt ≤ 47) || decide (x = 29))
theorem ropd_ag (h : Ag w w') (p : Nat) : ropd w p = ropd w' p := by
  unfold ropd
  rw [wo_ag h]
theorem rcmp2_ag (h : Ag w w') (q : Nat) : rcmp2 w q = rcmp2 w' q := by
  unfold rcmp2
  rw [wk_and h q 5 (fun x => decide (2 ≤ x.toInt) && decide (x.toInt ≤ 4))]
  simp only [ww_ag h, ropd_ag h]
theorem rcmp_ag (h : Ag w w') (q : Nat) : rcmp w q = rcmp w' q := by
  unfold rcmp rcmp1
  simp only [ww_ag h, rcmp2_ag h]
theorem rel_ag (h : Ag w w') (p : Nat) (s : Bool) : rel w p s = rel w' p s := by
  unfold rel
  simp only [wo_ag h, wm_ag h, wk_ag h, rcmp_ag h, ropd_ag h]
theorem stp_ag (h : Ag w w') (F : FT) (t p l : Nat) (s : Bool) : stp w F t p l s = stp w' F t p l s := by
  have h11 : (if wb w p then bd (F (100 + (w.2.1 p).toInt.toNat) p l false) (fun q _ => F 11 q l false) else ok p) = (if wb w' p then bd (F (100 + (w'.2.1 p).toInt.toNat) p l false) (fun q _ => F 11 q l false) else ok p) := by
    rw [wb_ag h]
    by_cases c : wb w' p = true
    · rw [if_pos c, if_pos c]
      rw [← wb_ag h] at c
      rw [(h.2 p (wb_iff.mp c).1).2]
    · rw [if_neg c, if_neg c]
  have h36 := wk_and h p 0 (fun x => decide (8 ≤ x.toInt) && decide (x.toInt ≤ 10))
  unfold stp
  split
  all_goals first
    | rfl
    | exact h11
    | (rw [h36])
    | (simp only [wk_ag h, ww_ag h, wg_ag h, wo_ag h, wc_ag h, wb_ag h, rel_ag h])
theorem rit_ag (h : Ag w w') : ∀ n, rit w n = rit w' n
  | 0 => rfl
  | n + 1 => by
    funext t p l s
    show stp w (rit w n) t p l s = stp w' (rit w' n) t p l s
    rw [rit_ag h n, stp_ag h]
theorem rv_ag (h : Ag w w') (t p l : Nat) (s : Bool) : rv w t p l s = rv w' t p l s := by
  cases e : rv w t p l s with
  | some x =>
    obtain ⟨n, hn⟩ := rv_ex e
    rw [rit_ag h] at hn
    exact (rv_of hn).symm
  | none =>
    cases e2 : rv w' t p l s with
    | none => rfl
    | some x =>
      obtain ⟨n, hn⟩ := rv_ex e2
      rw [← rit_ag h] at hn
      rw [rv_of hn] at e
      cases e
theorem qN_ag (h : Ag w w') (p : Nat) : qN w p = qN w' p := by
  unfold qN
  rw [wk_ag h, ww_ag h]
theorem zH_ag (h : Ag w w') (p : Nat) (b : Int32) : zH w p b = zH w' p b := by
  unfold zH
  rw [ww_ag h, wk_ag h]
theorem rc_ag (h : Ag w w') : ∀ (k p : Nat), w.2.2 - p = k → rc w p = rc w' p := by
  intro k
  induction k with
  | zero =>
    intro p hk
    rw [rc_out (by omega), rc_out (by rw [← h.1]; omega)]
  | succ k ih =>
    intro p hk
    have hp : p < w.2.2 := by omega
    have hp' : p < w'.2.2 := by rw [← h.1]; exact hp
    by_cases h4 : w.1 p = 4
    · rw [rc_per hp h4, rc_per hp' (by rw [← (h.2 p hp).1]; exact h4)]
    · rw [rc_on hp h4, rc_on hp' (by rw [← (h.2 p hp).1]; exact h4)]
      exact ih (p + 1) (by omega)
theorem zC_ag1 (h : Ag w w') (c : CU) {p : Nat} (hp : p < w.2.2) : (zC w c p).1 = (zC w' c p).1 := by
  have hv := (h.2 p hp).2
  have hI : (zIt w c p).1 = (zIt w' c p).1 := by
    unfold zIt
    rw [hv]
    cases oP c (w'.2.1 p) with
    | none => rfl
    | some j =>
      show rv w 24 (qN w (p + 1)) 0 false = rv w' 24 (qN w' (p + 1)) 0 false
      rw [qN_ag h, rv_ag h]
  unfold zC zR zE zD
  simp only [fst_ite]
  rw [hv, hI]
  simp only [wk_ag h, ww_ag h, wb_ag h, rv_ag h, zH_ag h]
theorem zC_ag2 (h : Ag w w') (c : CU) {p q : Nat} {s : Bool} (hp : p < w.2.2) (hq : (zC w c p).1 = some (.inl (q, s))) : (zC w c p).2 = (zC w' c p).2 := by
  have hv := (h.2 p hp).2
  have hI : (zIt w c p).2 = (zIt w' c p).2 := by
    unfold zIt
    rw [hv]
    cases oP c (w'.2.1 p) with
    | none => rfl
    | some j =>
      show (sP c (w.2.1 p) j, false) = (sP c (w'.2.1 p) j, false)
      rw [hv]
  unfold zC at hq ⊢
  by_cases k1 : wk w p 1 = true
  · rw [if_pos k1, if_pos (show wk w' p 1 = true by rw [← wk_ag h]; exact k1)]
    show (eB (if ww w (p + 1) 16 then sC c true else c), false) = (eB (if ww w' (p + 1) 16 then sC c true else c), false)
    rw [ww_ag h]
  rw [if_neg k1] at hq ⊢
  rw [if_neg (show ¬ wk w' p 1 = true by rw [← wk_ag h]; exact k1)]
  by_cases k2 : wk w p 2 = true
  · rw [if_pos k2, if_pos (show wk w' p 2 = true by rw [← wk_ag h]; exact k2)]
    exact hI
  rw [if_neg k2] at hq ⊢
  rw [if_neg (show ¬ wk w' p 2 = true by rw [← wk_ag h]; exact k2)]
  by_cases k3 : wb w p = true
  · rw [if_pos k3, if_pos (show wb w' p = true by rw [← wb_ag h]; exact k3)]
  rw [if_neg k3] at hq ⊢
  rw [if_neg (show ¬ wb w' p = true by rw [← wb_ag h]; exact k3)]
  by_cases k4 : wk w p 0 = true
  · rw [if_pos k4] at hq ⊢
    rw [if_pos (show wk w' p 0 = true by rw [← wk_ag h]; exact k4)]
    unfold zR zE zD at hq ⊢
    rw [← hv]
    by_cases e0 : (w.2.1 p).toInt = 0
    · rw [if_pos e0, if_pos e0]
    rw [if_neg e0] at hq ⊢
    rw [if_neg e0]
    by_cases e2 : (w.2.1 p).toInt = 2
    · rw [if_pos e2] at hq ⊢
      rw [if_pos e2]
      have hq' : (if oB c 0 0 then (if wk w (p + 1) 1 then (if wk w (p + 2) 4 then ok (p + 3) else no (p + 2)) else no (p + 1)) else no p) = some (.inl (q, s)) := hq
      by_cases a1 : oB c 0 0 = true
      · by_cases a2 : wk w (p + 1) 1 = true
        · rw [(h.2 (p + 1) (wk_iff.mp a2).1).2]
        · rw [if_pos a1, if_neg a2] at hq'
          cases hq'
      · rw [if_neg a1] at hq'
        cases hq'
    rw [if_neg e2] at hq ⊢
    rw [if_neg e2]
    by_cases e3 : (w.2.1 p).toInt = 3
    · rw [if_pos e3] at hq ⊢
      rw [if_pos e3]
      have hq' : (if oB c 0 0 then (if decide (oN c = 1) then (if wk w (p + 1) 1 then (if wk w (p + 2) 4 then ok (p + 3) else no (p + 2)) else no (p + 1)) else no p) else no p) = some (.inl (q, s)) := hq
      by_cases a1 : oB c 0 0 = true
      · by_cases a3 : decide (oN c = 1) = true
        · by_cases a2 : wk w (p + 1) 1 = true
          · rw [(h.2 (p + 1) (wk_iff.mp a2).1).2]
          · rw [if_pos a1, if_pos a3, if_neg a2] at hq'
            cases hq'
        · rw [if_pos a1, if_neg a3] at hq'
          cases hq'
      · rw [if_neg a1] at hq'
        cases hq'
    rw [if_neg e3] at hq ⊢
    rw [if_neg e3]
    by_cases e4 : (w.2.1 p).toInt = 4
    · rw [if_pos e4, if_pos e4]
    rw [if_neg e4] at hq ⊢
    rw [if_neg e4]
    by_cases e5 : (w.2.1 p).toInt = 5
    · rw [if_pos e5, if_pos e5]
    rw [if_neg e5] at hq ⊢
    rw [if_neg e5]
    by_cases e30 : (w.2.1 p).toInt = 30
    · rw [if_pos e30, if_pos e30]
    rw [if_neg e30] at hq ⊢
    rw [if_neg e30]
    by_cases e32 : (w.2.1 p).toInt = 32
    · rw [if_pos e32, if_pos e32]
    rw [if_neg e32] at hq ⊢
    rw [if_neg e32]
    by_cases e33 : (w.2.1 p).toInt = 33
    · rw [if_pos e33] at hq ⊢
      rw [if_pos e33]
      by_cases b1 : ww w (p + 1) 32 = true
      · rw [if_pos b1, if_pos (show ww w' (p + 1) 32 = true by rw [← ww_ag h]; exact b1)]
      rw [if_neg b1] at hq ⊢
      rw [if_neg (show ¬ ww w' (p + 1) 32 = true by rw [← ww_ag h]; exact b1)]
      by_cases b2 : (ww w (p + 1) 34 || ww w (p + 1) 35) = true
      · rw [if_pos b2] at hq ⊢
        rw [if_pos (show (ww w' (p + 1) 34 || ww w' (p + 1) 35) = true by rw [← ww_ag h, ← ww_ag h]; exact b2)]
        have hq' : (if oY c then (if ww w (p + 1) (oW c) then (if wk w (p + 2) 1 then (if wk w (p + 3) 4 then ok (p + 4) else no (p + 3)) else no (p + 2)) else no (p + 1)) else no p) = some (.inl (q, s)) := hq
        by_cases a1 : oY c = true
        · by_cases a3 : ww w (p + 1) (oW c) = true
          · by_cases a2 : wk w (p + 2) 1 = true
            · rw [(h.2 (p + 2) (wk_iff.mp a2).1).2]
            · rw [if_pos a1, if_pos a3, if_neg a2] at hq'
              cases hq'
          · rw [if_pos a1, if_neg a3] at hq'
            cases hq'
        · rw [if_neg a1] at hq'
          cases hq'
      · rw [if_neg b2, if_neg (show ¬ (ww w' (p + 1) 34 || ww w' (p + 1) 35) = true by rw [← ww_ag h, ← ww_ag h]; exact b2)]
    rw [if_neg e33, if_neg e33]
    by_cases e12 : (w.2.1 p).toInt = 12
    · rw [if_pos e12, if_pos e12]
    rw [if_neg e12, if_neg e12]
    by_cases e13 : (w.2.1 p).toInt = 13
    · rw [if_pos e13, if_pos e13]
    rw [if_neg e13, if_neg e13]
    by_cases e14 : (w.2.1 p).toInt = 14
    · rw [if_pos e14, if_pos e14]
    rw [if_neg e14, if_neg e14]
    by_cases e15 : (w.2.1 p).toInt = 15
    · rw [if_pos e15, if_pos e15]
    rw [if_neg e15, if_neg e15]
    by_cases e17 : (w.2.1 p).toInt = 17
    · rw [if_pos e17, if_pos e17]
    rw [if_neg e17, if_neg e17]
  · rw [if_neg k4, if_neg (show ¬ wk w' p 0 = true by rw [← wk_ag h]; exact k4)]
theorem zL_ag (h : Ag w w') : ∀ (k : Nat) (c : CU) (p : Nat) (n : Int32) (x : CU × Int32), zL w k c p n = some x → zL w' k c p n = some x
  | 0, _, _, _, _, e => nomatch e
  | k + 1, c, p, n, x, e => by
    by_cases hc : p < w.2.2 ∧ n.toInt < 20
    · have hc' : p < w'.2.2 ∧ n.toInt < 20 := by rw [← h.1]; exact hc
      have e1 := zC_ag1 h c hc.1
      match hz : (zC w c p).1 with
      | none =>
        have e' : (if p < w.2.2 ∧ n.toInt < 20 then (match (zC w c p).1 with
          | none => none
          | some (.inl q) => zL w k (zC w c p).2.1 q.1 (nb n (zC w c p).2.2)
          | some (.inr b) => zL w k c (rc w b) (n + 1)) else some (c, n)) = some x := e
        rw [if_pos hc, hz] at e'
        cases e'
      | some (.inl (q, s)) =>
        have e' : (if p < w.2.2 ∧ n.toInt < 20 then (match (zC w c p).1 with
          | none => none
          | some (.inl q) => zL w k (zC w c p).2.1 q.1 (nb n (zC w c p).2.2)
          | some (.inr b) => zL w k c (rc w b) (n + 1)) else some (c, n)) = some x := e
        rw [if_pos hc, hz] at e'
        show (if p < w'.2.2 ∧ n.toInt < 20 then (match (zC w' c p).1 with
          | none => none
          | some (.inl q) => zL w' k (zC w' c p).2.1 q.1 (nb n (zC w' c p).2.2)
          | some (.inr b) => zL w' k c (rc w' b) (n + 1)) else some (c, n)) = some x
        rw [if_pos hc', ← e1, hz, ← zC_ag2 h c hc.1 hz]
        exact zL_ag h k _ _ _ _ e'
      | some (.inr b) =>
        rw [zL_no hc hz] at e
        rw [zL_no hc' (e1.symm.trans hz), ← rc_ag h _ b rfl]
        exact zL_ag h k _ _ _ _ e
    · rw [zL_end hc] at e
      rw [zL_end (by rw [← h.1]; exact hc)]
      exact e
end
