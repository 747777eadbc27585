/-! The class's data descriptions: what stands in an item, with its tree. -/
section
variable {L : Nat} {xs : Nat → Int32} {m d : Nat} {w : Ws} {f : Gh} {p : Nat} {g : a2_G} {r : a2_A} {k : Int32 → a2_G → a2_A → Option fn_Z} {kn : a2_G → a2_A → Option fn_Z} {Q : Option Value → a2_G → a2_A → Prop} {n : Nat} {D : Nat → TD} {K : Nat → List Nat} {P : Nat → Prop} {v : Nat} {dd : TD} {F T : Tf}
theorem rl_bi {a : Int32} (hA : At w f p n D K g r) (hp : p < w.2.2) {n0 : Nat} {D0 : Nat → TD} {K0 : Nat → List Nat} (hq : Vq P n0 D0 K0 v (nd dd F) n D K) (hk : ∀ g' r', Vt (fun j => j = v) w f n D (fK K v (K v ++ [n])) (p + 1) n (nd (a, 0, Int32.ofNat p, -1) []) g' r' → pl (k (Int32.ofNat n) g' r') Q kYT) : pl (fn_v (ev L xs (m + 1) d nI_beginIn [.ref cI, .int (Int32.ofNat v), .int a] g r) k) Q kYT := by
  refine pl_v (Q1 := fun o g' r' => o = some (.int (Int32.ofNat n)) ∧ Vt (fun j => j = v) w f n D (fK K v (K v ++ [n])) (p + 1) n (nd (a, 0, Int32.ofNat p, -1) []) g' r') (X1 := kYT) ?_ (fun _ _ _ _ => trivial) (fun v g' r' e => ?_)
  · cases d with
    | zero => trivial
    | succ d =>
      rw [qI_beginIn]
      refine pl_e (xR_place L xs) ?_
      rw [hA.1.pla]
      refine rl_mk (-1) (Or.inr rfl) hA (fun g1 r1 h1 _ => ?_)
      refine rl_h2 hq h1 (fun g2 r2 h2 _ => ?_)
      exact rl_ad Vt.lf h2 hp (fun g3 h3 _ => ⟨rfl, h3⟩)
  · obtain ⟨e1, e2⟩ := e
    cases e1
    exact hk g' r' e2
theorem yI_picture (h : Vt P w f n D K p v (nd dd F) g r) (hp : p < w.2.2) : pl (ev L xs (m + 1) d nI_picture [.ref cI, .int (Int32.ofNat v)] g r) (fun o g' r' => Vt P w f n D K (sk (ww w (p + 1) 67) (p + 1) + 1) v (nd dd (F ++ l1 (13, w.2.1 (sk (ww w (p + 1) 67) (p + 1)), Int32.ofNat p, -1))) g' r') kYT := by
  cases d with
  | zero => trivial
  | succ d =>
    rw [qI_picture]
    obtain ⟨n1, D1, K1, hA, hq⟩ := h
    refine rl_bi hA hp hq (fun g1 r1 h1 => ?_)
    refine rl_mb Vt.lf h1 (fun _ g2 h2 _ => ?_)
    refine rl_rk Vt.lf h2 (fun _ g3 h3 _ => ?_)
    exact rl_sv h3 (by decide) (fun g4 r4 h4 _ => hq.bk h4)
theorem yI_redefines (h : Vt P w f n D K p v (nd dd F) g r) (hp : p < w.2.2) : pl (ev L xs (m + 1) d nI_redefines [.ref cI, .int (Int32.ofNat v)] g r) (fun o g' r' => Vt P w f n D K (p + 2) v (nd dd (F ++ l1 (18, w.2.1 (p + 1), Int32.ofNat p, -1))) g' r') kYT := by
  cases d with
  | zero => trivial
  | succ d =>
    rw [qI_redefines]
    obtain ⟨n1, D1, K1, hA, hq⟩ := h
    refine rl_bi hA hp hq (fun g1 r1 h1 => ?_)
    refine rl_rk Vt.lf h1 (fun _ g3 h3 _ => ?_)
    exact rl_sv h3 (by decide) (fun g4 r4 h4 _ => hq.bk h4)
theorem yI_usage (h : Vt P w f n D K p v (nd dd F) g r) (hp : p < w.2.2) : pl (ev L xs (m + 1) d nI_usage [.ref cI, .int (Int32.ofNat v)] g r) (fun o g' r' => Vt P w f n D K (sk (ww w (p + 1) 67) (p + 1) + 1) v (nd dd (F ++ l1 (19, sc (ww w (sk (ww w (p + 1) 67) (p + 1)) 29), Int32.ofNat p, -1))) g' r') kYT := by
  cases d with
  | zero => trivial
  | succ d =>
    rw [qI_usage]
    unfold BI_usage_52
    obtain ⟨n1, D1, K1, hA, hq⟩ := h
    refine rl_bi hA hp hq (fun g1 r1 h1 => ?_)
    refine rl_mb Vt.lf h1 (fun _ g2 h2 _ => ?_)
    refine rl_sk Vt.lf h2 (fun e g3 h3 _ => pl_neg (by decide) ?_) (fun e => pl_pos (by decide) ?_)
    · rw [e]
      exact rl_sv h3 (by decide) (fun g4 r4 h4 _ => hq.bk h4)
    · rw [e]
      exact rl_rq Vt.lf h2 (fun _ g4 h4 _ => hq.bk h4)
theorem rl_li (h : Vt P w f n D K p v (nd dd F) g r) (hk : ∀ g' r', Vt P w f n D K (p + 1) v (nd dd (F ++ l1 (od w p))) g' r' → pl (kn g' r') Q kYT) : pl (fn_n (ev L xs (m + 1) d nI_literal [.ref cI, .int (Int32.ofNat v)] g r) kn) Q kYT := by
  refine pl_n (Q1 := fun o g' r' => Vt P w f n D K (p + 1) v (nd dd (F ++ l1 (od w p))) g' r') (X1 := kYT) ?_ (fun _ _ _ _ => trivial) (fun g' r' e => hk g' r' e)
  cases d with
  | zero => trivial
  | succ d =>
    rw [qI_literal]
    unfold BI_literal_19
    have hr := Vt.lf.1 _ _ _ h
    refine pl_u (xR_isKind L xs 1 hr.1) (fun _ => pl_neg (by decide) (rl_rf hr)) (fun _ => pl_pos (by decide) ?_)
    obtain ⟨n1, D1, K1, hA, hq⟩ := h
    refine rl_op hA (fun _ g1 r1 h1 _ => ?_)
    exact rl_hg hq h1 (fun g2 r2 h2 _ => h2)
theorem yI_literals (h : Vt P w f n D K p v (nd dd F) g r) (hp : p < w.2.2) : pl (ev L xs (m + 1) d nI_literals [.ref cI, .int (Int32.ofNat v)] g r) (kI P w f n D K v dd (b2 (if ww w (sk (ww w (p + 1) 67) (p + 1) + 1) 21 then o2 (sk (ww w (p + 1) 67) (p + 1) + 3) (nd (14, 0, Int32.ofNat p, -1) (l1 (od w (sk (ww w (p + 1) 67) (p + 1))) ++ l1 (od w (sk (ww w (p + 1) 67) (p + 1) + 2)))) else o2 (sk (ww w (p + 1) 67) (p + 1) + 1) (nd (14, 0, Int32.ofNat p, -1) (l1 (od w (sk (ww w (p + 1) 67) (p + 1)))))) fun q _ b => o2 q (F ++ b))) kYT := by
  cases d with
  | zero => trivial
  | succ d =>
    rw [qI_literals]
    unfold BI_literals_40
    obtain ⟨n1, D1, K1, hA, hq⟩ := h
    refine rl_bi hA hp hq (fun g1 r1 h1 => ?_)
    refine rl_mb Vt.lf h1 (fun _ g2 h2 _ => ?_)
    refine rl_li h2 (fun g3 r3 h3 => ?_)
    refine rl_sk Vt.lf h3 (fun e g4 h4 _ => pl_neg (by decide) ?_) (fun e => pl_pos (by decide) ?_)
    · rw [e, if_pos rfl]
      exact rl_li h4 (fun g5 r5 h5 => ⟨rfl, _, none, _, rfl, hq.bk h5⟩)
    · rw [e, if_neg (by decide)]
      exact ⟨rfl, _, none, _, rfl, hq.bk h3⟩
theorem yI_occurs (h : Vt P w f n D K p v (nd dd F) g r) (hp : p < w.2.2) : pl (ev L xs (m + 1) d nI_occurs [.ref cI, .int (Int32.ofNat v)] g r) (kI P w f n D K v dd (b2 (b2 (tv w 26 (sk (ww w (p + 2) 23) (p + 2)) none []) (fun q _ b => o2 q (nd (15, w.2.1 (p + 1), Int32.ofNat p, -1) b))) fun q _ b => o2 q (F ++ b))) kYT := by
  cases d with
  | zero => trivial
  | succ d =>
    rw [qI_occurs]
    obtain ⟨n1, D1, K1, hA, hq⟩ := h
    have h57 : ∀ {q : Nat} {G : Tf} {g : a2_G} {r : a2_A}, Vt (fun j => j = v) w f n1 D1 (fK K1 v (K1 v ++ [n1])) q n1 (nd (15, w.2.1 (p + 1), Int32.ofNat p, -1) G) g r → pl (BI_occurs_57 L xs (m + 1) d m (Int32.ofNat v) (Int32.ofNat n1) g r) (kI P w f n D K v dd (b2 (b2 (tv w 27 q none G) (fun q _ b => o2 q (nd (15, w.2.1 (p + 1), Int32.ofNat p, -1) b))) fun q _ b => o2 q (F ++ b))) kYT := by
      intro q G g r h
      rw [tv_27]
      unfold BI_occurs_57 BI_occurs_89
      refine rl_sk Vt.lf h (fun e g1 h1 _ => pl_neg (by decide) ?_) (fun e => pl_pos (by decide) ?_)
      · rw [e, if_pos rfl]
        refine rl_mb Vt.lf h1 (fun _ g2 h2 _ => ?_)
        refine pl_n (yL_namesIn L xs 17 (fun p a => tv_39 w p none a) h2) (fun _ _ _ _ => trivial) (fun g3 r3 q => ?_)
        obtain ⟨-, q3, s3, T3, e3, h3⟩ := q
        rw [e3]
        exact ⟨rfl, _, none, _, rfl, hq.bk h3⟩
      · rw [e, if_neg (by decide)]
        exact ⟨rfl, _, none, _, rfl, hq.bk h⟩
    refine rl_bi hA hp hq (fun g1 r1 h1 => ?_)
    refine rl_rk Vt.lf h1 (fun _ g2 h2 _ => ?_)
    refine rl_sv h2 (by decide) (fun g3 r3 h3 _ => ?_)
    refine rl_mb Vt.lf h3 (fun _ g4 h4 _ => ?_)
    rw [tv_26]
    refine rl_sk Vt.lf h4 (fun e g5 h5 _ => pl_neg (by decide) ?_) (fun e => pl_pos (by decide) ?_)
    · rw [show ww w (sk (ww w (p + 2) 23) (p + 2)) 24 = true from e, if_pos rfl]
      exact rl_ni h5 (fun _ g6 r6 h6 _ => h57 h6)
    · rw [show ww w (sk (ww w (p + 2) 23) (p + 2)) 24 = false from e, if_neg (by decide)]
      exact h57 h4
theorem yI_itemClause (h : Vt P w f n D K p v (nd dd F) g r) : pl (ev L xs (m + 1) d nI_itemClause [.ref cI, .int (Int32.ofNat v)] g r) (kI P w f n D K v dd (b2 (tv w 25 p none []) fun q _ b => o2 q (F ++ b))) kYT := by
  cases d with
  | zero => trivial
  | succ d =>
    have hr := Vt.lf.1 _ _ _ h
    rw [qI_itemClause, tv_25]
    refine pl_u (xR_isKind L xs 0 hr.1) (fun e => pl_pos (by decide) ?_) (fun _ => pl_neg (by decide) (rl_rf hr))
    obtain ⟨hp, h0⟩ := wk_iff.mp e
    have yes : ∀ {c : Int32}, (w.2.1 p).toInt = c.toInt → ww w p c = true := fun ec => ww_iff.mpr ⟨hp, h0, Int32.toInt_inj.mp ec⟩
    have nay : ∀ {c : Int32}, (w.2.1 p).toInt ≠ c.toInt → ww w p c = false := fun ec => Bool.eq_false_iff.mpr (fun q => ec (by rw [(ww_iff.mp q).2.2]))
    unfold BI_itemClause_19 BI_itemClause_116 BI_itemClause_124
    refine pl_e (xR_value L xs hr.1) ?_
    rw [if_pos hp]
    refine pl_if (fun c => ?_) (fun c19 => ?_)
    · rw [yes (c := 19) c, if_pos rfl]
      exact pl_n (yI_picture h hp) (fun _ _ _ _ => trivial) (fun g1 r1 h1 => ⟨rfl, _, none, _, rfl, h1⟩)
    rw [nay (c := 19) c19, if_neg Bool.false_ne_true]
    refine pl_if (fun c => ?_) (fun c20 => ?_)
    · rw [yes (c := 20) c, if_pos rfl]
      exact pl_n (yI_literals h hp) (fun _ _ _ _ => trivial) (fun g1 r1 h1 => h1)
    rw [nay (c := 20) c20, if_neg Bool.false_ne_true]
    refine pl_if (fun _ => rl_rf hr) (fun _ => ?_)
    refine pl_if (fun c => ?_) (fun c22 => ?_)
    · rw [yes (c := 22) c, if_pos rfl]
      exact pl_n (yI_occurs h hp) (fun _ _ _ _ => trivial) (fun g1 r1 h1 => h1)
    rw [nay (c := 22) c22, if_neg Bool.false_ne_true]
    refine pl_if (fun _ => rl_rf hr) (fun _ => ?_)
    refine pl_if (fun _ => rl_rf hr) (fun _ => ?_)
    refine pl_if (fun _ => rl_rf hr) (fun _ => ?_)
    refine pl_if (fun c => ?_) (fun c26 => ?_)
    · rw [yes (c := 26) c, if_pos rfl]
      exact pl_n (yI_redefines h hp) (fun _ _ _ _ => trivial) (fun g1 r1 h1 => ⟨rfl, _, none, _, rfl, h1⟩)
    rw [nay (c := 26) c26, if_neg Bool.false_ne_true]
    refine pl_if (fun c => ?_) (fun _ => rl_rf hr)
    exact pl_n (yI_usage h hp) (fun _ _ _ _ => trivial) (fun g1 r1 h1 => ⟨rfl, _, none, _, rfl, h1⟩)
end
