/-! The tables of this claim, as the abstract machine takes them. -/
def nm_F (n : Nat) (xs : Nat → Int32) : am_F := (fun ow k => nm_fl.lookup (ow, k), fun ow k => nm_nw.lookup (ow, k), fun ow k => nm_ld.lookup (ow, k), fun ow k => nm_ct.lookup (ow, k), fun ow k => (nm_th.lookup (ow, k)).map (fun r => r.1), n, xs)
theorem nm_G : ∀ w ∈ nm_Tg, goodWord w = true := fun _ h => (List.mem_filter.mp h).2
theorem nm_Nk : ∀ w ∈ nm_Ns, am_nk w = true := by
  intro w hw
  have h : nm_Ns.all am_nk = true := rfl
  exact List.all_eq_true.mp h w hw
theorem nm_okT (n : Nat) (xs : Nat → Int32) : am_okT (nm_F n xs) nm_cls nm_Tg :=
  ⟨fun _ C T N h => nm_cl_ok (C, T, N) (List.mem_of_getElem? h), fun ow k ci j ty fin h => nm_fl_ok ((ow, k), (ci, j, ty, fin)) (nm_lk h), fun ow k ci fs h => nm_nw_ok ((ow, k), (ci, fs)) (nm_lk h), fun ow k v h => nm_ld_ok ((ow, k), v) (nm_lk h), nm_ar0, nm_ar1, nm_ar2⟩
theorem nm_okCl (n : Nat) (xs : Nat → Int32) : am_okCl (nm_F n xs) nm_ms nm_hm nm_Tg nm_Ns := fun ow k j w h => nm_ct_ok ((ow, k), (j, w)) (nm_lk h)
theorem nm_okTh (n : Nat) (xs : Nat → Int32) (sa : Nat → Nat) : am_okTh (nm_F n xs) nm_cls nm_ms nm_Tg nm_Ns (nm_St sa) := by
  intro j M pc ik is ic x hj l0 l4 l6 hx
  have hx' : (nm_th.lookup ((am_y M).cls, ik)).map (fun r => r.1) = some x := hx
  cases hr : nm_th.lookup ((am_y M).cls, ik) with
  | none => rw [hr] at hx'; cases hx'
  | some r =>
    rw [hr] at hx'
    have ex : r.1 = x := Option.some.inj hx'
    have hM : nm_chk M = true := by
      unfold nm_ms at hj
      cases hq : nm_ML[j]? with
      | none => rw [hq] at hj; cases hj
      | some q =>
        rw [hq] at hj
        rw [← Option.some.inj hj]
        exact nm_chk_all q (List.mem_of_getElem? hq)
    have h1 := List.all_eq_true.mp hM (pc, .new ik, 3) (am_look l0)
    have h2 : (match nm_th.lookup ((am_y M).cls, ik) with
      | some r => decide ((am_cd M).lookup (pc + 4) = some (.ldc r.2.1, 2) ∧ (am_cd M).lookup (pc + 6) = some (.invokespecial r.2.2, 3))
      | none => true) = true := h1
    rw [hr] at h2
    obtain ⟨h3, h4⟩ := of_decide_eq_true h2
    rw [l4] at h3
    rw [l6] at h4
    cases h3
    cases h4
    obtain ⟨E, T, text, n', names, g1, g2, g3, g4, g5, g6, g7, g8⟩ := nm_th_ok (((am_y M).cls, ik), r) (nm_lk hr)
    refine ⟨E, T, text, sa n', names, by rw [← ex]; exact g1, g2, g3, g4, g5, g6, g7 sa, fun w hw => ?_⟩
    obtain ⟨m1, m2⟩ := List.mem_filter.mp hw
    exact g8 w m1 m2
