theorem z_st20 {id : Nat} (h : zty id = 20) : id = 70 ∨ id = 71 ∨ id = 72 := z_chk (P := fun id => id = 70 ∨ id = 71 ∨ id = 72) h (by decide) (by decide +kernel)
theorem z_ltC {id : Nat} (h : id ∈ zS true) : id < 100 := Nat.lt_of_lt_of_le (List.mem_range.mp h) (by decide)
theorem z_geM {id : Nat} (h : id ∈ zS false) : ¬ id < 100 := by
  have h2 : (zS false).all (fun id => decide (¬ id < 100)) = true := by decide +kernel
  simpa using List.all_eq_true.mp h2 id h
theorem z_congr {b : Bool} {ad ad2 : Nat → Nat} {cA cA2 : Nat → ClassId} {μ : zM} (h : ∀ id, id ∈ zS b → ad id = ad2 id ∧ cA id = cA2 id) (hr : ∀ id k, id ∈ zS b → (if zty id < 10 then k < znf (zty id) ∧ zisI (zty id) k = false else (zty id = 12 ∨ zty id = 13 ∨ zty id = 14) ∧ k < zln id) → ad (zrf id k) = ad2 (zrf id k)) : zW b ad cA μ = zW b ad2 cA2 μ := by
  unfold zW
  apply List.map_congr_left
  intro id hid
  obtain ⟨h1, h2⟩ := h id hid
  have h3 := hr id
  refine Prod.ext h1 ?_
  show zcell ad cA μ id = zcell ad2 cA2 μ id
  unfold zcell
  by_cases c : zty id < 10
  · rw [if_pos c, if_pos c]
    refine congrArg (fun f => (Sum.inr (zty id, f) : va_E)) ?_
    unfold zfs
    apply List.map_congr_left
    intro k hk
    by_cases d : zisI (zty id) k = true
    · rw [if_pos d, if_pos d]
    · rw [if_neg d, if_neg d, h3 k hid (by rw [if_pos c]; exact ⟨List.mem_range.mp hk, by simpa using d⟩)]
  · rw [if_neg c, if_neg c, h2]
    by_cases d : zty id = 12 ∨ zty id = 13 ∨ zty id = 14
    · rw [if_pos d, if_pos d]
      refine congrArg (fun f => (Sum.inl (cA2 id, zln id, Sum.inr (Sum.inr (Sum.inr (Sum.inr f)))) : va_E)) (funext fun i => ?_)
      by_cases hi : i < zln id
      · rw [if_pos hi, if_pos hi, h3 i hid (by rw [if_neg c]; exact ⟨d, hi⟩)]
      · rw [if_neg hi, if_neg hi]
    · rw [if_neg d, if_neg d]
theorem z_rfC {id k : Nat} (h : id ∈ zS true) (hk : if zty id < 10 then k < znf (zty id) ∧ zisI (zty id) k = false else (zty id = 12 ∨ zty id = 13 ∨ zty id = 14) ∧ k < zln id) : zrf id k < 100 := by
  have hb : k < 70 := by
    by_cases c : zty id < 10
    · rw [if_pos c] at hk
      have h2 : (List.range 10).all (fun c => decide (znf c < 70)) = true := by decide +kernel
      have := List.all_eq_true.mp h2 (zty id) (List.mem_range.mpr c)
      have := of_decide_eq_true this
      omega
    · rw [if_neg c] at hk
      have h2 : (zS true).all (fun id => decide (zln id < 70)) = true := by decide +kernel
      have := of_decide_eq_true (List.all_eq_true.mp h2 id h)
      omega
  have h3 : (zS true).all (fun id => (List.range 70).all (fun k => !(decide (if zty id < 10 then k < znf (zty id) ∧ zisI (zty id) k = false else (zty id = 12 ∨ zty id = 13 ∨ zty id = 14) ∧ k < zln id)) || decide (zrf id k < 100))) = true := by decide +kernel
  have h4 := List.all_eq_true.mp (List.all_eq_true.mp h3 id h) k (List.mem_range.mpr hb)
  rw [decide_eq_true hk] at h4
  simpa using h4
theorem z_rfM {id k : Nat} (h : id ∈ zS false) (hk : if zty id < 10 then k < znf (zty id) ∧ zisI (zty id) k = false else (zty id = 12 ∨ zty id = 13 ∨ zty id = 14) ∧ k < zln id) : ¬ zrf id k < 100 := by
  by_cases c : zty id < 10
  · have h2 : (zS false).all (fun id => !(decide (zty id < 10)) || decide (zty id = 7)) = true := by decide +kernel
    have h3 := List.all_eq_true.mp h2 id h
    rw [decide_eq_true c] at h3
    have h4 : zty id = 7 := by simpa using h3
    unfold zrf
    rw [h4]
    show ¬ 101 + k < 100
    omega
  · rw [if_neg c] at hk
    have h2 : (zS false).all (fun id => decide (¬ (zty id = 12 ∨ zty id = 13 ∨ zty id = 14))) = true := by decide +kernel
    exact absurd hk.1 (by simpa using List.all_eq_true.mp h2 id h)
theorem nl_X6_27 {s : State} {b : Nat} (htsL : ∀ w ∈ lw_tbl, w.before #[Value.ref b] s = true) : va_Nw (.methodLinkNest "ButlerWeather" 27 yX0_init "ButlerWeather") s := va_Nw.of rfl (htsL (.methodLinkNest "ButlerWeather" 27 yX0_init "ButlerWeather") (List.mem_of_getElem? (i := 119) (by decide +kernel)))
theorem nl_X6_34 {s : State} {b : Nat} (htsL : ∀ w ∈ lw_tbl, w.before #[Value.ref b] s = true) : va_Nw (.methodLinkNest "ButlerWeather" 34 yX1_init "ButlerWeather") s := va_Nw.of rfl (htsL (.methodLinkNest "ButlerWeather" 34 yX1_init "ButlerWeather") (List.mem_of_getElem? (i := 137) (by decide +kernel)))
theorem nl_X6_45 {s : State} {b : Nat} (htsL : ∀ w ∈ lw_tbl, w.before #[Value.ref b] s = true) : va_Nw (.methodLinkNest "ButlerWeather" 45 yX4_init "ButlerWeather") s := va_Nw.of rfl (htsL (.methodLinkNest "ButlerWeather" 45 yX4_init "ButlerWeather") (List.mem_of_getElem? (i := 155) (by decide +kernel)))
theorem nl_X6_48 {s : State} {b : Nat} (htsL : ∀ w ∈ lw_tbl, w.before #[Value.ref b] s = true) : va_Nw (.methodLinkNest "ButlerWeather" 48 yX2_init "ButlerWeather") s := va_Nw.of rfl (htsL (.methodLinkNest "ButlerWeather" 48 yX2_init "ButlerWeather") (List.mem_of_getElem? (i := 174) (by decide +kernel)))
theorem nl_X6_58 {s : State} {b : Nat} (htsL : ∀ w ∈ lw_tbl, w.before #[Value.ref b] s = true) : va_Nw (.methodLinkNest "ButlerWeather" 58 yX3_init "ButlerWeather") s := va_Nw.of rfl (htsL (.methodLinkNest "ButlerWeather" 58 yX3_init "ButlerWeather") (List.mem_of_getElem? (i := 237) (by decide +kernel)))
theorem nl_X5_37 {s : State} {b : Nat} (htsL : ∀ w ∈ lw_tbl, w.before #[Value.ref b] s = true) : va_Nw (.methodLinkNest "ButlerWeather$Text" 37 yX6_within "ButlerWeather") s := va_Nw.of rfl (htsL (.methodLinkNest "ButlerWeather$Text" 37 yX6_within "ButlerWeather") (List.mem_of_getElem? (i := 352) (by decide +kernel)))
theorem nl_X2_52 {s : State} {b : Nat} (htsL : ∀ w ∈ lw_tbl, w.before #[Value.ref b] s = true) : va_Nw (.methodLinkNest "ButlerWeather$House" 52 yX6_within "ButlerWeather") s := va_Nw.of rfl (htsL (.methodLinkNest "ButlerWeather$House" 52 yX6_within "ButlerWeather") (List.mem_of_getElem? (i := 369) (by decide +kernel)))
theorem nl_X3_47 {s : State} {b : Nat} (htsL : ∀ w ∈ lw_tbl, w.before #[Value.ref b] s = true) : va_Nw (.methodLinkNest "ButlerWeather$Odds" 47 yX6_within "ButlerWeather") s := va_Nw.of rfl (htsL (.methodLinkNest "ButlerWeather$Odds" 47 yX6_within "ButlerWeather") (List.mem_of_getElem? (i := 654) (by decide +kernel)))
theorem nl_X4_26 {s : State} {b : Nat} (htsL : ∀ w ∈ lw_tbl, w.before #[Value.ref b] s = true) : va_Nw (.methodLinkNest "ButlerWeather$Sheet" 26 yX6_within "ButlerWeather") s := va_Nw.of rfl (htsL (.methodLinkNest "ButlerWeather$Sheet" 26 yX6_within "ButlerWeather") (List.mem_of_getElem? (i := 707) (by decide +kernel)))
theorem nl_fl {s : State} {b : Nat} (htsL : ∀ w ∈ lw_tbl, w.before #[Value.ref b] s = true) : va_Nw (.fieldLinkNest "ButlerWeather$House" 103 "ButlerWeather" "WARMER" "[I" "ButlerWeather") s := va_Nw.of rfl (htsL (.fieldLinkNest "ButlerWeather$House" 103 "ButlerWeather" "WARMER" "[I" "ButlerWeather") (List.mem_of_getElem? (i := 498) (by decide +kernel)))
theorem st_all {s : State} {b : Nat} (htsL : ∀ w ∈ lw_tbl, w.before #[Value.ref b] s = true) (hgv : (Jvm.Cond.and given_1 narrow_1).before #[Value.ref b] s = true) : ∃ t0 t1 t2 : Nat, va_T .int t0 4 (fun j => .int (zsv 70 j)) (zL_A s) s s.heap ∧ va_T .int t1 3 (fun j => .int (zsv 71 j)) (zL_A s) s s.heap ∧ va_T .int t2 4 (fun j => .int (zsv 72 j)) (zL_A s) s s.heap ∧ va_Z "ButlerWeather" "CALLER_SIGNS" "[I" (.ref t0) (zL_A s) s s.heap ∧ va_Z "ButlerWeather" "MAN_SIGNS" "[I" (.ref t1) (zL_A s) s s.heap ∧ va_Z "ButlerWeather" "WARMER" "[I" (.ref t2) (zL_A s) s s.heap := by
  have hfl := flat_of_before _ hgv
  have hts := fun (w : Cond) (hw : w ∈ GT) => htsL w (gt_in hw)
  have hel0 : ∀ j : Nat, j < 4 → (Term.elem (Term.static "ButlerWeather" "CALLER_SIGNS" "[I") (.int (Int32.ofNat j))).eval #[Value.ref b] s none [] s = some (.int (zsv 70 j)) := by
    intro j hj
    match j, hj with
    | 0, _ => exact va_eqt (hfl (.eq (.elem (Term.static "ButlerWeather" "CALLER_SIGNS" "[I") (.int 0)) (.int 0)) (by decide +kernel))
    | 1, _ => exact va_eqt (hfl (.eq (.elem (Term.static "ButlerWeather" "CALLER_SIGNS" "[I") (.int 1)) (.int 2)) (by decide +kernel))
    | 2, _ => exact va_eqt (hfl (.eq (.elem (Term.static "ButlerWeather" "CALLER_SIGNS" "[I") (.int 2)) (.int 3)) (by decide +kernel))
    | 3, _ => exact va_eqt (hfl (.eq (.elem (Term.static "ButlerWeather" "CALLER_SIGNS" "[I") (.int 3)) (.int 2)) (by decide +kernel))
    | n + 4, h => exact absurd h (by omega)
  obtain ⟨t0, ht0, hT0⟩ := va_Tof (A := zL_A s) (tm := (Term.static "ButlerWeather" "CALLER_SIGNS" "[I")) (ty := .int) (N := 4) (f := fun j => .int (zsv 70 j)) (by decide) (hfl (.arrayOf (Term.static "ButlerWeather" "CALLER_SIGNS" "[I") .int) (by decide +kernel)) (va_eqt (hfl (.eq (.length (Term.static "ButlerWeather" "CALLER_SIGNS" "[I")) (.int 4)) (by decide +kernel))) hel0 (fun a h => Nat.not_le.mpr h)
  have hZ0 := va_Zref (A := zL_A s) (htsL (.laysStatic "ButlerWeather" "CALLER_SIGNS" "[I") (List.mem_of_getElem? (i := 95) (by decide +kernel))) (hts _ kw_72) ht0 (fun a h => Nat.not_le.mpr h)
  have hel1 : ∀ j : Nat, j < 3 → (Term.elem (Term.static "ButlerWeather" "MAN_SIGNS" "[I") (.int (Int32.ofNat j))).eval #[Value.ref b] s none [] s = some (.int (zsv 71 j)) := by
    intro j hj
    match j, hj with
    | 0, _ => exact va_eqt (hfl (.eq (.elem (Term.static "ButlerWeather" "MAN_SIGNS" "[I") (.int 0)) (.int 1)) (by decide +kernel))
    | 1, _ => exact va_eqt (hfl (.eq (.elem (Term.static "ButlerWeather" "MAN_SIGNS" "[I") (.int 1)) (.int 3)) (by decide +kernel))
    | 2, _ => exact va_eqt (hfl (.eq (.elem (Term.static "ButlerWeather" "MAN_SIGNS" "[I") (.int 2)) (.int 3)) (by decide +kernel))
    | n + 3, h => exact absurd h (by omega)
  obtain ⟨t1, ht1, hT1⟩ := va_Tof (A := zL_A s) (tm := (Term.static "ButlerWeather" "MAN_SIGNS" "[I")) (ty := .int) (N := 3) (f := fun j => .int (zsv 71 j)) (by decide) (hfl (.arrayOf (Term.static "ButlerWeather" "MAN_SIGNS" "[I") .int) (by decide +kernel)) (va_eqt (hfl (.eq (.length (Term.static "ButlerWeather" "MAN_SIGNS" "[I")) (.int 3)) (by decide +kernel))) hel1 (fun a h => Nat.not_le.mpr h)
  have hZ1 := va_Zref (A := zL_A s) (htsL (.laysStatic "ButlerWeather" "MAN_SIGNS" "[I") (List.mem_of_getElem? (i := 116) (by decide +kernel))) (hts _ kw_72) ht1 (fun a h => Nat.not_le.mpr h)
  have hel2 : ∀ j : Nat, j < 4 → (Term.elem (Term.static "ButlerWeather" "WARMER" "[I") (.int (Int32.ofNat j))).eval #[Value.ref b] s none [] s = some (.int (zsv 72 j)) := by
    intro j hj
    match j, hj with
    | 0, _ => exact va_eqt (hfl (.eq (.elem (Term.static "ButlerWeather" "WARMER" "[I") (.int 0)) (.int (-1))) (by decide +kernel))
    | 1, _ => exact va_eqt (hfl (.eq (.elem (Term.static "ButlerWeather" "WARMER" "[I") (.int 1)) (.int (-3))) (by decide +kernel))
    | 2, _ => exact va_eqt (hfl (.eq (.elem (Term.static "ButlerWeather" "WARMER" "[I") (.int 2)) (.int (-2))) (by decide +kernel))
    | 3, _ => exact va_eqt (hfl (.eq (.elem (Term.static "ButlerWeather" "WARMER" "[I") (.int 3)) (.int 4)) (by decide +kernel))
    | n + 4, h => exact absurd h (by omega)
  obtain ⟨t2, ht2, hT2⟩ := va_Tof (A := zL_A s) (tm := (Term.static "ButlerWeather" "WARMER" "[I")) (ty := .int) (N := 4) (f := fun j => .int (zsv 72 j)) (by decide) (hfl (.arrayOf (Term.static "ButlerWeather" "WARMER" "[I") .int) (by decide +kernel)) (va_eqt (hfl (.eq (.length (Term.static "ButlerWeather" "WARMER" "[I")) (.int 4)) (by decide +kernel))) hel2 (fun a h => Nat.not_le.mpr h)
  have hZ2 := va_Zref (A := zL_A s) (htsL (.laysStatic "ButlerWeather" "WARMER" "[I") (List.mem_of_getElem? (i := 499) (by decide +kernel))) (hts _ kw_72) ht2 (fun a h => Nat.not_le.mpr h)
  exact ⟨t0, t1, t2, hT0, hT1, hT2, hZ0, hZ1, hZ2⟩
set_option maxHeartbeats 4000000 in
set_option maxRecDepth 100000 in
theorem m_asm {D : va_G} {A : Nat → Prop} {H : Heap} {U : State} {q7 : Nat} {qM : Nat → Nat} {cM : Nat → ClassId} (hPM : va_P D vwCl (w_X7 q7 qM cM) H) (hKM : va_K D vwCl (k_X7 cM) U) (hDM : va_D A (w_X7 q7 qM cM)) : ∃ (aM : Nat → Nat) (kM : Nat → ClassId), va_P D vwCl (zW false aM kM zM0M) H ∧ zK false D kM U ∧ zInj false aM ∧ (∀ id, id ∈ zS false → A (aM id)) ∧ aM 100 = q7 := by
  obtain ⟨aM, haM⟩ : ∃ aM : Nat → Nat, aM = fun id => [q7, (qM 1), (qM 2), 0, (qM 3), (qM 4), (qM 5), (qM 6), 0, (qM 7), (qM 8), (qM 9), 0, (qM 10), (qM 11), 0, (qM 12), (qM 13), 0, (qM 14), (qM 15), (qM 16), 0, 0, (qM 17), (qM 18), (qM 19), (qM 20), (qM 21), 0, (qM 22), (qM 23), (qM 24), (qM 25), (qM 26), (qM 27), (qM 28), (qM 29)].getD (id - 100) 0 := ⟨_, rfl⟩
  obtain ⟨kM, hkM⟩ : ∃ kM : Nat → ClassId, kM = fun id => [0, (cM 1), (cM 2), 0, (cM 3), (cM 4), (cM 5), (cM 6), 0, (cM 7), (cM 8), (cM 9), 0, (cM 10), (cM 11), 0, (cM 12), (cM 13), 0, (cM 14), (cM 15), (cM 16), 0, 0, (cM 17), (cM 18), (cM 19), (cM 20), (cM 21), 0, (cM 22), (cM 23), (cM 24), (cM 25), (cM 26), (cM 27), (cM 28), (cM 29)].getD (id - 100) 0 := ⟨_, rfl⟩
  have hqM : ∀ id : Nat, id ∈ zS false → (w_X7 q7 qM cM)[(fun id => [0, 1, 2, 0, 3, 4, 5, 6, 0, 7, 8, 9, 0, 10, 11, 0, 12, 13, 0, 14, 15, 16, 0, 0, 17, 18, 19, 20, 21, 0, 22, 23, 24, 25, 26, 27, 28, 29].getD (id - 100) 0) id]? = some (aM id, zcell aM kM zM0M id) := by
    intro id hid
    rw [haM, hkM]
    simp only [zS, Bool.false_eq_true, if_false, List.mem_cons, List.not_mem_nil, or_false] at hid
    rcases hid with rfl | rfl | rfl | rfl | rfl | rfl | rfl | rfl | rfl | rfl | rfl | rfl | rfl | rfl | rfl | rfl | rfl | rfl | rfl | rfl | rfl | rfl | rfl | rfl | rfl | rfl | rfl | rfl | rfl | rfl
    · exact rfl
    · exact rfl
    · exact rfl
    · exact rfl
    · exact rfl
    · exact rfl
    · exact rfl
    · exact rfl
    · exact rfl
    · exact rfl
    · exact rfl
    · exact rfl
    · exact rfl
    · exact rfl
    · exact rfl
    · exact rfl
    · exact rfl
    · exact rfl
    · exact rfl
    · exact rfl
    · exact rfl
    · exact rfl
    · exact rfl
    · exact rfl
    · exact rfl
    · exact rfl
    · exact rfl
    · exact rfl
    · exact rfl
    · exact rfl
  have hasm := z_asm (b := false) (ad := aM) (cA := kM) (μ := zM0M) hPM hDM _ hqM (by decide +kernel)
  have hzT : ∀ id : Nat, id ∈ zS false → 10 ≤ zty id → (kM id, zft (zty id)) ∈ k_X7 cM := by
    intro id hid h2
    rw [hkM]
    simp only [zS, Bool.false_eq_true, if_false, List.mem_cons, List.not_mem_nil, or_false] at hid
    rcases hid with rfl | rfl | rfl | rfl | rfl | rfl | rfl | rfl | rfl | rfl | rfl | rfl | rfl | rfl | rfl | rfl | rfl | rfl | rfl | rfl | rfl | rfl | rfl | rfl | rfl | rfl | rfl | rfl | rfl | rfl
    · exact absurd h2 (by decide +kernel)
    · exact List.mem_of_getElem? (i := 0) rfl
    · exact List.mem_of_getElem? (i := 1) rfl
    · exact List.mem_of_getElem? (i := 2) rfl
    · exact List.mem_of_getElem? (i := 3) rfl
    · exact List.mem_of_getElem? (i := 4) rfl
    · exact List.mem_of_getElem? (i := 5) rfl
    · exact List.mem_of_getElem? (i := 6) rfl
    · exact List.mem_of_getElem? (i := 7) rfl
    · exact List.mem_of_getElem? (i := 8) rfl
    · exact List.mem_of_getElem? (i := 9) rfl
    · exact List.mem_of_getElem? (i := 10) rfl
    · exact List.mem_of_getElem? (i := 11) rfl
    · exact List.mem_of_getElem? (i := 12) rfl
    · exact List.mem_of_getElem? (i := 13) rfl
    · exact List.mem_of_getElem? (i := 14) rfl
    · exact List.mem_of_getElem? (i := 15) rfl
    · exact List.mem_of_getElem? (i := 16) rfl
    · exact List.mem_of_getElem? (i := 17) rfl
    · exact List.mem_of_getElem? (i := 18) rfl
    · exact List.mem_of_getElem? (i := 19) rfl
    · exact List.mem_of_getElem? (i := 20) rfl
    · exact List.mem_of_getElem? (i := 21) rfl
    · exact List.mem_of_getElem? (i := 22) rfl
    · exact List.mem_of_getElem? (i := 23) rfl
    · exact List.mem_of_getElem? (i := 24) rfl
    · exact List.mem_of_getElem? (i := 25) rfl
    · exact List.mem_of_getElem? (i := 26) rfl
    · exact List.mem_of_getElem? (i := 27) rfl
    · exact List.mem_of_getElem? (i := 28) rfl
  exact ⟨aM, kM, hasm.1, z_tys hKM hzT, hasm.2.1, hasm.2.2, by rw [haM]; rfl⟩
