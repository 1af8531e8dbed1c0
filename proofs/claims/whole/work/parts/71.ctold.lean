-- PURE: the class's told house
def fC (μ μ' : zM) : Prop := ∀ a, a < 34 ∨ 47 ≤ a → μ' a = μ a
theorem fC_rf {μ : zM} : fC μ μ := fun _ _ => rfl
theorem fC_tr {μ μ1 μ2 : zM} (h : fC μ μ1) (h2 : fC μ1 μ2) : fC μ μ2 := fun a x => (h2 a x).trans (h a x)
theorem zC : zln 1 = 2 ∧ zln 3 = 39 ∧ zln 5 = 15 ∧ zln 7 = 8 ∧ zln 8 = 8 ∧ zln 10 = 8 ∧ zln 11 = 8 ∧ zln 12 = 4 ∧ zln 14 = 60 ∧ zln 16 = 60 ∧ zln 18 = 60 ∧ zln 20 = 60 ∧ zln 22 = 8 ∧ zln 23 = 8 ∧ zln 24 = 8 ∧ zln 25 = 8 ∧ zln 26 = 8 ∧ zln 27 = 4 ∧ zln 28 = 4 ∧ zln 29 = 4 ∧ zln 30 = 24 ∧ zln 31 = 8 ∧ zln 32 = 8 ∧ zln 33 = 8 ∧ zln 35 = 8 ∧ zln 36 = 8 ∧ zln 37 = 8 ∧ zln 38 = 8 ∧ zln 39 = 8 ∧ zln 40 = 4 ∧ zln 41 = 4 ∧ zln 42 = 4 ∧ zln 43 = 24 ∧ zln 44 = 8 ∧ zln 45 = 8 ∧ zln 46 = 8 ∧ zln 48 = 8 ∧ zln 49 = 9 := by decide
def crd (S μ : zM) : Prop := μ 6 2 = S 100 11 ∧ ∀ i, i < cn S → μ 7 i = S 113 i ∧ μ 8 i = S 114 i
/-- as the cards stand: n of them, their days, whom they are for -/
def cdR (μ : zM) (n : Nat) (dd ff : Nat → Nat) : Prop := n ≤ 8 ∧ μ 6 2 = nI n ∧ ∀ i, i < n → μ 7 i = nI (dd i) ∧ dd i < 24 ∧ μ 8 i = nI (ff i) ∧ ff i < 8
theorem cdR_of {S μ : zM} (hw : wfS S) (h : crd S μ) : cdR μ (cn S) (cd S) (cf S) := by
  obtain ⟨-, -, ⟨w1, w2⟩, w3, -⟩ := hw
  refine ⟨w2, h.1.trans w1, fun i hi => ?_⟩
  obtain ⟨a, b, c, d⟩ := w3 i hi
  obtain ⟨e, f⟩ := h.2 i hi
  exact ⟨e.trans a, b, f.trans c, d⟩
section CT
variable {r0 : Nat} {μ : zM} {T : zT2}
theorem uninvite_e (hr : hO r0) : ∃ μ', f_X2_uninviteAll r0 μ = some ((), μ') ∧ (∀ a, a ≠ r0 + 5 → μ' a = μ a) ∧ ∀ k, k < 8 → μ' (r0 + 5) k = nI 24 := by
  obtain ⟨z1, z2, z3, z4, z5, z6, z7, z8, z9, z10, z11, z12⟩ := hz hr
  unfold f_X2_uninviteAll
  refine loop_X (fun n i (m : zM) => f_X2_uninviteAll_L2 r0 (fun μ => some ((), μ)) n i m) (fun R => ∃ μ', R = some ((), μ') ∧ (∀ a, a ≠ r0 + 5 → μ' a = μ a) ∧ ∀ k, k < 8 → μ' (r0 + 5) k = nI 24) 8 (fun k m => (∀ a, a ≠ r0 + 5 → m a = μ a) ∧ ∀ i, i < k → m (r0 + 5) i = nI 24) ?_ ?_ 400 0 μ (by omega) (by omega) ⟨fun _ _ => rfl, fun i hi => by omega⟩
  · intro n m ⟨h1, h2⟩
    refine ⟨m, ?_, h1, h2⟩
    show f_X2_uninviteAll_L2 _ _ (n + 1) _ _ = _
    rw [f_X2_uninviteAll_L2]
    simp (disch := first | assumption | omega | trivial) only [ev_v, ev_w, ev_c, ev_g, ev_p, ev_j, ev_ld, ev_st, ev_ldS, ev_ldR, ev_g0, ev_g1, ev_gT, ev_gb, nI_1, nI_add, pk_sub, pk_mul, q_le, q_lt, q_eq, q_m1, q_m1', q_bI0, q_bI0', if_pos, if_neg, zup_e, zup_o, zup_n, q_rem, q_div, q_ne0, q_r5, q_r4, q_r24, q_add_2, q_add_3, q_add_4, q_mul_2, q_mul_4, q_mul_8, q_mul_24, q_mul_39, q_mul_60, q_sub_1, q_sub_2, q_sub_48, q_sub_97, q_le_0, q_ge_0, q_lt_0, q_gt_0, q_eq_0, q_le_1, q_ge_1, q_lt_1, q_gt_1, q_eq_1, q_le_2, q_ge_2, q_lt_2, q_gt_2, q_eq_2, q_le_3, q_ge_3, q_lt_3, q_gt_3, q_eq_3, q_le_4, q_ge_4, q_lt_4, q_gt_4, q_eq_4, q_le_5, q_ge_5, q_lt_5, q_gt_5, q_eq_5, q_le_6, q_ge_6, q_lt_6, q_gt_6, q_eq_6, q_le_7, q_ge_7, q_lt_7, q_gt_7, q_eq_7, q_le_8, q_ge_8, q_lt_8, q_gt_8, q_eq_8, q_le_9, q_ge_9, q_lt_9, q_gt_9, q_eq_9, q_le_10, q_ge_10, q_lt_10, q_gt_10, q_eq_10, q_le_15, q_ge_15, q_lt_15, q_gt_15, q_eq_15, q_le_16, q_ge_16, q_lt_16, q_gt_16, q_eq_16, q_le_23, q_ge_23, q_lt_23, q_gt_23, q_eq_23, q_le_24, q_ge_24, q_lt_24, q_gt_24, q_eq_24, q_le_39, q_ge_39, q_lt_39, q_gt_39, q_eq_39, q_le_48, q_ge_48, q_lt_48, q_gt_48, q_eq_48, q_le_49, q_ge_49, q_lt_49, q_gt_49, q_eq_49, q_le_57, q_ge_57, q_lt_57, q_gt_57, q_eq_57, q_le_59, q_ge_59, q_lt_59, q_gt_59, q_eq_59, q_le_60, q_ge_60, q_lt_60, q_gt_60, q_eq_60, q_le_97, q_ge_97, q_lt_97, q_gt_97, q_eq_97, q_le_98, q_ge_98, q_lt_98, q_gt_98, q_eq_98, q_le_102, q_ge_102, q_lt_102, q_gt_102, q_eq_102, q_le_103, q_ge_103, q_lt_103, q_gt_103, q_eq_103, q_le_106, q_ge_106, q_lt_106, q_gt_106, q_eq_106, q_le_114, q_ge_114, q_lt_114, q_gt_114, q_eq_114, q_le_115, q_ge_115, q_lt_115, q_gt_115, q_eq_115, q_le_120, q_ge_120, q_lt_120, q_gt_120, q_eq_120]
  · intro n k m hk ⟨h1, h2⟩
    refine ⟨zup m (r0 + 5) k (nI 24), ?_, fun a ha => ?_, fun i hi => ?_⟩
    · show f_X2_uninviteAll_L2 _ _ (n + 1) _ _ = f_X2_uninviteAll_L2 _ _ n _ _
      rw [f_X2_uninviteAll_L2, k_24]
      simp (disch := first | assumption | omega | trivial) only [ev_v, ev_w, ev_c, ev_g, ev_p, ev_j, ev_ld, ev_st, ev_ldS, ev_ldR, ev_g0, ev_g1, ev_gT, ev_gb, nI_1, nI_add, pk_sub, pk_mul, q_le, q_lt, q_eq, q_m1, q_m1', q_bI0, q_bI0', if_pos, if_neg, zup_e, zup_o, zup_n, q_rem, q_div, q_ne0, q_r5, q_r4, q_r24, q_add_2, q_add_3, q_add_4, q_mul_2, q_mul_4, q_mul_8, q_mul_24, q_mul_39, q_mul_60, q_sub_1, q_sub_2, q_sub_48, q_sub_97, q_le_0, q_ge_0, q_lt_0, q_gt_0, q_eq_0, q_le_1, q_ge_1, q_lt_1, q_gt_1, q_eq_1, q_le_2, q_ge_2, q_lt_2, q_gt_2, q_eq_2, q_le_3, q_ge_3, q_lt_3, q_gt_3, q_eq_3, q_le_4, q_ge_4, q_lt_4, q_gt_4, q_eq_4, q_le_5, q_ge_5, q_lt_5, q_gt_5, q_eq_5, q_le_6, q_ge_6, q_lt_6, q_gt_6, q_eq_6, q_le_7, q_ge_7, q_lt_7, q_gt_7, q_eq_7, q_le_8, q_ge_8, q_lt_8, q_gt_8, q_eq_8, q_le_9, q_ge_9, q_lt_9, q_gt_9, q_eq_9, q_le_10, q_ge_10, q_lt_10, q_gt_10, q_eq_10, q_le_15, q_ge_15, q_lt_15, q_gt_15, q_eq_15, q_le_16, q_ge_16, q_lt_16, q_gt_16, q_eq_16, q_le_23, q_ge_23, q_lt_23, q_gt_23, q_eq_23, q_le_24, q_ge_24, q_lt_24, q_gt_24, q_eq_24, q_le_39, q_ge_39, q_lt_39, q_gt_39, q_eq_39, q_le_48, q_ge_48, q_lt_48, q_gt_48, q_eq_48, q_le_49, q_ge_49, q_lt_49, q_gt_49, q_eq_49, q_le_57, q_ge_57, q_lt_57, q_gt_57, q_eq_57, q_le_59, q_ge_59, q_lt_59, q_gt_59, q_eq_59, q_le_60, q_ge_60, q_lt_60, q_gt_60, q_eq_60, q_le_97, q_ge_97, q_lt_97, q_gt_97, q_eq_97, q_le_98, q_ge_98, q_lt_98, q_gt_98, q_eq_98, q_le_102, q_ge_102, q_lt_102, q_gt_102, q_eq_102, q_le_103, q_ge_103, q_lt_103, q_gt_103, q_eq_103, q_le_106, q_ge_106, q_lt_106, q_gt_106, q_eq_106, q_le_114, q_ge_114, q_lt_114, q_gt_114, q_eq_114, q_le_115, q_ge_115, q_lt_115, q_gt_115, q_eq_115, q_le_120, q_ge_120, q_lt_120, q_gt_120, q_eq_120]
    · rw [zup_n ha]; exact h1 a ha
    · by_cases c : i = k
      · subst c; rw [zup_e]
      · rw [zup_o c]; exact h2 i (by omega)
theorem invite_e (hr : hO r0) {d k q : Nat} (hd : d < 2 ^ 31) (hk : k < 8) (hq : q < 2 ^ 31) (h5 : μ (r0 + 5) k = nI q) : f_X2_invite r0 (nI d) (nI k) μ = some ((), zup μ (r0 + 5) k (nI (if d < q then d else q))) := by
  obtain ⟨z1, z2, z3, z4, z5, z6, z7, z8, z9, z10, z11, z12⟩ := hz hr
  unfold f_X2_invite
  have e : wi (nI k) 0 7 = true := (wi_of (n := 7) (by omega)).mpr ⟨k, by omega, rfl⟩
  rw [within_e, e, ev_c]
  simp (disch := first | assumption | omega | trivial) only [ev_v, ev_w, ev_c, ev_g, ev_p, ev_j, ev_ld, ev_st, ev_ldS, ev_ldR, ev_g0, ev_g1, ev_gT, ev_gb, nI_1, nI_add, pk_sub, pk_mul, q_le, q_lt, q_eq, q_m1, q_m1', q_bI0, q_bI0', if_pos, if_neg, zup_e, zup_o, zup_n, q_rem, q_div, q_ne0, q_r5, q_r4, q_r24, q_add_2, q_add_3, q_add_4, q_mul_2, q_mul_4, q_mul_8, q_mul_24, q_mul_39, q_mul_60, q_sub_1, q_sub_2, q_sub_48, q_sub_97, q_le_0, q_ge_0, q_lt_0, q_gt_0, q_eq_0, q_le_1, q_ge_1, q_lt_1, q_gt_1, q_eq_1, q_le_2, q_ge_2, q_lt_2, q_gt_2, q_eq_2, q_le_3, q_ge_3, q_lt_3, q_gt_3, q_eq_3, q_le_4, q_ge_4, q_lt_4, q_gt_4, q_eq_4, q_le_5, q_ge_5, q_lt_5, q_gt_5, q_eq_5, q_le_6, q_ge_6, q_lt_6, q_gt_6, q_eq_6, q_le_7, q_ge_7, q_lt_7, q_gt_7, q_eq_7, q_le_8, q_ge_8, q_lt_8, q_gt_8, q_eq_8, q_le_9, q_ge_9, q_lt_9, q_gt_9, q_eq_9, q_le_10, q_ge_10, q_lt_10, q_gt_10, q_eq_10, q_le_15, q_ge_15, q_lt_15, q_gt_15, q_eq_15, q_le_16, q_ge_16, q_lt_16, q_gt_16, q_eq_16, q_le_23, q_ge_23, q_lt_23, q_gt_23, q_eq_23, q_le_24, q_ge_24, q_lt_24, q_gt_24, q_eq_24, q_le_39, q_ge_39, q_lt_39, q_gt_39, q_eq_39, q_le_48, q_ge_48, q_lt_48, q_gt_48, q_eq_48, q_le_49, q_ge_49, q_lt_49, q_gt_49, q_eq_49, q_le_57, q_ge_57, q_lt_57, q_gt_57, q_eq_57, q_le_59, q_ge_59, q_lt_59, q_gt_59, q_eq_59, q_le_60, q_ge_60, q_lt_60, q_gt_60, q_eq_60, q_le_97, q_ge_97, q_lt_97, q_gt_97, q_eq_97, q_le_98, q_ge_98, q_lt_98, q_gt_98, q_eq_98, q_le_102, q_ge_102, q_lt_102, q_gt_102, q_eq_102, q_le_103, q_ge_103, q_lt_103, q_gt_103, q_eq_103, q_le_106, q_ge_106, q_lt_106, q_gt_106, q_eq_106, q_le_114, q_ge_114, q_lt_114, q_gt_114, q_eq_114, q_le_115, q_ge_115, q_lt_115, q_gt_115, q_eq_115, q_le_120, q_ge_120, q_lt_120, q_gt_120, q_eq_120, h5]
  by_cases c : d < q
  · rw [if_pos c, if_pos c]
  · rw [if_neg c, if_neg c]
theorem inviteAllBut_e (hr : hO r0) {n : Nat} {dd ff : Nat → Nat} (hc : cdR μ n dd ff) (b : Int32) : ∃ μ', f_X0_inviteAllBut b r0 μ = some ((), μ') ∧ (∀ a, a ≠ r0 + 5 → μ' a = μ a) ∧ ∀ k, k < 8 → μ' (r0 + 5) k = nI (iv b dd ff n k) := by
  obtain ⟨μ1, e1, h1, h2⟩ := uninvite_e (μ := μ) hr
  obtain ⟨hn, hs, hc⟩ := hc
  have zz := zC
  have ho := hr
  unfold hO at ho
  unfold f_X0_inviteAllBut
  rw [e1, ev_c]
  refine loop_X (fun q i (m : zM) => f_X0_inviteAllBut_L6 b r0 (fun μ => some ((), μ)) q i m) (fun R => ∃ μ', R = some ((), μ') ∧ (∀ a, a ≠ r0 + 5 → μ' a = μ a) ∧ ∀ k, k < 8 → μ' (r0 + 5) k = nI (iv b dd ff n k)) n (fun i m => (∀ a, a ≠ r0 + 5 → m a = μ a) ∧ ∀ k, k < 8 → m (r0 + 5) k = nI (iv b dd ff i k)) ?_ ?_ 400 0 μ1 (by omega) (by omega) ⟨h1, h2⟩
  · intro q m ⟨g1, g2⟩
    refine ⟨m, ?_, g1, g2⟩
    show f_X0_inviteAllBut_L6 _ _ _ (q + 1) _ _ = _
    rw [f_X0_inviteAllBut_L6, ev_g, g1 6 (by omega), hs]
    simp (disch := first | assumption | omega | trivial) only [ev_v, ev_w, ev_c, ev_g, ev_p, ev_j, ev_ld, ev_st, ev_ldS, ev_ldR, ev_g0, ev_g1, ev_gT, ev_gb, nI_1, nI_add, pk_sub, pk_mul, q_le, q_lt, q_eq, q_m1, q_m1', q_bI0, q_bI0', if_pos, if_neg, zup_e, zup_o, zup_n, q_rem, q_div, q_ne0, q_r5, q_r4, q_r24, q_add_2, q_add_3, q_add_4, q_mul_2, q_mul_4, q_mul_8, q_mul_24, q_mul_39, q_mul_60, q_sub_1, q_sub_2, q_sub_48, q_sub_97, q_le_0, q_ge_0, q_lt_0, q_gt_0, q_eq_0, q_le_1, q_ge_1, q_lt_1, q_gt_1, q_eq_1, q_le_2, q_ge_2, q_lt_2, q_gt_2, q_eq_2, q_le_3, q_ge_3, q_lt_3, q_gt_3, q_eq_3, q_le_4, q_ge_4, q_lt_4, q_gt_4, q_eq_4, q_le_5, q_ge_5, q_lt_5, q_gt_5, q_eq_5, q_le_6, q_ge_6, q_lt_6, q_gt_6, q_eq_6, q_le_7, q_ge_7, q_lt_7, q_gt_7, q_eq_7, q_le_8, q_ge_8, q_lt_8, q_gt_8, q_eq_8, q_le_9, q_ge_9, q_lt_9, q_gt_9, q_eq_9, q_le_10, q_ge_10, q_lt_10, q_gt_10, q_eq_10, q_le_15, q_ge_15, q_lt_15, q_gt_15, q_eq_15, q_le_16, q_ge_16, q_lt_16, q_gt_16, q_eq_16, q_le_23, q_ge_23, q_lt_23, q_gt_23, q_eq_23, q_le_24, q_ge_24, q_lt_24, q_gt_24, q_eq_24, q_le_39, q_ge_39, q_lt_39, q_gt_39, q_eq_39, q_le_48, q_ge_48, q_lt_48, q_gt_48, q_eq_48, q_le_49, q_ge_49, q_lt_49, q_gt_49, q_eq_49, q_le_57, q_ge_57, q_lt_57, q_gt_57, q_eq_57, q_le_59, q_ge_59, q_lt_59, q_gt_59, q_eq_59, q_le_60, q_ge_60, q_lt_60, q_gt_60, q_eq_60, q_le_97, q_ge_97, q_lt_97, q_gt_97, q_eq_97, q_le_98, q_ge_98, q_lt_98, q_gt_98, q_eq_98, q_le_102, q_ge_102, q_lt_102, q_gt_102, q_eq_102, q_le_103, q_ge_103, q_lt_103, q_gt_103, q_eq_103, q_le_106, q_ge_106, q_lt_106, q_gt_106, q_eq_106, q_le_114, q_ge_114, q_lt_114, q_gt_114, q_eq_114, q_le_115, q_ge_115, q_lt_115, q_gt_115, q_eq_115, q_le_120, q_ge_120, q_lt_120, q_gt_120, q_eq_120]
  · intro q i m hi ⟨g1, g2⟩
    obtain ⟨a1, a2, a3, a4⟩ := hc i hi
    show ∃ s' : zM, f_X0_inviteAllBut_L6 _ _ _ (q + 1) _ _ = f_X0_inviteAllBut_L6 _ _ _ q _ _ ∧ _
    rw [f_X0_inviteAllBut_L6, ev_g, g1 6 (by omega), hs, if_neg (nI_ge hi (by omega))]
    have hb := tb_ask b (i := i) (by omega)
    by_cases c : tb b i = false
    · rw [if_neg (fun q => q (hb.mpr c)), ev_ld (by omega) (by omega), ev_ld (by omega) (by omega), g1 7 (by omega), g1 8 (by omega), a1, a3, invite_e hr (by omega) a4 (by have := iv_le b dd ff i (ff i); omega) (g2 _ a4), ev_c, ev_v, nI_1]
      refine ⟨_, rfl, fun a ha => ?_, fun k hk => ?_⟩
      · rw [zup_n ha]; exact g1 a ha
      · by_cases c2 : k = ff i
        · subst c2
          rw [zup_e]
          rw [iv_s]
          by_cases c3 : dd i < iv b dd ff i (ff i)
          · rw [if_pos c3, if_pos ⟨c, rfl, c3⟩]
          · rw [if_neg c3, if_neg (fun q => c3 q.2.2)]
        · rw [zup_o c2, g2 k hk]
          show _ = nI (iv b dd ff (i + 1) k)
          rw [iv_s]
          rw [if_neg (fun q => c2 q.2.1.symm)]
    · rw [if_pos (fun q => c (hb.mp q)), ev_v, nI_1]
      refine ⟨m, rfl, g1, fun k hk => ?_⟩
      rw [g2 k hk]
      show _ = nI (iv b dd ff (i + 1) k)
      rw [iv_s]
      rw [if_neg (fun q => c q.1)]
theorem HT_F {μ1 : zM} (hr : hO r0) (hw : wT T) (h : HT r0 μ T) {f : Nat → Nat} (h1 : ∀ a, a ≠ r0 + 5 → μ1 a = μ a) (h2 : ∀ k, k < 8 → μ1 (r0 + 5) k = nI (f k)) : HT r0 μ1 (setF T f) := by
  obtain ⟨a, b, c, d⟩ := h
  have hn := hw.1
  refine ⟨?_, ?_, fun j hj1 hj2 k hk => ?_, fun j hj1 hj2 k hk => ?_⟩
  · rw [h1 r0 (by omega)]; exact a
  · rw [h1 r0 (by omega)]; exact b
  · have hk : k < T 0 0 := hk
    by_cases q : j = 5
    · subst q; rw [setF_5]; exact h2 k (by omega)
    · rw [h1 _ (by omega), setF_n q]; exact c j hj1 hj2 k hk
  · rw [h1 _ (by omega), setF_n (by omega)]; exact d j hj1 hj2 k hk
/-- a house lives its days -/
theorem run_e (hr : hO r0) (hw : wT T) (h : HT r0 μ T) : ∃ μ', f_X2_live r0 μ = some ((), μ') ∧ HC r0 μ' T (sim T 24) ∧ fr4 r0 μ μ' := by
  obtain ⟨μ', e, h1, h2⟩ := live_e hr hw h
  exact ⟨μ', e, ⟨hr, hw, HT_fr4 h h2, h1, sim_wS hw (Nat.le_refl _)⟩, h2⟩
theorem fC_4 {μ μ' : zM} (h : fr4 34 μ μ') : fC μ μ' := fun a ha => h a (by omega) (by omega) (by omega) (by omega)
theorem become_e (hw : wT T) (h : HT 21 μ T) : ∃ μ', f_X2_become 34 21 μ = some ((), μ') ∧ HT 34 μ' T ∧ fC μ μ' := by
  have zz := zC
  obtain ⟨h0, h6, hc, hm⟩ := h
  have hn := hw.1
  have hn2 := hw.2.1
  unfold f_X2_become
  rw [ev_g, ev_p, ev_g, ev_p, zup_n (by omega), h0, h6]
  generalize hμ0 : zup (zup μ 34 0 (nI (T 0 0))) 34 6 (nI (T 0 1)) = μ0
  have i0 : μ0 34 0 = nI (T 0 0) := by rw [← hμ0, zup_o (by omega), zup_e]
  have i6 : μ0 34 6 = nI (T 0 1) := by rw [← hμ0, zup_e]
  have iF : fC μ μ0 := fun a ha => by rw [← hμ0, zup_n (by omega), zup_n (by omega)]
  refine loop_X (fun n i (m : zM) => f_X2_become_L18 34 21 (fun μ => f_X2_become_L94 34 21 (fun μ => some ((), μ)) 400 (0 : Int32) μ) n i m) (fun R => ∃ μ', R = some ((), μ') ∧ HT 34 μ' T ∧ fC μ μ') (T 0 0) (fun i m => fC μ m ∧ m 34 = μ0 34 ∧ ∀ j, 1 ≤ j → j ≤ 5 → ∀ k, k < i → m (34 + j) k = nI (T j k)) ?_ ?_ 400 0 μ0 (by omega) (by omega) ⟨iF, rfl, fun _ _ _ k hk => by omega⟩
  · intro n m ⟨g1, g2, g3⟩
    show ∃ μ', f_X2_become_L18 _ _ _ (n + 1) _ _ = _ ∧ _
    rw [f_X2_become_L18, ev_g, g2, i0, if_pos (nI_le (Nat.le_refl _) (by omega))]
    refine loop_X (fun n i (m : zM) => f_X2_become_L94 34 21 (fun μ => some ((), μ)) n i m) (fun R => ∃ μ', R = some ((), μ') ∧ HT 34 μ' T ∧ fC μ μ') (T 0 1) (fun i m => fC μ m ∧ m 34 = μ0 34 ∧ (∀ j, 1 ≤ j → j ≤ 5 → ∀ k, k < T 0 0 → m (34 + j) k = nI (T j k)) ∧ ∀ j, 6 ≤ j → j ≤ 8 → ∀ k, k < i → m (34 + j) k = nI (T j k)) ?_ ?_ 400 0 m (by omega) (by omega) ⟨g1, g2, g3, fun _ _ _ k hk => by omega⟩
    · intro n m2 ⟨f1, f2, f3, f4⟩
      refine ⟨m2, ?_, ⟨by rw [f2, i0], by rw [f2, i6], f3, f4⟩, f1⟩
      show f_X2_become_L94 _ _ _ (n + 1) _ _ = _
      rw [f_X2_become_L94, ev_g, f2, i6, if_pos (nI_le (Nat.le_refl _) (by omega))]
    · intro n i m2 hi ⟨f1, f2, f3, f4⟩
      have e6 : m2 27 i = nI (T 6 i) := by rw [f1 27 (by omega)]; exact hm 6 (by omega) (by omega) i hi
      have e7 : m2 28 i = nI (T 7 i) := by rw [f1 28 (by omega)]; exact hm 7 (by omega) (by omega) i hi
      have e8 : m2 29 i = nI (T 8 i) := by rw [f1 29 (by omega)]; exact hm 8 (by omega) (by omega) i hi
      refine ⟨zup (zup (zup m2 40 i (nI (T 6 i))) 41 i (nI (T 7 i))) 42 i (nI (T 8 i)), ?_, ?_, ?_, ?_, ?_⟩
      · show f_X2_become_L94 _ _ _ (n + 1) _ _ = f_X2_become_L94 _ _ _ n _ _
        rw [f_X2_become_L94, ev_g, f2, i6, if_neg (nI_ge hi (by omega))]
        simp (disch := first | assumption | omega | trivial) only [ev_v, ev_w, ev_c, ev_g, ev_p, ev_j, ev_ld, ev_st, ev_ldS, ev_ldR, ev_g0, ev_g1, ev_gT, ev_gb, nI_1, nI_add, pk_sub, pk_mul, q_le, q_lt, q_eq, q_m1, q_m1', q_bI0, q_bI0', if_pos, if_neg, zup_e, zup_o, zup_n, q_rem, q_div, q_ne0, q_r5, q_r4, q_r24, q_add_2, q_add_3, q_add_4, q_mul_2, q_mul_4, q_mul_8, q_mul_24, q_mul_39, q_mul_60, q_sub_1, q_sub_2, q_sub_48, q_sub_97, q_le_0, q_ge_0, q_lt_0, q_gt_0, q_eq_0, q_le_1, q_ge_1, q_lt_1, q_gt_1, q_eq_1, q_le_2, q_ge_2, q_lt_2, q_gt_2, q_eq_2, q_le_3, q_ge_3, q_lt_3, q_gt_3, q_eq_3, q_le_4, q_ge_4, q_lt_4, q_gt_4, q_eq_4, q_le_5, q_ge_5, q_lt_5, q_gt_5, q_eq_5, q_le_6, q_ge_6, q_lt_6, q_gt_6, q_eq_6, q_le_7, q_ge_7, q_lt_7, q_gt_7, q_eq_7, q_le_8, q_ge_8, q_lt_8, q_gt_8, q_eq_8, q_le_9, q_ge_9, q_lt_9, q_gt_9, q_eq_9, q_le_10, q_ge_10, q_lt_10, q_gt_10, q_eq_10, q_le_15, q_ge_15, q_lt_15, q_gt_15, q_eq_15, q_le_16, q_ge_16, q_lt_16, q_gt_16, q_eq_16, q_le_23, q_ge_23, q_lt_23, q_gt_23, q_eq_23, q_le_24, q_ge_24, q_lt_24, q_gt_24, q_eq_24, q_le_39, q_ge_39, q_lt_39, q_gt_39, q_eq_39, q_le_48, q_ge_48, q_lt_48, q_gt_48, q_eq_48, q_le_49, q_ge_49, q_lt_49, q_gt_49, q_eq_49, q_le_57, q_ge_57, q_lt_57, q_gt_57, q_eq_57, q_le_59, q_ge_59, q_lt_59, q_gt_59, q_eq_59, q_le_60, q_ge_60, q_lt_60, q_gt_60, q_eq_60, q_le_97, q_ge_97, q_lt_97, q_gt_97, q_eq_97, q_le_98, q_ge_98, q_lt_98, q_gt_98, q_eq_98, q_le_102, q_ge_102, q_lt_102, q_gt_102, q_eq_102, q_le_103, q_ge_103, q_lt_103, q_gt_103, q_eq_103, q_le_106, q_ge_106, q_lt_106, q_gt_106, q_eq_106, q_le_114, q_ge_114, q_lt_114, q_gt_114, q_eq_114, q_le_115, q_ge_115, q_lt_115, q_gt_115, q_eq_115, q_le_120, q_ge_120, q_lt_120, q_gt_120, q_eq_120, Nat.reduceAdd, e6, e7, e8]
      · exact fun a ha => by rw [zup_n (by omega), zup_n (by omega), zup_n (by omega)]; exact f1 a ha
      · rw [zup_n (by omega), zup_n (by omega), zup_n (by omega)]; exact f2
      · intro j j1 j2 k hk
        rw [zup_n (by omega), zup_n (by omega), zup_n (by omega)]; exact f3 j j1 j2 k hk
      · intro j j1 j2 k hk
        have : j = 6 ∨ j = 7 ∨ j = 8 := by omega
        by_cases c : k = i
        · subst c
          rcases this with rfl | rfl | rfl
          · rw [zup_n (by omega), zup_n (by omega), zup_e]
          · rw [zup_n (by omega), zup_e]
          · rw [zup_e]
        · have hk2 := f4 j j1 j2 k (by omega)
          rcases this with rfl | rfl | rfl
          · rw [zup_n (by omega), zup_n (by omega), zup_o c]; exact hk2
          · rw [zup_n (by omega), zup_o c, zup_n (by omega)]; exact hk2
          · rw [zup_o c, zup_n (by omega), zup_n (by omega)]; exact hk2
  · intro n i m2 hi ⟨f1, f2, f3⟩
    have e1 : m2 22 i = nI (T 1 i) := by rw [f1 22 (by omega)]; exact hc 1 (by omega) (by omega) i hi
    have e2 : m2 23 i = nI (T 2 i) := by rw [f1 23 (by omega)]; exact hc 2 (by omega) (by omega) i hi
    have e3 : m2 24 i = nI (T 3 i) := by rw [f1 24 (by omega)]; exact hc 3 (by omega) (by omega) i hi
    have e4 : m2 25 i = nI (T 4 i) := by rw [f1 25 (by omega)]; exact hc 4 (by omega) (by omega) i hi
    have e5 : m2 26 i = nI (T 5 i) := by rw [f1 26 (by omega)]; exact hc 5 (by omega) (by omega) i hi
    refine ⟨zup (zup (zup (zup (zup m2 35 i (nI (T 1 i))) 36 i (nI (T 2 i))) 37 i (nI (T 3 i))) 38 i (nI (T 4 i))) 39 i (nI (T 5 i)), ?_, ?_, ?_, ?_⟩
    · show f_X2_become_L18 _ _ _ (n + 1) _ _ = f_X2_become_L18 _ _ _ n _ _
      rw [f_X2_become_L18, ev_g, f2, i0, if_neg (nI_ge hi (by omega))]
      simp (disch := first | assumption | omega | trivial) only [ev_v, ev_w, ev_c, ev_g, ev_p, ev_j, ev_ld, ev_st, ev_ldS, ev_ldR, ev_g0, ev_g1, ev_gT, ev_gb, nI_1, nI_add, pk_sub, pk_mul, q_le, q_lt, q_eq, q_m1, q_m1', q_bI0, q_bI0', if_pos, if_neg, zup_e, zup_o, zup_n, q_rem, q_div, q_ne0, q_r5, q_r4, q_r24, q_add_2, q_add_3, q_add_4, q_mul_2, q_mul_4, q_mul_8, q_mul_24, q_mul_39, q_mul_60, q_sub_1, q_sub_2, q_sub_48, q_sub_97, q_le_0, q_ge_0, q_lt_0, q_gt_0, q_eq_0, q_le_1, q_ge_1, q_lt_1, q_gt_1, q_eq_1, q_le_2, q_ge_2, q_lt_2, q_gt_2, q_eq_2, q_le_3, q_ge_3, q_lt_3, q_gt_3, q_eq_3, q_le_4, q_ge_4, q_lt_4, q_gt_4, q_eq_4, q_le_5, q_ge_5, q_lt_5, q_gt_5, q_eq_5, q_le_6, q_ge_6, q_lt_6, q_gt_6, q_eq_6, q_le_7, q_ge_7, q_lt_7, q_gt_7, q_eq_7, q_le_8, q_ge_8, q_lt_8, q_gt_8, q_eq_8, q_le_9, q_ge_9, q_lt_9, q_gt_9, q_eq_9, q_le_10, q_ge_10, q_lt_10, q_gt_10, q_eq_10, q_le_15, q_ge_15, q_lt_15, q_gt_15, q_eq_15, q_le_16, q_ge_16, q_lt_16, q_gt_16, q_eq_16, q_le_23, q_ge_23, q_lt_23, q_gt_23, q_eq_23, q_le_24, q_ge_24, q_lt_24, q_gt_24, q_eq_24, q_le_39, q_ge_39, q_lt_39, q_gt_39, q_eq_39, q_le_48, q_ge_48, q_lt_48, q_gt_48, q_eq_48, q_le_49, q_ge_49, q_lt_49, q_gt_49, q_eq_49, q_le_57, q_ge_57, q_lt_57, q_gt_57, q_eq_57, q_le_59, q_ge_59, q_lt_59, q_gt_59, q_eq_59, q_le_60, q_ge_60, q_lt_60, q_gt_60, q_eq_60, q_le_97, q_ge_97, q_lt_97, q_gt_97, q_eq_97, q_le_98, q_ge_98, q_lt_98, q_gt_98, q_eq_98, q_le_102, q_ge_102, q_lt_102, q_gt_102, q_eq_102, q_le_103, q_ge_103, q_lt_103, q_gt_103, q_eq_103, q_le_106, q_ge_106, q_lt_106, q_gt_106, q_eq_106, q_le_114, q_ge_114, q_lt_114, q_gt_114, q_eq_114, q_le_115, q_ge_115, q_lt_115, q_gt_115, q_eq_115, q_le_120, q_ge_120, q_lt_120, q_gt_120, q_eq_120, Nat.reduceAdd, e1, e2, e3, e4, e5]
    · exact fun a ha => by rw [zup_n (by omega), zup_n (by omega), zup_n (by omega), zup_n (by omega), zup_n (by omega)]; exact f1 a ha
    · rw [zup_n (by omega), zup_n (by omega), zup_n (by omega), zup_n (by omega), zup_n (by omega)]; exact f2
    · intro j j1 j2 k hk
      have : j = 1 ∨ j = 2 ∨ j = 3 ∨ j = 4 ∨ j = 5 := by omega
      by_cases c : k = i
      · subst c
        rcases this with rfl | rfl | rfl | rfl | rfl
        · rw [zup_n (by omega), zup_n (by omega), zup_n (by omega), zup_n (by omega), zup_e]
        · rw [zup_n (by omega), zup_n (by omega), zup_n (by omega), zup_e]
        · rw [zup_n (by omega), zup_n (by omega), zup_e]
        · rw [zup_n (by omega), zup_e]
        · rw [zup_e]
      · have hk2 := f3 j j1 j2 k (by omega)
        rcases this with rfl | rfl | rfl | rfl | rfl
        · rw [zup_n (by omega), zup_n (by omega), zup_n (by omega), zup_n (by omega), zup_o c]; exact hk2
        · rw [zup_n (by omega), zup_n (by omega), zup_n (by omega), zup_o c, zup_n (by omega)]; exact hk2
        · rw [zup_n (by omega), zup_n (by omega), zup_o c, zup_n (by omega), zup_n (by omega)]; exact hk2
        · rw [zup_n (by omega), zup_o c, zup_n (by omega), zup_n (by omega), zup_n (by omega)]; exact hk2
        · rw [zup_o c, zup_n (by omega), zup_n (by omega), zup_n (by omega), zup_n (by omega)]; exact hk2
end CT
