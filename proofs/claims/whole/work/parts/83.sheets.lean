-- PURE: sheets
theorem zSh {s : Nat} (hs : s < 4) : zln (13 + 2 * s + 1) = 60 := by
  have : s = 0 ∨ s = 1 ∨ s = 2 ∨ s = 3 := by omega
  rcases this with rfl | rfl | rfl | rfl <;> rfl
section SH
variable {μC μM : zM}
/-- a change of sheets or of the finding leaves the rest -/
theorem CS_sh {S S' μ μ' : zM} (hw : wfS S) (h : CS S μ) (h4 : cSh S' μ') (h5 : μ' 0 8 = S' 100 37) (hS : ∀ a, a ≠ 100 → a < 133 → S' a = S a) (hS2 : ∀ i, i ≠ 37 → S' 100 i = S 100 i) (hμ : ∀ a, a ≠ 0 → a < 13 ∨ 20 < a → μ' a = μ a) (h7 : μ' 0 7 = μ 0 7) : CS S' μ' := by
  have e1 : tz S' = tz S := by funext t; unfold tz; rw [hS 101 (by omega) (by omega)]
  have e2 : bX S' = bX S := by funext t i; unfold bX; rw [hS 102 (by omega) (by omega)]
  have e3 : okB S' = okB S := by funext t i; unfold okB; rw [e1, e2]
  have e4 : ftS S' = ftS S := by funext t; unfold ftS; rw [e3, e1]
  have e5 : itS S' = itS S := by funext t; unfold itS; rw [e4, e1]
  have e6 : vlS S' = vlS S := by funext t k j; unfold vlS; rw [e2]
  have e7 : tolA S' = tolA S := by unfold tolA; rw [e5, e6]
  have e8 : cn S' = cn S := by unfold cn; rw [hS2 11 (by omega)]
  have e9 : cd S' = cd S := by funext i; unfold cd; rw [hS 113 (by omega) (by omega)]
  have e10 : cf S' = cf S := by funext i; unfold cf; rw [hS 114 (by omega) (by omega)]
  have e11 : tolB S' = tolB S := by funext b; unfold tolB; rw [e7, e8, e9, e10]
  have e12 : cmB S' = cmB S := by funext b k; unfold cmB; rw [e11]
  have e13 : wys S' = wys S := by
    funext k n b
    induction b with
    | zero => rfl
    | succ b ih => unfold wys; rw [ih, e12, e8]
  have e14 : fn S' = fn S := by unfold fn; rw [hS2 28 (by omega)]
  obtain ⟨h1, h2, h3, -, -, h6⟩ := h
  refine ⟨?_, ?_, ?_, h4, h5, ?_⟩
  · have := cT_eq h1 (μ' := μ') (fun a _ _ => hμ a (by omega) (by omega))
    unfold cTx at this ⊢
    rw [e1, hS 101 (by omega) (by omega), hS 102 (by omega) (by omega)]
    exact this
  · have := crd_eq h2 (μ' := μ') (fun a _ _ => hμ a (by omega) (by omega))
    unfold crd at this ⊢
    rw [e8, hS2 11 (by omega), hS 113 (by omega) (by omega), hS 114 (by omega) (by omega)]
    exact this
  · have := cFe_eq h3 (μ' := μ') (fun a _ _ => hμ a (by omega) (by omega))
    unfold cFe at this ⊢
    rw [e14, hS2 28 (by omega), hS 130 (by omega) (by omega), hS 131 (by omega) (by omega)]
    exact this
  · rw [h7, hμ 47 (by omega) (by omega), show tolT S' = tolT S from congrFun e11 0]
    rcases h6 with h6 | ⟨h6, h7, h8⟩
    · exact Or.inl h6
    · refine Or.inr ⟨h6, HC_eq h7 (fun a _ _ => hμ a (by omega) (by omega)), ?_⟩
      rcases h8 with h8 | ⟨h8, h9⟩
      · exact Or.inl h8
      · have := cOd_eq hw h9 (μ' := μ') (fun a _ _ => hμ a (by omega) (by omega))
        unfold cOd at this ⊢
        rw [e5, e8, e13]
        exact Or.inr ⟨h8, this⟩
theorem zRel_find (h : zRel μC μM) (v : Int32) : zRel (zup μC 0 8 v) (zup μM 100 37 v) := by
  refine ⟨h.1, CS_sh h.1 h.2 ?_ (by rw [zup_e, zup_e]) (fun a x _ => by rw [zup_n x]) (fun i x => by rw [zup_o x]) (fun a x _ => by rw [zup_n x]) (by rw [zup_o (by omega)])⟩
  exact cSh_n h.2.2.2.2.1 (fun a _ _ => by rw [zup_n (by omega)]) (fun a _ => by rw [zup_n (by omega)])
theorem found_e (v : Int32) (μ : zM) : f_X6_found v μ = some ((-10 : Int32) - v, zup μ 0 8 v) := rfl
theorem meets_e (v : Int32) (μ : zM) : f_X7_meets v μ = some ((-10 : Int32) - v, zup μ 100 37 v) := rfl
/-- how a sheet stands in both -/
theorem shCase (h : zRel μC μM) {s : Nat} (hs : s < 4) : (μM 133 s = 0 ∧ μC (13 + 2 * s) 0 = -1) ∨ (μM 133 s = 1 ∧ (∃ f, f < 3 ∧ μM 134 s = nI f ∧ μC (13 + 2 * s) 0 = nI f) ∧ (sz μM s ≤ 60 ∧ μM 135 s = nI (sz μM s) ∧ μC (13 + 2 * s) 1 = nI (sz μM s)) ∧ ∀ i, i < 60 → μC (13 + 2 * s + 1) i = μM 136 (60 * s + i)) := by
  obtain ⟨c1, c2⟩ := h.2.2.2.2.1 s hs
  rcases h.1.2.2.2.2.2.2 s hs with w | ⟨w, w2, w3, w4⟩
  · exact Or.inl ⟨w, c1 w⟩
  · obtain ⟨d1, d2, d3⟩ := c2 w
    refine Or.inr ⟨w, ?_, ⟨w4, w3, d2.trans w3⟩, fun i hi => ?_⟩
    · rcases w2 with q | q | q
      · exact ⟨0, by omega, q, d1.trans q⟩
      · exact ⟨1, by omega, q, d1.trans q⟩
      · exact ⟨2, by omega, q, d1.trans q⟩
    · rw [show 13 + 2 * s + 1 = 14 + 2 * s by omega]; exact d3 i hi
theorem isLost_1 {μ : zM} {r : Nat} (h : μ r 0 = -1) : f_X4_isLost r μ = some (1, μ) := by
  unfold f_X4_isLost
  rw [ev_g, h, if_neg (fun q => q rfl)]; rfl
theorem isLost_0 {μ : zM} {r f : Nat} (h : μ r 0 = nI f) (hf : f < 3) : f_X4_isLost r μ = some (0, μ) := by
  unfold f_X4_isLost
  rw [ev_g, h, if_pos (nI_m1 (by omega))]; rfl
/-- one sheet is new in both -/
theorem sh_put (h : zRel μC μM) {s : Nat} (hs : s < 4) {μC1 μM1 : zM} (hM : ∀ a, a < 133 → μM1 a = μM a) (hC : ∀ a, a ≠ 13 + 2 * s → a ≠ 14 + 2 * s → μC1 a = μC a) (hMo : ∀ i, i < 4 → i ≠ s → μM1 133 i = μM 133 i ∧ μM1 134 i = μM 134 i ∧ μM1 135 i = μM 135 i ∧ ∀ j, j < 60 → μM1 136 (60 * i + j) = μM 136 (60 * i + j)) (hn : (μM1 133 s = 0 ∧ μC1 (13 + 2 * s) 0 = -1) ∨ (μM1 133 s = 1 ∧ ∃ f n, f < 3 ∧ n ≤ 60 ∧ μM1 134 s = nI f ∧ μM1 135 s = nI n ∧ μC1 (13 + 2 * s) 0 = nI f ∧ μC1 (13 + 2 * s) 1 = nI n ∧ ∀ i, i < 60 → μC1 (14 + 2 * s) i = μM1 136 (60 * s + i))) : zRel μC1 μM1 := by
  obtain ⟨hw, hc⟩ := h
  have hM100 := hM 100 (by omega)
  constructor
  · obtain ⟨a1, a2, a3, a4, a5, a6, a7⟩ := hw
    refine ⟨?_, ?_, ?_, ?_, ?_, ?_, fun i hi => ?_⟩
    · unfold tz; rw [hM 101 (by omega)]; exact a1
    · unfold tz; rw [hM 101 (by omega)]; exact a2
    · unfold cn; rw [hM100]; exact a3
    · unfold cn cd cf; rw [hM100, hM 113 (by omega), hM 114 (by omega)]; exact a4
    · unfold fn; rw [hM100]; exact a5
    · unfold fn fd; rw [hM100, hM 130 (by omega)]; exact a6
    · by_cases c : i = s
      · subst c
        rcases hn with ⟨n1, -⟩ | ⟨n1, f, n, hf, hnn, n2, n3, -⟩
        · exact Or.inl n1
        · have e : sz μM1 i = n := by unfold sz; rw [n3, nN_nI (by omega)]
          refine Or.inr ⟨n1, ?_, by rw [e]; exact n3, by omega⟩
          rw [n2]
          have : f = 0 ∨ f = 1 ∨ f = 2 := by omega
          rcases this with rfl | rfl | rfl
          · exact Or.inl rfl
          · exact Or.inr (Or.inl rfl)
          · exact Or.inr (Or.inr rfl)
      · obtain ⟨b1, b2, b3, -⟩ := hMo i hi c
        unfold sz
        rw [b1, b2, b3]
        exact a7 i hi
  · refine CS_sh hw hc (fun i hi => ?_) (by rw [hC 0 (by omega) (by omega), hM100]; exact hc.2.2.2.2.1) (fun a _ x => hM a x) (fun i _ => by rw [hM100]) (fun a _ x => hC a (by omega) (by omega)) (by rw [hC 0 (by omega) (by omega)])
    by_cases c : i = s
    · subst c
      rcases hn with ⟨n1, n2⟩ | ⟨n1, f, n, hf, hnn, n2, n3, n4, n5, n6⟩
      · exact ⟨fun _ => n2, fun q => by rw [n1] at q; exact absurd q (by decide)⟩
      · exact ⟨fun q => by rw [n1] at q; exact absurd q (by decide), fun _ => ⟨by rw [n4, n2], by rw [n5, n3], n6⟩⟩
    · obtain ⟨b1, b2, b3, b4⟩ := hMo i hi c
      obtain ⟨c1, c2⟩ := hc.2.2.2.1 i hi
      rw [b1, b2, b3, hC (13 + 2 * i) (by omega) (by omega), hC (14 + 2 * i) (by omega) (by omega)]
      exact ⟨c1, fun q => ⟨(c2 q).1, (c2 q).2.1, fun j hj => by rw [b4 j hj]; exact (c2 q).2.2 j hj⟩⟩
theorem renew_e {μ : zM} {s : Nat} (hs : s < 4) (f n : Int32) : ∃ μ', f_X4_renew (13 + 2 * s) f n μ = some ((), μ') ∧ (∀ a, a ≠ 13 + 2 * s → a ≠ 14 + 2 * s → μ' a = μ a) ∧ μ' (13 + 2 * s) 0 = f ∧ μ' (13 + 2 * s) 1 = n ∧ ∀ i, i < 60 → μ' (14 + 2 * s) i = 0 := by
  have hz := zSh hs
  unfold f_X4_renew
  rw [ev_p, ev_p]
  generalize hm0 : zup (zup μ (13 + 2 * s) 0 f) (13 + 2 * s) 1 n = m0
  have x0 : m0 (13 + 2 * s) 0 = f := by rw [← hm0, zup_o (by omega), zup_e]
  have x1 : m0 (13 + 2 * s) 1 = n := by rw [← hm0, zup_e]
  have xF : ∀ a, a ≠ 13 + 2 * s → m0 a = μ a := fun a ha => by rw [← hm0, zup_n ha, zup_n ha]
  refine loop_X (fun q i (m : zM) => f_X4_renew_L12 (13 + 2 * s) (fun μ => some ((), μ)) q i m) (fun R => ∃ μ', R = some ((), μ') ∧ (∀ a, a ≠ 13 + 2 * s → a ≠ 14 + 2 * s → μ' a = μ a) ∧ μ' (13 + 2 * s) 0 = f ∧ μ' (13 + 2 * s) 1 = n ∧ ∀ i, i < 60 → μ' (14 + 2 * s) i = 0) 60 (fun k m => (∀ a, a ≠ 14 + 2 * s → m a = m0 a) ∧ ∀ i, i < k → m (14 + 2 * s) i = 0) ?_ ?_ 400 0 m0 (by omega) (by omega) ⟨fun _ _ => rfl, fun i hi => by omega⟩
  · intro q m ⟨g1, g2⟩
    refine ⟨m, ?_, fun a x y => by rw [g1 a y, xF a x], by rw [g1 _ (by omega)]; exact x0, by rw [g1 _ (by omega)]; exact x1, g2⟩
    show f_X4_renew_L12 _ _ (q + 1) _ _ = _
    rw [f_X4_renew_L12, if_pos (show (60 : Int32) ≤ nI 60 from nI_le (Nat.le_refl _) (by omega))]
  · intro q k m hk ⟨g1, g2⟩
    show ∃ s' : zM, f_X4_renew_L12 _ _ (q + 1) _ _ = f_X4_renew_L12 _ _ q _ _ ∧ _
    rw [f_X4_renew_L12, if_neg (show ¬ (60 : Int32) ≤ nI k from nI_ge (b := 60) hk (by omega)), ev_st (by omega) (by omega), ev_v, nI_1]
    refine ⟨_, rfl, fun a x => by rw [zup_n (by omega)]; exact g1 a x, fun i hi => ?_⟩
    rw [show 13 + 2 * s + 1 = 14 + 2 * s by omega]
    by_cases c : i = k
    · subst c; rw [zup_e]
    · rw [zup_o c]; exact g2 i (by omega)
theorem sheetM_e {μ : zM} {s : Nat} (hs : s < 4) (v : Int32) (kx : zM → Option (Int32 × zM)) : ∃ μ', f_X7_sheet_L59 (nI s) v kx 400 0 μ = kx μ' ∧ (∀ a, a ≠ 136 → μ' a = μ a) ∧ (∀ i, i < 60 → μ' 136 (60 * s + i) = 0) ∧ ∀ x, x < 60 * s ∨ 60 * s + 60 ≤ x → μ' 136 x = μ 136 x := by
  have zm := zMt
  refine loop_X (fun q i (m : zM) => f_X7_sheet_L59 (nI s) v kx q i m) (fun R => ∃ μ', R = kx μ' ∧ (∀ a, a ≠ 136 → μ' a = μ a) ∧ (∀ i, i < 60 → μ' 136 (60 * s + i) = 0) ∧ ∀ x, x < 60 * s ∨ 60 * s + 60 ≤ x → μ' 136 x = μ 136 x) 60 (fun k m => (∀ a, a ≠ 136 → m a = μ a) ∧ (∀ i, i < k → m 136 (60 * s + i) = 0) ∧ ∀ x, x < 60 * s ∨ 60 * s + 60 ≤ x → m 136 x = μ 136 x) ?_ ?_ 400 0 μ (by omega) (by omega) ⟨fun _ _ => rfl, fun i hi => by omega, fun _ _ => rfl⟩
  · intro q m ⟨g1, g2, g3⟩
    refine ⟨m, ?_, g1, g2, g3⟩
    show f_X7_sheet_L59 _ _ _ (q + 1) _ _ = _
    rw [f_X7_sheet_L59, if_pos (show (60 : Int32) ≤ nI 60 from nI_le (Nat.le_refl _) (by omega))]
  · intro q k m hk ⟨g1, g2, g3⟩
    show ∃ s' : zM, f_X7_sheet_L59 _ _ _ (q + 1) _ _ = f_X7_sheet_L59 _ _ _ q _ _ ∧ _
    rw [f_X7_sheet_L59, if_neg (show ¬ (60 : Int32) ≤ nI k from nI_ge (b := 60) hk (by omega)), q_mul_60, nI_add, ev_st (by omega) (by omega), ev_v, nI_1]
    refine ⟨_, rfl, fun a x => by rw [zup_n x]; exact g1 a x, fun i hi => ?_, fun x hx => by rw [zup_o (by omega)]; exact g3 x hx⟩
    by_cases c : i = k
    · subst c; rw [zup_e]
    · rw [zup_o (by omega)]; exact g2 i (by omega)
theorem op_sheet (a1 a2 a3 : Int32) (h : zRel μC μM) : ∃ (r : Int32) (μC1 μM1 : zM), f_X6_sheet a1 a2 a3 μC = some (r, μC1) ∧ f_X7_sheet a1 a2 a3 μM = some (r, μM1) ∧ zRel μC1 μM1 := by
  have zz := zC
  have zm := zMt
  unfold f_X6_sheet f_X7_sheet
  rw [isSheetC_e, isSheetM_e, ev_c, ev_c]
  rcases wi_cases a1 (n := 3) (by omega) with c | ⟨s, hs, rfl⟩
  · rw [show wi a1 0 3 = false from c, if_pos (show bI false = 0 from rfl), if_pos (show bI false = 0 from rfl)]
    exact ⟨-2, μC, μM, rfl, rfl, h⟩
  · rw [show wi (nI s) 0 3 = true from wi_t (n := 3) (by omega) (by omega), if_neg nb0, if_neg nb0, isFormC_e, in_e, ev_c, ev_c]
    rcases wi_cases a2 (n := 2) (by omega) with c | ⟨f, hf, rfl⟩
    · rw [show wi a2 0 2 = false from c, if_pos (show bI false = 0 from rfl), if_pos (show bI false = 0 from rfl)]
      exact ⟨-2, μC, μM, rfl, rfl, h⟩
    · rw [show wi (nI f) 0 2 = true from wi_t (n := 2) (by omega) (by omega), if_neg nb0, if_neg nb0]
      by_cases c1 : a3 ≤ (60 : Int32)
      · rw [if_pos c1, if_pos c1]
        by_cases c2 : 0 ≤ a3
        · rw [if_pos c2, if_pos c2, ev_ldR (by omega) (by omega), show zrf 12 s = 13 + 2 * s from rfl, ev_st (by omega) (by omega), ev_st (by omega) (by omega), ev_st (by omega) (by omega)]
          obtain ⟨n, hn, rfl⟩ := nI_of2 (n := 60) (M := 60) (by decide) (Int32.not_lt.mpr c2) c1
          obtain ⟨mc, r1, r2, r3, r4, r5⟩ := renew_e (μ := μC) (s := s) (by omega) (nI f) (nI n)
          rw [r1, ev_c]
          obtain ⟨mm, s1, s2, s3, s4⟩ := sheetM_e (μ := zup (zup (zup μM 133 s 1) 134 s (nI f)) 135 s (nI n)) (s := s) (by omega) (nI n) (fun μ => some (nI n, μ))
          rw [s1]
          refine ⟨_, _, _, rfl, rfl, sh_put h (s := s) (by omega) (fun a ha => by rw [s2 a (by omega), zup_n (by omega), zup_n (by omega), zup_n (by omega)]) r2 (fun i hi hc => ⟨?_, ?_, ?_, fun j hj => ?_⟩) (Or.inr ⟨?_, f, n, by omega, hn, ?_, ?_, r3, r4, fun i hi => by rw [r5 i hi, s3 i hi]⟩)⟩
          · rw [s2 133 (by omega), zup_n (by omega), zup_n (by omega), zup_o hc]
          · rw [s2 134 (by omega), zup_n (by omega), zup_o hc, zup_n (by omega)]
          · rw [s2 135 (by omega), zup_o hc, zup_n (by omega), zup_n (by omega)]
          · rw [s4 _ (by omega), zup_n (by omega), zup_n (by omega), zup_n (by omega)]
          · rw [s2 133 (by omega), zup_n (by omega), zup_n (by omega), zup_e]
          · rw [s2 134 (by omega), zup_n (by omega), zup_e]
          · rw [s2 135 (by omega), zup_e]
        · rw [if_neg c2, if_neg c2, found_e, meets_e, ev_c, ev_c]
          exact ⟨_, _, _, rfl, rfl, zRel_find h 5⟩
      · rw [if_neg c1, if_neg c1]
        exact ⟨-2, μC, μM, rfl, rfl, h⟩
theorem op_lose (a1 : Int32) (h : zRel μC μM) : ∃ (r : Int32) (μC1 μM1 : zM), f_X6_lose a1 μC = some (r, μC1) ∧ f_X7_lose a1 μM = some (r, μM1) ∧ zRel μC1 μM1 := by
  have zz := zC
  have zm := zMt
  unfold f_X6_lose f_X7_lose
  rw [isSheetC_e, isSheetM_e, ev_c, ev_c]
  rcases wi_cases a1 (n := 3) (by omega) with c | ⟨s, hs, rfl⟩
  · rw [show wi a1 0 3 = false from c, if_neg (fun q => q rfl), if_neg (fun q => q rfl)]
    exact ⟨-2, μC, μM, rfl, rfl, h⟩
  · rw [show wi (nI s) 0 3 = true from wi_t (n := 3) (by omega) (by omega), if_pos nb0, if_pos nb0, ev_ldR (by omega) (by omega), show zrf 12 s = 13 + 2 * s from rfl, ev_ld (by omega) (by omega)]
    rcases shCase h (s := s) (by omega) with ⟨c1, c2⟩ | ⟨c1, ⟨f, hf, c2, c3⟩, ⟨c4, c5, c6⟩, c7⟩
    · rw [isLost_1 c2, ev_c, if_neg (show ¬ (1 : Int32) = 0 by decide), found_e, ev_c, c1, if_neg (fun q => q rfl), meets_e, ev_c]
      exact ⟨_, _, _, rfl, rfl, zRel_find h 1⟩
    · rw [isLost_0 c3 hf, ev_c, if_pos rfl, ev_ldR (by omega) (by omega), show zrf 12 s = 13 + 2 * s from rfl, c1, if_pos (show ¬ (1 : Int32) = 0 by decide), ev_st (by omega) (by omega), ev_ld (by omega) (by omega), zup_n (by omega), c5]
      unfold f_X4_beLost
      rw [ev_g, ev_p, ev_p, ev_c, c6]
      refine ⟨_, _, _, rfl, rfl, sh_put h (s := s) (by omega) (fun a ha => by rw [zup_n (by omega)]) (fun a x y => by rw [zup_n x, zup_n x]) (fun i hi hc => ⟨by rw [zup_o hc], by rw [zup_n (by omega)], by rw [zup_n (by omega)], fun j hj => by rw [zup_n (by omega)]⟩) (Or.inl ⟨by rw [zup_e], by rw [zup_o (by omega), zup_e]⟩)⟩
def lackS (μM : zM) (s : Nat) (a2 a3 : Int32) : Int32 := if μM 133 s = 0 then 1 else if μM 134 s = a2 then (if wi a3 0 (nI (sz μM s) - (1 : Int32)) = true then 0 else 2) else 3
theorem hind_e (h : zRel μC μM) {s : Nat} (hs : s < 4) (a2 a3 : Int32) : f_X4_hindrance (13 + 2 * s) a2 a3 μC = some (lackS μM s a2 a3, μC) ∧ f_X7_lacks (nI s) a2 a3 μM = some (lackS μM s a2 a3, μM) := by
  have zm := zMt
  unfold f_X4_hindrance f_X7_lacks lackS
  rw [ev_ld (by omega) (by omega), ev_ld (by omega) (by omega), ev_ld (by omega) (by omega)]
  rcases shCase h hs with ⟨c1, c2⟩ | ⟨c1, ⟨f, hf, c2, c3⟩, ⟨c4, c5, c6⟩, c7⟩
  · rw [isLost_1 c2, ev_c, if_neg (show ¬ (1 : Int32) = 0 by decide), c1, if_neg (show ¬ ¬ (0 : Int32) = 0 from fun q => q rfl), if_pos (show (0 : Int32) = 0 from rfl)]
    exact ⟨rfl, rfl⟩
  · rw [isLost_0 c3 hf, ev_c, if_pos rfl, c1, if_pos (show ¬ (1 : Int32) = 0 by decide), if_neg (show ¬ (1 : Int32) = 0 by decide), ev_g, c3, c2, ev_g, c6, c5, within_e, in_e, ev_c, ev_c]
    by_cases q : nI f = a2
    · rw [if_pos q, if_pos q, if_pos q]
      cases wi a3 0 (nI (sz μM s) - (1 : Int32)) with
      | true => rw [if_neg nb0, if_neg nb0, if_pos rfl]; exact ⟨rfl, rfl⟩
      | false => rw [if_pos (show bI false = 0 from rfl), if_pos (show bI false = 0 from rfl), if_neg (by decide)]; exact ⟨rfl, rfl⟩
    · rw [if_neg q, if_neg q, if_neg q]; exact ⟨rfl, rfl⟩
def narS (f : Nat) (v : Int32) : Int32 := if f = 0 then (Int32.toInt8 v).toInt32 else if f = 1 then (Int32.toInt16 v).toInt32 else v
/-- an item is stored in both -/
theorem store_e (h : zRel μC μM) {s i f : Nat} (hs : s < 4) (h1 : μM 133 s = 1) (hf : f < 3) (h2 : μM 134 s = nI f) (hi : i < sz μM s) (v : Int32) : ∃ μC1 μM1, f_X4_store (13 + 2 * s) (nI i) v μC = some ((), μC1) ∧ f_X7_keep (nI s) (nI i) v μM = some ((), μM1) ∧ zRel μC1 μM1 ∧ μM1 = zup μM 136 (60 * s + i) (narS f v) ∧ μC1 = zup μC (14 + 2 * s) i (narS f v) := by
  have zm := zMt
  have hz := zSh hs
  rcases shCase h hs with ⟨c1, c2⟩ | ⟨c1, ⟨f', hf', c2, c3⟩, ⟨c4, c5, c6⟩, c7⟩
  · rw [c1] at h1; exact absurd h1 (by decide)
  · have e : f' = f := (nI_eq (by omega) (by omega)).mp (c2.symm.trans h2)
    subst e
    refine ⟨zup μC (14 + 2 * s) i (narS f' v), zup μM 136 (60 * s + i) (narS f' v), ?_, ?_, ?_, rfl, rfl⟩
    · unfold f_X4_store
      rw [ev_g, c6, within_e, show wi (nI i) 0 (nI (sz μM s) - (1 : Int32)) = true from wi_k hi (by omega), ev_c, if_neg nb0, ev_g, c3, ev_g, c3, ev_st (by omega) (by omega), ev_st (by omega) (by omega), ev_st (by omega) (by omega), show 13 + 2 * s + 1 = 14 + 2 * s by omega]
      unfold narS
      have : f' = 0 ∨ f' = 1 ∨ f' = 2 := by omega
      rcases this with rfl | rfl | rfl
      · rw [if_neg (fun q => q rfl), if_pos rfl]
      · rw [if_pos (show ¬ nI 1 = 0 by decide), if_neg (fun q => q rfl), if_neg (show ¬ 1 = 0 by omega), if_pos rfl]
      · rw [if_pos (show ¬ nI 2 = 0 by decide), if_pos (show ¬ nI 2 = 1 by decide), if_neg (show ¬ 2 = 0 by omega), if_neg (show ¬ 2 = 1 by omega)]
    · unfold f_X7_keep
      rw [ev_ld (by omega) (by omega), ev_ld (by omega) (by omega), h2, q_mul_60, nI_add, ev_st (by omega) (by omega), ev_st (by omega) (by omega), ev_st (by omega) (by omega)]
      unfold narS
      have : f' = 0 ∨ f' = 1 ∨ f' = 2 := by omega
      rcases this with rfl | rfl | rfl
      · rw [if_neg (fun q => q rfl), if_pos rfl]
      · rw [if_pos (show ¬ nI 1 = 0 by decide), if_neg (fun q => q rfl), if_neg (show ¬ 1 = 0 by omega), if_pos rfl]
      · rw [if_pos (show ¬ nI 2 = 0 by decide), if_pos (show ¬ nI 2 = 1 by decide), if_neg (show ¬ 2 = 0 by omega), if_neg (show ¬ 2 = 1 by omega)]
    · refine sh_put h hs (fun a ha => by rw [zup_n (by omega)]) (fun a x y => by rw [zup_n y]) (fun j hj hc => ⟨by rw [zup_n (by omega)], by rw [zup_n (by omega)], by rw [zup_n (by omega)], fun x hx => by rw [zup_o (by omega)]⟩) (Or.inr ⟨by rw [zup_n (by omega)]; exact c1, f', sz μM s, hf', c4, by rw [zup_n (by omega)]; exact c2, by rw [zup_n (by omega)]; exact c5, by rw [zup_n (by omega)]; exact c3, by rw [zup_n (by omega)]; exact c6, fun x hx => ?_⟩)
      by_cases q : x = i
      · subst q; rw [zup_e, zup_e]
      · rw [zup_o q, zup_o (by omega), ← c7 x hx, show 13 + 2 * s + 1 = 14 + 2 * s by omega]
theorem lack_0 {s : Nat} {a2 a3 : Int32} (h : zRel μC μM) (hs : s < 4) (hl : lackS μM s a2 a3 = 0) : μM 133 s = 1 ∧ (∃ f, f < 3 ∧ μM 134 s = nI f) ∧ ∃ i, i < sz μM s ∧ a3 = nI i := by
  unfold lackS at hl
  rcases shCase h hs with ⟨c1, c2⟩ | ⟨c1, ⟨f, hf, c2, c3⟩, ⟨c4, c5, c6⟩, c7⟩
  · rw [if_pos c1] at hl; exact absurd hl (by decide)
  · rw [if_neg (by rw [c1]; decide)] at hl
    by_cases q : μM 134 s = a2
    · rw [if_pos q] at hl
      by_cases q2 : wi a3 0 (nI (sz μM s) - (1 : Int32)) = true
      · exact ⟨c1, ⟨f, hf, c2⟩, (wi_n (by omega)).mp q2⟩
      · rw [if_neg q2] at hl; exact absurd hl (by decide)
    · rw [if_neg q] at hl; exact absurd hl (by decide)
theorem lack_v {s : Nat} {a2 a3 : Int32} : lackS μM s a2 a3 = 0 ∨ lackS μM s a2 a3 = 1 ∨ lackS μM s a2 a3 = 2 ∨ lackS μM s a2 a3 = 3 := by
  unfold lackS
  split
  · exact Or.inr (Or.inl rfl)
  · split
    · split
      · exact Or.inl rfl
      · exact Or.inr (Or.inr (Or.inl rfl))
    · exact Or.inr (Or.inr (Or.inr rfl))
theorem op_put (a1 a2 a3 a4 : Int32) (h : zRel μC μM) : ∃ (r : Int32) (μC1 μM1 : zM), f_X6_put a1 a2 a3 a4 μC = some (r, μC1) ∧ f_X7_put a1 a2 a3 a4 μM = some (r, μM1) ∧ zRel μC1 μM1 := by
  have zz := zC
  have zm := zMt
  unfold f_X6_put f_X7_put
  rw [isSheetC_e, isSheetM_e, ev_c, ev_c]
  rcases wi_cases a1 (n := 3) (by omega) with c | ⟨s, hs, rfl⟩
  · rw [show wi a1 0 3 = false from c, if_pos (show bI false = 0 from rfl), if_pos (show bI false = 0 from rfl)]
    exact ⟨-2, μC, μM, rfl, rfl, h⟩
  · rw [show wi (nI s) 0 3 = true from wi_t (n := 3) (by omega) (by omega), if_neg nb0, if_neg nb0, isFormC_e, in_e, ev_c, ev_c]
    cases wi a2 0 2 with
    | false =>
      rw [if_neg (fun q => q rfl), if_neg (fun q => q rfl)]
      exact ⟨-2, μC, μM, rfl, rfl, h⟩
    | true =>
      obtain ⟨e1, e2⟩ := hind_e h (s := s) (by omega) a2 a3
      rw [if_pos nb0, if_pos nb0, ev_ldR (by omega) (by omega), show zrf 12 s = 13 + 2 * s from rfl, e1, e2, ev_c, ev_c]
      by_cases q : lackS μM s a2 a3 = 0
      · obtain ⟨d1, ⟨f, hf, d2⟩, i, hi, rfl⟩ := lack_0 h (by omega) q
        obtain ⟨mc, mm, s1, s2, s3, -, -⟩ := store_e h (by omega) d1 hf d2 hi a4
        rw [q, if_pos rfl, if_pos (by decide), ev_ldR (by omega) (by omega), show zrf 12 s = 13 + 2 * s from rfl, s1, s2, ev_c, ev_c]
        exact ⟨1, mc, mm, rfl, rfl, s3⟩
      · have q2 : ¬ lackS μM s a2 a3 ≤ 0 := by
          rcases lack_v (μM := μM) (s := s) (a2 := a2) (a3 := a3) with e | e | e | e
          · exact absurd e q
          · rw [e]; decide
          · rw [e]; decide
          · rw [e]; decide
        rw [if_neg q, if_neg q2, found_e, meets_e, ev_c, ev_c]
        exact ⟨_, _, _, rfl, rfl, zRel_find h _⟩
theorem op_get (a1 a2 a3 : Int32) (h : zRel μC μM) : ∃ (r : Int32) (μC1 μM1 : zM), f_X6_get a1 a2 a3 μC = some (r, μC1) ∧ f_X7_get a1 a2 a3 μM = some (r, μM1) ∧ zRel μC1 μM1 := by
  have zz := zC
  have zm := zMt
  unfold f_X6_get f_X7_get
  rw [isSheetC_e, isSheetM_e, ev_c, ev_c]
  rcases wi_cases a1 (n := 3) (by omega) with c | ⟨s, hs, rfl⟩
  · rw [show wi a1 0 3 = false from c, if_pos (show bI false = 0 from rfl), if_pos (show bI false = 0 from rfl)]
    exact ⟨_, μC, μM, rfl, rfl, h⟩
  · rw [show wi (nI s) 0 3 = true from wi_t (n := 3) (by omega) (by omega), if_neg nb0, if_neg nb0, isFormC_e, in_e, ev_c, ev_c]
    cases wi a2 0 2 with
    | false =>
      rw [if_neg (fun q => q rfl), if_neg (fun q => q rfl)]
      exact ⟨_, μC, μM, rfl, rfl, h⟩
    | true =>
      obtain ⟨e1, e2⟩ := hind_e h (s := s) (by omega) a2 a3
      have hz := zSh (s := s) (by omega)
      rw [if_pos nb0, if_pos nb0, ev_ldR (by omega) (by omega), show zrf 12 s = 13 + 2 * s from rfl, e1, e2, ev_c, ev_c]
      by_cases q : lackS μM s a2 a3 = 0
      · obtain ⟨d1, ⟨f, hf, d2⟩, i, hi, rfl⟩ := lack_0 h (by omega) q
        rcases shCase h (s := s) (by omega) with ⟨c1, c2⟩ | ⟨c1, -, ⟨c4, c5, c6⟩, c7⟩
        · rw [c1] at d1; exact absurd d1 (by decide)
        · rw [q, if_pos rfl, if_pos (by decide), ev_ldR (by omega) (by omega), show zrf 12 s = 13 + 2 * s from rfl, ev_ld (by omega) (by omega), q_mul_60, nI_add, ev_ld (by omega) (by omega), c7 i (by omega)]
          exact ⟨_, μC, μM, rfl, rfl, h⟩
      · have q2 : ¬ lackS μM s a2 a3 ≤ 0 := by
          rcases lack_v (μM := μM) (s := s) (a2 := a2) (a3 := a3) with e | e | e | e
          · exact absurd e q
          · rw [e]; decide
          · rw [e]; decide
          · rw [e]; decide
        rw [if_neg q, if_neg q2, ev_p, ev_p]
        exact ⟨_, _, _, rfl, rfl, zRel_find h _⟩
theorem op_read (a1 : Int32) (h : zRel μC μM) : ∃ (r : Int32) (μC1 μM1 : zM), f_X6_read a1 μC = some (r, μC1) ∧ f_X7_read a1 μM = some (r, μM1) ∧ zRel μC1 μM1 := by
  have zz := zC
  have zm := zMt
  unfold f_X6_read f_X7_read
  rw [isSheetC_e, isSheetM_e, ev_c, ev_c]
  rcases wi_cases a1 (n := 3) (by omega) with c | ⟨s, hs, rfl⟩
  · rw [show wi a1 0 3 = false from c, if_neg (fun q => q rfl), if_neg (fun q => q rfl)]
    exact ⟨-2, μC, μM, rfl, rfl, h⟩
  · rw [show wi (nI s) 0 3 = true from wi_t (n := 3) (by omega) (by omega), if_pos nb0, if_pos nb0, ev_ldR (by omega) (by omega), show zrf 12 s = 13 + 2 * s from rfl, ev_ld (by omega) (by omega)]
    have hz := zSh (s := s) (by omega)
    rcases shCase h (s := s) (by omega) with ⟨c1, c2⟩ | ⟨c1, ⟨f, hf, c2, c3⟩, ⟨c4, c5, c6⟩, c7⟩
    · rw [isLost_1 c2, ev_c, if_neg (show ¬ (1 : Int32) = 0 by decide), found_e, ev_c, c1, if_neg (fun q => q rfl), meets_e, ev_c]
      exact ⟨_, _, _, rfl, rfl, zRel_find h 1⟩
    · rw [isLost_0 c3 hf, ev_c, if_pos rfl, c1, if_pos (show ¬ (1 : Int32) = 0 by decide)]
      have key : ∀ n k (mc mm : zM), k ≤ 30 → 30 - k < n → zRel mc mm → (∀ a, 133 ≤ a → mm a = μM a) → (∀ a, 9 ≤ a → mc a = μC a) → ∃ (r : Int32) (μC1 μM1 : zM), f_X6_read_L32 (13 + 2 * s) (fun (x13 : Int32) μ => some (x13, μ)) n (nI k) mc = some (r, μC1) ∧ f_X7_read_L27 (nI s) (fun (x12 : Int32) μ => some (x12, μ)) n (nI k) mm = some (r, μM1) ∧ zRel μC1 μM1 := by
        intro n
        induction n with
        | zero => intro k mc mm _ hk; omega
        | succ n ih =>
          intro k mc mm hk hn hr hm hc
          rw [f_X6_read_L32, f_X7_read_L27, ev_g, hc _ (by omega), c6, ev_ld (by omega) (by omega), hm 135 (by omega), c5, q_mul_2, nI_1]
          by_cases q : sz μM s ≤ 2 * k + 1
          · rw [if_pos (nI_le q (by omega)), if_pos (nI_le q (by omega))]
            exact ⟨_, mc, mm, rfl, rfl, hr⟩
          · rw [if_neg (nI_ge (by omega) (by omega)), if_neg (nI_ge (by omega) (by omega)), ev_ld (by omega) (by omega), ev_ld (by omega) (by omega), q_mul_60, nI_add, nI_1 (60 * s + 2 * k), ev_ld (by omega) (by omega), ev_ld (by omega) (by omega), hc _ (by omega), hm 136 (by omega), c7 _ (by omega), c7 _ (by omega)]
            obtain ⟨r, nc, nm, x1, x2, x3, x4, x5⟩ := card2 (μM 136 (60 * s + 2 * k)) (μM 136 (60 * s + (2 * k + 1))) hr
            rw [x1, show f_X7_card (μM 136 (60 * s + 2 * k)) (μM 136 (60 * s + 2 * k + 1)) mm = _ from x2, ev_c, ev_c]
            by_cases q2 : r ≤ 0
            · rw [if_pos q2, if_pos q2]
              exact ⟨_, nc, nm, rfl, rfl, x3⟩
            · rw [if_neg q2, if_neg q2, ev_v, ev_v, nI_1]
              exact ih (k + 1) nc nm (by omega) (by omega) x3 (fun a ha => (x4 a ha).trans (hm a ha)) (fun a ha => (x5 a ha).trans (hc a ha))
      exact key 400 0 μC μM (by omega) (by omega) h (fun _ _ => rfl) (fun _ _ => rfl)
end SH
