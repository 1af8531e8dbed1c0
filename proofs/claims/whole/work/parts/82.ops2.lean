-- PURE: texts, cards, what was felt
theorem hasRoom_e {μ : zM} {r n L : Nat} (h : μ r 3 = nI n) (hL : zln (r + 1) = L) (hn : n < 2 ^ 31) (hl : L < 2 ^ 31) : f_X5_hasRoom r μ = some (bI (decide (n < L)), μ) := by
  unfold f_X5_hasRoom
  rw [ev_g, h, hL]
  by_cases c : n < L
  · rw [if_neg (nI_ge c hl), decide_eq_true c]; rfl
  · rw [if_pos (nI_le (by omega) hn), decide_eq_false c]; rfl
theorem append_e {μ : zM} {r n L : Nat} {b : Int32} (h : μ r 3 = nI n) (hL : zln (r + 1) = L) (hn : n < L) (hl : L < 2 ^ 30) : f_X5_append r b μ = some (nI (n + 1), zup (zup μ (r + 1) n b) r 3 (nI (n + 1))) := by
  unfold f_X5_append
  rw [hasRoom_e h hL (by omega) (by omega), decide_eq_true hn, ev_c, if_neg nb0, ev_g, h, ev_st (by omega) (by omega), ev_g, zup_n (by omega), h, ev_p, nI_1, ev_g, zup_e]
section OP2
variable {μC μM : zM}
/-- what a change of the texts or cards leaves: nothing is settled -/
theorem CS_new {S μ : zM} (h1 : cTx S μ) (h2 : crd S μ) (h3 : cFe S μ) (h4 : cSh S μ) (h5 : μ 0 8 = S 100 37) (h6 : μ 0 7 = 0) : CS S μ := ⟨h1, h2, h3, h4, h5, Or.inl h6⟩
theorem cSh_n {S S' μ μ' : zM} (h : cSh S μ) (h1 : ∀ a, 13 ≤ a → a ≤ 20 → μ' a = μ a) (h2 : ∀ a, 133 ≤ a → S' a = S a) : cSh S' μ' := by
  have := cSh_eq h h1
  unfold cSh at this ⊢
  rw [h2 133 (by omega), h2 134 (by omega), h2 135 (by omega), h2 136 (by omega)]
  exact this
theorem op_type (a1 a2 : Int32) (h : zRel μC μM) : ∃ (r : Int32) (μC1 μM1 : zM), f_X6_type a1 a2 μC = some (r, μC1) ∧ f_X7_type a1 a2 μM = some (r, μM1) ∧ zRel μC1 μM1 := by
  have zz := zC
  have zm := zMt
  rcases wi_cases a1 (n := 1) (by omega) with c | ⟨t, ht, rfl⟩
  · refine ⟨-2, μC, μM, ?_, ?_, h⟩
    · unfold f_X6_type
      rw [isTextC_e, show wi a1 0 1 = false from c, ev_c, if_pos (show bI false = 0 from rfl)]
    · unfold f_X7_type
      rw [isTextM_e, show wi a1 0 1 = false from c, ev_c, if_pos (show bI false = 0 from rfl)]
  · have htw : wi (nI t) 0 1 = true := wi_t (n := 1) (by omega) (by omega)
    cases hb : wi a2 0 255 with
    | false =>
      refine ⟨-2, μC, μM, ?_, ?_, h⟩
      · unfold f_X6_type
        rw [isTextC_e, htw, ev_c, if_neg nb0, within_e, hb, ev_c, if_neg (fun q => q rfl)]
      · unfold f_X7_type
        rw [isTextM_e, htw, ev_c, if_neg nb0, in_e, hb, ev_c, if_neg (fun q => q rfl)]
    | true =>
      obtain ⟨⟨⟨w1, w2⟩, ⟨w3, w4⟩, wR⟩, t1, hr⟩ := h
      obtain ⟨c1, c2, c3, c4, c5, c6⟩ := t1
      have : t = 0 ∨ t = 1 := by omega
      rcases this with rfl | rfl
      · generalize hn : tz μM 0 = n at *
        have hsz : μC 2 3 = nI n := c1.trans w1
        by_cases hf : n = 39
        · refine ⟨-4, μC, μM, ?_, ?_, ⟨⟨⟨by rw [hn]; exact w1, by omega⟩, ⟨w3, w4⟩, wR⟩, ⟨c1, c2, c3, c4, by rw [hn]; exact c5, c6⟩, hr⟩⟩
          · unfold f_X6_type
            rw [isTextC_e, htw, ev_c, if_neg nb0, within_e, hb, ev_c, if_pos nb0, ev_ldR (by omega) (by omega)]
            show cl (f_X5_hasRoom 2 μC) _ = _
            rw [hasRoom_e (L := 39) hsz rfl (by omega) (by omega), decide_eq_false (by omega), ev_c, if_neg (fun q => q rfl)]
          · unfold f_X7_type
            rw [isTextM_e, htw, ev_c, if_neg nb0, in_e, hb, ev_c, if_pos nb0, ev_ld (by omega) (by omega), w1, ev_j, if_neg (fun q => q rfl)]
            dsimp only
            rw [if_neg (fun q => q (by rw [hf]; rfl))]
        · refine ⟨nI (n + 1), zup (zup (zup μC 0 7 0) 3 n a2) 2 3 (nI (n + 1)), zup (zup μM 102 n a2) 101 0 (nI (n + 1)), ?_, ?_, ?_, ?_⟩
          · unfold f_X6_type
            rw [isTextC_e, htw, ev_c, if_neg nb0, within_e, hb, ev_c, if_pos nb0, ev_ldR (by omega) (by omega)]
            show cl (f_X5_hasRoom 2 μC) _ = _
            rw [hasRoom_e (L := 39) hsz rfl (by omega) (by omega), decide_eq_true (by omega), ev_c, if_pos nb0, ev_p, ev_ldR (by omega) (by omega)]
            show cl (f_X5_append 2 a2 (zup μC 0 7 0)) _ = _
            rw [append_e (n := n) (L := 39) (by rw [zup_n (by omega)]; exact hsz) rfl (by omega) (by omega), ev_c]
          · unfold f_X7_type
            rw [isTextM_e, htw, ev_c, if_neg nb0, in_e, hb, ev_c, if_pos nb0, ev_ld (by omega) (by omega), w1, ev_j, if_neg (fun q => q rfl)]
            dsimp only
            rw [if_pos (show ¬ nI n = (39 : Int32) from fun q => hf ((nI_eq (b := 39) (by omega) (by omega)).mp q)), ev_ld (by omega) (by omega), w1, show (39 : Int32) * nI 0 + nI n = nI (0 + n) from nI_add 0 n, Nat.zero_add, ev_st (by omega) (by omega), ev_ld (by omega) (by omega), zup_n (by omega), w1, nI_1, ev_st (by omega) (by omega), ev_ld (by omega) (by omega), zup_e]
          · have e0 : tz (zup (zup μM 102 n a2) 101 0 (nI (n + 1))) 0 = n + 1 := by unfold tz; rw [zup_e, nN_nI (by omega)]
            refine ⟨⟨?_, by omega⟩, ⟨w3, w4⟩, wR⟩
            rw [e0, zup_e]
          · have e0 : tz (zup (zup μM 102 n a2) 101 0 (nI (n + 1))) 0 = n + 1 := by unfold tz; rw [zup_e, nN_nI (by omega)]
            have e1 : tz (zup (zup μM 102 n a2) 101 0 (nI (n + 1))) 1 = tz μM 1 := rfl
            refine CS_new ⟨rfl, c2, c3, c4, fun i hi => ?_, fun i hi => ?_⟩ hr.1 hr.2.1 (cSh_n hr.2.2.1 (fun a _ _ => by simp only [zup_n (show a ≠ 0 by omega), zup_n (show a ≠ 2 by omega), zup_n (show a ≠ 3 by omega), zup_n (show a ≠ 4 by omega), zup_n (show a ≠ 5 by omega)]) (fun a _ => by simp only [zup_n (show a ≠ 101 by omega), zup_n (show a ≠ 102 by omega)])) hr.2.2.2.1 rfl
            · rw [e0] at hi
              rw [zup_n (show 3 ≠ 2 by omega), zup_n (show 102 ≠ 101 by omega)]
              by_cases q : i = n
              · subst q; rw [zup_e, zup_e]
              · rw [zup_o q, zup_o q, zup_n (show 3 ≠ 0 by omega)]
                exact c5 i (by omega)
            · rw [e1] at hi
              rw [zup_n (show 5 ≠ 2 by omega), zup_n (show 5 ≠ 3 by omega), zup_n (show 5 ≠ 0 by omega), zup_n (show 102 ≠ 101 by omega), zup_o (by omega)]
              exact c6 i hi
      · generalize hn : tz μM 1 = n at *
        have hsz : μC 4 3 = nI n := c2.trans w3
        by_cases hf : n = 15
        · refine ⟨-4, μC, μM, ?_, ?_, ⟨⟨⟨w1, w2⟩, ⟨by rw [hn]; exact w3, by omega⟩, wR⟩, ⟨c1, c2, c3, c4, c5, by rw [hn]; exact c6⟩, hr⟩⟩
          · unfold f_X6_type
            rw [isTextC_e, htw, ev_c, if_neg nb0, within_e, hb, ev_c, if_pos nb0, ev_ldR (by omega) (by omega)]
            show cl (f_X5_hasRoom 4 μC) _ = _
            rw [hasRoom_e (L := 15) hsz rfl (by omega) (by omega), decide_eq_false (by omega), ev_c, if_neg (fun q => q rfl)]
          · unfold f_X7_type
            rw [isTextM_e, htw, ev_c, if_neg nb0, in_e, hb, ev_c, if_pos nb0, ev_ld (by omega) (by omega), w3, ev_j, if_pos (show ¬ nI 1 = 0 by decide)]
            dsimp only
            rw [if_neg (fun q => q (by rw [hf]; rfl))]
        · refine ⟨nI (n + 1), zup (zup (zup μC 0 7 0) 5 n a2) 4 3 (nI (n + 1)), zup (zup μM 102 (39 + n) a2) 101 1 (nI (n + 1)), ?_, ?_, ?_, ?_⟩
          · unfold f_X6_type
            rw [isTextC_e, htw, ev_c, if_neg nb0, within_e, hb, ev_c, if_pos nb0, ev_ldR (by omega) (by omega)]
            show cl (f_X5_hasRoom 4 μC) _ = _
            rw [hasRoom_e (L := 15) hsz rfl (by omega) (by omega), decide_eq_true (by omega), ev_c, if_pos nb0, ev_p, ev_ldR (by omega) (by omega)]
            show cl (f_X5_append 4 a2 (zup μC 0 7 0)) _ = _
            rw [append_e (n := n) (L := 15) (by rw [zup_n (by omega)]; exact hsz) rfl (by omega) (by omega), ev_c]
          · unfold f_X7_type
            rw [isTextM_e, htw, ev_c, if_neg nb0, in_e, hb, ev_c, if_pos nb0, ev_ld (by omega) (by omega), w3, ev_j, if_pos (show ¬ nI 1 = 0 by decide)]
            dsimp only
            rw [if_pos (show ¬ nI n = (15 : Int32) from fun q => hf ((nI_eq (b := 15) (by omega) (by omega)).mp q)), ev_ld (by omega) (by omega), w3, show (39 : Int32) * nI 1 + nI n = nI (39 + n) from nI_add 39 n, ev_st (by omega) (by omega), ev_ld (by omega) (by omega), zup_n (by omega), w3, nI_1, ev_st (by omega) (by omega), ev_ld (by omega) (by omega), zup_e]
          · have e0 : tz (zup (zup μM 102 (39 + n) a2) 101 1 (nI (n + 1))) 1 = n + 1 := by unfold tz; rw [zup_e, nN_nI (by omega)]
            refine ⟨⟨w1, w2⟩, ⟨?_, by omega⟩, wR⟩
            rw [e0, zup_e]
          · have e0 : tz (zup (zup μM 102 (39 + n) a2) 101 1 (nI (n + 1))) 1 = n + 1 := by unfold tz; rw [zup_e, nN_nI (by omega)]
            have e1 : tz (zup (zup μM 102 (39 + n) a2) 101 1 (nI (n + 1))) 0 = tz μM 0 := rfl
            refine CS_new ⟨c1, rfl, c3, c4, fun i hi => ?_, fun i hi => ?_⟩ hr.1 hr.2.1 (cSh_n hr.2.2.1 (fun a _ _ => by simp only [zup_n (show a ≠ 0 by omega), zup_n (show a ≠ 2 by omega), zup_n (show a ≠ 3 by omega), zup_n (show a ≠ 4 by omega), zup_n (show a ≠ 5 by omega)]) (fun a _ => by simp only [zup_n (show a ≠ 101 by omega), zup_n (show a ≠ 102 by omega)])) hr.2.2.2.1 rfl
            · rw [e1] at hi
              rw [zup_n (show 3 ≠ 4 by omega), zup_n (show 3 ≠ 5 by omega), zup_n (show 3 ≠ 0 by omega), zup_n (show 102 ≠ 101 by omega), zup_o (by omega)]
              exact c5 i hi
            · rw [e0] at hi
              rw [zup_n (show 5 ≠ 4 by omega), zup_n (show 102 ≠ 101 by omega)]
              by_cases q : i = n
              · subst q; rw [zup_e, zup_e]
              · rw [zup_o q, zup_o (show 39 + i ≠ 39 + n by omega), zup_n (show 5 ≠ 0 by omega)]
                exact c6 i (by omega)
theorem op_wipe (a1 : Int32) (h : zRel μC μM) : ∃ (r : Int32) (μC1 μM1 : zM), f_X6_wipe a1 μC = some (r, μC1) ∧ f_X7_wipe a1 μM = some (r, μM1) ∧ zRel μC1 μM1 := by
  have zz := zC
  have zm := zMt
  rcases wi_cases a1 (n := 1) (by omega) with c | ⟨t, ht, rfl⟩
  · refine ⟨-2, μC, μM, ?_, ?_, h⟩
    · unfold f_X6_wipe
      rw [isTextC_e, show wi a1 0 1 = false from c, ev_c, if_neg (fun q => q rfl)]
    · unfold f_X7_wipe
      rw [isTextM_e, show wi a1 0 1 = false from c, ev_c, if_neg (fun q => q rfl)]
  · have htw : wi (nI t) 0 1 = true := wi_t (n := 1) (by omega) (by omega)
    obtain ⟨⟨⟨w1, w2⟩, ⟨w3, w4⟩, wR⟩, t1, hr⟩ := h
    obtain ⟨c1, c2, c3, c4, c5, c6⟩ := t1
    have : t = 0 ∨ t = 1 := by omega
    rcases this with rfl | rfl
    · refine ⟨nI (tz μM 0), zup (zup μC 0 7 0) 2 3 0, zup μM 101 0 0, ?_, ?_, ⟨⟨rfl, Nat.zero_le _⟩, ⟨w3, w4⟩, wR⟩, ?_⟩
      · unfold f_X6_wipe
        rw [isTextC_e, htw, ev_c, if_pos nb0, ev_p, ev_ldR (by omega) (by omega)]
        show cl (f_X5_clear 2 _) _ = _
        unfold f_X5_clear
        rw [ev_g, ev_p, ev_c, zup_n (by omega), c1, w1]
      · unfold f_X7_wipe
        rw [isTextM_e, htw, ev_c, if_pos nb0, ev_ld (by omega) (by omega), ev_st (by omega) (by omega), w1]
      · exact CS_new ⟨rfl, c2, c3, c4, fun i hi => absurd hi (Nat.not_lt_zero i), c6⟩ hr.1 hr.2.1 (cSh_n hr.2.2.1 (fun a _ _ => by simp only [zup_n (show a ≠ 0 by omega), zup_n (show a ≠ 2 by omega), zup_n (show a ≠ 3 by omega), zup_n (show a ≠ 4 by omega), zup_n (show a ≠ 5 by omega)]) (fun a _ => by simp only [zup_n (show a ≠ 101 by omega), zup_n (show a ≠ 102 by omega)])) hr.2.2.2.1 rfl
    · refine ⟨nI (tz μM 1), zup (zup μC 0 7 0) 4 3 0, zup μM 101 1 0, ?_, ?_, ⟨⟨w1, w2⟩, ⟨rfl, Nat.zero_le _⟩, wR⟩, ?_⟩
      · unfold f_X6_wipe
        rw [isTextC_e, htw, ev_c, if_pos nb0, ev_p, ev_ldR (by omega) (by omega)]
        show cl (f_X5_clear 4 _) _ = _
        unfold f_X5_clear
        rw [ev_g, ev_p, ev_c, zup_n (by omega), c2, w3]
      · unfold f_X7_wipe
        rw [isTextM_e, htw, ev_c, if_pos nb0, ev_ld (by omega) (by omega), ev_st (by omega) (by omega), w3]
      · exact CS_new ⟨c1, rfl, c3, c4, c5, fun i hi => absurd hi (Nat.not_lt_zero i)⟩ hr.1 hr.2.1 (cSh_n hr.2.2.1 (fun a _ _ => by simp only [zup_n (show a ≠ 0 by omega), zup_n (show a ≠ 2 by omega), zup_n (show a ≠ 3 by omega), zup_n (show a ≠ 4 by omega), zup_n (show a ≠ 5 by omega)]) (fun a _ => by simp only [zup_n (show a ≠ 101 by omega), zup_n (show a ≠ 102 by omega)])) hr.2.2.2.1 rfl
theorem dropLast_e {μ : zM} {r n : Nat} (h : μ r 3 = nI (n + 1)) (hn : n < 2 ^ 30) : f_X5_dropLast r μ = some (nI n, zup μ r 3 (nI n)) := by
  unfold f_X5_dropLast
  rw [ev_g, h, if_neg (nI_nle (by omega) (by omega)), ev_g, h, ev_p, nI_pred, ev_g, zup_e]
theorem op_undo (a1 : Int32) (h : zRel μC μM) : ∃ (r : Int32) (μC1 μM1 : zM), f_X6_undo a1 μC = some (r, μC1) ∧ f_X7_undo a1 μM = some (r, μM1) ∧ zRel μC1 μM1 := by
  have zz := zC
  have zm := zMt
  rcases wi_cases a1 (n := 1) (by omega) with c | ⟨t, ht, rfl⟩
  · refine ⟨-2, μC, μM, ?_, ?_, h⟩
    · unfold f_X6_undo
      rw [isTextC_e, show wi a1 0 1 = false from c, ev_c, if_neg (fun q => q rfl)]
    · unfold f_X7_undo
      rw [isTextM_e, show wi a1 0 1 = false from c, ev_c, if_neg (fun q => q rfl)]
  · have htw : wi (nI t) 0 1 = true := wi_t (n := 1) (by omega) (by omega)
    have h0 := h
    obtain ⟨⟨⟨w1, w2⟩, ⟨w3, w4⟩, wR⟩, t1, hr⟩ := h
    obtain ⟨c1, c2, c3, c4, c5, c6⟩ := t1
    have : t = 0 ∨ t = 1 := by omega
    rcases this with rfl | rfl
    · cases hn : tz μM 0 with
      | zero =>
        rw [hn] at w1
        refine ⟨-3, μC, μM, ?_, ?_, h0⟩
        · unfold f_X6_undo
          rw [isTextC_e, htw, ev_c, if_pos nb0, ev_ldR (by omega) (by omega)]
          show (if ¬ μC 2 3 = 0 then _ else _) = _
          rw [if_neg (fun q => q (c1.trans w1))]
        · unfold f_X7_undo
          rw [isTextM_e, htw, ev_c, if_pos nb0, ev_ld (by omega) (by omega), if_neg (fun q => q w1)]
      | succ n =>
        rw [hn] at w1 w2
        have e0 : tz (zup μM 101 0 (nI n)) 0 = n := by unfold tz; rw [zup_e, nN_nI (by omega)]
        refine ⟨nI n, zup (zup μC 0 7 0) 2 3 (nI n), zup μM 101 0 (nI n), ?_, ?_, ⟨⟨by rw [e0, zup_e], by omega⟩, ⟨w3, w4⟩, wR⟩, ?_⟩
        · unfold f_X6_undo
          rw [isTextC_e, htw, ev_c, if_pos nb0, ev_ldR (by omega) (by omega)]
          show (if ¬ μC 2 3 = 0 then _ else _) = _
          rw [if_pos (by rw [c1, w1]; exact nI_ne0 (by omega) (by omega)), ev_p, ev_ldR (by omega) (by omega)]
          show cl (f_X5_dropLast 2 _) _ = _
          rw [dropLast_e (n := n) (by rw [zup_n (by omega), c1, w1]) (by omega), ev_c]
        · unfold f_X7_undo
          rw [isTextM_e, htw, ev_c, if_pos nb0, ev_ld (by omega) (by omega), w1, if_pos (nI_ne0 (by omega) (by omega)), ev_ld (by omega) (by omega), w1, nI_pred, ev_st (by omega) (by omega), ev_ld (by omega) (by omega), zup_e]
        · refine CS_new ⟨rfl, c2, c3, c4, fun i hi => ?_, c6⟩ hr.1 hr.2.1 (cSh_n hr.2.2.1 (fun a _ _ => by simp only [zup_n (show a ≠ 0 by omega), zup_n (show a ≠ 2 by omega), zup_n (show a ≠ 3 by omega), zup_n (show a ≠ 4 by omega), zup_n (show a ≠ 5 by omega)]) (fun a _ => by simp only [zup_n (show a ≠ 101 by omega), zup_n (show a ≠ 102 by omega)])) hr.2.2.2.1 rfl
          rw [e0] at hi
          exact c5 i (by omega)
    · cases hn : tz μM 1 with
      | zero =>
        rw [hn] at w3
        refine ⟨-3, μC, μM, ?_, ?_, h0⟩
        · unfold f_X6_undo
          rw [isTextC_e, htw, ev_c, if_pos nb0, ev_ldR (by omega) (by omega)]
          show (if ¬ μC 4 3 = 0 then _ else _) = _
          rw [if_neg (fun q => q (c2.trans w3))]
        · unfold f_X7_undo
          rw [isTextM_e, htw, ev_c, if_pos nb0, ev_ld (by omega) (by omega), if_neg (fun q => q w3)]
      | succ n =>
        rw [hn] at w3 w4
        have e0 : tz (zup μM 101 1 (nI n)) 1 = n := by unfold tz; rw [zup_e, nN_nI (by omega)]
        refine ⟨nI n, zup (zup μC 0 7 0) 4 3 (nI n), zup μM 101 1 (nI n), ?_, ?_, ⟨⟨w1, w2⟩, ⟨by rw [e0, zup_e], by omega⟩, wR⟩, ?_⟩
        · unfold f_X6_undo
          rw [isTextC_e, htw, ev_c, if_pos nb0, ev_ldR (by omega) (by omega)]
          show (if ¬ μC 4 3 = 0 then _ else _) = _
          rw [if_pos (by rw [c2, w3]; exact nI_ne0 (by omega) (by omega)), ev_p, ev_ldR (by omega) (by omega)]
          show cl (f_X5_dropLast 4 _) _ = _
          rw [dropLast_e (n := n) (by rw [zup_n (by omega), c2, w3]) (by omega), ev_c]
        · unfold f_X7_undo
          rw [isTextM_e, htw, ev_c, if_pos nb0, ev_ld (by omega) (by omega), w3, if_pos (nI_ne0 (by omega) (by omega)), ev_ld (by omega) (by omega), w3, nI_pred, ev_st (by omega) (by omega), ev_ld (by omega) (by omega), zup_e]
        · refine CS_new ⟨c1, rfl, c3, c4, c5, fun i hi => ?_⟩ hr.1 hr.2.1 (cSh_n hr.2.2.1 (fun a _ _ => by simp only [zup_n (show a ≠ 0 by omega), zup_n (show a ≠ 2 by omega), zup_n (show a ≠ 3 by omega), zup_n (show a ≠ 4 by omega), zup_n (show a ≠ 5 by omega)]) (fun a _ => by simp only [zup_n (show a ≠ 101 by omega), zup_n (show a ≠ 102 by omega)])) hr.2.2.2.1 rfl
          rw [e0] at hi
          exact c6 i (by omega)
/-- one card more: what both answer, and what they keep of their sheets -/
theorem card2 (a1 a2 : Int32) (h : zRel μC μM) : ∃ (r : Int32) (μC1 μM1 : zM), f_X6_addCard a1 a2 μC = some (r, μC1) ∧ f_X7_card a1 a2 μM = some (r, μM1) ∧ zRel μC1 μM1 ∧ (∀ a, 133 ≤ a → μM1 a = μM a) ∧ ∀ a, 9 ≤ a → μC1 a = μC a := by
  have zz := zC
  have zm := zMt
  have h0 := h
  rcases wi_cases a1 (n := 23) (by omega) with c | ⟨d, hd, rfl⟩
  · refine ⟨-2, μC, μM, ?_, ?_, h, fun _ _ => rfl, fun _ _ => rfl⟩
    · unfold f_X6_addCard
      rw [isDayC_e, show wi a1 0 23 = false from c, ev_c, if_pos (show bI false = 0 from rfl)]
    · unfold f_X7_card
      rw [isDayM_e, show wi a1 0 23 = false from c, ev_c, if_pos (show bI false = 0 from rfl)]
  · have hdw : wi (nI d) 0 23 = true := wi_t (n := 23) (by omega) (by omega)
    rcases wi_cases a2 (n := 7) (by omega) with c | ⟨k, hk, rfl⟩
    · refine ⟨-2, μC, μM, ?_, ?_, h, fun _ _ => rfl, fun _ _ => rfl⟩
      · unfold f_X6_addCard
        rw [isDayC_e, hdw, ev_c, if_neg nb0, within_e, show wi a2 0 7 = false from c, ev_c, if_neg (fun q => q rfl)]
      · unfold f_X7_card
        rw [isDayM_e, hdw, ev_c, if_neg nb0, in_e, show wi a2 0 7 = false from c, ev_c, if_neg (fun q => q rfl)]
    · have hkw : wi (nI k) 0 7 = true := wi_t (n := 7) (by omega) (by omega)
      obtain ⟨⟨wA, wB, ⟨w1, w2⟩, w3, wR⟩, t1, ⟨c1, c2⟩, hr⟩ := h
      by_cases hf : cn μM = 8
      · refine ⟨-4, μC, μM, ?_, ?_, h0, fun _ _ => rfl, fun _ _ => rfl⟩
        · unfold f_X6_addCard
          rw [isDayC_e, hdw, ev_c, if_neg nb0, within_e, hkw, ev_c, if_pos nb0, ev_g, c1, w1, if_neg (show ¬ nI (cn μM) < (8 : Int32) from nI_nlt (b := 8) (by omega) (by omega))]
        · unfold f_X7_card
          rw [isDayM_e, hdw, ev_c, if_neg nb0, in_e, hkw, ev_c, if_pos nb0, ev_g, w1, if_neg (show ¬ ¬ nI (cn μM) = (8 : Int32) from fun q => q (by rw [hf]; rfl))]
      · generalize hn : cn μM = n at *
        refine ⟨nI (n + 1), zup (zup (zup (zup μC 0 7 0) 7 n (nI d)) 8 n (nI k)) 6 2 (nI (n + 1)), zup (zup (zup μM 113 n (nI d)) 114 n (nI k)) 100 11 (nI (n + 1)), ?_, ?_, ⟨?_, ?_⟩, fun a ha => by rw [zup_n (by omega), zup_n (by omega), zup_n (by omega)], fun a ha => by rw [zup_n (by omega), zup_n (by omega), zup_n (by omega), zup_n (by omega)]⟩
        · unfold f_X6_addCard
          rw [isDayC_e, hdw, ev_c, if_neg nb0, within_e, hkw, ev_c, if_pos nb0, ev_g, c1, w1, if_pos (show nI n < (8 : Int32) from nI_lt (b := 8) (by omega) (by omega)), ev_p]
          unfold f_X0_append
          rw [ev_g, zup_n (by omega), c1, w1, if_neg (show ¬ (8 : Int32) ≤ nI n from nI_ge (b := 8) (by omega) (by omega)), ev_g, zup_n (by omega), c1, w1, ev_st (by omega) (by omega), ev_g, zup_n (by omega), zup_n (by omega), c1, w1, ev_st (by omega) (by omega), ev_g, zup_n (by omega), zup_n (by omega), zup_n (by omega), c1, w1, ev_p, nI_1, ev_g, zup_e, ev_c]
        · unfold f_X7_card
          rw [isDayM_e, hdw, ev_c, if_neg nb0, in_e, hkw, ev_c, if_pos nb0, ev_g, w1, if_pos (show ¬ nI n = (8 : Int32) from fun q => hf ((nI_eq (b := 8) (by omega) (by omega)).mp q)), ev_g, w1, ev_st (by omega) (by omega), ev_g, zup_n (by omega), w1, ev_st (by omega) (by omega), ev_g, zup_n (by omega), zup_n (by omega), w1, ev_p, nI_1, ev_g, zup_e]
        · have e0 : cn (zup (zup (zup μM 113 n (nI d)) 114 n (nI k)) 100 11 (nI (n + 1))) = n + 1 := by unfold cn; rw [zup_e, nN_nI (by omega)]
          refine ⟨wA, wB, ⟨by rw [e0, zup_e], by omega⟩, fun i hi => ?_, wR⟩
          rw [e0] at hi
          unfold cd cf
          rw [zup_n (show 113 ≠ 100 by omega), zup_n (show 113 ≠ 114 by omega), zup_n (show 114 ≠ 100 by omega)]
          by_cases q : i = n
          · subst q
            rw [zup_e, zup_e, nN_nI (by omega), nN_nI (by omega)]
            exact ⟨rfl, by omega, rfl, by omega⟩
          · rw [zup_o q, zup_o q, zup_n (show 114 ≠ 113 by omega)]
            exact w3 i (by omega)
        · have e0 : cn (zup (zup (zup μM 113 n (nI d)) 114 n (nI k)) 100 11 (nI (n + 1))) = n + 1 := by unfold cn; rw [zup_e, nN_nI (by omega)]
          refine CS_new t1 ⟨rfl, fun i hi => ?_⟩ hr.1 (cSh_n hr.2.1 (fun a _ _ => by simp only [zup_n (show a ≠ 0 by omega), zup_n (show a ≠ 6 by omega), zup_n (show a ≠ 7 by omega), zup_n (show a ≠ 8 by omega)]) (fun a _ => by simp only [zup_n (show a ≠ 100 by omega), zup_n (show a ≠ 113 by omega), zup_n (show a ≠ 114 by omega)])) hr.2.2.1 rfl
          rw [e0] at hi
          rw [zup_n (show 7 ≠ 6 by omega), zup_n (show 7 ≠ 8 by omega), zup_n (show 8 ≠ 6 by omega), zup_n (show 113 ≠ 100 by omega), zup_n (show 113 ≠ 114 by omega), zup_n (show 114 ≠ 100 by omega)]
          by_cases q : i = n
          · subst q; rw [zup_e, zup_e, zup_e, zup_e]; exact ⟨rfl, rfl⟩
          · rw [zup_o q, zup_o q, zup_o q, zup_o q, zup_n (show 7 ≠ 0 by omega), zup_n (show 8 ≠ 7 by omega), zup_n (show 8 ≠ 0 by omega), zup_n (show 114 ≠ 113 by omega)]
            exact c2 i (by omega)
theorem op_card (a1 a2 : Int32) (h : zRel μC μM) : ∃ (r : Int32) (μC1 μM1 : zM), f_X6_card a1 a2 μC = some (r, μC1) ∧ f_X7_card a1 a2 μM = some (r, μM1) ∧ zRel μC1 μM1 := by
  obtain ⟨r, c, m, e1, e2, e3, -, -⟩ := card2 a1 a2 h
  exact ⟨r, c, m, by unfold f_X6_card; rw [e1, ev_c], e2, e3⟩
theorem op_back (h : zRel μC μM) : ∃ (r : Int32) (μC1 μM1 : zM), f_X6_back μC = some (r, μC1) ∧ f_X7_back μM = some (r, μM1) ∧ zRel μC1 μM1 := by
  have h0 := h
  obtain ⟨⟨wA, wB, ⟨w1, w2⟩, w3, wR⟩, t1, ⟨c1, c2⟩, hr⟩ := h
  cases hn : cn μM with
  | zero =>
    rw [hn] at w1
    refine ⟨-3, μC, μM, ?_, ?_, h0⟩
    · unfold f_X6_back
      rw [ev_g, if_neg (fun q => q (c1.trans w1))]
    · unfold f_X7_back
      rw [ev_g, if_neg (fun q => q w1)]
  | succ n =>
    rw [hn] at w1 w2
    have e0 : cn (zup μM 100 11 (nI n)) = n := by unfold cn; rw [zup_e, nN_nI (by omega)]
    refine ⟨nI n, zup (zup μC 0 7 0) 6 2 (nI n), zup μM 100 11 (nI n), ?_, ?_, ⟨wA, wB, ⟨by rw [e0, zup_e], by omega⟩, fun i hi => ?_, wR⟩, ?_⟩
    · unfold f_X6_back
      rw [ev_g, if_pos (by rw [c1, w1]; exact nI_ne0 (by omega) (by omega)), ev_p]
      unfold f_X0_dropLast
      rw [ev_g, zup_n (by omega), c1, w1, if_neg (nI_nle (by omega) (by omega)), ev_g, zup_n (by omega), c1, w1, ev_p, nI_pred, ev_g, zup_e, ev_c]
    · unfold f_X7_back
      rw [ev_g, w1, if_pos (nI_ne0 (by omega) (by omega)), ev_g, w1, ev_p, nI_pred, ev_g, zup_e]
    · rw [e0] at hi
      exact w3 i (by omega)
    · refine CS_new t1 ⟨rfl, fun i hi => ?_⟩ hr.1 (cSh_n hr.2.1 (fun a _ _ => by simp only [zup_n (show a ≠ 0 by omega), zup_n (show a ≠ 6 by omega), zup_n (show a ≠ 7 by omega), zup_n (show a ≠ 8 by omega)]) (fun a _ => by simp only [zup_n (show a ≠ 100 by omega), zup_n (show a ≠ 113 by omega), zup_n (show a ≠ 114 by omega)])) hr.2.2.1 rfl
      rw [e0] at hi
      exact c2 i (by omega)
/-- what was felt changes nothing that is settled -/
theorem CS_fe {S S' μ μ' : zM} (hw : wfS S) (h : CS S μ) (h3 : cFe S' μ') (hS : ∀ a, a ≠ 100 → a ≠ 130 → a ≠ 131 → S' a = S a) (hS2 : ∀ i, i ≠ 28 → S' 100 i = S 100 i) (hμ : ∀ a, a ≠ 9 → a ≠ 10 → a ≠ 11 → μ' a = μ a) : CS S' μ' := by
  have e1 : tz S' = tz S := by funext t; unfold tz; rw [hS 101 (by omega) (by omega) (by omega)]
  have e2 : bX S' = bX S := by funext t i; unfold bX; rw [hS 102 (by omega) (by omega) (by omega)]
  have e3 : okB S' = okB S := by funext t i; unfold okB; rw [e1, e2]
  have e4 : ftS S' = ftS S := by funext t; unfold ftS; rw [e3, e1]
  have e5 : itS S' = itS S := by funext t; unfold itS; rw [e4, e1]
  have e6 : vlS S' = vlS S := by funext t k j; unfold vlS; rw [e2]
  have e7 : tolA S' = tolA S := by unfold tolA; rw [e5, e6]
  have e8 : cn S' = cn S := by unfold cn; rw [hS2 11 (by omega)]
  have e9 : cd S' = cd S := by funext i; unfold cd; rw [hS 113 (by omega) (by omega) (by omega)]
  have e10 : cf S' = cf S := by funext i; unfold cf; rw [hS 114 (by omega) (by omega) (by omega)]
  have e11 : tolB S' = tolB S := by funext b; unfold tolB; rw [e7, e8, e9, e10]
  have e12 : cmB S' = cmB S := by funext b k; unfold cmB; rw [e11]
  have e13 : wys S' = wys S := by
    funext k n b
    induction b with
    | zero => rfl
    | succ b ih => unfold wys; rw [ih, e12, e8]
  obtain ⟨h1, h2, -, h4, h5, h6⟩ := h
  refine ⟨?_, ?_, h3, ?_, ?_, ?_⟩
  · have := cT_eq h1 (μ' := μ') (fun a _ _ => hμ a (by omega) (by omega) (by omega))
    unfold cTx at this ⊢
    rw [e1, hS 101 (by omega) (by omega) (by omega), hS 102 (by omega) (by omega) (by omega)]
    exact this
  · have := crd_eq h2 (μ' := μ') (fun a _ _ => hμ a (by omega) (by omega) (by omega))
    unfold crd at this ⊢
    rw [e8, hS2 11 (by omega), hS 113 (by omega) (by omega) (by omega), hS 114 (by omega) (by omega) (by omega)]
    exact this
  · have := cSh_eq h4 (μ' := μ') (fun a _ _ => hμ a (by omega) (by omega) (by omega))
    unfold cSh at this ⊢
    rw [hS 133 (by omega) (by omega) (by omega), hS 134 (by omega) (by omega) (by omega), hS 135 (by omega) (by omega) (by omega), hS 136 (by omega) (by omega) (by omega)]
    exact this
  · rw [hμ 0 (by omega) (by omega) (by omega), hS2 37 (by omega)]; exact h5
  · rw [hμ 0 (by omega) (by omega) (by omega), hμ 47 (by omega) (by omega) (by omega), show tolT S' = tolT S from congrFun e11 0]
    rcases h6 with h6 | ⟨h6, h7, h8⟩
    · exact Or.inl h6
    · refine Or.inr ⟨h6, HC_eq h7 (fun a _ _ => hμ a (by omega) (by omega) (by omega)), ?_⟩
      rcases h8 with h8 | ⟨h8, h9⟩
      · exact Or.inl h8
      · have := cOd_eq hw h9 (μ' := μ') (fun a _ _ => hμ a (by omega) (by omega) (by omega))
        unfold cOd at this ⊢
        rw [e5, e8, e13]
        exact Or.inr ⟨h8, this⟩
theorem op_feel (a1 a2 : Int32) (h : zRel μC μM) : ∃ (r : Int32) (μC1 μM1 : zM), f_X6_feel a1 a2 μC = some (r, μC1) ∧ f_X7_feel a1 a2 μM = some (r, μM1) ∧ zRel μC1 μM1 := by
  have zz := zC
  have zm := zMt
  have h0 := h
  rcases wi_cases a1 (n := 23) (by omega) with c | ⟨d, hd, rfl⟩
  · refine ⟨-2, μC, μM, ?_, ?_, h⟩
    · unfold f_X6_feel
      rw [isDayC_e, show wi a1 0 23 = false from c, ev_c, if_pos (show bI false = 0 from rfl)]
    · unfold f_X7_feel
      rw [isDayM_e, show wi a1 0 23 = false from c, ev_c, if_pos (show bI false = 0 from rfl)]
  · have hdw : wi (nI d) 0 23 = true := wi_t (n := 23) (by omega) (by omega)
    cases hb : wi a2 (-40) 40 with
    | false =>
      refine ⟨-2, μC, μM, ?_, ?_, h⟩
      · unfold f_X6_feel
        rw [isDayC_e, hdw, ev_c, if_neg nb0, within_e, hb, ev_c, if_neg (fun q => q rfl)]
      · unfold f_X7_feel
        rw [isDayM_e, hdw, ev_c, if_neg nb0, in_e, hb, ev_c, if_neg (fun q => q rfl)]
    | true =>
      obtain ⟨⟨wA, wB, wC, wD, ⟨w1, w2⟩, w3, wR⟩, hcs⟩ := h
      obtain ⟨-, -, ⟨c1, c2⟩, -⟩ := hcs
      by_cases hf : fn μM = 8
      · refine ⟨-4, μC, μM, ?_, ?_, h0⟩
        · unfold f_X6_feel
          rw [isDayC_e, hdw, ev_c, if_neg nb0, within_e, hb, ev_c, if_pos nb0, ev_g, c1, w1, if_pos (show (8 : Int32) ≤ nI (fn μM) from nI_le (a := 8) (by omega) (by omega))]
        · unfold f_X7_feel
          rw [isDayM_e, hdw, ev_c, if_neg nb0, in_e, hb, ev_c, if_pos nb0, ev_g, w1, if_neg (show ¬ ¬ nI (fn μM) = (8 : Int32) from fun q => q (by rw [hf]; rfl))]
      · generalize hn : fn μM = n at *
        have e0 : fn (zup (zup (zup μM 130 n (nI d)) 131 n a2) 100 28 (nI (n + 1))) = n + 1 := by unfold fn; rw [zup_e, nN_nI (by omega)]
        refine ⟨nI (n + 1), zup (zup (zup μC 10 n (nI d)) 11 n a2) 9 2 (nI (n + 1)), zup (zup (zup μM 130 n (nI d)) 131 n a2) 100 28 (nI (n + 1)), ?_, ?_, ⟨wA, wB, wC, wD, ⟨by rw [e0, zup_e], by omega⟩, fun i hi => ?_, wR⟩, ?_⟩
        · unfold f_X6_feel
          rw [isDayC_e, hdw, ev_c, if_neg nb0, within_e, hb, ev_c, if_pos nb0, ev_g, c1, w1, if_neg (show ¬ (8 : Int32) ≤ nI n from nI_ge (b := 8) (by omega) (by omega))]
          unfold f_X1_append
          rw [ev_g, c1, w1, if_neg (show ¬ (8 : Int32) ≤ nI n from nI_ge (b := 8) (by omega) (by omega)), ev_g, c1, w1, ev_st (by omega) (by omega), ev_g, zup_n (by omega), c1, w1, ev_st (by omega) (by omega), ev_g, zup_n (by omega), zup_n (by omega), c1, w1, ev_p, nI_1, ev_g, zup_e, ev_c]
        · unfold f_X7_feel
          rw [isDayM_e, hdw, ev_c, if_neg nb0, in_e, hb, ev_c, if_pos nb0, ev_g, w1, if_pos (show ¬ nI n = (8 : Int32) from fun q => hf ((nI_eq (b := 8) (by omega) (by omega)).mp q)), ev_g, w1, ev_st (by omega) (by omega), ev_g, zup_n (by omega), w1, ev_st (by omega) (by omega), ev_g, zup_n (by omega), zup_n (by omega), w1, ev_p, nI_1, ev_g, zup_e]
        · rw [e0] at hi
          unfold fd
          rw [zup_n (by omega), zup_n (by omega)]
          by_cases q : i = n
          · subst q; rw [zup_e, nN_nI (by omega)]; exact ⟨rfl, by omega⟩
          · rw [zup_o q]; exact w3 i (by omega)
        · refine CS_fe h0.1 h0.2 ⟨rfl, fun i hi => ?_⟩ (fun a x y z => by rw [zup_n x, zup_n z, zup_n y]) (fun i x => by rw [zup_o x, zup_n (by omega), zup_n (by omega)]) (fun a x y z => by rw [zup_n x, zup_n z, zup_n y])
          rw [e0] at hi
          rw [zup_n (show 10 ≠ 9 by omega), zup_n (show 10 ≠ 11 by omega), zup_n (show 11 ≠ 9 by omega), zup_n (show 130 ≠ 100 by omega), zup_n (show 130 ≠ 131 by omega), zup_n (show 131 ≠ 100 by omega)]
          by_cases q : i = n
          · subst q; rw [zup_e, zup_e, zup_e, zup_e]; exact ⟨rfl, rfl⟩
          · rw [zup_o q, zup_o q, zup_o q, zup_o q, zup_n (show 11 ≠ 10 by omega), zup_n (show 131 ≠ 130 by omega)]
            exact c2 i (by omega)
theorem op_forget (h : zRel μC μM) : ∃ (r : Int32) (μC1 μM1 : zM), f_X6_forget μC = some (r, μC1) ∧ f_X7_forget μM = some (r, μM1) ∧ zRel μC1 μM1 := by
  have h0 := h
  obtain ⟨⟨wA, wB, wC, wD, ⟨w1, w2⟩, w3, wR⟩, hcs⟩ := h
  obtain ⟨-, -, ⟨c1, c2⟩, -⟩ := hcs
  refine ⟨nI (fn μM), zup μC 9 2 0, zup μM 100 28 0, ?_, ?_, ⟨wA, wB, wC, wD, ⟨rfl, Nat.zero_le _⟩, fun i hi => absurd hi (Nat.not_lt_zero i), wR⟩, ?_⟩
  · unfold f_X6_forget f_X1_clear
    rw [ev_g, ev_p, ev_c, c1, w1]
  · unfold f_X7_forget
    rw [ev_g, ev_p, w1]
  · exact CS_fe h0.1 h0.2 ⟨rfl, fun i hi => absurd hi (Nat.not_lt_zero i)⟩ (fun a x y z => by rw [zup_n x]) (fun i x => by rw [zup_o x]) (fun a x y z => by rw [zup_n x])
end OP2
