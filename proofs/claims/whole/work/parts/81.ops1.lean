-- PURE: questions that the told house answers
section CQ
variable {S μ : zM}
theorem isDayC_e (a : Int32) : f_X6_isDay a μ = some (bI (wi a 0 23), μ) := by
  unfold f_X6_isDay
  rw [within_e, ev_c, ev_gb]
theorem isTextC_e (a : Int32) : f_X6_isText a μ = some (bI (wi a 0 1), μ) := by
  unfold f_X6_isText
  rw [within_e, ev_c, ev_gb]
theorem isSheetC_e (a : Int32) : f_X6_isSheet a μ = some (bI (wi a 0 3), μ) := by
  unfold f_X6_isSheet
  rw [within_e, ev_c, ev_gb]
theorem isFormC_e (a : Int32) : f_X6_isForm a μ = some (bI (wi a 0 2), μ) := by
  unfold f_X6_isForm
  rw [within_e, ev_c, ev_gb]
theorem wi_t {d n : Nat} (hd : d ≤ n) (hn : n < 2 ^ 31) : wi (nI d) 0 (nI n) = true := (wi_of hn).mpr ⟨d, hd, rfl⟩
theorem nb0 : ¬ bI true = 0 := by decide
theorem cq_stands (hw : wfS S) (h : CS S μ) {d k : Nat} (hd : d < 24) (hk : k < itS S 0) : ∃ μ', f_X6_stands (nI d) (nI k) μ = some (nI (stn (tolT S) (tS S) k d), μ') ∧ CS S μ' := by
  unfold f_X6_stands
  have h8 : itS S 0 ≤ 8 := (wT_told hw 0).1
  obtain ⟨m, e, h1, h2, -⟩ := told_e hw h
  rw [e, ev_c, isDayC_e, show wi (nI d) 0 23 = true from wi_t (n := 23) (by omega) (by omega), ev_c, if_neg nb0, hasCaller_e h2, show wi (nI k) 0 (nI (tolT S 0 0) - (1 : Int32)) = true from wi_k (n := itS S 0) hk (by omega), ev_c, if_neg nb0, standing_e h2 hk hd, ev_c]
  exact ⟨m, rfl, h1⟩
theorem cq_name (hw : wfS S) (h : CS S μ) {k : Nat} (hk : k < itS S 0) : ∃ μ', f_X6_name (nI k) μ = some (oI ((tS S).2.2 k), μ') ∧ CS S μ' := by
  have zz := zC
  unfold f_X6_name
  have h8 : itS S 0 ≤ 8 := (wT_told hw 0).1
  obtain ⟨m, e, h1, h2, -⟩ := told_e hw h
  rw [e, ev_c, hasCaller_e h2, show wi (nI k) 0 (nI (tolT S 0 0) - (1 : Int32)) = true from wi_k (n := itS S 0) hk (by omega), ev_c, if_neg nb0, ev_ld (by omega) (by omega), show m 33 k = _ from (h2.2.2.2.1 k hk).2.2]
  exact ⟨m, rfl, h1⟩
theorem cq_door (hw : wfS S) (h : CS S μ) {d w : Nat} (hd : d < 24) (hwh : w < 3) : ∃ μ', f_X6_door (nI d) (nI w) μ = some (vDoor S d w, μ') ∧ CS S μ' := by
  unfold f_X6_door
  obtain ⟨m, e, h1, h2, -⟩ := told_e hw h
  rw [isDayC_e, show wi (nI d) 0 23 = true from wi_t (n := 23) (by omega) (by omega), ev_c, if_pos nb0, e, ev_c, manAt_e h2.1 h2.2.1 h2.2.2.1 hd, ev_c, hatsOn_e h2 hd, ev_c, stepOn_e h2 hd, ev_c]
  refine ⟨m, ?_, h1⟩
  have : w = 0 ∨ w = 1 ∨ w = 2 := by omega
  rcases this with rfl | rfl | rfl
  · rw [if_pos (show nI 0 = (0 : Int32) from rfl)]; rfl
  · rw [if_neg (show ¬ nI 1 = (0 : Int32) by decide), if_pos (show nI 1 = (1 : Int32) from rfl)]; rfl
  · rw [if_neg (show ¬ nI 2 = (0 : Int32) by decide), if_neg (show ¬ nI 2 = (1 : Int32) by decide), if_pos (show nI 2 = (2 : Int32) from rfl)]; rfl
theorem cq_warmth (hw : wfS S) (h : CS S μ) {d : Nat} (hd : d < 24) : ∃ μ', f_X6_warmth (nI d) μ = some (vWm S d, μ') ∧ CS S μ' := by
  unfold f_X6_warmth
  obtain ⟨m, e, h1, h2, -⟩ := told_e hw h
  rw [isDayC_e, show wi (nI d) 0 23 = true from wi_t (n := 23) (by omega) (by omega), ev_c, if_neg nb0, e, ev_c, warmthOn_e h2 hd, ev_c]
  exact ⟨m, rfl, h1⟩
theorem cq_coldest (hw : wfS S) (h : CS S μ) : ∃ μ', f_X6_coldest μ = some (nI (cld (vWm S) 23), μ') ∧ CS S μ' := by
  unfold f_X6_coldest
  obtain ⟨m, e, h1, h2, -⟩ := told_e hw h
  have hv : ∀ d, d < 24 → f_X2_warmthOn 21 (nI d) m = some (vWm S d, m) := fun d hd => warmthOn_e h2 hd
  rw [e, ev_c, show f_X2_warmthOn 21 (0 : Int32) m = _ from hv 0 (by omega), ev_c]
  refine ⟨m, ?_, h1⟩
  refine loop_X (fun n i (a : Int32 × Int32) => f_X6_coldest_L16 (fun (x7 : Int32) μ => some (x7, μ)) n a.1 a.2 i m) (fun R => R = some (nI (cld (vWm S) 23), m)) 24 (fun k a => 1 ≤ k ∧ a.1 = nI (cld (vWm S) (k - 1)) ∧ a.2 = vWm S (cld (vWm S) (k - 1))) ?_ ?_ 400 1 (0, vWm S 0) (by omega) (by omega) ⟨by omega, rfl, rfl⟩
  · intro n a ⟨_, ha, _⟩
    show f_X6_coldest_L16 _ (n + 1) _ _ _ _ = _
    rw [f_X6_coldest_L16, if_pos (show (24 : Int32) ≤ nI 24 from nI_le (Nat.le_refl _) (by omega)), ha]
  · intro n k a hk ⟨h1k, ha, hb⟩
    have e9 : cld (vWm S) (k + 1 - 1) = if vWm S k < vWm S (cld (vWm S) (k - 1)) then k else cld (vWm S) (k - 1) := by
      obtain ⟨j, rfl⟩ : ∃ j, k = j + 1 := ⟨k - 1, by omega⟩
      rfl
    refine ⟨(nI (cld (vWm S) (k + 1 - 1)), vWm S (cld (vWm S) (k + 1 - 1))), ?_, by omega, rfl, rfl⟩
    show f_X6_coldest_L16 _ (n + 1) _ _ _ _ = f_X6_coldest_L16 _ n _ _ _ _
    rw [f_X6_coldest_L16, if_neg (show ¬ (24 : Int32) ≤ nI k from nI_ge (b := 24) hk (by omega)), hv k hk, ev_c, ha, hb, e9]
    by_cases c : vWm S k < vWm S (cld (vWm S) (k - 1))
    · rw [if_pos c, if_neg (Int32.not_le.mpr c), ev_v, nI_1]
    · rw [if_neg c, if_pos (Int32.not_lt.mp c), ev_v, nI_1]
theorem cq_first (hw : wfS S) (h : CS S μ) {w : Nat} (hwh : w < 2) : ∃ μ', f_X6_first (nI w) μ = some (vFirst S w, μ') ∧ CS S μ' := by
  have zz := zC
  have hwT := wT_told hw 0
  have h8 : itS S 0 ≤ 8 := hwT.1
  unfold f_X6_first
  obtain ⟨m, e, h1, h2, -⟩ := told_e hw h
  rw [within_e, show wi (nI w) 0 1 = true from wi_t (n := 1) (by omega) (by omega), ev_c, if_pos nb0, e, ev_c, firstByDoor_e h2, ev_c]
  refine ⟨m, ?_, h1⟩
  have : w = 0 ∨ w = 1 := by omega
  rcases this with rfl | rfl
  · rw [if_neg (show ¬ nI 0 = (1 : Int32) by decide)]
    show _ = some (oI (fdD (tolT S) (tS S)), m)
    unfold fdD
    cases e1 : fdS (tolT S) (tS S) with
    | none => rw [if_neg (show ¬ ¬ oI none = -1 from fun q => q rfl)]
    | some x =>
      have hx : x < itS S 0 := by unfold fdS at e1; exact (bestBy_lt e1).1
      rw [if_pos (show ¬ oI (some x) = -1 from nI_m1 (by omega))]
      show ldI m 31 (nI x) _ = _
      rw [ev_ld (by omega) (by omega), show m 31 x = _ from (h2.2.2.2.1 x hx).1]
  · rw [if_pos (show nI 1 = (1 : Int32) from rfl)]; rfl
theorem cq_sent (hw : wfS S) (h : CS S μ) : ∃ μ', f_X6_sent μ = some (vSent S, μ') ∧ CS S μ' := by
  unfold f_X6_sent
  obtain ⟨m, e, h1, h2, -⟩ := told_e hw h
  rw [e, ev_c, sentBits_e h2, ev_c]
  exact ⟨m, rfl, h1⟩
theorem cq_wrong (hw : wfS S) (h : CS S μ) : ∃ μ', f_X6_wrong μ = some (vWrong S, μ') ∧ CS S μ' := by
  unfold f_X6_wrong
  obtain ⟨m, e, h1, h2, -⟩ := told_e hw h
  rw [e, ev_c, misnamed_e h2, ev_c]
  exact ⟨m, rfl, h1⟩
theorem cq_sum (hw : wfS S) (h : CS S μ) : ∃ μ', f_X6_sum μ = some (vSum S, μ') ∧ CS S μ' := by
  unfold f_X6_sum
  obtain ⟨m, e, h1, h2, -⟩ := told_e hw h
  rw [e, ev_c, total_e h2, ev_c]
  exact ⟨m, rfl, h1⟩
theorem cq_caller (hw : wfS S) (h : CS S μ) {k w : Nat} (hk : k < itS S 0) (hwh : w < 4) : ∃ μ', f_X6_caller (nI k) (nI w) μ = some (nI (tolA S (w + 1) k), μ') ∧ CS S μ' := by
  have zz := zC
  have h8 : itS S 0 ≤ 8 := (wT_told hw 0).1
  unfold f_X6_caller
  obtain ⟨m, e, h1, h2, -⟩ := told_e hw h
  have hj := fun j a b => h2.2.2.1.2.2.1 j a b k hk
  rw [e, ev_c, hasCaller_e h2, show wi (nI k) 0 (nI (tolT S 0 0) - (1 : Int32)) = true from wi_k (n := itS S 0) hk (by omega), ev_c, if_pos nb0, ev_ld (by omega) (by omega), ev_ld (by omega) (by omega), ev_ld (by omega) (by omega), ev_ld (by omega) (by omega), show m 22 k = _ from hj 1 (by omega) (by omega), show m 23 k = _ from hj 2 (by omega) (by omega), show m 24 k = _ from hj 3 (by omega) (by omega), show m 25 k = _ from hj 4 (by omega) (by omega)]
  refine ⟨m, ?_, h1⟩
  have : w = 0 ∨ w = 1 ∨ w = 2 ∨ w = 3 := by omega
  rcases this with rfl | rfl | rfl | rfl
  · rw [if_pos (show nI 0 = (0 : Int32) from rfl)]; rfl
  · rw [if_neg (show ¬ nI 1 = (0 : Int32) by decide), if_pos (show nI 1 = (1 : Int32) from rfl)]; rfl
  · rw [if_neg (show ¬ nI 2 = (0 : Int32) by decide), if_neg (show ¬ nI 2 = (1 : Int32) by decide), if_pos (show nI 2 = (2 : Int32) from rfl)]; rfl
  · rw [if_neg (show ¬ nI 3 = (0 : Int32) by decide), if_neg (show ¬ nI 3 = (1 : Int32) by decide), if_neg (show ¬ nI 3 = (2 : Int32) by decide), if_pos (show nI 3 = (3 : Int32) from rfl)]; rfl
theorem cq_man (hw : wfS S) (h : CS S μ) {k w : Nat} (hk : k < itS S 1) (hwh : w < 3) : ∃ μ', f_X6_man (nI k) (nI w) μ = some (nI (tolA S (w + 6) k), μ') ∧ CS S μ' := by
  have zz := zC
  have h8 : itS S 1 ≤ 4 := (wT_told hw 0).2.1
  unfold f_X6_man
  obtain ⟨m, e, h1, h2, -⟩ := told_e hw h
  have hj := fun j a b => h2.2.2.1.2.2.2 j a b k hk
  rw [e, ev_c, hasMan_e h2, show wi (nI k) 0 (nI (tolT S 0 1) - (1 : Int32)) = true from wi_k (n := itS S 1) hk (by omega), ev_c, if_pos nb0, ev_ld (by omega) (by omega), ev_ld (by omega) (by omega), ev_ld (by omega) (by omega), show m 27 k = _ from hj 6 (by omega) (by omega), show m 28 k = _ from hj 7 (by omega) (by omega), show m 29 k = _ from hj 8 (by omega) (by omega)]
  refine ⟨m, ?_, h1⟩
  have : w = 0 ∨ w = 1 ∨ w = 2 := by omega
  rcases this with rfl | rfl | rfl
  · rw [if_pos (show nI 0 = (0 : Int32) from rfl)]; rfl
  · rw [if_neg (show ¬ nI 1 = (0 : Int32) by decide), if_pos (show nI 1 = (1 : Int32) from rfl)]; rfl
  · rw [if_neg (show ¬ nI 2 = (0 : Int32) by decide), if_neg (show ¬ nI 2 = (1 : Int32) by decide), if_pos (show nI 2 = (2 : Int32) from rfl)]; rfl
theorem cq_fault (hw : wfS S) (h : CS S μ) {t : Nat} (ht : t < 2) : ∃ μ', f_X6_fault (nI t) μ = some (oI (ftS S t), μ') ∧ CS S μ' := by
  have zz := zC
  unfold f_X6_fault
  rw [isTextC_e, show wi (nI t) 0 1 = true from wi_t (n := 1) (by omega) (by omega), ev_c, if_neg nb0, ev_ldR (by omega) (by omega), show zrf 1 t = 2 + 2 * t from rfl, firstFault_e (cText_of hw h.1 ht), ev_c]
  exact ⟨μ, rfl, h⟩
def vCount (S : zM) (w : Nat) : Int32 := match w with
  | 0 => nI (itS S 0)
  | 1 => nI (itS S 1)
  | 2 => nI (tz S 0)
  | 3 => nI (tz S 1)
  | 4 => nI (cn S)
  | 5 => cntI (fun k => ((tS S).1 k).isSome) (itS S 0)
  | 6 => cntI (fun k => ((tS S).2.1 k).isSome) (itS S 0)
  | 7 => nI (fn S)
  | _ => S 100 37
theorem cq_count (hw : wfS S) (h : CS S μ) {w : Nat} (hwh : w < 9) : ∃ μ', f_X6_count (nI w) μ = some (vCount S w, μ') ∧ CS S μ' := by
  have zz := zC
  have h8 : itS S 0 ≤ 8 := (wT_told hw 0).1
  have h0 := h
  obtain ⟨m, e, h1, h2, -⟩ := told_e hw h
  obtain ⟨t1, c1, f1, -, g1, -⟩ := h
  have e21 : m 21 0 = nI (itS S 0) := h2.2.2.1.1
  have e216 : m 21 6 = nI (itS S 1) := h2.2.2.1.2.1
  have eb : f_X2_everIn 21 m = some (bits (fun k => ((tS S).1 k).isSome) (itS S 0), m) := everIn_e h2
  have es : f_X2_sentBits 21 m = some (bits (fun k => ((tS S).2.1 k).isSome) (itS S 0), m) := sentBits_e h2
  have : w = 0 ∨ w = 1 ∨ w = 2 ∨ w = 3 ∨ w = 4 ∨ w = 5 ∨ w = 6 ∨ w = 7 ∨ w = 8 := by omega
  unfold f_X6_count
  rcases this with rfl | rfl | rfl | rfl | rfl | rfl | rfl | rfl | rfl
  · rw [if_pos (show nI 0 = (0 : Int32) from rfl), e, ev_c, ev_g, e21]; exact ⟨m, rfl, h1⟩
  · rw [if_neg (show ¬ nI 1 = (0 : Int32) by decide), if_pos (show nI 1 = (1 : Int32) from rfl), e, ev_c, ev_g, e216]; exact ⟨m, rfl, h1⟩
  · rw [if_neg (show ¬ nI 2 = (0 : Int32) by decide), if_neg (show ¬ nI 2 = (1 : Int32) by decide), if_pos (show nI 2 = (2 : Int32) from rfl), k_0, ev_ldR (by omega) (by omega)]
    exact ⟨μ, by show some (μ 2 3, μ) = _; rw [t1.1, hw.1.1]; rfl, h0⟩
  · rw [if_neg (show ¬ nI 3 = (0 : Int32) by decide), if_neg (show ¬ nI 3 = (1 : Int32) by decide), if_neg (show ¬ nI 3 = (2 : Int32) by decide), if_pos (show nI 3 = (3 : Int32) from rfl), k_1, ev_ldR (by omega) (by omega)]
    exact ⟨μ, by show some (μ 4 3, μ) = _; rw [t1.2.1, hw.2.1.1]; rfl, h0⟩
  · rw [if_neg (show ¬ nI 4 = (0 : Int32) by decide), if_neg (show ¬ nI 4 = (1 : Int32) by decide), if_neg (show ¬ nI 4 = (2 : Int32) by decide), if_neg (show ¬ nI 4 = (3 : Int32) by decide), if_pos (show nI 4 = (4 : Int32) from rfl), ev_g, c1.1, hw.2.2.1.1]; exact ⟨μ, rfl, h0⟩
  · rw [if_neg (show ¬ nI 5 = (0 : Int32) by decide), if_neg (show ¬ nI 5 = (1 : Int32) by decide), if_neg (show ¬ nI 5 = (2 : Int32) by decide), if_neg (show ¬ nI 5 = (3 : Int32) by decide), if_neg (show ¬ nI 5 = (4 : Int32) by decide), if_pos (show nI 5 = (5 : Int32) from rfl), e, ev_c, eb, ev_c, bitCount_e _ h8, ev_c]; exact ⟨m, rfl, h1⟩
  · rw [if_neg (show ¬ nI 6 = (0 : Int32) by decide), if_neg (show ¬ nI 6 = (1 : Int32) by decide), if_neg (show ¬ nI 6 = (2 : Int32) by decide), if_neg (show ¬ nI 6 = (3 : Int32) by decide), if_neg (show ¬ nI 6 = (4 : Int32) by decide), if_neg (show ¬ nI 6 = (5 : Int32) by decide), if_pos (show nI 6 = (6 : Int32) from rfl), e, ev_c, es, ev_c, bitCount_e _ h8, ev_c]; exact ⟨m, rfl, h1⟩
  · rw [if_neg (show ¬ nI 7 = (0 : Int32) by decide), if_neg (show ¬ nI 7 = (1 : Int32) by decide), if_neg (show ¬ nI 7 = (2 : Int32) by decide), if_neg (show ¬ nI 7 = (3 : Int32) by decide), if_neg (show ¬ nI 7 = (4 : Int32) by decide), if_neg (show ¬ nI 7 = (5 : Int32) by decide), if_neg (show ¬ nI 7 = (6 : Int32) by decide), if_pos (show nI 7 = (7 : Int32) from rfl), ev_g, f1.1, hw.2.2.2.2.1.1]; exact ⟨μ, rfl, h0⟩
  · rw [if_neg (show ¬ nI 8 = (0 : Int32) by decide), if_neg (show ¬ nI 8 = (1 : Int32) by decide), if_neg (show ¬ nI 8 = (2 : Int32) by decide), if_neg (show ¬ nI 8 = (3 : Int32) by decide), if_neg (show ¬ nI 8 = (4 : Int32) by decide), if_neg (show ¬ nI 8 = (5 : Int32) by decide), if_neg (show ¬ nI 8 = (6 : Int32) by decide), if_neg (show ¬ nI 8 = (7 : Int32) by decide), if_pos (show nI 8 = (8 : Int32) from rfl), ev_g, g1]; exact ⟨μ, rfl, h0⟩
theorem mq_count (hw : wfS S) (h : frM S μ) {w : Nat} (hwh : w < 9) : ∃ μ', f_X7_count (nI w) μ = some (vCount S w, μ') ∧ frM S μ' ∧ (MB S μ → MB S μ') := by
  have zz := zMt
  have h8 : itS S 0 ≤ 8 := (wT_told hw 0).1
  obtain ⟨m, e, h1, h2⟩ := runsTold_e hw h
  have e2 : m 100 2 = nI (itS S 0) := h1.1.2.1
  have e7 : m 100 7 = nI (itS S 1) := h1.1.2.2.1
  have ht : ∀ w : Nat, w = 0 ∨ w = 1 ∨ w = 5 ∨ w = 6 → f_X7_tellOf (nI w) μ = some (vCount S w, m) := by
    intro w hwv
    unfold f_X7_tellOf
    rw [e, ev_c, sentNow_e (wT_told hw 0) e2 h2, ev_c, insNow_e (wT_told hw 0) e2 h2, ev_c, ev_g, ev_g, e2, e7, show f_X7_ones (bits (fun k => ((sim (tolT S) 24).2.1 k).isSome) (tolT S 0 0)) m = _ from ones_e _ h8, ev_c]
    rcases hwv with rfl | rfl | rfl | rfl
    · rw [if_neg (fun q => q rfl)]; rfl
    · rw [if_pos (by decide), if_neg (fun q => q rfl)]; rfl
    · rw [if_pos (by decide), if_pos (by decide), if_neg (fun q => q rfl)]; rfl
    · rw [if_pos (by decide), if_pos (by decide), if_pos (by decide)]; rfl
  have : w = 0 ∨ w = 1 ∨ w = 2 ∨ w = 3 ∨ w = 4 ∨ w = 5 ∨ w = 6 ∨ w = 7 ∨ w = 8 := by omega
  unfold f_X7_count
  rcases this with rfl | rfl | rfl | rfl | rfl | rfl | rfl | rfl | rfl
  · rw [if_pos (show nI 0 = (0 : Int32) from rfl), ht 0 (by omega), ev_c]; exact ⟨m, rfl, h1.1.1, fun _ => h1.1⟩
  · rw [if_neg (show ¬ nI 1 = (0 : Int32) by decide), if_pos (show nI 1 = (1 : Int32) from rfl), ht 1 (by omega), ev_c]; exact ⟨m, rfl, h1.1.1, fun _ => h1.1⟩
  · rw [if_neg (show ¬ nI 2 = (0 : Int32) by decide), if_neg (show ¬ nI 2 = (1 : Int32) by decide), if_pos (show nI 2 = (2 : Int32) from rfl), show nI 2 - (2 : Int32) = nI 0 from rfl, ev_ld (by omega) (by omega), h.1 101 (by omega), hw.1.1]; exact ⟨μ, rfl, h, id⟩
  · rw [if_neg (show ¬ nI 3 = (0 : Int32) by decide), if_neg (show ¬ nI 3 = (1 : Int32) by decide), if_neg (show ¬ nI 3 = (2 : Int32) by decide), if_pos (show nI 3 = (3 : Int32) from rfl), show nI 3 - (2 : Int32) = nI 1 from rfl, ev_ld (by omega) (by omega), h.1 101 (by omega), hw.2.1.1]; exact ⟨μ, rfl, h, id⟩
  · rw [if_neg (show ¬ nI 4 = (0 : Int32) by decide), if_neg (show ¬ nI 4 = (1 : Int32) by decide), if_neg (show ¬ nI 4 = (2 : Int32) by decide), if_neg (show ¬ nI 4 = (3 : Int32) by decide), if_pos (show nI 4 = (4 : Int32) from rfl), ev_g, h.2.1, hw.2.2.1.1]; exact ⟨μ, rfl, h, id⟩
  · rw [if_neg (show ¬ nI 5 = (0 : Int32) by decide), if_neg (show ¬ nI 5 = (1 : Int32) by decide), if_neg (show ¬ nI 5 = (2 : Int32) by decide), if_neg (show ¬ nI 5 = (3 : Int32) by decide), if_neg (show ¬ nI 5 = (4 : Int32) by decide), if_pos (show nI 5 = (5 : Int32) from rfl), ht 5 (by omega), ev_c]; exact ⟨m, rfl, h1.1.1, fun _ => h1.1⟩
  · rw [if_neg (show ¬ nI 6 = (0 : Int32) by decide), if_neg (show ¬ nI 6 = (1 : Int32) by decide), if_neg (show ¬ nI 6 = (2 : Int32) by decide), if_neg (show ¬ nI 6 = (3 : Int32) by decide), if_neg (show ¬ nI 6 = (4 : Int32) by decide), if_neg (show ¬ nI 6 = (5 : Int32) by decide), if_pos (show nI 6 = (6 : Int32) from rfl), ht 6 (by omega), ev_c]; exact ⟨m, rfl, h1.1.1, fun _ => h1.1⟩
  · rw [if_neg (show ¬ nI 7 = (0 : Int32) by decide), if_neg (show ¬ nI 7 = (1 : Int32) by decide), if_neg (show ¬ nI 7 = (2 : Int32) by decide), if_neg (show ¬ nI 7 = (3 : Int32) by decide), if_neg (show ¬ nI 7 = (4 : Int32) by decide), if_neg (show ¬ nI 7 = (5 : Int32) by decide), if_neg (show ¬ nI 7 = (6 : Int32) by decide), if_pos (show nI 7 = (7 : Int32) from rfl), ev_g, h.2.2.1, hw.2.2.2.2.1.1]; exact ⟨μ, rfl, h, id⟩
  · rw [if_neg (show ¬ nI 8 = (0 : Int32) by decide), if_neg (show ¬ nI 8 = (1 : Int32) by decide), if_neg (show ¬ nI 8 = (2 : Int32) by decide), if_neg (show ¬ nI 8 = (3 : Int32) by decide), if_neg (show ¬ nI 8 = (4 : Int32) by decide), if_neg (show ¬ nI 8 = (5 : Int32) by decide), if_neg (show ¬ nI 8 = (6 : Int32) by decide), if_neg (show ¬ nI 8 = (7 : Int32) by decide), if_pos (show nI 8 = (8 : Int32) from rfl), ev_g, h.2.2.2]; exact ⟨μ, rfl, h, id⟩
end CQ
theorem wi_cases (a : Int32) {n : Nat} (hn : n < 2 ^ 31) : wi a 0 (nI n) = false ∨ ∃ k, k ≤ n ∧ a = nI k := by
  cases c : wi a 0 (nI n) with
  | false => exact Or.inl rfl
  | true => exact Or.inr ((wi_of hn).mp c)
theorem wi_cases1 (a : Int32) {n : Nat} (hn : n < 2 ^ 30) : wi a 0 (nI n - (1 : Int32)) = false ∨ ∃ k, k < n ∧ a = nI k := by
  cases c : wi a 0 (nI n - (1 : Int32)) with
  | false => exact Or.inl rfl
  | true => exact Or.inr ((wi_n hn).mp c)
section OP1
variable {μC μM : zM}
theorem op_fault (a1 : Int32) (h : zRel μC μM) : ∃ (r : Int32) (μC1 μM1 : zM), f_X6_fault a1 μC = some (r, μC1) ∧ f_X7_fault a1 μM = some (r, μM1) ∧ zRel μC1 μM1 := by
  rcases wi_cases a1 (n := 1) (by omega) with c | ⟨t, ht, rfl⟩
  · refine ask2 (r := -2) h ⟨μC, ?_, h.2⟩ ⟨μM, ?_, frM_rf⟩
    · unfold f_X6_fault
      rw [isTextC_e, show wi a1 0 1 = false from c, ev_c, if_pos (show bI false = 0 from rfl)]
    · unfold f_X7_fault
      rw [isTextM_e, show wi a1 0 1 = false from c, ev_c, if_pos (show bI false = 0 from rfl)]
  · refine ask2 h (cq_fault h.1 h.2 (t := t) (by omega)) ?_
    obtain ⟨m, e, hB⟩ := faultOf_e h.1 frM_rf (t := t) (by omega)
    refine ⟨m, ?_, hB.1⟩
    unfold f_X7_fault
    rw [isTextM_e, show wi (nI t) 0 1 = true from wi_t (n := 1) (by omega) (by omega), ev_c, if_neg nb0, e, ev_c]
theorem op_stands (a1 a2 : Int32) (h : zRel μC μM) : ∃ (r : Int32) (μC1 μM1 : zM), f_X6_stands a1 a2 μC = some (r, μC1) ∧ f_X7_stands a1 a2 μM = some (r, μM1) ∧ zRel μC1 μM1 := by
  have h8 : itS μM 0 ≤ 8 := (wT_told h.1 0).1
  obtain ⟨m, e, h1, h2, -⟩ := told_e h.1 h.2
  rcases wi_cases a1 (n := 23) (by omega) with c | ⟨d, hd, rfl⟩
  · refine ask2 (r := -2) h ⟨m, ?_, h1⟩ ⟨μM, ?_, frM_rf⟩
    · unfold f_X6_stands
      rw [e, ev_c, isDayC_e, show wi a1 0 23 = false from c, ev_c, if_pos (show bI false = 0 from rfl)]
    · unfold f_X7_stands
      rw [isDayM_e, show wi a1 0 23 = false from c, ev_c, if_pos (show bI false = 0 from rfl)]
  · have hdw : wi (nI d) 0 23 = true := wi_t (n := 23) (by omega) (by omega)
    obtain ⟨m2, e2, hB⟩ := isCallerM_e h.1 frM_rf a2
    rcases wi_cases1 a2 (n := itS μM 0) (by omega) with c | ⟨k, hk, rfl⟩
    · refine ask2 (r := -2) h ⟨m, ?_, h1⟩ ⟨m2, ?_, hB.1⟩
      · unfold f_X6_stands
        rw [e, ev_c, isDayC_e, hdw, ev_c, if_neg nb0, hasCaller_e h2, show wi a2 0 (nI (tolT μM 0 0) - (1 : Int32)) = false from c, ev_c, if_pos (show bI false = 0 from rfl)]
      · unfold f_X7_stands
        rw [isDayM_e, hdw, ev_c, if_neg nb0, e2, ev_c, c, if_pos (show bI false = 0 from rfl)]
    · refine ask2 h (cq_stands h.1 h.2 (by omega) hk) ?_
      obtain ⟨m3, e3, hB3⟩ := standsOf_e h.1 hB.1 (d := d) (by omega) hk
      refine ⟨m3, ?_, hB3.1⟩
      unfold f_X7_stands
      rw [isDayM_e, hdw, ev_c, if_neg nb0, e2, ev_c, show wi (nI k) 0 (nI (itS μM 0) - (1 : Int32)) = true from wi_k hk (by omega), if_neg nb0, e3, ev_c]
theorem op_name (a1 : Int32) (h : zRel μC μM) : ∃ (r : Int32) (μC1 μM1 : zM), f_X6_name a1 μC = some (r, μC1) ∧ f_X7_name a1 μM = some (r, μM1) ∧ zRel μC1 μM1 := by
  have h8 : itS μM 0 ≤ 8 := (wT_told h.1 0).1
  obtain ⟨m, e, h1, h2, -⟩ := told_e h.1 h.2
  obtain ⟨m2, e2, hB⟩ := isCallerM_e h.1 frM_rf a1
  rcases wi_cases1 a1 (n := itS μM 0) (by omega) with c | ⟨k, hk, rfl⟩
  · refine ask2 (r := -2) h ⟨m, ?_, h1⟩ ⟨m2, ?_, hB.1⟩
    · unfold f_X6_name
      rw [e, ev_c, hasCaller_e h2, show wi a1 0 (nI (tolT μM 0 0) - (1 : Int32)) = false from c, ev_c, if_pos (show bI false = 0 from rfl)]
    · unfold f_X7_name
      rw [e2, ev_c, c, if_pos (show bI false = 0 from rfl)]
  · refine ask2 h (cq_name h.1 h.2 hk) ?_
    obtain ⟨m3, e3, hB3⟩ := nameOf_e h.1 hB.1 hk
    refine ⟨m3, ?_, hB3.1⟩
    unfold f_X7_name
    rw [e2, ev_c, show wi (nI k) 0 (nI (itS μM 0) - (1 : Int32)) = true from wi_k hk (by omega), if_neg nb0, e3, ev_c]
theorem op_caller (a1 a2 : Int32) (h : zRel μC μM) : ∃ (r : Int32) (μC1 μM1 : zM), f_X6_caller a1 a2 μC = some (r, μC1) ∧ f_X7_caller a1 a2 μM = some (r, μM1) ∧ zRel μC1 μM1 := by
  have zz := zC
  have h8 : itS μM 0 ≤ 8 := (wT_told h.1 0).1
  obtain ⟨m, e, h1, h2, -⟩ := told_e h.1 h.2
  obtain ⟨m2, e2, hB⟩ := isCallerM_e h.1 frM_rf a1
  rcases wi_cases1 a1 (n := itS μM 0) (by omega) with c | ⟨k, hk, rfl⟩
  · refine ask2 (r := -2) h ⟨m, ?_, h1⟩ ⟨m2, ?_, hB.1⟩
    · unfold f_X6_caller
      rw [e, ev_c, hasCaller_e h2, show wi a1 0 (nI (tolT μM 0 0) - (1 : Int32)) = false from c, ev_c, if_neg (fun q => q rfl)]
    · unfold f_X7_caller
      rw [e2, ev_c, c, if_pos (show bI false = 0 from rfl)]
  · have hkw : wi (nI k) 0 (nI (itS μM 0) - (1 : Int32)) = true := wi_k hk (by omega)
    rcases wi_cases a2 (n := 3) (by omega) with c | ⟨w, hwv, rfl⟩
    · have c0 : ∀ j, j ≤ 3 → ¬ a2 = nI j := fun j hj q => by
        have := wi_t (d := j) (n := 3) hj (by omega)
        rw [q, this] at c; cases c
      refine ask2 (r := -2) h ⟨m, ?_, h1⟩ ⟨m2, ?_, hB.1⟩
      · unfold f_X6_caller
        rw [e, ev_c, hasCaller_e h2, show wi (nI k) 0 (nI (tolT μM 0 0) - (1 : Int32)) = true from hkw, ev_c, if_pos nb0, if_neg (show ¬ a2 = (0 : Int32) from c0 0 (by omega)), if_neg (show ¬ a2 = (1 : Int32) from c0 1 (by omega)), if_neg (show ¬ a2 = (2 : Int32) from c0 2 (by omega)), if_neg (show ¬ a2 = (3 : Int32) from c0 3 (by omega))]
      · unfold f_X7_caller
        rw [e2, ev_c, hkw, if_neg nb0, in_e, show wi a2 0 3 = false from c, ev_c, if_pos (show bI false = 0 from rfl)]
    · refine ask2 h (cq_caller h.1 h.2 hk (w := w) (by omega)) ⟨m2, ?_, hB.1⟩
      unfold f_X7_caller
      rw [e2, ev_c, hkw, if_neg nb0, in_e, show wi (nI w) 0 3 = true from wi_t (n := 3) (by omega) (by omega), ev_c, if_neg nb0, callerOf_e hB h.1 hk (by omega), ev_c]
theorem op_man (a1 a2 : Int32) (h : zRel μC μM) : ∃ (r : Int32) (μC1 μM1 : zM), f_X6_man a1 a2 μC = some (r, μC1) ∧ f_X7_man a1 a2 μM = some (r, μM1) ∧ zRel μC1 μM1 := by
  have zz := zC
  have h8 : itS μM 1 ≤ 4 := (wT_told h.1 0).2.1
  obtain ⟨m, e, h1, h2, -⟩ := told_e h.1 h.2
  obtain ⟨m2, e2, hB⟩ := isManM_e h.1 frM_rf a1
  rcases wi_cases1 a1 (n := itS μM 1) (by omega) with c | ⟨k, hk, rfl⟩
  · refine ask2 (r := -2) h ⟨m, ?_, h1⟩ ⟨m2, ?_, hB.1⟩
    · unfold f_X6_man
      rw [e, ev_c, hasMan_e h2, show wi a1 0 (nI (tolT μM 0 1) - (1 : Int32)) = false from c, ev_c, if_neg (fun q => q rfl)]
    · unfold f_X7_man
      rw [e2, ev_c, c, if_pos (show bI false = 0 from rfl)]
  · have hkw : wi (nI k) 0 (nI (itS μM 1) - (1 : Int32)) = true := wi_k hk (by omega)
    rcases wi_cases a2 (n := 2) (by omega) with c | ⟨w, hwv, rfl⟩
    · have c0 : ∀ j, j ≤ 2 → ¬ a2 = nI j := fun j hj q => by
        have := wi_t (d := j) (n := 2) hj (by omega)
        rw [q, this] at c; cases c
      refine ask2 (r := -2) h ⟨m, ?_, h1⟩ ⟨m2, ?_, hB.1⟩
      · unfold f_X6_man
        rw [e, ev_c, hasMan_e h2, show wi (nI k) 0 (nI (tolT μM 0 1) - (1 : Int32)) = true from hkw, ev_c, if_pos nb0, if_neg (show ¬ a2 = (0 : Int32) from c0 0 (by omega)), if_neg (show ¬ a2 = (1 : Int32) from c0 1 (by omega)), if_neg (show ¬ a2 = (2 : Int32) from c0 2 (by omega))]
      · unfold f_X7_man
        rw [e2, ev_c, hkw, if_neg nb0, in_e, show wi a2 0 2 = false from c, ev_c, if_pos (show bI false = 0 from rfl)]
    · refine ask2 h (cq_man h.1 h.2 hk (w := w) (by omega)) ⟨m2, ?_, hB.1⟩
      unfold f_X7_man
      rw [e2, ev_c, hkw, if_neg nb0, in_e, show wi (nI w) 0 2 = true from wi_t (n := 2) (by omega) (by omega), ev_c, if_neg nb0, manOf_e hB h.1 hk (by omega), ev_c]
theorem op_door (a1 a2 : Int32) (h : zRel μC μM) : ∃ (r : Int32) (μC1 μM1 : zM), f_X6_door a1 a2 μC = some (r, μC1) ∧ f_X7_door a1 a2 μM = some (r, μM1) ∧ zRel μC1 μM1 := by
  obtain ⟨m, e, h1, h2, -⟩ := told_e h.1 h.2
  rcases wi_cases a1 (n := 23) (by omega) with c | ⟨d, hd, rfl⟩
  · refine ask2 (r := -2) h ⟨μC, ?_, h.2⟩ ⟨μM, ?_, frM_rf⟩
    · unfold f_X6_door
      rw [isDayC_e, show wi a1 0 23 = false from c, ev_c, if_neg (fun q => q rfl)]
    · unfold f_X7_door
      rw [isDayM_e, show wi a1 0 23 = false from c, ev_c, if_pos (show bI false = 0 from rfl)]
  · have hdw : wi (nI d) 0 23 = true := wi_t (n := 23) (by omega) (by omega)
    rcases wi_cases a2 (n := 2) (by omega) with c | ⟨w, hwv, rfl⟩
    · have c0 : ∀ j, j ≤ 2 → ¬ a2 = nI j := fun j hj q => by
        have := wi_t (d := j) (n := 2) hj (by omega)
        rw [q, this] at c; cases c
      refine ask2 (r := -2) h ⟨m, ?_, h1⟩ ⟨μM, ?_, frM_rf⟩
      · unfold f_X6_door
        rw [isDayC_e, hdw, ev_c, if_pos nb0, e, ev_c, if_neg (show ¬ a2 = (0 : Int32) from c0 0 (by omega)), if_neg (show ¬ a2 = (1 : Int32) from c0 1 (by omega)), if_neg (show ¬ a2 = (2 : Int32) from c0 2 (by omega))]
      · unfold f_X7_door
        rw [isDayM_e, hdw, ev_c, if_neg nb0, in_e, show wi a2 0 2 = false from c, ev_c, if_pos (show bI false = 0 from rfl)]
    · refine ask2 h (cq_door h.1 h.2 (d := d) (w := w) (by omega) (by omega)) ?_
      obtain ⟨m3, e3, hB3⟩ := doorOf_e h.1 frM_rf (d := d) (w := w) (by omega) (by omega)
      refine ⟨m3, ?_, hB3.1⟩
      unfold f_X7_door
      rw [isDayM_e, hdw, ev_c, if_neg nb0, in_e, show wi (nI w) 0 2 = true from wi_t (n := 2) (by omega) (by omega), ev_c, if_neg nb0, e3, ev_c]
theorem op_warmth (a1 : Int32) (h : zRel μC μM) : ∃ (r : Int32) (μC1 μM1 : zM), f_X6_warmth a1 μC = some (r, μC1) ∧ f_X7_warmth a1 μM = some (r, μM1) ∧ zRel μC1 μM1 := by
  rcases wi_cases a1 (n := 23) (by omega) with c | ⟨d, hd, rfl⟩
  · refine ask2 (r := -2147483648) h ⟨μC, ?_, h.2⟩ ⟨μM, ?_, frM_rf⟩
    · unfold f_X6_warmth
      rw [isDayC_e, show wi a1 0 23 = false from c, ev_c, if_pos (show bI false = 0 from rfl)]
    · unfold f_X7_warmth
      rw [isDayM_e, show wi a1 0 23 = false from c, ev_c, if_pos (show bI false = 0 from rfl)]
  · refine ask2 h (cq_warmth h.1 h.2 (d := d) (by omega)) ?_
    obtain ⟨m3, e3, hB3⟩ := warmthOf_e h.1 frM_rf (d := d) (by omega)
    refine ⟨m3, ?_, hB3.1⟩
    unfold f_X7_warmth
    rw [isDayM_e, show wi (nI d) 0 23 = true from wi_t (n := 23) (by omega) (by omega), ev_c, if_neg nb0, e3, ev_c]
theorem op_coldest (h : zRel μC μM) : ∃ (r : Int32) (μC1 μM1 : zM), f_X6_coldest μC = some (r, μC1) ∧ f_X7_coldest μM = some (r, μM1) ∧ zRel μC1 μM1 := by
  refine ask2 h (cq_coldest h.1 h.2) ?_
  obtain ⟨m3, e3, hB3⟩ := coldestOf_e h.1 frM_rf
  exact ⟨m3, by unfold f_X7_coldest; rw [e3, ev_c], hB3.1⟩
theorem op_first (a1 : Int32) (h : zRel μC μM) : ∃ (r : Int32) (μC1 μM1 : zM), f_X6_first a1 μC = some (r, μC1) ∧ f_X7_first a1 μM = some (r, μM1) ∧ zRel μC1 μM1 := by
  rcases wi_cases a1 (n := 1) (by omega) with c | ⟨w, hwv, rfl⟩
  · refine ask2 (r := -2) h ⟨μC, ?_, h.2⟩ ⟨μM, ?_, frM_rf⟩
    · unfold f_X6_first
      rw [within_e, show wi a1 0 1 = false from c, ev_c, if_neg (fun q => q rfl)]
    · unfold f_X7_first
      rw [isTwoM_e, show wi a1 0 1 = false from c, ev_c, if_pos (show bI false = 0 from rfl)]
  · refine ask2 h (cq_first h.1 h.2 (w := w) (by omega)) ?_
    obtain ⟨m3, e3, hB3⟩ := firstOf_e h.1 frM_rf (w := w) (by omega)
    refine ⟨m3, ?_, hB3.1⟩
    unfold f_X7_first
    rw [isTwoM_e, show wi (nI w) 0 1 = true from wi_t (n := 1) (by omega) (by omega), ev_c, if_neg nb0, e3, ev_c]
theorem op_sent (h : zRel μC μM) : ∃ (r : Int32) (μC1 μM1 : zM), f_X6_sent μC = some (r, μC1) ∧ f_X7_sent μM = some (r, μM1) ∧ zRel μC1 μM1 := by
  refine ask2 h (cq_sent h.1 h.2) ?_
  obtain ⟨m3, e3, hB3⟩ := sentOf_e h.1 frM_rf
  exact ⟨m3, by unfold f_X7_sent; rw [e3, ev_c], hB3.1⟩
theorem op_wrong (h : zRel μC μM) : ∃ (r : Int32) (μC1 μM1 : zM), f_X6_wrong μC = some (r, μC1) ∧ f_X7_wrong μM = some (r, μM1) ∧ zRel μC1 μM1 := by
  refine ask2 h (cq_wrong h.1 h.2) ?_
  obtain ⟨m3, e3, hB3⟩ := wrongOf_e h.1 frM_rf
  exact ⟨m3, by unfold f_X7_wrong; rw [e3, ev_c], hB3.1⟩
theorem op_sum (h : zRel μC μM) : ∃ (r : Int32) (μC1 μM1 : zM), f_X6_sum μC = some (r, μC1) ∧ f_X7_sum μM = some (r, μM1) ∧ zRel μC1 μM1 := by
  refine ask2 h (cq_sum h.1 h.2) ?_
  obtain ⟨m3, e3, hB3⟩ := sumOf_e h.1 frM_rf
  exact ⟨m3, by unfold f_X7_sum; rw [e3, ev_c], hB3.1⟩
theorem op_count (a1 : Int32) (h : zRel μC μM) : ∃ (r : Int32) (μC1 μM1 : zM), f_X6_count a1 μC = some (r, μC1) ∧ f_X7_count a1 μM = some (r, μM1) ∧ zRel μC1 μM1 := by
  rcases wi_cases a1 (n := 8) (by omega) with c | ⟨w, hwv, rfl⟩
  · have c0 : ∀ j, j ≤ 8 → ¬ a1 = nI j := fun j hj q => by
      have := wi_t (d := j) (n := 8) hj (by omega)
      rw [q, this] at c; cases c
    refine ask2 (r := -2) h ⟨μC, ?_, h.2⟩ ⟨μM, ?_, frM_rf⟩
    · unfold f_X6_count
      rw [if_neg (show ¬ a1 = (0 : Int32) from c0 0 (by omega)), if_neg (show ¬ a1 = (1 : Int32) from c0 1 (by omega)), if_neg (show ¬ a1 = (2 : Int32) from c0 2 (by omega)), if_neg (show ¬ a1 = (3 : Int32) from c0 3 (by omega)), if_neg (show ¬ a1 = (4 : Int32) from c0 4 (by omega)), if_neg (show ¬ a1 = (5 : Int32) from c0 5 (by omega)), if_neg (show ¬ a1 = (6 : Int32) from c0 6 (by omega)), if_neg (show ¬ a1 = (7 : Int32) from c0 7 (by omega)), if_neg (show ¬ a1 = (8 : Int32) from c0 8 (by omega))]
    · unfold f_X7_count
      rw [if_neg (show ¬ a1 = (0 : Int32) from c0 0 (by omega)), if_neg (show ¬ a1 = (1 : Int32) from c0 1 (by omega)), if_neg (show ¬ a1 = (2 : Int32) from c0 2 (by omega)), if_neg (show ¬ a1 = (3 : Int32) from c0 3 (by omega)), if_neg (show ¬ a1 = (4 : Int32) from c0 4 (by omega)), if_neg (show ¬ a1 = (5 : Int32) from c0 5 (by omega)), if_neg (show ¬ a1 = (6 : Int32) from c0 6 (by omega)), if_neg (show ¬ a1 = (7 : Int32) from c0 7 (by omega)), if_neg (show ¬ a1 = (8 : Int32) from c0 8 (by omega))]
  · obtain ⟨m3, e3, hB3, -⟩ := mq_count h.1 frM_rf (w := w) (by omega)
    exact ask2 h (cq_count h.1 h.2 (w := w) (by omega)) ⟨m3, e3, hB3⟩
end OP1
