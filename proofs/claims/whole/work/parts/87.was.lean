-- PURE: of what sort, how long; burnt cards; years
section WA
variable {S μ : zM} {T : zT2}
def wsP (S : zM) (k v : Nat) : Bool := fitS S (setT (tolT S) 1 k v)
def wlP (S : zM) (k v : Nat) : Bool := decide (1 ≤ v) && fitS S (setT (tolT S) 2 k v)
def vWas (S : zM) (k w : Nat) : Int32 := if w = 0 then bits (wsP S k) 4 else bits (wlP S k) 10
theorem vWas_0 {S : zM} {k : Nat} : vWas S k 0 = bits (wsP S k) 4 := if_pos rfl
theorem vWas_1 {S : zM} {k : Nat} : vWas S k 1 = bits (wlP S k) 10 := if_neg (by omega)
theorem cq_was (hw : wfS S) (h : CS S μ) {k w : Nat} (hk : k < itS S 0) (hwh : w < 2) : ∃ μ', f_X6_was (nI k) (nI w) μ = some (vWas S k w, μ') ∧ CS S μ' := by
  have zz := zC
  have hwT := wT_told hw 0
  have h8 : itS S 0 ≤ 8 := hwT.1
  unfold f_X6_was
  obtain ⟨m1, e1, c1, c2, -⟩ := told_e hw h
  obtain ⟨m2, e2, b1, b2⟩ := become_e hwT c2.2.2.1
  rw [e1, ev_c, hasCaller_e c2, show wi (nI k) 0 (nI (tolT S 0 0) - (1 : Int32)) = true from wi_k (n := itS S 0) hk (by omega), ev_c, if_neg nb0, within_e, show wi (nI w) 0 1 = true from wi_t (n := 1) (by omega) (by omega), ev_c, if_pos nb0, e2, ev_c]
  have hsort : ∃ μ', f_X6_sortsThatFit (nI k) m2 = some (bits (wsP S k) 4, μ') ∧ CS S μ' := by
    unfold f_X6_sortsThatFit
    refine loop_X (fun n i (s : Int32 × zM) => f_X6_sortsThatFit_L4 (nI k) (fun (x7 : Int32) μ => some (x7, μ)) n s.1 i s.2) (fun R => ∃ μ', R = some (bits (wsP S k) 4, μ') ∧ CS S μ') 4 (fun v s => s.1 = bits (wsP S k) v ∧ fC m1 s.2 ∧ ∃ T', HT 34 s.2 T' ∧ agr 1 k (tolT S) T') ?_ ?_ 400 0 (0, m2) (by omega) (by omega) ⟨rfl, b2, tolT S, b1, agr_rf⟩
    · intro n s ⟨g1, g2, _⟩
      refine ⟨s.2, ?_, CS_K hw c1 (fK_C g2)⟩
      show f_X6_sortsThatFit_L4 _ _ (n + 1) _ _ _ = _
      rw [f_X6_sortsThatFit_L4, if_pos (show (4 : Int32) ≤ nI 4 from nI_le (Nat.le_refl _) (by omega)), g1]
    · intro n v s hv ⟨g1, g2, T', g3, g4⟩
      have hT := HT_up (v := v) g3 g4 (by omega) (by omega)
      obtain ⟨m4, e4, l1, l2⟩ := run_e (Or.inr rfl) (wT_set1 hwT hv) hT
      have hF := fC_tr g2 (fC_tr (μ2 := m4) (fun a ha => by rw [zup_n (by omega)]) (fC_4 l2))
      have hft : f_X1_fits 34 m4 = some (bI (wsP S k v), m4) := fits_e hw (CS_K hw c1 (fK_C hF)).2.2.1 l1
      show ∃ s' : Int32 × zM, f_X6_sortsThatFit_L4 _ _ (n + 1) _ _ _ = f_X6_sortsThatFit_L4 _ _ n _ _ _ ∧ _
      rw [f_X6_sortsThatFit_L4, if_neg (show ¬ (4 : Int32) ≤ nI v from nI_ge (b := 4) hv (by omega)), ev_st (by omega) (by omega), show f_X2_live 34 (zup s.2 35 k (nI v)) = _ from e4, ev_c, hft, ev_c, g1]
      refine ⟨(bits (wsP S k) (v + 1), m4), ?_, rfl, hF, _, l1.2.2.1, agr_set⟩
      show _ = f_X6_sortsThatFit_L4 _ _ n (if wsP S k v = true then bits (wsP S k) v ||| ((1 : Int32) <<< (nI v &&& 31)) else bits (wsP S k) v) _ _
      cases c : wsP S k v with
      | true => rw [if_neg nb0, ev_v, ev_v, nI_1, if_pos rfl]
      | false => rw [if_pos (show bI false = 0 from rfl), ev_v, nI_1, if_neg (by decide)]
  have hwait : ∃ μ', f_X6_waitsThatFit (nI k) m2 = some (bits (wlP S k) 10, μ') ∧ CS S μ' := by
    unfold f_X6_waitsThatFit
    refine loop_X (fun n i (s : Int32 × zM) => f_X6_waitsThatFit_L4 (nI k) (fun (x7 : Int32) μ => some (x7, μ)) n s.1 i s.2) (fun R => ∃ μ', R = some (bits (wlP S k) 10, μ') ∧ CS S μ') 10 (fun v s => 1 ≤ v ∧ s.1 = bits (wlP S k) v ∧ fC m1 s.2 ∧ ∃ T', HT 34 s.2 T' ∧ agr 2 k (tolT S) T') ?_ ?_ 400 1 (0, m2) (by omega) (by omega) ⟨by omega, rfl, b2, tolT S, b1, agr_rf⟩
    · intro n s ⟨_, g1, g2, _⟩
      refine ⟨s.2, ?_, CS_K hw c1 (fK_C g2)⟩
      show f_X6_waitsThatFit_L4 _ _ (n + 1) _ _ _ = _
      rw [f_X6_waitsThatFit_L4, if_pos (show (9 : Int32) < nI 10 from nI_lt (a := 9) (by omega) (by omega)), g1]
    · intro n v s hv ⟨g0, g1, g2, T', g3, g4⟩
      have hT := HT_up (v := v) g3 g4 (by omega) (by omega)
      obtain ⟨m4, e4, l1, l2⟩ := run_e (Or.inr rfl) (wT_set2 hwT g0 (by omega)) hT
      have hF := fC_tr g2 (fC_tr (μ2 := m4) (fun a ha => by rw [zup_n (by omega)]) (fC_4 l2))
      have hft : f_X1_fits 34 m4 = some (bI (wlP S k v), m4) := by
        have := fits_e hw (CS_K hw c1 (fK_C hF)).2.2.1 l1
        rw [this]
        unfold wlP
        simp [g0]
      show ∃ s' : Int32 × zM, f_X6_waitsThatFit_L4 _ _ (n + 1) _ _ _ = f_X6_waitsThatFit_L4 _ _ n _ _ _ ∧ _
      rw [f_X6_waitsThatFit_L4, if_neg (show ¬ (9 : Int32) < nI v from nI_nlt (a := 9) (by omega) (by omega)), ev_st (by omega) (by omega), show f_X2_live 34 (zup s.2 36 k (nI v)) = _ from e4, ev_c, hft, ev_c, g1]
      refine ⟨(bits (wlP S k) (v + 1), m4), ?_, by omega, rfl, hF, _, l1.2.2.1, agr_set⟩
      show _ = f_X6_waitsThatFit_L4 _ _ n (if wlP S k v = true then bits (wlP S k) v ||| ((1 : Int32) <<< (nI v &&& 31)) else bits (wlP S k) v) _ _
      cases c : wlP S k v with
      | true => rw [if_neg nb0, ev_v, ev_v, nI_1, if_pos rfl]
      | false => rw [if_pos (show bI false = 0 from rfl), ev_v, nI_1, if_neg (by decide)]
  have : w = 0 ∨ w = 1 := by omega
  rcases this with rfl | rfl
  · obtain ⟨m5, e5, r5⟩ := hsort
    rw [if_neg (fun q => q rfl), e5, ev_c, vWas_0]
    exact ⟨m5, rfl, r5⟩
  · obtain ⟨m5, e5, r5⟩ := hwait
    rw [if_pos (show ¬ nI 1 = 0 by decide), e5, ev_c, vWas_1]
    exact ⟨m5, rfl, r5⟩
theorem sortsBy_e (hw : wfS S) (h : frM S μ) {k : Nat} (hk : k < itS S 0) : ∃ μ', f_X7_sortsBy (nI k) μ = some (vWas S k 0, μ') ∧ MB S μ' := by
  have zm := zMt
  have hwT := wT_told hw 0
  have h8 : itS S 0 ≤ 8 := hwT.1
  rw [vWas_0]
  unfold f_X7_sortsBy
  obtain ⟨m1, e1, ⟨b1, b2⟩, b3⟩ := asTold_e hw h
  have e104 : m1 104 k = nI (tolT S 1 k) := (b2.2.2.1 k hk).1
  rw [e1, ev_c, ev_ld (by omega) (by omega), e104]
  refine loop_X (fun n i (s : Int32 × zM) => f_X7_sortsBy_L16 (nI k) (nI (tolT S 1 k)) (fun (x9 : Int32) μ => stI μ 104 (nI k) (nI (tolT S 1 k)) fun μ => some (x9, μ)) n s.1 i s.2) (fun R => ∃ μ', R = some (bits (wsP S k) 4, μ') ∧ MB S μ') 4 (fun v s => s.1 = bits (wsP S k) v ∧ frM S s.2 ∧ MN s.2 (cn S) (cd S) (cf S) 0 ∧ ∃ T', MA s.2 T' ∧ agr 1 k (tolT S) T') ?_ ?_ 400 0 (0, m1) (by omega) (by omega) ⟨rfl, b1, b3, tolT S, b2, agr_rf⟩
  · intro n s ⟨g1, g2, g3, T', g4, g5⟩
    show ∃ μ', f_X7_sortsBy_L16 _ _ _ (n + 1) _ _ _ = _ ∧ _
    have hA := MA_up1 (v := tolT S 1 k) g4 g5
    rw [setT_id] at hA
    rw [f_X7_sortsBy_L16, if_pos (show (4 : Int32) ≤ nI 4 from nI_le (Nat.le_refl _) (by omega)), ev_st (by omega) (by omega), g1]
    exact ⟨_, rfl, frM_up g2 (by omega), hA⟩
  · intro n v s hv ⟨g1, g2, g3, T', g4, g5⟩
    have hA := MA_up1 (v := v) g4 g5
    have hT : MT (zup s.2 104 k (nI v)) (setT (tolT S) 1 k v) := ⟨wT_set1 hwT hv, hA, cn S, cd S, cf S, 0, MN_up g3 (by omega) (by omega) (by omega), fun _ _ => rfl⟩
    obtain ⟨m4, e4, l1, l2⟩ := isFelt_e hw (frM_up g2 (by omega)) hT
    show ∃ s' : Int32 × zM, f_X7_sortsBy_L16 _ _ _ (n + 1) _ _ _ = f_X7_sortsBy_L16 _ _ _ n _ _ _ ∧ _
    rw [f_X7_sortsBy_L16, if_neg (show ¬ (4 : Int32) ≤ nI v from nI_ge (b := 4) hv (by omega)), ev_st (by omega) (by omega), e4, ev_c, g1]
    refine ⟨(bits (wsP S k) (v + 1), m4), ?_, rfl, frM_R (frM_up g2 (by omega)) l2, MN_fr (MN_up g3 (by omega) (by omega) (by omega)) l2, _, MA_fr hA l2, agr_set⟩
    show (if bI (wsP S k v) = 0 then _ else _) = f_X7_sortsBy_L16 _ _ _ n (if wsP S k v = true then bits (wsP S k) v ||| ((1 : Int32) <<< (nI v &&& 31)) else bits (wsP S k) v) _ _
    cases c : wsP S k v with
    | true => rw [if_neg nb0, ev_v, ev_v, nI_1, if_pos rfl]
    | false => rw [if_pos (show bI false = 0 from rfl), ev_v, ev_v, nI_1, if_neg (by decide), or0]
/-- the warmth of a day, if k waited v days -/
def wmB (S : zM) (k v d : Nat) : Int32 := wsum (setT (tolT S) 2 k v) (sim (setT (tolT S) 2 k v) 24) d (itS S 0)
theorem longBy_e (hw : wfS S) (h : frM S μ) {k : Nat} (hk : k < itS S 0) : ∃ μ', f_X7_longBy (nI k) μ = some (vWas S k 1, μ') ∧ MB S μ' ∧ ∀ v, 1 ≤ v → v < 10 → ∀ d, d < 24 → μ' 132 (24 * v + d) = wmB S k v d := by
  have zm := zMt
  have hwT := wT_told hw 0
  have h8 : itS S 0 ≤ 8 := hwT.1
  rw [vWas_1]
  unfold f_X7_longBy
  obtain ⟨m1, e1, ⟨b1, b2⟩, b3⟩ := asTold_e hw h
  have e105 : m1 105 k = nI (tolT S 2 k) := (b2.2.2.1 k hk).2.1
  rw [e1, ev_c, ev_ld (by omega) (by omega), e105]
  refine loop_X (fun n i (s : Int32 × zM) => f_X7_longBy_L16 (nI k) (nI (tolT S 2 k)) (fun (x11 : Int32) μ => stI μ 105 (nI k) (nI (tolT S 2 k)) fun μ => some (x11, μ)) n s.1 i s.2) (fun R => ∃ μ', R = some (bits (wlP S k) 10, μ') ∧ MB S μ' ∧ ∀ v, 1 ≤ v → v < 10 → ∀ d, d < 24 → μ' 132 (24 * v + d) = wmB S k v d) 10 (fun v s => 1 ≤ v ∧ s.1 = bits (wlP S k) v ∧ frM S s.2 ∧ MN s.2 (cn S) (cd S) (cf S) 0 ∧ (∃ T', MA s.2 T' ∧ agr 2 k (tolT S) T') ∧ ∀ u, 1 ≤ u → u < v → ∀ d, d < 24 → s.2 132 (24 * u + d) = wmB S k u d) ?_ ?_ 400 1 (0, m1) (by omega) (by omega) ⟨by omega, rfl, b1, b3, ⟨tolT S, b2, agr_rf⟩, fun u p q => by omega⟩
  · intro n s ⟨_, g1, g2, g3, ⟨T', g4, g5⟩, g6⟩
    show ∃ μ', f_X7_longBy_L16 _ _ _ (n + 1) _ _ _ = _ ∧ _
    have hA := MA_up2 (v := tolT S 2 k) g4 g5
    rw [setT_id] at hA
    rw [f_X7_longBy_L16, if_pos (show (10 : Int32) ≤ nI 10 from nI_le (Nat.le_refl _) (by omega)), ev_st (by omega) (by omega), g1]
    exact ⟨_, rfl, ⟨frM_up g2 (by omega), hA⟩, fun v p q d hd => by rw [zup_n (by omega)]; exact g6 v p q d hd⟩
  · intro n v s hv ⟨g0, g1, g2, g3, ⟨T', g4, g5⟩, g6⟩
    have hA := MA_up2 (v := v) g4 g5
    have hwv := wT_set2 (i := k) hwT g0 (show v ≤ 9 by omega)
    have hT : MT (zup s.2 105 k (nI v)) (setT (tolT S) 2 k v) := ⟨hwv, hA, cn S, cd S, cf S, 0, MN_up g3 (by omega) (by omega) (by omega), fun _ _ => rfl⟩
    obtain ⟨m4, e4, l1, l2⟩ := isFelt_e hw (frM_up g2 (by omega)) hT
    have e4 : f_X7_isFelt (zup s.2 105 k (nI v)) = some (bI (wlP S k v), m4) := by
      rw [e4]
      unfold wlP
      simp [g0]
    have h127 : ∀ d, d < 24 → m4 127 d = wmB S k v d := fun d hd => (l1.2.2.2 d hd).2.1
    show ∃ s' : Int32 × zM, f_X7_longBy_L16 _ _ _ (n + 1) _ _ _ = f_X7_longBy_L16 _ _ _ n _ _ _ ∧ _
    rw [f_X7_longBy_L16, if_neg (show ¬ (10 : Int32) ≤ nI v from nI_ge (b := 10) hv (by omega)), ev_st (by omega) (by omega), e4, ev_c, g1]
    have key : ∀ t : Int32 → zM → Option (Int32 × zM), jn t (fun j47_1 => (if bI (wlP S k v) = 0 then j47_1 (0 : Int32) m4 else j47_1 ((1 : Int32) <<< (nI v &&& 31)) m4)) = t (if wlP S k v = true then (1 : Int32) <<< (nI v &&& 31) else 0) m4 := by
      intro t
      rw [ev_j]
      cases wlP S k v with
      | true => rw [if_neg nb0, if_pos rfl]
      | false => rw [if_pos (show bI false = 0 from rfl), if_neg (by decide)]
    rw [key, ev_v]
    have eb : (bits (wlP S k) v ||| (if wlP S k v = true then (1 : Int32) <<< (nI v &&& 31) else 0)) = bits (wlP S k) (v + 1) := by
      show _ = (if wlP S k v = true then bits (wlP S k) v ||| ((1 : Int32) <<< (nI v &&& 31)) else bits (wlP S k) v)
      cases wlP S k v with
      | true => rw [if_pos rfl, if_pos rfl]
      | false => rw [if_neg (by decide), if_neg (by decide), or0]
    rw [eb]
    -- the row of this patience
    have row : ∃ m5, (∀ a, a ≠ 132 → m5 a = m4 a) ∧ (∀ d, d < 24 → m5 132 (24 * v + d) = wmB S k v d) ∧ (∀ x, x < 24 * v → m5 132 x = m4 132 x) ∧ f_X7_longBy_L52 (nI k) (nI (tolT S 2 k)) (bits (wlP S k) (v + 1)) (nI v) (fun μ => vI (nI v + (1 : Int32)) fun x9 => f_X7_longBy_L16 (nI k) (nI (tolT S 2 k)) (fun (x11 : Int32) μ => stI μ 105 (nI k) (nI (tolT S 2 k)) fun μ => some (x11, μ)) n (bits (wlP S k) (v + 1)) x9 μ) 400 0 m4 = f_X7_longBy_L16 (nI k) (nI (tolT S 2 k)) (fun (x11 : Int32) μ => stI μ 105 (nI k) (nI (tolT S 2 k)) fun μ => some (x11, μ)) n (bits (wlP S k) (v + 1)) (nI (v + 1)) m5 := by
      refine loop_X (fun q i (m : zM) => f_X7_longBy_L52 (nI k) (nI (tolT S 2 k)) (bits (wlP S k) (v + 1)) (nI v) (fun μ => vI (nI v + (1 : Int32)) fun x9 => f_X7_longBy_L16 (nI k) (nI (tolT S 2 k)) (fun (x11 : Int32) μ => stI μ 105 (nI k) (nI (tolT S 2 k)) fun μ => some (x11, μ)) n (bits (wlP S k) (v + 1)) x9 μ) q i m) (fun R => ∃ m5, (∀ a, a ≠ 132 → m5 a = m4 a) ∧ (∀ d, d < 24 → m5 132 (24 * v + d) = wmB S k v d) ∧ (∀ x, x < 24 * v → m5 132 x = m4 132 x) ∧ R = f_X7_longBy_L16 (nI k) (nI (tolT S 2 k)) (fun (x11 : Int32) μ => stI μ 105 (nI k) (nI (tolT S 2 k)) fun μ => some (x11, μ)) n (bits (wlP S k) (v + 1)) (nI (v + 1)) m5) 24 (fun e m => (∀ a, a ≠ 132 → m a = m4 a) ∧ (∀ d, d < e → m 132 (24 * v + d) = wmB S k v d) ∧ ∀ x, x < 24 * v → m 132 x = m4 132 x) ?_ ?_ 400 0 m4 (by omega) (by omega) ⟨fun _ _ => rfl, fun d hd => by omega, fun _ _ => rfl⟩
      · intro q m ⟨p1, p2, p3⟩
        refine ⟨m, p1, p2, p3, ?_⟩
        show f_X7_longBy_L52 _ _ _ _ _ (q + 1) _ _ = _
        rw [f_X7_longBy_L52, if_pos (show (24 : Int32) ≤ nI 24 from nI_le (Nat.le_refl _) (by omega)), ev_v, nI_1]
      · intro q e m he ⟨p1, p2, p3⟩
        show ∃ s' : zM, f_X7_longBy_L52 _ _ _ _ _ (q + 1) _ _ = f_X7_longBy_L52 _ _ _ _ _ q _ _ ∧ _
        rw [f_X7_longBy_L52, if_neg (show ¬ (24 : Int32) ≤ nI e from nI_ge (b := 24) he (by omega)), ev_ld (by omega) (by omega), p1 127 (by omega), h127 e he, q_mul_24, nI_add, ev_st (by omega) (by omega), ev_v, nI_1 e]
        refine ⟨zup m 132 (24 * v + e) (wmB S k v e), rfl, fun a x => by rw [zup_n x]; exact p1 a x, fun d hd => ?_, fun x hx => by rw [zup_o (by omega)]; exact p3 x hx⟩
        by_cases c : d = e
        · subst c; rw [zup_e]
        · rw [zup_o (by omega)]; exact p2 d (by omega)
    obtain ⟨m5, p1, p2, p3, p4⟩ := row
    have hR5 : frM S m5 := by
      have := frM_R (frM_up (a := 105) (i := k) (v := nI v) g2 (by omega)) l2
      exact ⟨fun a ha => by rw [p1 a (by omega)]; exact this.1 a ha, by rw [p1 100 (by omega)]; exact this.2.1, by rw [p1 100 (by omega)]; exact this.2.2.1, by rw [p1 100 (by omega)]; exact this.2.2.2⟩
    have hN5 : MN m5 (cn S) (cd S) (cf S) 0 := by
      have := MN_fr (MN_up (a := 105) (i := k) (v := nI v) g3 (by omega) (by omega) (by omega)) l2
      unfold MN at this ⊢
      rw [p1 100 (by omega), p1 116 (by omega), p1 117 (by omega)]
      exact this
    have hA5 : MA m5 (setT (tolT S) 2 k v) := by
      have := MA_fr hA l2
      unfold MA at this ⊢
      rw [p1 100 (by omega), p1 104 (by omega), p1 105 (by omega), p1 106 (by omega), p1 107 (by omega), p1 109 (by omega), p1 110 (by omega), p1 111 (by omega)]
      exact this
    refine ⟨(bits (wlP S k) (v + 1), m5), p4, by omega, rfl, hR5, hN5, ⟨_, hA5, agr_set⟩, fun u u1 u2 d hd => ?_⟩
    by_cases c : u = v
    · subst c; exact p2 d hd
    · show m5 132 (24 * u + d) = _
      rw [p3 _ (by omega), frR_at l2 (by omega) (by omega), zup_n (by omega)]
      exact g6 u u1 (by omega) d hd
end WA
section WAo
variable {μC μM : zM}
theorem op_was (a1 a2 : Int32) (h : zRel μC μM) : ∃ (r : Int32) (μC1 μM1 : zM), f_X6_was a1 a2 μC = some (r, μC1) ∧ f_X7_was a1 a2 μM = some (r, μM1) ∧ zRel μC1 μM1 := by
  have h8 : itS μM 0 ≤ 8 := (wT_told h.1 0).1
  obtain ⟨m, e, h1, h2, -⟩ := told_e h.1 h.2
  obtain ⟨m2, e2, hB⟩ := isCallerM_e h.1 frM_rf a1
  rcases wi_cases1 a1 (n := itS μM 0) (by omega) with c | ⟨k, hk, rfl⟩
  · refine ask2 (r := -2) h ⟨m, ?_, h1⟩ ⟨m2, ?_, hB.1⟩
    · unfold f_X6_was
      rw [e, ev_c, hasCaller_e h2, show wi a1 0 (nI (tolT μM 0 0) - (1 : Int32)) = false from c, ev_c, if_pos (show bI false = 0 from rfl)]
    · unfold f_X7_was
      rw [e2, ev_c, c, if_pos (show bI false = 0 from rfl)]
  · have hkw : wi (nI k) 0 (nI (itS μM 0) - (1 : Int32)) = true := wi_k hk (by omega)
    rcases wi_cases a2 (n := 1) (by omega) with c | ⟨w, hwv, rfl⟩
    · refine ask2 (r := -2) h ⟨m, ?_, h1⟩ ⟨m2, ?_, hB.1⟩
      · unfold f_X6_was
        rw [e, ev_c, hasCaller_e h2, show wi (nI k) 0 (nI (tolT μM 0 0) - (1 : Int32)) = true from hkw, ev_c, if_neg nb0, within_e, show wi a2 0 1 = false from c, ev_c, if_neg (fun q => q rfl)]
      · unfold f_X7_was
        rw [e2, ev_c, hkw, if_neg nb0, isTwoM_e, show wi a2 0 1 = false from c, ev_c, if_pos (show bI false = 0 from rfl)]
    · refine ask2 h (cq_was h.1 h.2 hk (w := w) (by omega)) ?_
      have : w = 0 ∨ w = 1 := by omega
      rcases this with rfl | rfl
      · obtain ⟨m3, e3, hB3⟩ := sortsBy_e h.1 hB.1 hk
        refine ⟨m3, ?_, hB3.1⟩
        unfold f_X7_was
        rw [e2, ev_c, hkw, if_neg nb0, isTwoM_e, show wi (nI 0) 0 1 = true from wi_t (n := 1) (by omega) (by omega), ev_c, if_neg nb0, if_neg (fun q => q rfl), e3, ev_c]
      · obtain ⟨m3, e3, hB3, -⟩ := longBy_e h.1 hB.1 hk
        refine ⟨m3, ?_, hB3.1⟩
        unfold f_X7_was
        rw [e2, ev_c, hkw, if_neg nb0, isTwoM_e, show wi (nI 1) 0 1 = true from wi_t (n := 1) (by omega) (by omega), ev_c, if_neg nb0, if_pos (show ¬ nI 1 = 0 by decide), e3, ev_c]
end WAo
