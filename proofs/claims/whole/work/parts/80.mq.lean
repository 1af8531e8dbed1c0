-- PURE: what the reference answers
abbrev tS (S : zM) : zSS := sim (tolT S) 24
section MQ
variable {S μ : zM} {T : zT2}
theorem MT_of (hw : wfS S) (hA : MA μ (tolA S)) {b : Int32} (hN : MN μ (cn S) (cd S) (cf S) b) : MT μ (tolB S b) := ⟨wT_told hw b, hA, cn S, cd S, cf S, b, hN, fun _ _ => rfl⟩
theorem frM_R {μ' : zM} (h : frM S μ) (hf : frR μ μ') : frM S μ' := ⟨fun a ha => by rw [frR_at hf (by omega) (by omega)]; exact h.1 a ha, by rw [hf.2 11 (by omega) (by omega)]; exact h.2.1, by rw [hf.2 28 (by omega) (by omega)]; exact h.2.2.1, by rw [hf.2 37 (by omega) (by omega)]; exact h.2.2.2⟩
theorem MB_R {μ' : zM} (h : MB S μ) (hf : frR μ μ') : MB S μ' := ⟨frM_R h.1 hf, MA_fr h.2 hf⟩
theorem MTo_R {μ' : zM} (h : MTo S μ) (hf : frR μ μ') : MTo S μ' := ⟨MB_R h.1 hf, MN_fr h.2 hf⟩
theorem runsTold_e (hw : wfS S) (h : frM S μ) : ∃ μ', f_X7_runsTold μ = some ((), μ') ∧ MTo S μ' ∧ MRn μ' (tolT S) := by
  unfold f_X7_runsTold
  obtain ⟨m1, e1, h1⟩ := asTold_e hw h
  rw [e1, ev_c]
  obtain ⟨m2, e2, h2, h3⟩ := runs_e (MT_of hw h1.1.2 h1.2)
  rw [e2, ev_c]
  exact ⟨m2, rfl, MTo_R h1 h3, h2⟩
theorem nm_ci (hw : wT T) (k : Nat) : ((sim T 24).2.2 k).isSome = ((sim T 24).1 k).isSome := by
  obtain ⟨-, -, -, h⟩ := sim_I2 hw 24 k
  cases e1 : (sim T 24).1 k with
  | none => rw [h.mp e1]
  | some c =>
    cases e2 : (sim T 24).2.2 k with
    | none => rw [h.mpr e2] at e1; cases e1
    | some v => rfl
theorem sumNow_e (h : MRn μ T) : f_X7_sumNow μ = some (tsum T (sim T 24) (T 0 0), μ) := by
  have zz := zMt
  unfold f_X7_sumNow
  rw [← wtot_t]
  refine loop_X (fun n i (a : Int32) => f_X7_sumNow_L4 (fun (x5 : Int32) μ => some (x5, μ)) n a i μ) (fun R => R = some (wtot T (sim T 24) (T 0 0) 24, μ)) 24 (fun d a => a = wtot T (sim T 24) (T 0 0) d) ?_ ?_ 400 0 0 (by omega) (by omega) rfl
  · intro n a ha
    show f_X7_sumNow_L4 _ (n + 1) _ _ _ = _
    rw [f_X7_sumNow_L4, if_pos (show (24 : Int32) ≤ nI 24 from nI_le (Nat.le_refl _) (by omega)), ha]
  · intro n d a hd ha
    refine ⟨_, ?_, rfl⟩
    show f_X7_sumNow_L4 _ (n + 1) _ _ _ = f_X7_sumNow_L4 _ n _ _ _
    rw [f_X7_sumNow_L4, if_neg (show ¬ (24 : Int32) ≤ nI d from nI_ge (b := 24) hd (by omega)), ev_ld (by omega) (by omega), (h.2.2.2 d hd).2.1, ev_v, ev_v, nI_1, ha]; rfl
theorem insNow_e (hw : wT T) (hn : μ 100 2 = nI (T 0 0)) (h : MRn μ T) : f_X7_insNow μ = some (cntI (fun k => ((sim T 24).1 k).isSome) (T 0 0), μ) := by
  have zz := zMt
  have h8 := hw.1
  unfold f_X7_insNow
  refine loop_X (fun n i (a : Int32) => f_X7_insNow_L4 (fun (x9 : Int32) μ => some (x9, μ)) n a i μ) (fun R => R = some (cntI (fun k => ((sim T 24).1 k).isSome) (T 0 0), μ)) (T 0 0) (fun k a => a = cntI (fun k => ((sim T 24).1 k).isSome) k) ?_ ?_ 400 0 0 (by omega) (by omega) rfl
  · intro n a ha
    show f_X7_insNow_L4 _ (n + 1) _ _ _ = _
    rw [f_X7_insNow_L4, ev_g, hn, if_pos (nI_le (Nat.le_refl _) (by omega)), ha]
  · intro n k a hk ha
    refine ⟨_, ?_, rfl⟩
    show f_X7_insNow_L4 _ (n + 1) _ _ _ = f_X7_insNow_L4 _ n _ _ _
    rw [f_X7_insNow_L4, ev_g, hn, if_neg (nI_ge hk (by omega)), ev_ld (by omega) (by omega), (h.1 k hk).2, ha]
    show _ = f_X7_insNow_L4 _ n (if ((sim T 24).1 k).isSome = true then cntI (fun k => ((sim T 24).1 k).isSome) k + 1 else cntI (fun k => ((sim T 24).1 k).isSome) k) _ _
    rw [← nm_ci hw k]
    cases e : (sim T 24).2.2 k with
    | none => rw [if_pos (show oI none = -1 from rfl), ev_v, ev_v, nI_1, if_neg (by decide), Int32.add_zero]
    | some v =>
      have := (sim_I2 hw 24 k).2.2.1 v e
      rw [if_neg (show ¬ oI (some v) = -1 from nI_m1 (by omega)), ev_v, ev_v, nI_1, if_pos (show (some v).isSome = true from rfl)]
theorem or0 (x : Int32) : x ||| 0 = x := by
  apply b_ext
  intro i hi
  rw [b_or, b_0, Bool.or_false]
theorem sentNow_e (hw : wT T) (hn : μ 100 2 = nI (T 0 0)) (h : MRn μ T) : f_X7_sentNow μ = some (bits (fun k => ((sim T 24).2.1 k).isSome) (T 0 0), μ) := by
  have zz := zMt
  have h8 := hw.1
  unfold f_X7_sentNow
  refine loop_X (fun n i (a : Int32) => f_X7_sentNow_L4 (fun (x9 : Int32) μ => some (x9, μ)) n a i μ) (fun R => R = some (bits (fun k => ((sim T 24).2.1 k).isSome) (T 0 0), μ)) (T 0 0) (fun k a => a = bits (fun k => ((sim T 24).2.1 k).isSome) k) ?_ ?_ 400 0 0 (by omega) (by omega) rfl
  · intro n a ha
    show f_X7_sentNow_L4 _ (n + 1) _ _ _ = _
    rw [f_X7_sentNow_L4, ev_g, hn, if_pos (nI_le (Nat.le_refl _) (by omega)), ha]
  · intro n k a hk ha
    have hst : stn T (sim T 24) k 23 < 5 := stn_lt
    refine ⟨_, ?_, rfl⟩
    show f_X7_sentNow_L4 _ (n + 1) _ _ _ = f_X7_sentNow_L4 _ n _ _ _
    rw [f_X7_sentNow_L4, ev_g, hn, if_neg (nI_ge hk (by omega)), ev_ld (by omega) (by omega), (h.1 k hk).1, ha]
    show _ = f_X7_sentNow_L4 _ n (if ((sim T 24).2.1 k).isSome = true then bits (fun k => ((sim T 24).2.1 k).isSome) k ||| ((1 : Int32) <<< (nI k &&& 31)) else bits (fun k => ((sim T 24).2.1 k).isSome) k) _ _
    have h4 := sent_4 hw k hk
    by_cases c : stn T (sim T 24) k 23 = 4
    · rw [if_neg (show ¬ ¬ nI (stn T (sim T 24) k 23) = (4 : Int32) from fun q => q (by rw [c]; rfl)), ev_v, ev_v, nI_1, if_pos (h4.mp c)]
    · rw [if_pos (show ¬ nI (stn T (sim T 24) k 23) = (4 : Int32) from fun q => c ((nI_eq (by omega) (by omega)).mp q)), ev_v, ev_v, nI_1, if_neg (fun q => c (h4.mpr q)), or0]
theorem ones_e (p : Nat → Bool) {n : Nat} (hn : n ≤ 8) : f_X7_ones (bits p n) μ = some (cntI p n, μ) := by
  unfold f_X7_ones
  rw [← cntI_ext (p := p) 8 hn]
  refine loop_X (fun q i (a : Int32) => f_X7_ones_L4 (bits p n) (fun (x8 : Int32) μ => some (x8, μ)) q a i μ) (fun R => R = some (cntI (fun i => decide (i < n) && p i) 8, μ)) 8 (fun k a => a = cntI (fun i => decide (i < n) && p i) k) ?_ ?_ 400 0 0 (by omega) (by omega) rfl
  · intro q a ha
    show f_X7_ones_L4 _ _ (q + 1) _ _ _ = _
    rw [f_X7_ones_L4, if_pos (show (8 : Int32) ≤ nI 8 from nI_le (Nat.le_refl _) (by omega)), ha]
  · intro q k a hk ha
    refine ⟨_, ?_, rfl⟩
    show f_X7_ones_L4 _ _ (q + 1) _ _ _ = f_X7_ones_L4 _ _ q _ _ _
    rw [f_X7_ones_L4, if_neg (show ¬ (8 : Int32) ≤ nI k from nI_ge (b := 8) hk (by omega)), isInM_e _ (by omega), ev_c, ha, tb_bits p (by omega) n (by omega)]
    show _ = f_X7_ones_L4 _ _ q (if (decide (k < n) && p k) = true then cntI (fun i => decide (i < n) && p i) k + 1 else cntI (fun i => decide (i < n) && p i) k) _ _
    cases c : (decide (k < n) && p k) with
    | true => rw [if_neg (by decide), ev_v, ev_v, nI_1, if_pos rfl]
    | false => rw [if_pos (show bI false = 0 from rfl), ev_v, ev_v, nI_1, if_neg (by decide), Int32.add_zero]
/-- the least value's first place among the first n + 1 -/
def cld (w : Nat → Int32) : Nat → Nat
  | 0 => 0
  | n + 1 => if w (n + 1) < w (cld w n) then n + 1 else cld w n
theorem cld_le (w : Nat → Int32) : ∀ n, cld w n ≤ n
  | 0 => Nat.le_refl _
  | n + 1 => by
    have := cld_le w n
    unfold cld
    split <;> omega
def vWm (S : zM) (d : Nat) : Int32 := wsum (tolT S) (tS S) d (itS S 0)
theorem standsOf_e (hw : wfS S) (h : frM S μ) {d k : Nat} (hd : d < 24) (hk : k < itS S 0) : ∃ μ', f_X7_standsOf (nI d) (nI k) μ = some (nI (stn (tolT S) (tS S) k d), μ') ∧ MB S μ' := by
  have zz := zMt
  unfold f_X7_standsOf
  have h8 := (wT_told hw 0).1
  have h8 : itS S 0 ≤ 8 := h8
  obtain ⟨m, e, h1, h2⟩ := runsTold_e hw h
  rw [e, ev_c, q_mul_8, nI_add, ev_ld (by omega) (by omega), (h2.2.2.2 d hd).2.2.2 k hk]
  exact ⟨m, rfl, h1.1⟩
theorem nameOf_e (hw : wfS S) (h : frM S μ) {k : Nat} (hk : k < itS S 0) : ∃ μ', f_X7_nameOf (nI k) μ = some (oI ((tS S).2.2 k), μ') ∧ MB S μ' := by
  have zz := zMt
  unfold f_X7_nameOf
  have h8 : itS S 0 ≤ 8 := (wT_told hw 0).1
  obtain ⟨m, e, h1, h2⟩ := runsTold_e hw h
  rw [e, ev_c, ev_ld (by omega) (by omega), (h2.1 k hk).2]
  exact ⟨m, rfl, h1.1⟩
def vDoor (S : zM) (d w : Nat) : Int32 := if w = 0 then oI (doorS (tolT S) d) else if w = 1 then cntI (hatP (tolT S) (tS S) d) (itS S 0) else bits (fun k => decide (stn (tolT S) (tS S) k d = 1)) (itS S 0)
theorem doorOf_e (hw : wfS S) (h : frM S μ) {d w : Nat} (hd : d < 24) (hwh : w < 3) : ∃ μ', f_X7_doorOf (nI d) (nI w) μ = some (vDoor S d w, μ') ∧ MB S μ' := by
  have zz := zMt
  unfold f_X7_doorOf
  have h8 : itS S 0 ≤ 8 := (wT_told hw 0).1
  obtain ⟨m, e, h1, h2⟩ := runsTold_e hw h
  rw [e, ev_c]
  have hn : m 100 2 = nI (itS S 0) := h1.1.2.1
  obtain ⟨r1, r2, r3, r4⟩ := h2.2.2.2 d hd
  refine ⟨m, ?_, h1.1⟩
  refine loop_X (fun n i (a : Int32) => f_X7_doorOf_L9 (nI d) (nI w) (fun (x9 : Int32) μ => (if ¬ nI w = 0 then (if ¬ nI w = (1 : Int32) then some (x9, μ) else ldI μ 126 (nI d) fun x12 => some (x12, μ)) else ldI μ 125 (nI d) fun x13 => some (x13, μ))) n a i m) (fun R => R = some (vDoor S d w, m)) (itS S 0) (fun k a => a = bits (fun k => decide (stn (tolT S) (tS S) k d = 1)) k) ?_ ?_ 400 0 0 (by omega) (by omega) rfl
  · intro n a ha
    show f_X7_doorOf_L9 _ _ _ (n + 1) _ _ _ = _
    rw [f_X7_doorOf_L9, ev_g, hn, if_pos (nI_le (Nat.le_refl _) (by omega)), ha, ev_ld (by omega) (by omega), ev_ld (by omega) (by omega), r1, r3]
    unfold vDoor
    have : w = 0 ∨ w = 1 ∨ w = 2 := by omega
    rcases this with rfl | rfl | rfl
    · rw [if_neg (fun q => q rfl)]; rfl
    · rw [if_pos (by decide), if_neg (fun q => q rfl)]; rfl
    · rw [if_pos (by decide), if_pos (by decide)]; rfl
  · intro n k a hk ha
    have hst : stn (tolT S) (tS S) k d < 5 := stn_lt
    refine ⟨_, ?_, rfl⟩
    show f_X7_doorOf_L9 _ _ _ (n + 1) _ _ _ = f_X7_doorOf_L9 _ _ _ n _ _ _
    rw [f_X7_doorOf_L9, ev_g, hn, if_neg (nI_ge hk (by omega)), q_mul_8, nI_add, ev_ld (by omega) (by omega), r4 k hk, ha]
    show _ = f_X7_doorOf_L9 _ _ _ n (if decide (stn (tolT S) (tS S) k d = 1) = true then bits (fun k => decide (stn (tolT S) (tS S) k d = 1)) k ||| ((1 : Int32) <<< (nI k &&& 31)) else bits (fun k => decide (stn (tolT S) (tS S) k d = 1)) k) _ _
    by_cases c : stn (tolT S) (tS S) k d = 1
    · rw [if_neg (show ¬ ¬ nI (stn (tolT S) (tS S) k d) = (1 : Int32) from fun q => q (by rw [c]; rfl)), ev_v, ev_v, nI_1, if_pos (by simp [c])]
    · rw [if_pos (show ¬ nI (stn (tolT S) (tS S) k d) = (1 : Int32) from fun q => c ((nI_eq (by omega) (by omega)).mp q)), ev_v, ev_v, nI_1, if_neg (by simp [c]), or0]
theorem warmthOf_e (hw : wfS S) (h : frM S μ) {d : Nat} (hd : d < 24) : ∃ μ', f_X7_warmthOf (nI d) μ = some (vWm S d, μ') ∧ MB S μ' := by
  have zz := zMt
  unfold f_X7_warmthOf
  obtain ⟨m, e, h1, h2⟩ := runsTold_e hw h
  rw [e, ev_c, ev_ld (by omega) (by omega), (h2.2.2.2 d hd).2.1]
  exact ⟨m, rfl, h1.1⟩
theorem coldestOf_e (hw : wfS S) (h : frM S μ) : ∃ μ', f_X7_coldestOf μ = some (nI (cld (vWm S) 23), μ') ∧ MB S μ' := by
  have zz := zMt
  unfold f_X7_coldestOf
  obtain ⟨m, e, h1, h2⟩ := runsTold_e hw h
  rw [e, ev_c]
  have hv : ∀ d, d < 24 → m 127 d = vWm S d := fun d hd => (h2.2.2.2 d hd).2.1
  refine ⟨m, ?_, h1.1⟩
  refine loop_X (fun n i (a : Int32) => f_X7_coldestOf_L8 (fun (x7 : Int32) μ => some (x7, μ)) n a i m) (fun R => R = some (nI (cld (vWm S) 23), m)) 24 (fun k a => 1 ≤ k ∧ a = nI (cld (vWm S) (k - 1))) ?_ ?_ 400 1 0 (by omega) (by omega) ⟨by omega, rfl⟩
  · intro n a ⟨_, ha⟩
    show f_X7_coldestOf_L8 _ (n + 1) _ _ _ = _
    rw [f_X7_coldestOf_L8, if_pos (show (24 : Int32) ≤ nI 24 from nI_le (Nat.le_refl _) (by omega)), ha]
  · intro n k a hk ⟨h1k, ha⟩
    have hc := cld_le (vWm S) (k - 1)
    refine ⟨_, ?_, by omega, rfl⟩
    show f_X7_coldestOf_L8 _ (n + 1) _ _ _ = f_X7_coldestOf_L8 _ n _ _ _
    rw [f_X7_coldestOf_L8, if_neg (show ¬ (24 : Int32) ≤ nI k from nI_ge (b := 24) hk (by omega)), ev_ld (by omega) (by omega), ha, ev_ld (by omega) (by omega), hv k hk, hv _ (by omega)]
    have e9 : cld (vWm S) (k + 1 - 1) = if vWm S k < vWm S (cld (vWm S) (k - 1)) then k else cld (vWm S) (k - 1) := by
      obtain ⟨j, rfl⟩ : ∃ j, k = j + 1 := ⟨k - 1, by omega⟩
      rfl
    rw [e9]
    by_cases c : vWm S k < vWm S (cld (vWm S) (k - 1))
    · rw [if_pos c, if_neg (Int32.not_le.mpr c), ev_v, nI_1]
    · rw [if_neg c, if_pos (Int32.not_lt.mp c), ev_v, nI_1]
def vFirst (S : zM) (w : Nat) : Int32 := if w = 0 then oI (fdD (tolT S) (tS S)) else oI (fdS (tolT S) (tS S))
theorem firstOf_e (hw : wfS S) (h : frM S μ) {w : Nat} (hwh : w < 2) : ∃ μ', f_X7_firstOf (nI w) μ = some (vFirst S w, μ') ∧ MB S μ' := by
  unfold f_X7_firstOf
  obtain ⟨m, e, h1, h2⟩ := runsTold_e hw h
  rw [e, ev_c, ev_g, ev_g, h2.2.1, h2.2.2.1]
  refine ⟨m, ?_, h1.1⟩
  unfold vFirst
  have : w = 0 ∨ w = 1 := by omega
  rcases this with rfl | rfl
  · rw [if_neg (fun q => q rfl)]; rfl
  · rw [if_pos (by decide)]; rfl
def vSent (S : zM) : Int32 := bits (fun k => ((tS S).2.1 k).isSome) (itS S 0)
theorem sentOf_e (hw : wfS S) (h : frM S μ) : ∃ μ', f_X7_sentOf μ = some (vSent S, μ') ∧ MB S μ' := by
  unfold f_X7_sentOf
  obtain ⟨m, e, h1, h2⟩ := runsTold_e hw h
  rw [e, ev_c, sentNow_e (wT_told hw 0) h1.1.2.1 h2, ev_c]
  exact ⟨m, rfl, h1.1⟩
def vWrong (S : zM) : Int32 := bits (misP (tolT S) (tS S)) (itS S 0)
theorem wrongOf_e (hw : wfS S) (h : frM S μ) : ∃ μ', f_X7_wrongOf μ = some (vWrong S, μ') ∧ MB S μ' := by
  have zz := zMt
  have hwT := wT_told hw 0
  have h8 : itS S 0 ≤ 8 := hwT.1
  unfold f_X7_wrongOf
  obtain ⟨m, e, h1, h2⟩ := runsTold_e hw h
  rw [e, ev_c]
  have hn : m 100 2 = nI (itS S 0) := h1.1.2.1
  refine ⟨m, ?_, h1.1⟩
  refine loop_X (fun n i (a : Int32) => f_X7_wrongOf_L8 (fun (x14 : Int32) μ => some (x14, μ)) n a i m) (fun R => R = some (vWrong S, m)) (itS S 0) (fun k a => a = bits (misP (tolT S) (tS S)) k) ?_ ?_ 400 0 0 (by omega) (by omega) rfl
  · intro n a ha
    show f_X7_wrongOf_L8 _ (n + 1) _ _ _ = _
    rw [f_X7_wrongOf_L8, ev_g, hn, if_pos (nI_le (Nat.le_refl _) (by omega)), ha]; rfl
  · intro n k a hk ha
    have hs := (h1.1.2.2.2.1 k hk).1
    have hs : m 104 k = nI (tolT S 1 k) := hs
    have hb : tolT S 1 k < 4 := (hwT.2.2.1 k hk).1
    refine ⟨_, ?_, rfl⟩
    show f_X7_wrongOf_L8 _ (n + 1) _ _ _ = f_X7_wrongOf_L8 _ n _ _ _
    rw [f_X7_wrongOf_L8, ev_g, hn, if_neg (nI_ge hk (by omega)), ev_ld (by omega) (by omega), (h2.1 k hk).2, ev_ld (by omega) (by omega), ev_ld (by omega) (by omega), hs, (h2.1 k hk).2, ha]
    show _ = f_X7_wrongOf_L8 _ n (if misP (tolT S) (tS S) k = true then bits (misP (tolT S) (tS S)) k ||| ((1 : Int32) <<< (nI k &&& 31)) else bits (misP (tolT S) (tS S)) k) _ _
    cases e2 : (tS S).2.2 k with
    | none =>
      have : misP (tolT S) (tS S) k = false := by unfold misP; rw [e2]
      rw [this, if_pos (show oI none = -1 from rfl), ev_v, ev_v, nI_1, if_neg (by decide), or0]
    | some v =>
      have hv := (sim_I2 hwT 24 k).2.2.1 v e2
      have : misP (tolT S) (tS S) k = !decide (v = tolT S 1 k) := by unfold misP; rw [e2]
      rw [this, if_neg (show ¬ oI (some v) = -1 from nI_m1 (by omega))]
      show (if nI v = nI (tolT S 1 k) then _ else _) = _
      by_cases c : v = tolT S 1 k
      · rw [if_pos (by rw [c]), ev_v, ev_v, nI_1, if_neg (by simp [c]), or0]
      · rw [if_neg (fun q => c ((nI_eq (by omega) (by omega)).mp q)), ev_v, ev_v, nI_1, if_pos (by simp [c])]
def vSum (S : zM) : Int32 := tsum (tolT S) (tS S) (itS S 0)
theorem sumOf_e (hw : wfS S) (h : frM S μ) : ∃ μ', f_X7_sumOf μ = some (vSum S, μ') ∧ MB S μ' := by
  unfold f_X7_sumOf
  obtain ⟨m, e, h1, h2⟩ := runsTold_e hw h
  rw [e, ev_c, sumNow_e h2, ev_c]
  exact ⟨m, rfl, h1.1⟩
theorem callerOf_e (h : MB S μ) (hw : wfS S) {k w : Nat} (hk : k < itS S 0) (hwh : w < 4) : f_X7_callerOf (nI k) (nI w) μ = some (nI (tolA S (w + 1) k), μ) := by
  have zz := zMt
  have h8 : itS S 0 ≤ 8 := (wT_told hw 0).1
  obtain ⟨a1, a2, a3, a4⟩ := h.2.2.2.1 k hk
  unfold f_X7_callerOf
  rw [ev_ld (by omega) (by omega), ev_ld (by omega) (by omega), ev_ld (by omega) (by omega), ev_ld (by omega) (by omega), a1, a2, a3, a4]
  have : w = 0 ∨ w = 1 ∨ w = 2 ∨ w = 3 := by omega
  rcases this with rfl | rfl | rfl | rfl
  · rw [if_neg (fun q => q rfl)]
  · rw [if_pos (by decide), if_neg (fun q => q rfl)]
  · rw [if_pos (by decide), if_pos (by decide), if_neg (fun q => q rfl)]
  · rw [if_pos (by decide), if_pos (by decide), if_pos (by decide)]
theorem manOf_e (h : MB S μ) (hw : wfS S) {m w : Nat} (hk : m < itS S 1) (hwh : w < 3) : f_X7_manOf (nI m) (nI w) μ = some (nI (tolA S (w + 6) m), μ) := by
  have zz := zMt
  have h8 : itS S 1 ≤ 4 := (wT_told hw 0).2.1
  obtain ⟨a1, a2, a3⟩ := h.2.2.2.2 m hk
  unfold f_X7_manOf
  rw [ev_ld (by omega) (by omega), ev_ld (by omega) (by omega), ev_ld (by omega) (by omega), a1, a2, a3]
  have : w = 0 ∨ w = 1 ∨ w = 2 := by omega
  rcases this with rfl | rfl | rfl
  · rw [if_neg (fun q => q rfl)]
  · rw [if_pos (by decide), if_neg (fun q => q rfl)]
  · rw [if_pos (by decide), if_pos (by decide)]
theorem isDayM_e (a : Int32) : f_X7_isDay a μ = some (bI (wi a 0 23), μ) := by
  unfold f_X7_isDay
  rw [in_e, ev_c, ev_gb]
theorem isTwoM_e (a : Int32) : f_X7_isTwo a μ = some (bI (wi a 0 1), μ) := by
  unfold f_X7_isTwo
  rw [in_e, ev_c, ev_gb]
theorem isTextM_e (a : Int32) : f_X7_isText a μ = some (bI (wi a 0 1), μ) := by
  unfold f_X7_isText
  rw [in_e, ev_c, ev_gb]
theorem isSheetM_e (a : Int32) : f_X7_isSheet a μ = some (bI (wi a 0 3), μ) := by
  unfold f_X7_isSheet
  rw [in_e, ev_c, ev_gb]
theorem isCallerM_e (hw : wfS S) (h : frM S μ) (a : Int32) : ∃ μ', f_X7_isCaller a μ = some (bI (wi a 0 (nI (itS S 0) - (1 : Int32))), μ') ∧ MB S μ' := by
  unfold f_X7_isCaller
  obtain ⟨m, e, h1⟩ := reads_e hw h
  rw [e, ev_c, ev_g, h1.2.1, in_e, ev_c, ev_gb]
  exact ⟨m, rfl, h1⟩
theorem isManM_e (hw : wfS S) (h : frM S μ) (a : Int32) : ∃ μ', f_X7_isMan a μ = some (bI (wi a 0 (nI (itS S 1) - (1 : Int32))), μ') ∧ MB S μ' := by
  unfold f_X7_isMan
  obtain ⟨m, e, h1⟩ := reads_e hw h
  rw [e, ev_c, ev_g, h1.2.2.1, in_e, ev_c, ev_gb]
  exact ⟨m, rfl, h1⟩
end MQ
