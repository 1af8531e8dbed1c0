-- PURE: the reference reads its texts
def frM (S μ : zM) : Prop := (∀ a, a = 101 ∨ a = 102 ∨ a = 113 ∨ a = 114 ∨ a = 130 ∨ a = 131 ∨ 133 ≤ a ∧ a ≤ 136 → μ a = S a) ∧ μ 100 11 = S 100 11 ∧ μ 100 28 = S 100 28 ∧ μ 100 37 = S 100 37
theorem frM_rf {S : zM} : frM S S := ⟨fun _ _ => rfl, rfl, rfl, rfl⟩
theorem frM_tr {S μ μ' : zM} (h : frM S μ) (h2 : frM μ μ') : frM S μ' := ⟨fun a x => (h2.1 a x).trans (h.1 a x), h2.2.1.trans h.2.1, h2.2.2.1.trans h.2.2.1, h2.2.2.2.trans h.2.2.2⟩
def bY (S : zM) (t i : Nat) : Int32 := if i < tz S t then bX S t i else -1
theorem mnS_m1 {s : Nat} (hs : s ≤ 3) : mnS s (-1) = none := by
  have : s = 0 ∨ s = 1 ∨ s = 2 ∨ s = 3 := by omega
  rcases this with rfl | rfl | rfl | rfl <;> decide
theorem okY {S : zM} {t k j : Nat} (hj : j < wd t - 1) : okB S t (wd t * k + j) = (mnS (sgn t j) (bY S t (wd t * k + j))).isSome := by
  have hw := wd_pos t
  have e : (wd t * k + j) % wd t = j := by rw [Nat.mul_add_mod]; exact Nat.mod_eq_of_lt (by omega)
  unfold okB bY
  rw [e, if_neg (by omega)]
  by_cases c : wd t * k + j < tz S t
  · rw [if_pos c]; simp [c]
  · rw [if_neg c, mnS_m1 sgn_le]; simp [c]
theorem wi2 (x : Int32) : wi x 49 57 = (mnS 2 x).isSome := by
  show _ = (mnC x).isSome
  unfold wi mnC
  by_cases h1 : x < 49
  · rw [if_pos h1]; simp [h1]
  · rw [if_neg h1]
    by_cases h2 : (57 : Int32) < x
    · rw [if_pos h2]; simp [h2]
    · rw [if_neg h2]; simp [h1, h2]
theorem wi3 (x : Int32) : wi x 97 120 = (mnS 3 x).isSome := by
  show _ = (mnD x).isSome
  unfold wi mnD
  by_cases h1 : x < 97
  · rw [if_pos h1]; simp [h1]
  · rw [if_neg h1]
    by_cases h2 : (120 : Int32) < x
    · rw [if_pos h2]; simp [h2]
    · rw [if_neg h2]; simp [h1, h2]
theorem v2 {x : Int32} {v : Nat} (h : mnS 2 x = some v) : x - 48 = nI v := by
  by_cases h1 : x < 49
  · change mnC x = _ at h; unfold mnC at h; rw [if_pos h1] at h; cases h
  · by_cases h2 : (57 : Int32) < x
    · change mnC x = _ at h; unfold mnC at h; rw [if_neg h1, if_pos h2] at h; cases h
    · obtain ⟨k, -, -, -, e1, e2⟩ := mn2 h1 h2
      rw [e2] at h; cases h; exact e1
theorem v3 {x : Int32} {v : Nat} (h : mnS 3 x = some v) : x - 97 = nI v := by
  by_cases h1 : x < 97
  · change mnD x = _ at h; unfold mnD at h; rw [if_pos h1] at h; cases h
  · by_cases h2 : (120 : Int32) < x
    · change mnD x = _ at h; unfold mnD at h; rw [if_neg h1, if_pos h2] at h; cases h
    · obtain ⟨k, -, -, -, e1, e2⟩ := mn3 h1 h2
      rw [e2] at h; cases h; exact e1
theorem sortOf_e (x : Int32) (μ : zM) : f_X7_sortOf x μ = some (oI (mnS 0 x), μ) := by
  have h := meaning_e (s := 0) (by omega) x μ
  unfold f_X5_meaning at h
  rw [if_pos (show nI 0 = (0 : Int32) from rfl)] at h
  exact h
section MP
variable {S μ : zM}
theorem byteAt_e (hw : wfS S) (h1 : μ 101 = S 101) (h2 : μ 102 = S 102) {t i : Nat} (ht : t < 2) (hi : i < 100) : f_X7_byteAt (nI t) (nI i) μ = some (bY S t i, μ) := by
  have zz := zMt
  obtain ⟨w1, w2, w3⟩ := wf_t hw ht
  unfold f_X7_byteAt bY
  rw [ev_ld (by omega) (by omega), h1, w1]
  by_cases c : i < tz S t
  · rw [if_neg (nI_ge c (by omega)), q_mul_39, nI_add]
    rw [ev_ld (by omega) (by omega), if_pos c, h2]; rfl
  · rw [if_pos (nI_le (by omega) (by omega)), if_neg c]
/-- one item is read -/
def RdP (S μ μ' : zM) (t k g : Nat) : Prop := g ≤ wd t - 1 ∧ (∀ j, j < g → okB S t (wd t * k + j) = true) ∧ (g < wd t - 1 → okB S t (wd t * k + g) = false ∧ μ' = μ)
theorem readsCaller_e (hw : wfS S) (h1 : μ 101 = S 101) (h2 : μ 102 = S 102) {k : Nat} (hk : k < 8) : ∃ g μ', f_X7_readsCaller (nI k) (nI (5 * k)) μ = some (nI g, μ') ∧ RdP S μ μ' 0 k g ∧ (g = 4 → μ' = zup (zup (zup (zup μ 104 k (nI (vlS S 0 k 0))) 105 k (nI (vlS S 0 k 1))) 106 k (nI (vlS S 0 k 2))) 107 k (nI (vlS S 0 k 3))) := by
  have zz := zMt
  have ok := fun j => okY (S := S) (t := 0) (k := k) (j := j)
  have w5 : wd 0 = 5 := rfl
  have b0 : f_X7_byteAt (0 : Int32) (nI (5 * k)) μ = some (bY S 0 (5 * k + 0), μ) := by exact byteAt_e (t := 0) (i := 5 * k + 0) hw h1 h2 (by omega) (by omega)
  have b1 : f_X7_byteAt (0 : Int32) (nI (5 * k) + (1 : Int32)) μ = some (bY S 0 (5 * k + 1), μ) := by rw [nI_1]; exact byteAt_e (t := 0) (i := 5 * k + 1) hw h1 h2 (by omega) (by omega)
  have b2 : f_X7_byteAt (0 : Int32) (nI (5 * k) + (2 : Int32)) μ = some (bY S 0 (5 * k + 2), μ) := by rw [q_add_2]; exact byteAt_e (t := 0) (i := 5 * k + 2) hw h1 h2 (by omega) (by omega)
  have b3 : f_X7_byteAt (0 : Int32) (nI (5 * k) + (3 : Int32)) μ = some (bY S 0 (5 * k + 3), μ) := by rw [q_add_3]; exact byteAt_e (t := 0) (i := 5 * k + 3) hw h1 h2 (by omega) (by omega)
  have o0 : okB S 0 (5 * k + 0) = (mnS 0 (bY S 0 (5 * k + 0))).isSome := ok 0 (by omega)
  have o1 : okB S 0 (5 * k + 1) = (mnS 2 (bY S 0 (5 * k + 1))).isSome := ok 1 (by omega)
  have o2 : okB S 0 (5 * k + 2) = (mnS 3 (bY S 0 (5 * k + 2))).isSome := ok 2 (by omega)
  have o3 : okB S 0 (5 * k + 3) = (mnS 2 (bY S 0 (5 * k + 3))).isSome := ok 3 (by omega)
  have hval : ∀ j v, j < 4 → okB S 0 (5 * k + j) = true → mnS (sgn 0 j) (bY S 0 (5 * k + j)) = some v → vlS S 0 k j = v := by
    intro j v hj ho hv
    have : 5 * k + j < tz S 0 := by
      unfold okB at ho
      simp only [Bool.and_eq_true, decide_eq_true_eq] at ho
      exact ho.1
    unfold bY at hv
    rw [if_pos this] at hv
    unfold vlS
    rw [w5, hv]; rfl
  have cases4 : ∀ j, j < 4 → j = 0 ∨ j = 1 ∨ j = 2 ∨ j = 3 := by omega
  unfold f_X7_readsCaller
  rw [b0, ev_c, b1, ev_c, b2, ev_c, b3, ev_c, if_neg (show ¬ nI k = (8 : Int32) from fun q => by have := (nI_eq (b := 8) (by omega) (by omega)).mp q; omega), sortOf_e, ev_c]
  cases e0 : mnS 0 (bY S 0 (5 * k + 0)) with
  | none =>
    rw [if_neg (show ¬ ¬ oI none = -1 from fun q => q rfl)]
    exact ⟨0, μ, rfl, ⟨by omega, fun j hj => by omega, fun _ => ⟨by show okB S 0 (5 * k + 0) = false; rw [o0, e0]; rfl, rfl⟩⟩, by omega⟩
  | some v0 =>
    have p0 : okB S 0 (5 * k + 0) = true := by rw [o0, e0]; rfl
    have l0 := mn_lt0 e0
    rw [if_pos (show ¬ oI (some v0) = -1 from nI_m1 (by omega)), in_e, ev_c, wi2]
    cases e1 : mnS 2 (bY S 0 (5 * k + 1)) with
    | none =>
      rw [if_neg (by decide)]
      exact ⟨1, μ, rfl, ⟨by omega, fun j hj => (by rw [show j = 0 by omega]; exact p0), fun _ => ⟨by show okB S 0 (5 * k + 1) = false; rw [o1, e1]; rfl, rfl⟩⟩, by omega⟩
    | some x1 =>
      have p1 : okB S 0 (5 * k + 1) = true := by rw [o1, e1]; rfl
      rw [if_pos (show ¬ bI (some x1).isSome = 0 from (by decide : ¬ bI true = 0)), in_e, ev_c, wi3]
      cases e2 : mnS 3 (bY S 0 (5 * k + 2)) with
      | none =>
        rw [if_neg (by decide)]
        refine ⟨2, μ, rfl, ⟨by omega, fun j hj => ?_, fun _ => ⟨by show okB S 0 (5 * k + 2) = false; rw [o2, e2]; rfl, rfl⟩⟩, by omega⟩
        have : j = 0 ∨ j = 1 := by omega
        rcases this with rfl | rfl <;> assumption
      | some x2 =>
        have p2 : okB S 0 (5 * k + 2) = true := by rw [o2, e2]; rfl
        rw [if_pos (show ¬ bI (some x2).isSome = 0 from (by decide : ¬ bI true = 0)), in_e, ev_c, wi2]
        cases e3 : mnS 2 (bY S 0 (5 * k + 3)) with
        | none =>
          rw [if_neg (by decide)]
          refine ⟨3, μ, rfl, ⟨by omega, fun j hj => ?_, fun _ => ⟨by show okB S 0 (5 * k + 3) = false; rw [o3, e3]; rfl, rfl⟩⟩, by omega⟩
          have : j = 0 ∨ j = 1 ∨ j = 2 := by omega
          rcases this with rfl | rfl | rfl <;> assumption
        | some x3 =>
          have p3 : okB S 0 (5 * k + 3) = true := by rw [o3, e3]; rfl
          rw [if_pos (show ¬ bI (some x3).isSome = 0 from (by decide : ¬ bI true = 0)), sortOf_e, ev_c, e0, ev_st (by omega) (by omega), ev_st (by omega) (by omega), ev_st (by omega) (by omega), ev_st (by omega) (by omega), v2 e1, v3 e2, v2 e3]
          refine ⟨4, _, rfl, ⟨by omega, fun j hj => ?_, fun q => by omega⟩, fun _ => ?_⟩
          · rcases cases4 j hj with rfl | rfl | rfl | rfl <;> assumption
          · rw [hval 0 v0 (by omega) p0 e0, hval 1 x1 (by omega) p1 e1, hval 2 x2 (by omega) p2 e2, hval 3 x3 (by omega) p3 e3]; rfl
theorem rankM (x : Int32) : (x = 98 ∧ mnS 1 x = some 0) ∨ (x = 106 ∧ mnS 1 x = some 1) ∨ (¬ x = 98 ∧ ¬ x = 106 ∧ mnS 1 x = none) := by
  show (x = 98 ∧ mnB x = some 0) ∨ (x = 106 ∧ mnB x = some 1) ∨ (¬ x = 98 ∧ ¬ x = 106 ∧ mnB x = none)
  unfold mnB
  by_cases c1 : x = 98
  · left; exact ⟨c1, if_pos c1⟩
  · right
    by_cases c2 : x = 106
    · left; exact ⟨c2, by rw [if_neg c1, if_pos c2]⟩
    · right; exact ⟨c1, c2, by rw [if_neg c1, if_neg c2]⟩
theorem readsMan_e (hw : wfS S) (h1 : μ 101 = S 101) (h2 : μ 102 = S 102) {k : Nat} (hk : k < 4) : ∃ g μ', f_X7_readsMan (nI k) (nI (4 * k)) μ = some (nI g, μ') ∧ RdP S μ μ' 1 k g ∧ (g = 3 → μ' = zup (zup (zup μ 109 k (nI (vlS S 1 k 0))) 110 k (nI (vlS S 1 k 1))) 111 k (nI (vlS S 1 k 2))) := by
  have zz := zMt
  have ok := fun j => okY (S := S) (t := 1) (k := k) (j := j)
  have w5 : wd 1 = 4 := rfl
  have b0 : f_X7_byteAt (1 : Int32) (nI (4 * k)) μ = some (bY S 1 (4 * k + 0), μ) := by exact byteAt_e (t := 1) (i := 4 * k + 0) hw h1 h2 (by omega) (by omega)
  have b1 : f_X7_byteAt (1 : Int32) (nI (4 * k) + (1 : Int32)) μ = some (bY S 1 (4 * k + 1), μ) := by rw [nI_1]; exact byteAt_e (t := 1) (i := 4 * k + 1) hw h1 h2 (by omega) (by omega)
  have b2 : f_X7_byteAt (1 : Int32) (nI (4 * k) + (2 : Int32)) μ = some (bY S 1 (4 * k + 2), μ) := by rw [q_add_2]; exact byteAt_e (t := 1) (i := 4 * k + 2) hw h1 h2 (by omega) (by omega)
  have o0 : okB S 1 (4 * k + 0) = (mnS 1 (bY S 1 (4 * k + 0))).isSome := ok 0 (by omega)
  have o1 : okB S 1 (4 * k + 1) = (mnS 3 (bY S 1 (4 * k + 1))).isSome := ok 1 (by omega)
  have o2 : okB S 1 (4 * k + 2) = (mnS 3 (bY S 1 (4 * k + 2))).isSome := ok 2 (by omega)
  have hval : ∀ j v, j < 3 → okB S 1 (4 * k + j) = true → mnS (sgn 1 j) (bY S 1 (4 * k + j)) = some v → vlS S 1 k j = v := by
    intro j v hj ho hv
    have : 4 * k + j < tz S 1 := by
      unfold okB at ho
      simp only [Bool.and_eq_true, decide_eq_true_eq] at ho
      exact ho.1
    unfold bY at hv
    rw [if_pos this] at hv
    unfold vlS
    rw [w5, hv]; rfl
  have cases3 : ∀ j, j < 3 → j = 0 ∨ j = 1 ∨ j = 2 := by omega
  -- what follows the first sign
  have tail : ∀ v, v < 2 → mnS 1 (bY S 1 (4 * k + 0)) = some v → (∀ {α : Type} (t : Int32 → zM → Option α), jn t (fun j90_1 => (if ¬ bY S 1 (4 * k + 0) = (106 : Int32) then j90_1 (0 : Int32) μ else j90_1 (1 : Int32) μ)) = t (nI v) μ) → ∃ g μ', (cl (f_X7_in (bY S 1 (4 * k + 1)) (97 : Int32) (120 : Int32) μ) fun x6 μ => (if ¬ x6 = 0 then cl (f_X7_in (bY S 1 (4 * k + 2)) (97 : Int32) (120 : Int32) μ) fun x8 μ => (if ¬ x8 = 0 then jn (fun (y10 : Int32) (μ : zM) => stI μ 109 (nI k) y10 fun μ => stI μ 110 (nI k) (bY S 1 (4 * k + 1) - (97 : Int32)) fun μ => stI μ 111 (nI k) (bY S 1 (4 * k + 2) - (97 : Int32)) fun μ => some ((3 : Int32), μ)) fun j90_1 => (if ¬ bY S 1 (4 * k + 0) = (106 : Int32) then j90_1 (0 : Int32) μ else j90_1 (1 : Int32) μ) else some ((2 : Int32), μ)) else some ((1 : Int32), μ))) = some (nI g, μ') ∧ RdP S μ μ' 1 k g ∧ (g = 3 → μ' = zup (zup (zup μ 109 k (nI (vlS S 1 k 0))) 110 k (nI (vlS S 1 k 1))) 111 k (nI (vlS S 1 k 2))) := by
    intro v hv e0 hj
    have p0 : okB S 1 (4 * k + 0) = true := by rw [o0, e0]; rfl
    rw [in_e, ev_c, wi3]
    cases e1 : mnS 3 (bY S 1 (4 * k + 1)) with
    | none =>
      rw [if_neg (by decide)]
      exact ⟨1, μ, rfl, ⟨by omega, fun j hj => (by rw [show j = 0 by omega]; exact p0), fun _ => ⟨by show okB S 1 (4 * k + 1) = false; rw [o1, e1]; rfl, rfl⟩⟩, by omega⟩
    | some x1 =>
      have p1 : okB S 1 (4 * k + 1) = true := by rw [o1, e1]; rfl
      rw [if_pos (show ¬ bI (some x1).isSome = 0 from (by decide : ¬ bI true = 0)), in_e, ev_c, wi3]
      cases e2 : mnS 3 (bY S 1 (4 * k + 2)) with
      | none =>
        rw [if_neg (by decide)]
        refine ⟨2, μ, rfl, ⟨by omega, fun j hj => ?_, fun _ => ⟨by show okB S 1 (4 * k + 2) = false; rw [o2, e2]; rfl, rfl⟩⟩, by omega⟩
        have : j = 0 ∨ j = 1 := by omega
        rcases this with rfl | rfl <;> assumption
      | some x2 =>
        have p2 : okB S 1 (4 * k + 2) = true := by rw [o2, e2]; rfl
        rw [if_pos (show ¬ bI (some x2).isSome = 0 from (by decide : ¬ bI true = 0)), hj, ev_st (by omega) (by omega), ev_st (by omega) (by omega), ev_st (by omega) (by omega), v3 e1, v3 e2]
        refine ⟨3, _, rfl, ⟨by omega, fun j hj => ?_, fun q => by omega⟩, fun _ => ?_⟩
        · rcases cases3 j hj with rfl | rfl | rfl <;> assumption
        · rw [hval 0 v (by omega) p0 e0, hval 1 x1 (by omega) p1 e1, hval 2 x2 (by omega) p2 e2]
  unfold f_X7_readsMan
  rw [b0, ev_c, b1, ev_c, b2, ev_c, if_neg (show ¬ nI k = (4 : Int32) from fun q => by have := (nI_eq (b := 4) (by omega) (by omega)).mp q; omega)]
  rcases rankM (bY S 1 (4 * k + 0)) with ⟨c, e⟩ | ⟨c, e⟩ | ⟨c1, c2, e⟩
  · rw [if_pos c]
    exact tail 0 (by omega) e (fun t => by rw [ev_j, if_pos (by rw [c]; decide)]; rfl)
  · rw [if_neg (by rw [c]; decide), if_pos c]
    exact tail 1 (by omega) e (fun t => by rw [ev_j, if_neg (fun q => q c)]; rfl)
  · rw [if_neg c1, if_neg c2]
    exact ⟨0, μ, rfl, ⟨by omega, fun j hj => by omega, fun _ => ⟨by show okB S 1 (4 * k + 0) = false; rw [o0, e]; rfl, rfl⟩⟩, by omega⟩
end MP
