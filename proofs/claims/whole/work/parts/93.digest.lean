-- PURE: the digest
abbrev dg (h : Int64) (x : Int32) : Int64 := ((31 : Int64) * h) + (Int32.toInt64 x)
abbrev dl (h x : Int64) : Int64 := ((31 : Int64) * h) + x
def dgN (f : Nat → Int32) (h : Int64) : Nat → Int64
  | 0 => h
  | n + 1 => dg (dgN f h n) (f n)
section DG
variable {S μ : zM}
def dMan (S : zM) (h : Int64) (m : Nat) : Int64 := dg (dg (dgN (fun w => nI (tolA S (w + 6) m)) h 3) (vBegin S m 0)) (vBegin S m 1)
def dMen (S : zM) (h : Int64) : Nat → Int64
  | 0 => h
  | m + 1 => dMan S (dMen S h m) m
def dCal (S : zM) (h : Int64) (k : Nat) : Int64 := dl (dl (dg (dg (dg (dg (dg (dg (dg (dg (dgN (fun w => nI (tolA S (w + 1) k)) h 4) (nI (stn (tolT S) (tS S) k 6))) (nI (stn (tolT S) (tS S) k 14))) (nI (stn (tolT S) (tS S) k 23))) (oI ((tS S).2.2 k))) (vPat S k)) (vWas S k 0)) (vWas S k 1)) (vAsk S k)) (vChance S 5 k 0)) (vChance S 5 k 1)
def dCls (S : zM) (h : Int64) : Nat → Int64
  | 0 => h
  | k + 1 => dCal S (dCls S h k) k
def dDay (S : zM) (h : Int64) (d : Nat) : Int64 := dg (dgN (vDoor S d) h 3) (vWm S d)
def dDys (S : zM) (h : Int64) : Nat → Int64
  | 0 => h
  | d + 1 => dDay S (dDys S h d) d
def dEnd (S : zM) (h : Int64) : Int64 := dg (dg (dg (dg (dg (dg (dg (dg (dg (dg (dg (dg (dg h (nI (cld (vWm S) 23))) (vFirst S 0)) (vFirst S 1)) (vSent S)) (vWrong S)) (vSum S)) (vLeave S 8 0)) (vLeave S 8 1)) (brV (brn S) (-1))) (brV (brn S) 0)) (vNever S)) (vYears S 7 6 0)) (vYears S 7 6 1)
def dSta (S : zM) : Int64 := dg (dg (dgN (vCount S) 17 8) (oI (ftS S 0))) (oI (ftS S 1))
def vDig (S : zM) : Int64 := dEnd S (dDys S (dCls S (dMen S (dSta S) (itS S 1)) (itS S 0)) 24)
theorem c_cnt (hw : wfS S) {K : Int64 → zM → Option (Int64 × zM)} {x : Int64} {m : zM} (h : CS S m) {P : Option (Int64 × zM) → Prop} (hK : ∀ m', CS S m' → P (K (dgN (vCount S) x 8) m')) : P (f_X6_digest_L6  K 400 x 0 m) := by
  refine loop_X (fun q j (s : Int64 × zM) => f_X6_digest_L6  K q s.1 j s.2) P 8 (fun j s => s.1 = dgN (vCount S) x j ∧ CS S s.2) ?_ ?_ 400 0 (x, m) (by omega) (by omega) ⟨rfl, h⟩
  · intro n s ⟨g1, g2⟩
    show P (f_X6_digest_L6 _ (n + 1) _ _ _)
    rw [f_X6_digest_L6, if_pos (show (7 : Int32) < nI 8 from nI_lt (a := 7) (by omega) (by omega)), g1]
    exact hK _ g2
  · intro n j s hj ⟨g1, g2⟩
    obtain ⟨m2, e2, c2⟩ := cq_count hw g2 (w := j) (by omega)
    show ∃ s' : Int64 × zM, f_X6_digest_L6 _ (n + 1) _ _ _ = f_X6_digest_L6 _ n _ _ _ ∧ _
    rw [f_X6_digest_L6, if_neg (show ¬ (7 : Int32) < nI j from nI_nlt (a := 7) (by omega) (by omega)), e2, ev_c, ev_w, ev_v, nI_1, g1]
    exact ⟨(_, m2), rfl, rfl, c2⟩
theorem c_man (hw : wfS S) {i : Nat} (hi : i < itS S 1) {v5 : Int32} {K : Int64 → zM → Option (Int64 × zM)} {x : Int64} {m : zM} (h : CS S m) {P : Option (Int64 × zM) → Prop} (hK : ∀ m', CS S m' → P (K (dgN (fun w => nI (tolA S (w + 6) i)) x 3) m')) : P (f_X6_digestMen_L24 v5 (nI i) K 400 x 0 m) := by
  refine loop_X (fun q j (s : Int64 × zM) => f_X6_digestMen_L24 v5 (nI i) K q s.1 j s.2) P 3 (fun j s => s.1 = dgN (fun w => nI (tolA S (w + 6) i)) x j ∧ CS S s.2) ?_ ?_ 400 0 (x, m) (by omega) (by omega) ⟨rfl, h⟩
  · intro n s ⟨g1, g2⟩
    show P (f_X6_digestMen_L24 _ _ _ (n + 1) _ _ _)
    rw [f_X6_digestMen_L24, if_pos (show (2 : Int32) < nI 3 from nI_lt (a := 2) (by omega) (by omega)), g1]
    exact hK _ g2
  · intro n j s hj ⟨g1, g2⟩
    obtain ⟨m2, e2, c2⟩ := cq_man hw g2 hi (w := j) (by omega)
    show ∃ s' : Int64 × zM, f_X6_digestMen_L24 _ _ _ (n + 1) _ _ _ = f_X6_digestMen_L24 _ _ _ n _ _ _ ∧ _
    rw [f_X6_digestMen_L24, if_neg (show ¬ (2 : Int32) < nI j from nI_nlt (a := 2) (by omega) (by omega)), e2, ev_c, ev_w, ev_v, nI_1, g1]
    exact ⟨(_, m2), rfl, rfl, c2⟩
theorem c_cal (hw : wfS S) {i : Nat} (hi : i < itS S 0) {v5 : Int32} {K : Int64 → zM → Option (Int64 × zM)} {x : Int64} {m : zM} (h : CS S m) {P : Option (Int64 × zM) → Prop} (hK : ∀ m', CS S m' → P (K (dgN (fun w => nI (tolA S (w + 1) i)) x 4) m')) : P (f_X6_digestCallers_L24 v5 (nI i) K 400 x 0 m) := by
  refine loop_X (fun q j (s : Int64 × zM) => f_X6_digestCallers_L24 v5 (nI i) K q s.1 j s.2) P 4 (fun j s => s.1 = dgN (fun w => nI (tolA S (w + 1) i)) x j ∧ CS S s.2) ?_ ?_ 400 0 (x, m) (by omega) (by omega) ⟨rfl, h⟩
  · intro n s ⟨g1, g2⟩
    show P (f_X6_digestCallers_L24 _ _ _ (n + 1) _ _ _)
    rw [f_X6_digestCallers_L24, if_pos (show (3 : Int32) < nI 4 from nI_lt (a := 3) (by omega) (by omega)), g1]
    exact hK _ g2
  · intro n j s hj ⟨g1, g2⟩
    obtain ⟨m2, e2, c2⟩ := cq_caller hw g2 hi (w := j) (by omega)
    show ∃ s' : Int64 × zM, f_X6_digestCallers_L24 _ _ _ (n + 1) _ _ _ = f_X6_digestCallers_L24 _ _ _ n _ _ _ ∧ _
    rw [f_X6_digestCallers_L24, if_neg (show ¬ (3 : Int32) < nI j from nI_nlt (a := 3) (by omega) (by omega)), e2, ev_c, ev_w, ev_v, nI_1, g1]
    exact ⟨(_, m2), rfl, rfl, c2⟩
theorem c_day (hw : wfS S) {i : Nat} (hi : i < 24) {K : Int64 → zM → Option (Int64 × zM)} {x : Int64} {m : zM} (h : CS S m) {P : Option (Int64 × zM) → Prop} (hK : ∀ m', CS S m' → P (K (dgN (vDoor S i) x 3) m')) : P (f_X6_digestDays_L15 (nI i) K 400 x 0 m) := by
  refine loop_X (fun q j (s : Int64 × zM) => f_X6_digestDays_L15 (nI i) K q s.1 j s.2) P 3 (fun j s => s.1 = dgN (vDoor S i) x j ∧ CS S s.2) ?_ ?_ 400 0 (x, m) (by omega) (by omega) ⟨rfl, h⟩
  · intro n s ⟨g1, g2⟩
    show P (f_X6_digestDays_L15 _ _ (n + 1) _ _ _)
    rw [f_X6_digestDays_L15, if_pos (show (2 : Int32) < nI 3 from nI_lt (a := 2) (by omega) (by omega)), g1]
    exact hK _ g2
  · intro n j s hj ⟨g1, g2⟩
    obtain ⟨m2, e2, c2⟩ := cq_door hw g2 hi (w := j) (by omega)
    show ∃ s' : Int64 × zM, f_X6_digestDays_L15 _ _ (n + 1) _ _ _ = f_X6_digestDays_L15 _ _ n _ _ _ ∧ _
    rw [f_X6_digestDays_L15, if_neg (show ¬ (2 : Int32) < nI j from nI_nlt (a := 2) (by omega) (by omega)), e2, ev_c, ev_w, ev_v, nI_1, g1]
    exact ⟨(_, m2), rfl, rfl, c2⟩
theorem m_cnt (hw : wfS S) {K : Int64 → zM → Option (Int64 × zM)} {x : Int64} {m : zM} (h : frM S m) {P : Option (Int64 × zM) → Prop} (hK : ∀ m', frM S m' → P (K (dgN (vCount S) x 8) m')) : P (f_X7_digest_L6  K 400 x 0 m) := by
  refine loop_X (fun q j (s : Int64 × zM) => f_X7_digest_L6  K q s.1 j s.2) P 8 (fun j s => s.1 = dgN (vCount S) x j ∧ frM S s.2) ?_ ?_ 400 0 (x, m) (by omega) (by omega) ⟨rfl, h⟩
  · intro n s ⟨g1, g2⟩
    show P (f_X7_digest_L6 _ (n + 1) _ _ _)
    rw [f_X7_digest_L6, if_pos (show (8 : Int32) ≤ nI 8 from nI_le (Nat.le_refl _) (by omega)), g1]
    exact hK _ g2
  · intro n j s hj ⟨g1, g2⟩
    obtain ⟨m2, e2, c2, -⟩ := mq_count hw g2 (w := j) (by omega)
    show ∃ s' : Int64 × zM, f_X7_digest_L6 _ (n + 1) _ _ _ = f_X7_digest_L6 _ n _ _ _ ∧ _
    rw [f_X7_digest_L6, if_neg (show ¬ (8 : Int32) ≤ nI j from nI_ge (b := 8) hj (by omega)), e2, ev_c, ev_w, ev_v, nI_1, g1]
    exact ⟨(_, m2), rfl, rfl, c2⟩
theorem m_man (hw : wfS S) {i : Nat} (hi : i < itS S 1) {K : Int64 → zM → Option (Int64 × zM)} {x : Int64} {m : zM} (h : MB S m) {P : Option (Int64 × zM) → Prop} (hK : ∀ m', MB S m' → P (K (dgN (fun w => nI (tolA S (w + 6) i)) x 3) m')) : P (f_X7_manDigest_L6 (nI i) K 400 x 0 m) := by
  refine loop_X (fun q j (s : Int64 × zM) => f_X7_manDigest_L6 (nI i) K q s.1 j s.2) P 3 (fun j s => s.1 = dgN (fun w => nI (tolA S (w + 6) i)) x j ∧ MB S s.2) ?_ ?_ 400 0 (x, m) (by omega) (by omega) ⟨rfl, h⟩
  · intro n s ⟨g1, g2⟩
    show P (f_X7_manDigest_L6 _ _ (n + 1) _ _ _)
    rw [f_X7_manDigest_L6, if_pos (show (3 : Int32) ≤ nI 3 from nI_le (Nat.le_refl _) (by omega)), g1]
    exact hK _ g2
  · intro n j s hj ⟨g1, g2⟩
    obtain ⟨m2, e2, c2⟩ : ∃ m2, f_X7_manOf (nI i) (nI j) s.2 = some (nI (tolA S (j + 6) i), m2) ∧ MB S m2 := ⟨s.2, manOf_e g2 hw hi (by omega), g2⟩
    show ∃ s' : Int64 × zM, f_X7_manDigest_L6 _ _ (n + 1) _ _ _ = f_X7_manDigest_L6 _ _ n _ _ _ ∧ _
    rw [f_X7_manDigest_L6, if_neg (show ¬ (3 : Int32) ≤ nI j from nI_ge (b := 3) hj (by omega)), e2, ev_c, ev_w, ev_v, nI_1, g1]
    exact ⟨(_, m2), rfl, rfl, c2⟩
theorem m_cal (hw : wfS S) {i : Nat} (hi : i < itS S 0) {K : Int64 → zM → Option (Int64 × zM)} {x : Int64} {m : zM} (h : MB S m) {P : Option (Int64 × zM) → Prop} (hK : ∀ m', MB S m' → P (K (dgN (fun w => nI (tolA S (w + 1) i)) x 4) m')) : P (f_X7_callerDigest_L6 (nI i) K 400 x 0 m) := by
  refine loop_X (fun q j (s : Int64 × zM) => f_X7_callerDigest_L6 (nI i) K q s.1 j s.2) P 4 (fun j s => s.1 = dgN (fun w => nI (tolA S (w + 1) i)) x j ∧ MB S s.2) ?_ ?_ 400 0 (x, m) (by omega) (by omega) ⟨rfl, h⟩
  · intro n s ⟨g1, g2⟩
    show P (f_X7_callerDigest_L6 _ _ (n + 1) _ _ _)
    rw [f_X7_callerDigest_L6, if_pos (show (4 : Int32) ≤ nI 4 from nI_le (Nat.le_refl _) (by omega)), g1]
    exact hK _ g2
  · intro n j s hj ⟨g1, g2⟩
    obtain ⟨m2, e2, c2⟩ : ∃ m2, f_X7_callerOf (nI i) (nI j) s.2 = some (nI (tolA S (j + 1) i), m2) ∧ MB S m2 := ⟨s.2, callerOf_e g2 hw hi (by omega), g2⟩
    show ∃ s' : Int64 × zM, f_X7_callerDigest_L6 _ _ (n + 1) _ _ _ = f_X7_callerDigest_L6 _ _ n _ _ _ ∧ _
    rw [f_X7_callerDigest_L6, if_neg (show ¬ (4 : Int32) ≤ nI j from nI_ge (b := 4) hj (by omega)), e2, ev_c, ev_w, ev_v, nI_1, g1]
    exact ⟨(_, m2), rfl, rfl, c2⟩
theorem m_day (hw : wfS S) {i : Nat} (hi : i < 24) {K : Int64 → zM → Option (Int64 × zM)} {x : Int64} {m : zM} (h : MB S m) {P : Option (Int64 × zM) → Prop} (hK : ∀ m', MB S m' → P (K (dgN (vDoor S i) x 3) m')) : P (f_X7_digest_L114 (nI i) K 400 x 0 m) := by
  refine loop_X (fun q j (s : Int64 × zM) => f_X7_digest_L114 (nI i) K q s.1 j s.2) P 3 (fun j s => s.1 = dgN (vDoor S i) x j ∧ MB S s.2) ?_ ?_ 400 0 (x, m) (by omega) (by omega) ⟨rfl, h⟩
  · intro n s ⟨g1, g2⟩
    show P (f_X7_digest_L114 _ _ (n + 1) _ _ _)
    rw [f_X7_digest_L114, if_pos (show (3 : Int32) ≤ nI 3 from nI_le (Nat.le_refl _) (by omega)), g1]
    exact hK _ g2
  · intro n j s hj ⟨g1, g2⟩
    obtain ⟨m2, e2, c2⟩ := doorOf_e hw g2.1 hi (w := j) (by omega)
    show ∃ s' : Int64 × zM, f_X7_digest_L114 _ _ (n + 1) _ _ _ = f_X7_digest_L114 _ _ n _ _ _ ∧ _
    rw [f_X7_digest_L114, if_neg (show ¬ (3 : Int32) ≤ nI j from nI_ge (b := 3) hj (by omega)), e2, ev_c, ev_w, ev_v, nI_1, g1]
    exact ⟨(_, m2), rfl, rfl, c2⟩
theorem digestMen_e (hw : wfS S) (h : CS S μ) (x : Int64) : ∃ μ', f_X6_digestMen x μ = some (dMen S x (itS S 1), μ') ∧ CS S μ' := by
  have h4 : itS S 1 ≤ 4 := (wT_told hw 0).2.1
  unfold f_X6_digestMen
  obtain ⟨m1, e1, c1, c2, -⟩ := told_e hw h
  rw [e1, ev_c, ev_g, show m1 21 6 = nI (itS S 1) from c2.2.2.1.2.1]
  refine loop_X (fun n i (s : Int64 × zM) => f_X6_digestMen_L14 (nI (itS S 1)) (fun (x13 : Int64) μ => some (x13, μ)) n s.1 i s.2) (fun R => ∃ μ', R = some (dMen S x (itS S 1), μ') ∧ CS S μ') (itS S 1) (fun i s => s.1 = dMen S x i ∧ CS S s.2) ?_ ?_ 400 0 (x, m1) (by omega) (by omega) ⟨rfl, c1⟩
  · intro n s ⟨g1, g2⟩
    refine ⟨s.2, ?_, g2⟩
    show f_X6_digestMen_L14 _ _ (n + 1) _ _ _ = _
    rw [f_X6_digestMen_L14, if_pos (nI_le (Nat.le_refl _) (by omega)), g1]
  · intro n i s hi ⟨g1, g2⟩
    show ∃ s' : Int64 × zM, f_X6_digestMen_L14 _ _ (n + 1) _ _ _ = f_X6_digestMen_L14 _ _ n _ _ _ ∧ _
    rw [f_X6_digestMen_L14, if_neg (nI_ge hi (by omega)), g1]
    refine c_man hw hi g2 (P := fun R => ∃ s' : Int64 × zM, R = f_X6_digestMen_L14 (nI (itS S 1)) (fun (x13 : Int64) μ => some (x13, μ)) n s'.1 (nI (i + 1)) s'.2 ∧ s'.1 = dMen S x (i + 1) ∧ CS S s'.2) (fun m2 c2 => ?_)
    try dsimp only
    obtain ⟨m3, e3, c3⟩ := cq_begin hw c2 hi (w := 0) (by omega)
    obtain ⟨m4, e4, c4⟩ := cq_begin hw c3 hi (w := 1) (by omega)
    rw [show f_X6_begin (nI i) (0 : Int32) m2 = _ from e3, ev_c, ev_w, show f_X6_begin (nI i) (1 : Int32) m3 = _ from e4, ev_c, ev_w, ev_v, nI_1]
    exact ⟨(_, m4), rfl, rfl, c4⟩
theorem digestCallers_e (hw : wfS S) (h : CS S μ) (x : Int64) : ∃ μ', f_X6_digestCallers x μ = some (dCls S x (itS S 0), μ') ∧ CS S μ' := by
  have h8 : itS S 0 ≤ 8 := (wT_told hw 0).1
  unfold f_X6_digestCallers
  obtain ⟨m1, e1, c1, c2, -⟩ := told_e hw h
  rw [e1, ev_c, ev_g, show m1 21 0 = nI (itS S 0) from c2.2.2.1.1]
  refine loop_X (fun n i (s : Int64 × zM) => f_X6_digestCallers_L14 (nI (itS S 0)) (fun (x29 : Int64) μ => some (x29, μ)) n s.1 i s.2) (fun R => ∃ μ', R = some (dCls S x (itS S 0), μ') ∧ CS S μ') (itS S 0) (fun i s => s.1 = dCls S x i ∧ CS S s.2) ?_ ?_ 400 0 (x, m1) (by omega) (by omega) ⟨rfl, c1⟩
  · intro n s ⟨g1, g2⟩
    refine ⟨s.2, ?_, g2⟩
    show f_X6_digestCallers_L14 _ _ (n + 1) _ _ _ = _
    rw [f_X6_digestCallers_L14, if_pos (nI_le (Nat.le_refl _) (by omega)), g1]
  · intro n i s hi ⟨g1, g2⟩
    show ∃ s' : Int64 × zM, f_X6_digestCallers_L14 _ _ (n + 1) _ _ _ = f_X6_digestCallers_L14 _ _ n _ _ _ ∧ _
    rw [f_X6_digestCallers_L14, if_neg (nI_ge hi (by omega)), g1]
    refine c_cal hw hi g2 (P := fun R => ∃ s' : Int64 × zM, R = f_X6_digestCallers_L14 (nI (itS S 0)) (fun (x29 : Int64) μ => some (x29, μ)) n s'.1 (nI (i + 1)) s'.2 ∧ s'.1 = dCls S x (i + 1) ∧ CS S s'.2) (fun m2 c2 => ?_)
    try dsimp only
    obtain ⟨m3, e3, c3⟩ := cq_stands hw c2 (d := 6) (by omega) hi
    obtain ⟨m4, e4, c4⟩ := cq_stands hw c3 (d := 14) (by omega) hi
    obtain ⟨m5, e5, c5⟩ := cq_stands hw c4 (d := 23) (by omega) hi
    obtain ⟨m6, e6, c6⟩ := cq_name hw c5 hi
    obtain ⟨m7, e7, c7⟩ := cq_patience hw c6 hi
    obtain ⟨m8, e8, c8⟩ := cq_was hw c7 hi (w := 0) (by omega)
    obtain ⟨m9, e9, c9⟩ := cq_was hw c8 hi (w := 1) (by omega)
    obtain ⟨m10, e10, c10⟩ := cq_ask hw c9 hi
    obtain ⟨m11, e11, c11⟩ := cq_chance hw c10 (c := 5) (w := 0) (by omega) hi (by omega)
    obtain ⟨m12, e12, c12⟩ := cq_chance hw c11 (c := 5) (w := 1) (by omega) hi (by omega)
    rw [show f_X6_stands (6 : Int32) (nI i) m2 = _ from e3, ev_c, ev_w, show f_X6_stands (14 : Int32) (nI i) m3 = _ from e4, ev_c, ev_w, show f_X6_stands (23 : Int32) (nI i) m4 = _ from e5, ev_c, ev_w, show f_X6_name (nI i) m5 = _ from e6, ev_c, ev_w, show f_X6_patience (nI i) m6 = _ from e7, ev_c, ev_w, show f_X6_was (nI i) (0 : Int32) m7 = _ from e8, ev_c, ev_w, show f_X6_was (nI i) (1 : Int32) m8 = _ from e9, ev_c, ev_w, show f_X6_ask (nI i) m9 = _ from e10, ev_c, ev_w, show f_X6_chance (5 : Int32) (nI i) (0 : Int32) m10 = _ from e11, ev_c, ev_w, show f_X6_chance (5 : Int32) (nI i) (1 : Int32) m11 = _ from e12, ev_c, ev_w, ev_v, nI_1]
    exact ⟨(_, m12), rfl, rfl, c12⟩
theorem digestDays_e (hw : wfS S) (h : CS S μ) (x : Int64) : ∃ μ', f_X6_digestDays x μ = some (dDys S x 24, μ') ∧ CS S μ' := by
  unfold f_X6_digestDays
  refine loop_X (fun n i (s : Int64 × zM) => f_X6_digestDays_L5 (fun (x10 : Int64) μ => some (x10, μ)) n s.1 i s.2) (fun R => ∃ μ', R = some (dDys S x 24, μ') ∧ CS S μ') 24 (fun i s => s.1 = dDys S x i ∧ CS S s.2) ?_ ?_ 400 0 (x, μ) (by omega) (by omega) ⟨rfl, h⟩
  · intro n s ⟨g1, g2⟩
    refine ⟨s.2, ?_, g2⟩
    show f_X6_digestDays_L5 _ (n + 1) _ _ _ = _
    rw [f_X6_digestDays_L5, if_pos (show (24 : Int32) ≤ nI 24 from nI_le (Nat.le_refl _) (by omega)), g1]
  · intro n i s hi ⟨g1, g2⟩
    show ∃ s' : Int64 × zM, f_X6_digestDays_L5 _ (n + 1) _ _ _ = f_X6_digestDays_L5 _ n _ _ _ ∧ _
    rw [f_X6_digestDays_L5, if_neg (show ¬ (24 : Int32) ≤ nI i from nI_ge (b := 24) hi (by omega)), g1]
    refine c_day hw hi g2 (P := fun R => ∃ s' : Int64 × zM, R = f_X6_digestDays_L5 (fun (x10 : Int64) μ => some (x10, μ)) n s'.1 (nI (i + 1)) s'.2 ∧ s'.1 = dDys S x (i + 1) ∧ CS S s'.2) (fun m2 c2 => ?_)
    try dsimp only
    obtain ⟨m3, e3, c3⟩ := cq_warmth hw c2 hi
    rw [e3, ev_c, ev_w, ev_v, nI_1]
    exact ⟨(_, m3), rfl, rfl, c3⟩
theorem cq_digest (hw : wfS S) (h : CS S μ) : ∃ μ', f_X6_digest μ = some (vDig S, μ') ∧ CS S μ' := by
  unfold f_X6_digest
  refine c_cnt hw h (P := fun R => ∃ μ', R = some (vDig S, μ') ∧ CS S μ') (fun m1 c1 => ?_)
  try dsimp only
  obtain ⟨m2, e2, c2⟩ := cq_fault hw c1 (t := 0) (by omega)
  obtain ⟨m3, e3, c3⟩ := cq_fault hw c2 (t := 1) (by omega)
  obtain ⟨m4, e4, c4⟩ := digestMen_e hw c3 (dSta S)
  obtain ⟨m5, e5, c5⟩ := digestCallers_e hw c4 (dMen S (dSta S) (itS S 1))
  obtain ⟨m6, e6, c6⟩ := digestDays_e hw c5 (dCls S (dMen S (dSta S) (itS S 1)) (itS S 0))
  rw [show f_X6_fault (0 : Int32) m1 = _ from e2, ev_c, ev_w, show f_X6_fault (1 : Int32) m2 = _ from e3, ev_c, ev_w, show f_X6_digestMen (((31 : Int64) * (((31 : Int64) * dgN (vCount S) 17 8) + (Int32.toInt64 (oI (ftS S 0))))) + (Int32.toInt64 (oI (ftS S 1)))) m3 = _ from e4, ev_c, e5, ev_c, e6, ev_c]
  generalize hx : dDys S (dCls S (dMen S (dSta S) (itS S 1)) (itS S 0)) 24 = x
  obtain ⟨m7, e7, c7⟩ := cq_coldest hw c6
  obtain ⟨m8, e8, c8⟩ := cq_first hw c7 (w := 0) (by omega)
  obtain ⟨m9, e9, c9⟩ := cq_first hw c8 (w := 1) (by omega)
  obtain ⟨m10, e10, c10⟩ := cq_sent hw c9
  obtain ⟨m11, e11, c11⟩ := cq_wrong hw c10
  obtain ⟨m12, e12, c12⟩ := cq_sum hw c11
  obtain ⟨m13, e13, c13⟩ := cq_leave hw c12 (d := 8) (w := 0) (by omega) (by omega)
  obtain ⟨m14, e14, c14⟩ := cq_leave hw c13 (d := 8) (w := 1) (by omega) (by omega)
  obtain ⟨m15, e15, c15⟩ := cq_burn hw c14 (i := -1) (Or.inl rfl)
  obtain ⟨m16, e16, c16⟩ := cq_burn hw c15 (i := 0) (Or.inr (Or.inl rfl))
  obtain ⟨m17, e17, c17⟩ := cq_never hw c16
  obtain ⟨m18, e18, c18⟩ := cq_years hw c17 7 (n := 6) (w := 0) (by omega) (by omega)
  obtain ⟨m19, e19, c19⟩ := cq_years hw c18 7 (n := 6) (w := 1) (by omega) (by omega)
  rw [show f_X6_coldest m6 = _ from e7, ev_c, ev_w, show f_X6_first (0 : Int32) m7 = _ from e8, ev_c, ev_w, show f_X6_first (1 : Int32) m8 = _ from e9, ev_c, ev_w, show f_X6_sent m9 = _ from e10, ev_c, ev_w, show f_X6_wrong m10 = _ from e11, ev_c, ev_w, show f_X6_sum m11 = _ from e12, ev_c, ev_w, show f_X6_leave (8 : Int32) (0 : Int32) m12 = _ from e13, ev_c, ev_w, show f_X6_leave (8 : Int32) (1 : Int32) m13 = _ from e14, ev_c, ev_w, show f_X6_burn (-1 : Int32) m14 = _ from e15, ev_c, ev_w, show f_X6_burn (0 : Int32) m15 = _ from e16, ev_c, ev_w, show f_X6_never m16 = _ from e17, ev_c, ev_w, show f_X6_years (7 : Int32) (6 : Int32) (0 : Int32) m17 = _ from e18, ev_c, ev_w, show f_X6_years (7 : Int32) (6 : Int32) (1 : Int32) m18 = _ from e19, ev_c]
  refine ⟨m19, ?_, c19⟩
  unfold vDig
  rw [hx]
  rfl
theorem manDigest_e (hw : wfS S) {m : zM} (h : MB S m) {i : Nat} (hi : i < itS S 1) (x : Int64) : ∃ m', f_X7_manDigest x (nI i) m = some (dMan S x i, m') ∧ MB S m' := by
  unfold f_X7_manDigest
  refine m_man hw hi h (P := fun R => ∃ m', R = some (dMan S x i, m') ∧ MB S m') (fun m2 c2 => ?_)
  try dsimp only
  obtain ⟨m3, e3, c3⟩ := beginOf_e hw c2.1 hi (w := 0) (by omega)
  obtain ⟨m4, e4, c4⟩ := beginOf_e hw c3.1 hi (w := 1) (by omega)
  rw [show f_X7_beginOf (nI i) (0 : Int32) m2 = _ from e3, ev_c, ev_w, show f_X7_beginOf (nI i) (1 : Int32) m3 = _ from e4, ev_c]
  exact ⟨m4, rfl, c4⟩
theorem callerDigest_e (hw : wfS S) {m : zM} (h : MB S m) {i : Nat} (hi : i < itS S 0) (x : Int64) : ∃ m', f_X7_callerDigest x (nI i) m = some (dCal S x i, m') ∧ MB S m' := by
  unfold f_X7_callerDigest
  refine m_cal hw hi h (P := fun R => ∃ m', R = some (dCal S x i, m') ∧ MB S m') (fun m2 c2 => ?_)
  try dsimp only
  obtain ⟨m3, e3, c3⟩ := standsOf_e hw c2.1 (d := 6) (by omega) hi
  obtain ⟨m4, e4, c4⟩ := standsOf_e hw c3.1 (d := 14) (by omega) hi
  obtain ⟨m5, e5, c5⟩ := standsOf_e hw c4.1 (d := 23) (by omega) hi
  obtain ⟨m6, e6, c6⟩ := nameOf_e hw c5.1 hi
  obtain ⟨m7, e7, c7⟩ := waitOf_e hw c6.1 hi
  obtain ⟨m8, e8, c8⟩ := sortsBy_e hw c7.1 hi
  obtain ⟨m9, e9, c9, -⟩ := longBy_e hw c8.1 hi
  obtain ⟨m10, e10, c10⟩ := askOf_e hw c9.1 hi
  obtain ⟨m11, e11, c11⟩ := chanceOf_e hw c10.1 (c := 5) (w := 0) (by omega) hi (by omega)
  obtain ⟨m12, e12, c12⟩ := chanceOf_e hw c11.1 (c := 5) (w := 1) (by omega) hi (by omega)
  rw [show f_X7_standsOf (6 : Int32) (nI i) m2 = _ from e3, ev_c, ev_w, show f_X7_standsOf (14 : Int32) (nI i) m3 = _ from e4, ev_c, ev_w, show f_X7_standsOf (23 : Int32) (nI i) m4 = _ from e5, ev_c, ev_w, show f_X7_nameOf (nI i) m5 = _ from e6, ev_c, ev_w, show f_X7_waitOf (nI i) m6 = _ from e7, ev_c, ev_w, show f_X7_sortsBy (nI i) m7 = _ from e8, ev_c, ev_w, show f_X7_longBy (nI i) m8 = _ from e9, ev_c, ev_w, show f_X7_askOf (nI i) m9 = _ from e10, ev_c, ev_w, show f_X7_chanceOf (5 : Int32) (nI i) (0 : Int32) m10 = _ from e11, ev_c, ev_w, show f_X7_chanceOf (5 : Int32) (nI i) (1 : Int32) m11 = _ from e12, ev_c]
  exact ⟨m12, rfl, c12⟩
theorem m_men (hw : wfS S) {K : Int64 → zM → Option (Int64 × zM)} {x : Int64} {m : zM} (h : MB S m) {P : Option (Int64 × zM) → Prop} (hK : ∀ m', MB S m' → P (K (dMen S x (itS S 1)) m')) : P (f_X7_digest_L59 K 400 x 0 m) := by
  have hb : itS S 1 ≤ 8 := Nat.le_trans (wT_told hw 0).2.1 (by omega)
  refine loop_X (fun q j (s : Int64 × zM) => f_X7_digest_L59 K q s.1 j s.2) P (itS S 1) (fun j s => s.1 = dMen S x j ∧ MB S s.2) ?_ ?_ 400 0 (x, m) (by omega) (by omega) ⟨rfl, h⟩
  · intro n s ⟨g1, g2⟩
    show P (f_X7_digest_L59 _ (n + 1) _ _ _)
    rw [f_X7_digest_L59, ev_g, show s.2 100 7 = nI (itS S 1) from g2.2.2.1, if_pos (nI_le (Nat.le_refl _) (by omega)), g1]
    exact hK _ g2
  · intro n j s hj ⟨g1, g2⟩
    obtain ⟨m2, e2, c2⟩ := manDigest_e hw g2 hj (dMen S x j)
    show ∃ s' : Int64 × zM, f_X7_digest_L59 _ (n + 1) _ _ _ = f_X7_digest_L59 _ n _ _ _ ∧ _
    rw [f_X7_digest_L59, ev_g, show s.2 100 7 = nI (itS S 1) from g2.2.2.1, if_neg (nI_ge hj (by omega)), g1, e2, ev_c, ev_v, nI_1]
    exact ⟨(_, m2), rfl, rfl, c2⟩
theorem m_cls (hw : wfS S) {K : Int64 → zM → Option (Int64 × zM)} {x : Int64} {m : zM} (h : MB S m) {P : Option (Int64 × zM) → Prop} (hK : ∀ m', MB S m' → P (K (dCls S x (itS S 0)) m')) : P (f_X7_digest_L82 K 400 x 0 m) := by
  have hb : itS S 0 ≤ 8 := (wT_told hw 0).1
  refine loop_X (fun q j (s : Int64 × zM) => f_X7_digest_L82 K q s.1 j s.2) P (itS S 0) (fun j s => s.1 = dCls S x j ∧ MB S s.2) ?_ ?_ 400 0 (x, m) (by omega) (by omega) ⟨rfl, h⟩
  · intro n s ⟨g1, g2⟩
    show P (f_X7_digest_L82 _ (n + 1) _ _ _)
    rw [f_X7_digest_L82, ev_g, show s.2 100 2 = nI (itS S 0) from g2.2.1, if_pos (nI_le (Nat.le_refl _) (by omega)), g1]
    exact hK _ g2
  · intro n j s hj ⟨g1, g2⟩
    obtain ⟨m2, e2, c2⟩ := callerDigest_e hw g2 hj (dCls S x j)
    show ∃ s' : Int64 × zM, f_X7_digest_L82 _ (n + 1) _ _ _ = f_X7_digest_L82 _ n _ _ _ ∧ _
    rw [f_X7_digest_L82, ev_g, show s.2 100 2 = nI (itS S 0) from g2.2.1, if_neg (nI_ge hj (by omega)), g1, e2, ev_c, ev_v, nI_1]
    exact ⟨(_, m2), rfl, rfl, c2⟩
theorem m_dys (hw : wfS S) {K : Int64 → zM → Option (Int64 × zM)} {x : Int64} {m : zM} (h : MB S m) {P : Option (Int64 × zM) → Prop} (hK : ∀ m', MB S m' → P (K (dDys S x 24) m')) : P (f_X7_digest_L105 K 400 x 0 m) := by
  refine loop_X (fun q j (s : Int64 × zM) => f_X7_digest_L105 K q s.1 j s.2) P 24 (fun j s => s.1 = dDys S x j ∧ MB S s.2) ?_ ?_ 400 0 (x, m) (by omega) (by omega) ⟨rfl, h⟩
  · intro n s ⟨g1, g2⟩
    show P (f_X7_digest_L105 _ (n + 1) _ _ _)
    rw [f_X7_digest_L105, if_pos (show (24 : Int32) ≤ nI 24 from nI_le (Nat.le_refl _) (by omega)), g1]
    exact hK _ g2
  · intro n j s hj ⟨g1, g2⟩
    show ∃ s' : Int64 × zM, f_X7_digest_L105 _ (n + 1) _ _ _ = f_X7_digest_L105 _ n _ _ _ ∧ _
    rw [f_X7_digest_L105, if_neg (show ¬ (24 : Int32) ≤ nI j from nI_ge (b := 24) hj (by omega)), g1]
    refine m_day hw hj g2 (P := fun R => ∃ s' : Int64 × zM, R = f_X7_digest_L105 K n s'.1 (nI (j + 1)) s'.2 ∧ s'.1 = dDys S x (j + 1) ∧ MB S s'.2) (fun m2 c2 => ?_)
    try dsimp only
    obtain ⟨m3, e3, c3⟩ := warmthOf_e hw c2.1 hj
    rw [e3, ev_c, ev_w, ev_v, nI_1]
    exact ⟨(_, m3), rfl, rfl, c3⟩
theorem brV_m (x : Option (Nat × Nat × Nat)) : brV x (-1) = brM x := by
  cases x with
  | none => rfl
  | some y => rfl
theorem digestM_e (hw : wfS S) (h : frM S μ) : ∃ μ', f_X7_digest μ = some (vDig S, μ') ∧ MB S μ' := by
  unfold f_X7_digest
  refine m_cnt hw h (P := fun R => ∃ μ', R = some (vDig S, μ') ∧ MB S μ') (fun m1 c1 => ?_)
  try dsimp only
  obtain ⟨m2, e2, c2⟩ := faultOf_e hw c1 (t := 0) (by omega)
  obtain ⟨m3, e3, c3⟩ := faultOf_e hw c2.1 (t := 1) (by omega)
  rw [show f_X7_faultOf (0 : Int32) m1 = _ from e2, ev_c, ev_w, show f_X7_faultOf (1 : Int32) m2 = _ from e3, ev_c, ev_w]
  refine m_men hw c3 (P := fun R => ∃ μ', R = some (vDig S, μ') ∧ MB S μ') (fun m4 c4 => ?_)
  try dsimp only
  refine m_cls hw c4 (P := fun R => ∃ μ', R = some (vDig S, μ') ∧ MB S μ') (fun m5 c5 => ?_)
  try dsimp only
  refine m_dys hw c5 (P := fun R => ∃ μ', R = some (vDig S, μ') ∧ MB S μ') (fun m6 c6 => ?_)
  try dsimp only
  have hx : dDys S (dCls S (dMen S (((31 : Int64) * (((31 : Int64) * dgN (vCount S) 17 8) + (Int32.toInt64 (oI (ftS S 0))))) + (Int32.toInt64 (oI (ftS S 1)))) (itS S 1)) (itS S 0)) 24 = dDys S (dCls S (dMen S (dSta S) (itS S 1)) (itS S 0)) 24 := rfl
  rw [hx]
  generalize hy : dDys S (dCls S (dMen S (dSta S) (itS S 1)) (itS S 0)) 24 = x
  obtain ⟨m7, e7, c7⟩ := coldestOf_e hw c6.1
  obtain ⟨m8, e8, c8⟩ := firstOf_e hw c7.1 (w := 0) (by omega)
  obtain ⟨m9, e9, c9⟩ := firstOf_e hw c8.1 (w := 1) (by omega)
  obtain ⟨m10, e10, c10⟩ := sentOf_e hw c9.1
  obtain ⟨m11, e11, c11⟩ := wrongOf_e hw c10.1
  obtain ⟨m12, e12, c12⟩ := sumOf_e hw c11.1
  obtain ⟨m13, e13, c13⟩ := leaveOf_e hw c12.1 (d := 8) (w := 0) (by omega) (by omega)
  obtain ⟨m14, e14, c14⟩ := leaveOf_e hw c13.1 (d := 8) (w := 1) (by omega) (by omega)
  obtain ⟨m15, e15, c15, hr⟩ := burnBy_e hw c14.1
  obtain ⟨m16, e16, c16⟩ := neverNow_e hw c15.1
  obtain ⟨m17, e17, c17⟩ := yearsOf_e hw c16.1 7 (n := 6) (w := 0) (by omega) (by omega)
  obtain ⟨m18, e18, c18⟩ := yearsOf_e hw c17.1 7 (n := 6) (w := 1) (by omega) (by omega)
  rw [show f_X7_coldestOf m6 = _ from e7, ev_c, ev_w, show f_X7_firstOf (0 : Int32) m7 = _ from e8, ev_c, ev_w, show f_X7_firstOf (1 : Int32) m8 = _ from e9, ev_c, ev_w, show f_X7_sentOf m9 = _ from e10, ev_c, ev_w, show f_X7_wrongOf m10 = _ from e11, ev_c, ev_w, show f_X7_sumOf m11 = _ from e12, ev_c, ev_w, show f_X7_leaveOf (8 : Int32) (0 : Int32) m12 = _ from e13, ev_c, ev_w, show f_X7_leaveOf (8 : Int32) (1 : Int32) m13 = _ from e14, ev_c, ev_w, e15, ev_c, ev_w, ofRow_e (brn_w hw) (i := 0) (Or.inr (Or.inl rfl)) hr, ev_c, ev_w, show f_X7_neverNow m15 = _ from e16, ev_c, ev_w, show f_X7_yearsOf (7 : Int32) (6 : Int32) (0 : Int32) m16 = _ from e17, ev_c, ev_w, show f_X7_yearsOf (7 : Int32) (6 : Int32) (1 : Int32) m17 = _ from e18, ev_c]
  refine ⟨m18, ?_, c18⟩
  unfold vDig dEnd
  rw [hy, brV_m]
end DG
section DGo
variable {μC μM : zM}
theorem op_digest (h : zRel μC μM) : ∃ (r : Int64) (μC1 μM1 : zM), f_X6_digest μC = some (r, μC1) ∧ f_X7_digest μM = some (r, μM1) ∧ zRel μC1 μM1 := by
  refine ask2 h (cq_digest h.1 h.2) ?_
  obtain ⟨m3, e3, hB3⟩ := digestM_e h.1 frM_rf
  exact ⟨m3, e3, hB3.1⟩
end DGo
