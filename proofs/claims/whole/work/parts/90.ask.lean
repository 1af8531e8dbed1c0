-- PURE: the next day to ask
def rkS (p : Nat → Bool) : Nat → Nat
  | 0 => 0
  | v + 1 => if p v = true then rkS p v + 1 else rkS p v
def cntN (q : Nat → Bool) : Nat → Nat
  | 0 => 0
  | v + 1 => if q v = true then cntN q v + 1 else cntN q v
def mxN (g : Nat → Nat) : Nat → Nat
  | 0 => 0
  | v + 1 => if mxN g v < g v then g v else mxN g v
theorem rkS_mono (p : Nat → Bool) {a : Nat} : ∀ b, a ≤ b → rkS p a ≤ rkS p b
  | 0, h => by
    have : a = 0 := by omega
    subst this; exact Nat.le_refl _
  | b + 1, h => by
    by_cases c : a = b + 1
    · subst c; exact Nat.le_refl _
    · have ih := rkS_mono p (a := a) b (by omega)
      show _ ≤ (if p b = true then rkS p b + 1 else rkS p b)
      split <;> omega
theorem rkS_le (p : Nat → Bool) : ∀ v, rkS p v ≤ v
  | 0 => Nat.le_refl _
  | v + 1 => by
    have := rkS_le p v
    show (if p v = true then rkS p v + 1 else rkS p v) ≤ v + 1
    split <;> omega
theorem rkS_le1 {p : Nat → Bool} (h0 : p 0 = false) : ∀ v, rkS p (v + 1) ≤ v
  | 0 => by
    show (if p 0 = true then rkS p 0 + 1 else rkS p 0) ≤ 0
    rw [if_neg (by rw [h0]; decide)]; exact Nat.le_refl _
  | v + 1 => by
    have := rkS_le1 h0 v
    show (if p (v + 1) = true then rkS p (v + 1) + 1 else rkS p (v + 1)) ≤ v + 1
    split <;> omega
theorem cntN_le (q : Nat → Bool) : ∀ v, cntN q v ≤ v
  | 0 => Nat.le_refl _
  | v + 1 => by
    have := cntN_le q v
    show (if q v = true then cntN q v + 1 else cntN q v) ≤ v + 1
    split <;> omega
theorem cntN_congr {q q' : Nat → Bool} : ∀ v, (∀ b, b < v → q' b = q b) → cntN q' v = cntN q v
  | 0, _ => rfl
  | v + 1, h => by
    show (if q' v = true then cntN q' v + 1 else cntN q' v) = (if q v = true then cntN q v + 1 else cntN q v)
    rw [h v (by omega), cntN_congr v (fun b hb => h b (by omega))]
theorem cntN_mono {q q' : Nat → Bool} : ∀ v, (∀ b, b < v → q b = true → q' b = true) → cntN q v ≤ cntN q' v
  | 0, _ => Nat.le_refl _
  | v + 1, h => by
    have ih := cntN_mono v (fun b hb => h b (by omega))
    show (if q v = true then cntN q v + 1 else cntN q v) ≤ (if q' v = true then cntN q' v + 1 else cntN q' v)
    by_cases c : q v = true
    · rw [if_pos c, if_pos (h v (by omega) c)]; omega
    · rw [if_neg c]; split <;> omega
theorem cntN_no {q : Nat → Bool} : ∀ v, (∀ b, b < v → q b = false) → cntN q v = 0
  | 0, _ => rfl
  | v + 1, h => by
    show (if q v = true then cntN q v + 1 else cntN q v) = 0
    rw [if_neg (by rw [h v (by omega)]; decide), cntN_no v (fun b hb => h b (by omega))]
theorem mxN_ge (g : Nat → Nat) {a : Nat} : ∀ v, a < v → g a ≤ mxN g v
  | 0, h => by omega
  | v + 1, h => by
    show g a ≤ (if mxN g v < g v then g v else mxN g v)
    by_cases c : a = v
    · subst c; split <;> omega
    · have := mxN_ge g (a := a) v (by omega)
      split <;> omega
theorem mxN_le {g : Nat → Nat} {m : Nat} : ∀ v, (∀ a, a < v → g a ≤ m) → mxN g v ≤ m
  | 0, _ => Nat.zero_le _
  | v + 1, h => by
    have := mxN_le v (fun a ha => h a (by omega))
    have := h v (by omega)
    show (if mxN g v < g v then g v else mxN g v) ≤ m
    split <;> omega
theorem mxN_congr {g g' : Nat → Nat} : ∀ v, (∀ a, a < v → g' a = g a) → mxN g' v = mxN g v
  | 0, _ => rfl
  | v + 1, h => by
    show (if mxN g' v < g' v then g' v else mxN g' v) = (if mxN g v < g v then g v else mxN g v)
    rw [h v (by omega), mxN_congr v (fun a ha => h a (by omega))]
theorem re_cnt (p q : Nat → Bool) : ∀ v, cntN q (rkS p v) = cntN (fun b => p b && q (rkS p b)) v
  | 0 => rfl
  | v + 1 => by
    have ih := re_cnt p q v
    show cntN q (if p v = true then rkS p v + 1 else rkS p v) = (if (p v && q (rkS p v)) = true then cntN (fun b => p b && q (rkS p b)) v + 1 else cntN (fun b => p b && q (rkS p b)) v)
    rw [← ih]
    by_cases c : p v = true
    · rw [if_pos c, c, Bool.true_and]; rfl
    · rw [if_neg c, if_neg (by simp [c])]
theorem re_mx (p : Nat → Bool) (g : Nat → Nat) : ∀ v, mxN g (rkS p v) = mxN (fun b => if p b = true then g (rkS p b) else 0) v
  | 0 => rfl
  | v + 1 => by
    have ih := re_mx p g v
    show mxN g (if p v = true then rkS p v + 1 else rkS p v) = (if mxN (fun b => if p b = true then g (rkS p b) else 0) v < (if p v = true then g (rkS p v) else 0) then (if p v = true then g (rkS p v) else 0) else mxN (fun b => if p b = true then g (rkS p b) else 0) v)
    rw [← ih]
    by_cases c : p v = true
    · rw [if_pos c, if_pos c]; rfl
    · rw [if_neg c, if_neg c, if_neg (by omega)]
/-- the most that are alike: all pairs, or from each on alone -/
def gAll (p : Nat → Bool) (w : Nat → Int32) (N : Nat) : Nat := mxN (fun a => cntN (fun b => p a && (p b && decide (w a = w b))) N) N
theorem alike_eq {p : Nat → Bool} {w row : Nat → Int32} {N : Nat} (hr : ∀ u, u < N → p u = true → row (rkS p u) = w u) : mxN (fun i => cntN (fun j => decide (i ≤ j) && decide (row i = row j)) (rkS p N)) (rkS p N) = gAll p w N := by
  rw [re_mx]
  have e1 : mxN (fun b => if p b = true then cntN (fun j => decide (rkS p b ≤ j) && decide (row (rkS p b) = row j)) (rkS p N) else 0) N = mxN (fun a => if p a = true then cntN (fun b => p b && (decide (rkS p a ≤ rkS p b) && decide (w a = w b))) N else 0) N := by
    refine mxN_congr N (fun a ha => ?_)
    by_cases c : p a = true
    · rw [if_pos c, if_pos c, re_cnt]
      refine cntN_congr N (fun b hb => ?_)
      by_cases c2 : p b = true
      · rw [hr a ha c, hr b hb c2]
      · simp [c2]
    · rw [if_neg c, if_neg c]
  rw [e1]
  unfold gAll
  apply Nat.le_antisymm
  · refine mxN_le N (fun a ha => ?_)
    refine Nat.le_trans ?_ (mxN_ge (fun a => cntN (fun b => p a && (p b && decide (w a = w b))) N) N ha)
    by_cases c : p a = true
    · rw [if_pos c]
      refine cntN_mono N (fun b hb h => ?_)
      simp only [Bool.and_eq_true, decide_eq_true_eq] at h ⊢
      exact ⟨c, h.1, h.2.2⟩
    · rw [if_neg c]; exact Nat.zero_le _
  · refine mxN_le N (fun a ha => ?_)
    by_cases c : p a = true
    · cases e : fstP (fun b => p b && decide (w a = w b)) N with
      | none =>
        have := fstP_none e a ha
        simp [c] at this
      | some a0 =>
        obtain ⟨f1, f2, f3⟩ := fstP_lt e
        simp only [Bool.and_eq_true, decide_eq_true_eq] at f2
        refine Nat.le_trans ?_ (mxN_ge (fun a => if p a = true then cntN (fun b => p b && (decide (rkS p a ≤ rkS p b) && decide (w a = w b))) N else 0) N f1)
        show _ ≤ (if p a0 = true then cntN (fun b => p b && (decide (rkS p a0 ≤ rkS p b) && decide (w a0 = w b))) N else 0)
        rw [if_pos f2.1]
        refine cntN_mono N (fun b hb h => ?_)
        simp only [Bool.and_eq_true, decide_eq_true_eq] at h ⊢
        refine ⟨h.2.1, ?_, by rw [← f2.2]; exact h.2.2⟩
        rcases Nat.lt_or_ge b a0 with q | q
        · have := f3 b q
          simp [h.2.1, h.2.2] at this
        · exact rkS_mono p b q
    · rw [cntN_no N (fun b _ => by simp [c])]; exact Nat.zero_le _
theorem zRw {i : Nat} (hi : i < 9) : zln (58 + i) = 24 := by
  have : i = 0 ∨ i = 1 ∨ i = 2 ∨ i = 3 ∨ i = 4 ∨ i = 5 ∨ i = 6 ∨ i = 7 ∨ i = 8 := by omega
  rcases this with rfl | rfl | rfl | rfl | rfl | rfl | rfl | rfl | rfl <;> rfl
section AK
variable {S μ : zM}
theorem wlP_0 {k : Nat} : wlP S k 0 = false := by unfold wlP; simp
def gS (S : zM) (k d : Nat) : Nat := gAll (wlP S k) (fun v => wmB S k v d) 10
theorem gS_le (S : zM) (k d : Nat) : gS S k d ≤ 10 := mxN_le 10 (fun a _ => cntN_le _ _)
def vAsk (S : zM) (k : Nat) : Int32 := nI (cld (fun d => nI (gS S k d)) 23)
theorem keep_e (hw : wfS S) {m : zM} (hC : CS S m) {k : Nat} (hk : k < itS S 0) (hT : HT 34 m (tolT S)) : ∃ m', f_X3_keepFitting 34 (nI k) m = some (nI (rkS (wlP S k) 10), m') ∧ fK m m' ∧ ∀ u, u < 10 → wlP S k u = true → ∀ d, d < 24 → m' (58 + rkS (wlP S k) u) d = wmB S k u d := by
  have zz := zC
  have hwT := wT_told hw 0
  have h8 : itS S 0 ≤ 8 := hwT.1
  obtain ⟨z1, z2, z3, z4, z5, z6, z7, z8, z9, z10, z11, z12⟩ := hz (r0 := 34) (Or.inr rfl)
  unfold f_X3_keepFitting
  refine loop_X (fun n i (s : Int32 × zM) => f_X3_keepFitting_L6 34 (nI k) (fun (x13 : Int32) μ => some (x13, μ)) n s.1 i s.2) (fun R => ∃ m', R = some (nI (rkS (wlP S k) 10), m') ∧ fK m m' ∧ ∀ u, u < 10 → wlP S k u = true → ∀ d, d < 24 → m' (58 + rkS (wlP S k) u) d = wmB S k u d) 10 (fun v s => 1 ≤ v ∧ s.1 = nI (rkS (wlP S k) v) ∧ fK m s.2 ∧ (∃ T', HT 34 s.2 T' ∧ agr 2 k (tolT S) T') ∧ ∀ u, u < v → wlP S k u = true → ∀ d, d < 24 → s.2 (58 + rkS (wlP S k) u) d = wmB S k u d) ?_ ?_ 400 1 (0, m) (by omega) (by omega) ⟨by omega, ?_, fun _ _ => rfl, ⟨tolT S, hT, agr_rf⟩, fun u hu hp => ?_⟩
  · intro n s ⟨_, g1, g2, _, g4⟩
    refine ⟨s.2, ?_, g2, g4⟩
    show f_X3_keepFitting_L6 _ _ _ (n + 1) _ _ _ = _
    rw [f_X3_keepFitting_L6, if_pos (show (9 : Int32) < nI 10 from nI_lt (a := 9) (by omega) (by omega)), g1]
  · intro n v s hv ⟨g0, g1, g2, ⟨T', g3, g4⟩, g5⟩
    have hrk : rkS (wlP S k) v < 9 := by
      obtain ⟨j, rfl⟩ : ∃ j, v = j + 1 := ⟨v - 1, by omega⟩
      have := rkS_le1 (p := wlP S k) wlP_0 j
      omega
    have hT' := HT_up (v := v) g3 g4 (by omega) (by omega)
    obtain ⟨m4, e4, l1, l2⟩ := run_e (Or.inr rfl) (wT_set2 hwT g0 (show v ≤ 9 by omega)) hT'
    have hF4 : ∀ a, a < 34 ∨ 47 ≤ a → m4 a = s.2 a := fun a ha => by rw [fC_4 l2 a ha, zup_n (by omega)]
    have hK4 : fK m m4 := fun a ha => by rw [hF4 a (by omega)]; exact g2 a ha
    have hft : f_X1_fits 34 m4 = some (bI (wlP S k v), m4) := by
      have := fits_e hw (CS_K hw hC hK4).2.2.1 l1
      rw [this]
      unfold wlP
      simp [g0]
    have hrow4 : ∀ u, u < v → wlP S k u = true → ∀ d, d < 24 → m4 (58 + rkS (wlP S k) u) d = wmB S k u d := fun u hu hp d hd => by rw [hF4 _ (by omega)]; exact g5 u hu hp d hd
    show ∃ s' : Int32 × zM, f_X3_keepFitting_L6 _ _ _ (n + 1) _ _ _ = f_X3_keepFitting_L6 _ _ _ n _ _ _ ∧ _
    rw [f_X3_keepFitting_L6, if_neg (show ¬ (9 : Int32) < nI v from nI_nlt (a := 9) (by omega) (by omega)), ev_st (by omega) (by omega), e4, ev_c, hft, ev_c, g1]
    cases c : wlP S k v with
    | false =>
      rw [if_pos (show bI false = 0 from rfl), ev_v, nI_1]
      have er : rkS (wlP S k) (v + 1) = rkS (wlP S k) v := if_neg (by rw [c]; decide)
      refine ⟨(nI (rkS (wlP S k) v), m4), rfl, by omega, by rw [er], hK4, ⟨_, l1.2.2.1, agr_set⟩, fun u hu hp d hd => ?_⟩
      by_cases q : u = v
      · subst q; rw [c] at hp; cases hp
      · exact hrow4 u (by omega) hp d hd
    | true =>
      have er : rkS (wlP S k) (v + 1) = rkS (wlP S k) v + 1 := if_pos c
      rw [if_neg nb0, if_neg (show ¬ (9 : Int32) ≤ nI (rkS (wlP S k) v) from nI_ge (b := 9) hrk (by omega))]
      have hz58 := zRw hrk
      have row : ∃ m5, f_X3_keepFitting_L43 34 (nI k) (nI (rkS (wlP S k) v)) (nI v) (fun μ => vI (nI (rkS (wlP S k) v) + (1 : Int32)) fun x11 => vI (nI v + (1 : Int32)) fun x12 => f_X3_keepFitting_L6 34 (nI k) (fun (x13 : Int32) μ => some (x13, μ)) n x11 x12 μ) 400 0 m4 = f_X3_keepFitting_L6 34 (nI k) (fun (x13 : Int32) μ => some (x13, μ)) n (nI (rkS (wlP S k) v + 1)) (nI (v + 1)) m5 ∧ (∀ a, a ≠ 58 + rkS (wlP S k) v → m5 a = m4 a) ∧ ∀ d, d < 24 → m5 (58 + rkS (wlP S k) v) d = wmB S k v d := by
        refine loop_X (fun q i (x : zM) => f_X3_keepFitting_L43 34 (nI k) (nI (rkS (wlP S k) v)) (nI v) (fun μ => vI (nI (rkS (wlP S k) v) + (1 : Int32)) fun x11 => vI (nI v + (1 : Int32)) fun x12 => f_X3_keepFitting_L6 34 (nI k) (fun (x13 : Int32) μ => some (x13, μ)) n x11 x12 μ) q i x) (fun R => ∃ m5, R = f_X3_keepFitting_L6 34 (nI k) (fun (x13 : Int32) μ => some (x13, μ)) n (nI (rkS (wlP S k) v + 1)) (nI (v + 1)) m5 ∧ (∀ a, a ≠ 58 + rkS (wlP S k) v → m5 a = m4 a) ∧ ∀ d, d < 24 → m5 (58 + rkS (wlP S k) v) d = wmB S k v d) 24 (fun e x => (∀ a, a ≠ 58 + rkS (wlP S k) v → x a = m4 a) ∧ ∀ d, d < e → x (58 + rkS (wlP S k) v) d = wmB S k v d) ?_ ?_ 400 0 m4 (by omega) (by omega) ⟨fun _ _ => rfl, fun d hd => by omega⟩
        · intro q x ⟨p1, p2⟩
          refine ⟨x, ?_, p1, p2⟩
          show f_X3_keepFitting_L43 _ _ _ _ _ (q + 1) _ _ = _
          rw [f_X3_keepFitting_L43, if_pos (show (24 : Int32) ≤ nI 24 from nI_le (Nat.le_refl _) (by omega)), ev_v, ev_v, nI_1, nI_1]
        · intro q e x he ⟨p1, p2⟩
          have hH : HC 34 x (setT (tolT S) 2 k v) (sim (setT (tolT S) 2 k v) 24) := HC_eq l1 (fun a _ _ => p1 a (by omega))
          have hwm : f_X2_warmthOn 34 (nI e) x = some (wmB S k v e, x) := warmthOn_e hH he
          show ∃ s' : zM, f_X3_keepFitting_L43 _ _ _ _ _ (q + 1) _ _ = f_X3_keepFitting_L43 _ _ _ _ _ q _ _ ∧ _
          rw [f_X3_keepFitting_L43, if_neg (show ¬ (24 : Int32) ≤ nI e from nI_ge (b := 24) he (by omega)), ev_ldR (by omega) (by omega), show zrf 49 (rkS (wlP S k) v) = 58 + rkS (wlP S k) v from rfl, hwm, ev_c, ev_st (by omega) (by omega), ev_v, nI_1 e]
          refine ⟨zup x (58 + rkS (wlP S k) v) e (wmB S k v e), rfl, fun a ha => by rw [zup_n ha]; exact p1 a ha, fun d hd => ?_⟩
          by_cases q : d = e
          · subst q; rw [zup_e]
          · rw [zup_o q]; exact p2 d (by omega)
      obtain ⟨m5, x1, x2, x3⟩ := row
      rw [x1]
      refine ⟨(nI (rkS (wlP S k) v + 1), m5), rfl, by omega, by rw [er], fun a ha => by show m5 a = _; rw [x2 a (by omega)]; exact hK4 a ha, ⟨_, HT_eq l1.2.2.1 (fun a _ _ => x2 a (by omega)), agr_set⟩, fun u hu hp d hd => ?_⟩
      show m5 _ d = _
      by_cases q : u = v
      · subst q; exact x3 d hd
      · have hlt : rkS (wlP S k) u < rkS (wlP S k) v := by
          have h1 : rkS (wlP S k) (u + 1) = rkS (wlP S k) u + 1 := if_pos hp
          have h2 := rkS_mono (wlP S k) (a := u + 1) v (by omega)
          omega
        rw [x2 _ (by omega)]
        exact hrow4 u (by omega) hp d hd
  · show (0 : Int32) = nI (rkS (wlP S k) 1)
    have : rkS (wlP S k) 1 = 0 := by
      have h1 : rkS (wlP S k) 1 ≤ 0 := rkS_le1 (p := wlP S k) wlP_0 0
      omega
    rw [this]; rfl
  · have : u = 0 := by omega
    subst this
    rw [wlP_0] at hp; cases hp
theorem great_e {m : zM} {R d : Nat} (hR : R ≤ 9) (hd : d < 24) : f_X3_greatestAlike (nI R) (nI d) m = some (nI (mxN (fun i => cntN (fun j => decide (i ≤ j) && decide (m (58 + i) d = m (58 + j) d)) R) R), m) := by
  have zz := zC
  unfold f_X3_greatestAlike
  refine loop_X (fun n i (a : Int32) => f_X3_greatestAlike_L5 (nI R) (nI d) (fun (x14 : Int32) μ => some (x14, μ)) n a i m) (fun Q => Q = some (nI (mxN (fun i => cntN (fun j => decide (i ≤ j) && decide (m (58 + i) d = m (58 + j) d)) R) R), m)) R (fun i a => a = nI (mxN (fun i => cntN (fun j => decide (i ≤ j) && decide (m (58 + i) d = m (58 + j) d)) R) i)) ?_ ?_ 400 0 0 (by omega) (by omega) rfl
  · intro n a ha
    show f_X3_greatestAlike_L5 _ _ _ (n + 1) _ _ _ = _
    rw [f_X3_greatestAlike_L5, if_pos (nI_le (Nat.le_refl _) (by omega)), ha]
  · intro n i a hi ha
    refine ⟨_, ?_, rfl⟩
    show f_X3_greatestAlike_L5 _ _ _ (n + 1) _ _ _ = f_X3_greatestAlike_L5 _ _ _ n _ _ _
    rw [f_X3_greatestAlike_L5, if_neg (nI_ge hi (by omega)), ha]
    have hzi := zRw (i := i) (by omega)
    have inner : ∀ K : Int32 → zM → Option (Int32 × zM), f_X3_greatestAlike_L18 (nI R) (nI d) (nI (mxN (fun i => cntN (fun j => decide (i ≤ j) && decide (m (58 + i) d = m (58 + j) d)) R) i)) (nI i) K 400 0 (nI i) m = K (nI (cntN (fun j => decide (i ≤ j) && decide (m (58 + i) d = m (58 + j) d)) R)) m := by
      intro K
      refine loop_X (fun q j (b : Int32) => f_X3_greatestAlike_L18 (nI R) (nI d) (nI (mxN (fun i => cntN (fun j => decide (i ≤ j) && decide (m (58 + i) d = m (58 + j) d)) R) i)) (nI i) K q b j m) (fun Q => Q = K (nI (cntN (fun j => decide (i ≤ j) && decide (m (58 + i) d = m (58 + j) d)) R)) m) R (fun j b => i ≤ j ∧ b = nI (cntN (fun j => decide (i ≤ j) && decide (m (58 + i) d = m (58 + j) d)) j)) ?_ ?_ 400 i 0 (by omega) (by omega) ⟨Nat.le_refl _, ?_⟩
      · intro q b ⟨_, hb⟩
        show f_X3_greatestAlike_L18 _ _ _ _ _ (q + 1) _ _ _ = _
        rw [f_X3_greatestAlike_L18, if_pos (nI_le (Nat.le_refl _) (by omega)), hb]
      · intro q j b hj ⟨hij, hb⟩
        have hzj := zRw (i := j) (by omega)
        refine ⟨_, ?_, by omega, rfl⟩
        show f_X3_greatestAlike_L18 _ _ _ _ _ (q + 1) _ _ _ = f_X3_greatestAlike_L18 _ _ _ _ _ q (nI (if (decide (i ≤ j) && decide (m (58 + i) d = m (58 + j) d)) = true then cntN (fun j => decide (i ≤ j) && decide (m (58 + i) d = m (58 + j) d)) j + 1 else cntN (fun j => decide (i ≤ j) && decide (m (58 + i) d = m (58 + j) d)) j)) _ _
        rw [f_X3_greatestAlike_L18, if_neg (nI_ge hj (by omega)), ev_ldR (by omega) (by omega), show zrf 49 i = 58 + i from rfl, ev_ld (by omega) (by omega), ev_ldR (by omega) (by omega), show zrf 49 j = 58 + j from rfl, ev_ld (by omega) (by omega), hb]
        by_cases c : m (58 + i) d = m (58 + j) d
        · rw [if_neg (fun q => q c), ev_v, ev_v, nI_1, nI_1, if_pos (by simp [c, hij])]
        · rw [if_pos c, ev_v, nI_1, if_neg (by simp [c])]
      · rw [cntN_no i (fun b hb => by have : ¬ i ≤ b := by omega
                                      simp [this])]; rfl
    rw [inner]
    have hc := cntN_le (fun j => decide (i ≤ j) && decide (m (58 + i) d = m (58 + j) d)) R
    have hm : mxN (fun i => cntN (fun j => decide (i ≤ j) && decide (m (58 + i) d = m (58 + j) d)) R) i ≤ R := mxN_le i (fun a _ => cntN_le _ _)
    rw [ev_v, ev_v, nI_1]
    show _ = f_X3_greatestAlike_L5 _ _ _ n (nI (if mxN (fun i => cntN (fun j => decide (i ≤ j) && decide (m (58 + i) d = m (58 + j) d)) R) i < cntN (fun j => decide (i ≤ j) && decide (m (58 + i) d = m (58 + j) d)) R then cntN (fun j => decide (i ≤ j) && decide (m (58 + i) d = m (58 + j) d)) R else mxN (fun i => cntN (fun j => decide (i ≤ j) && decide (m (58 + i) d = m (58 + j) d)) R) i)) _ _
    by_cases c : mxN (fun i => cntN (fun j => decide (i ≤ j) && decide (m (58 + i) d = m (58 + j) d)) R) i < cntN (fun j => decide (i ≤ j) && decide (m (58 + i) d = m (58 + j) d)) R
    · rw [if_pos c, if_pos (nI_lt c (by omega))]
    · rw [if_neg c, if_neg (nI_nlt (by omega) (by omega))]
theorem cq_ask (hw : wfS S) (h : CS S μ) {k : Nat} (hk : k < itS S 0) : ∃ μ', f_X6_ask (nI k) μ = some (vAsk S k, μ') ∧ CS S μ' := by
  have hwT := wT_told hw 0
  have h8 : itS S 0 ≤ 8 := hwT.1
  unfold f_X6_ask
  obtain ⟨m1, e1, c1, c2, -⟩ := told_e hw h
  obtain ⟨m2, e2, b1, b2⟩ := become_e hwT c2.2.2.1
  have hC2 := CS_K hw c1 (fK_C b2)
  obtain ⟨m3, e3, k1, k2⟩ := keep_e hw hC2 hk b1
  have hR9 : rkS (wlP S k) 10 ≤ 9 := rkS_le1 (p := wlP S k) wlP_0 9
  have hg : ∀ d, d < 24 → f_X3_greatestAlike (nI (rkS (wlP S k) 10)) (nI d) m3 = some (nI (gS S k d), m3) := by
    intro d hd
    rw [great_e hR9 hd]
    have := alike_eq (p := wlP S k) (w := fun v => wmB S k v d) (row := fun i => m3 (58 + i) d) (N := 10) (fun u hu hp => k2 u hu hp d hd)
    rw [this]; rfl
  rw [e1, ev_c, hasCaller_e c2, show wi (nI k) 0 (nI (tolT S 0 0) - (1 : Int32)) = true from wi_k (n := itS S 0) hk (by omega), ev_c, if_pos nb0, e2, ev_c, e3, ev_c, show f_X3_greatestAlike (nI (rkS (wlP S k) 10)) (0 : Int32) m3 = _ from hg 0 (by omega), ev_c]
  refine ⟨m3, ?_, CS_K hw hC2 k1⟩
  generalize hw9 : (fun d => nI (gS S k d)) = gw
  have hgw : ∀ d, nI (gS S k d) = gw d := fun d => by rw [← hw9]
  unfold vAsk
  rw [hw9]
  refine loop_X (fun n i (a : Int32 × Int32) => f_X6_ask_L58 (nI (rkS (wlP S k) 10)) (fun (x10 : Int32) μ => some (x10, μ)) n a.1 a.2 i m3) (fun R => R = some (nI (cld gw 23), m3)) 24 (fun j a => 1 ≤ j ∧ a.1 = nI (cld gw (j - 1)) ∧ a.2 = gw (cld gw (j - 1))) ?_ ?_ 400 1 (0, nI (gS S k 0)) (by omega) (by omega) ⟨by omega, rfl, hgw 0⟩
  · intro n a ⟨_, ha, _⟩
    show f_X6_ask_L58 _ _ (n + 1) _ _ _ _ = _
    rw [f_X6_ask_L58, if_pos (show (24 : Int32) ≤ nI 24 from nI_le (Nat.le_refl _) (by omega)), ha]
  · intro n j a hj ⟨h1j, ha, hb⟩
    have e9 : cld gw (j + 1 - 1) = if gw j < gw (cld gw (j - 1)) then j else cld gw (j - 1) := by
      obtain ⟨i, rfl⟩ : ∃ i, j = i + 1 := ⟨j - 1, by omega⟩
      rfl
    refine ⟨(nI (cld gw (j + 1 - 1)), gw (cld gw (j + 1 - 1))), ?_, by omega, rfl, rfl⟩
    show f_X6_ask_L58 _ _ (n + 1) _ _ _ _ = f_X6_ask_L58 _ _ n _ _ _ _
    rw [f_X6_ask_L58, if_neg (show ¬ (24 : Int32) ≤ nI j from nI_ge (b := 24) hj (by omega)), hg j hj, ev_c, ha, hb, e9, hgw j]
    by_cases c : gw j < gw (cld gw (j - 1))
    · rw [if_pos c, if_neg (Int32.not_le.mpr c), ev_v, nI_1]
    · rw [if_neg c, if_pos (Int32.not_lt.mp c), ev_v, nI_1]
theorem askOf_e (hw : wfS S) (h : frM S μ) {k : Nat} (hk : k < itS S 0) : ∃ μ', f_X7_askOf (nI k) μ = some (vAsk S k, μ') ∧ MB S μ' := by
  have zm := zMt
  unfold f_X7_askOf
  obtain ⟨m, e, hB, hr⟩ := longBy_e hw h hk
  rw [e, ev_c, vWas_1]
  refine ⟨m, ?_, hB⟩
  have htb : ∀ v, v < 10 → tb (bits (wlP S k) 10) v = wlP S k v := fun v hv => by rw [tb_bits _ (by omega) 10 (by omega)]; simp [hv]
  -- one patience against all
  have in40 : ∀ d, d < 24 → ∀ a, a < 10 → ∀ (v3 v4 v6 : Int32) (K : Int32 → zM → Option (Int32 × zM)), f_X7_askOf_L40 (bits (wlP S k) 10) v3 v4 (nI d) v6 (nI a) K 400 0 1 m = K (nI (cntN (fun b => wlP S k a && (wlP S k b && decide (wmB S k a d = wmB S k b d))) 10)) m := by
    intro d hd a ha v3 v4 v6 K
    refine loop_X (fun q j (b : Int32) => f_X7_askOf_L40 (bits (wlP S k) 10) v3 v4 (nI d) v6 (nI a) K q b j m) (fun Q => Q = K (nI (cntN (fun b => wlP S k a && (wlP S k b && decide (wmB S k a d = wmB S k b d))) 10)) m) 10 (fun j b => 1 ≤ j ∧ b = nI (cntN (fun b => wlP S k a && (wlP S k b && decide (wmB S k a d = wmB S k b d))) j)) ?_ ?_ 400 1 0 (by omega) (by omega) ⟨by omega, ?_⟩
    · intro q b ⟨_, hb⟩
      show f_X7_askOf_L40 _ _ _ _ _ _ _ (q + 1) _ _ _ = _
      rw [f_X7_askOf_L40, if_pos (show (10 : Int32) ≤ nI 10 from nI_le (Nat.le_refl _) (by omega)), hb]
    · intro q j b hj ⟨h1, hb⟩
      refine ⟨_, ?_, by omega, rfl⟩
      show f_X7_askOf_L40 _ _ _ _ _ _ _ (q + 1) _ _ _ = f_X7_askOf_L40 _ _ _ _ _ _ _ q (nI (if (wlP S k a && (wlP S k j && decide (wmB S k a d = wmB S k j d))) = true then cntN (fun b => wlP S k a && (wlP S k b && decide (wmB S k a d = wmB S k b d))) j + 1 else cntN (fun b => wlP S k a && (wlP S k b && decide (wmB S k a d = wmB S k b d))) j)) _ _
      rw [f_X7_askOf_L40, if_neg (show ¬ (10 : Int32) ≤ nI j from nI_ge (b := 10) hj (by omega)), isInM_e _ (by omega), ev_c, htb a ha, hb]
      cases ca : wlP S k a with
      | false => rw [if_pos (show bI false = 0 from rfl), ev_v, ev_v, nI_1, Int32.add_zero, if_neg (by simp)]
      | true =>
        have ha1 : 1 ≤ a := by
          rcases Nat.eq_zero_or_pos a with q | q
          · subst q; rw [wlP_0] at ca; cases ca
          · exact q
        rw [if_neg nb0, isInM_e _ (by omega), ev_c, htb j hj]
        cases cj : wlP S k j with
        | false => rw [if_pos (show bI false = 0 from rfl), ev_v, ev_v, nI_1, Int32.add_zero, if_neg (by simp)]
        | true =>
          rw [if_neg nb0, q_mul_24, q_mul_24, nI_add, nI_add, ev_ld (by omega) (by omega), ev_ld (by omega) (by omega), hr a ha1 ha d hd, hr j h1 hj d hd]
          by_cases c : wmB S k a d = wmB S k j d
          · rw [if_neg (fun q => q c), ev_v, ev_v, nI_1, nI_1, if_pos (by simp [c])]
          · rw [if_pos c, ev_v, ev_v, nI_1, Int32.add_zero, if_neg (by simp [c])]
    · have : cntN (fun b => wlP S k a && (wlP S k b && decide (wmB S k a d = wmB S k b d))) 1 = 0 := cntN_no 1 (fun b hb => by
        have : b = 0 := by omega
        subst this; rw [wlP_0]; simp)
      rw [this]; rfl
  have in27 : ∀ d, d < 24 → ∀ (v3 v4 : Int32) (K : Int32 → zM → Option (Int32 × zM)), f_X7_askOf_L27 (bits (wlP S k) 10) v3 v4 (nI d) K 400 0 1 m = K (nI (gS S k d)) m := by
    intro d hd v3 v4 K
    refine loop_X (fun q j (b : Int32) => f_X7_askOf_L27 (bits (wlP S k) 10) v3 v4 (nI d) K q b j m) (fun Q => Q = K (nI (gS S k d)) m) 10 (fun j b => 1 ≤ j ∧ b = nI (mxN (fun a => cntN (fun b => wlP S k a && (wlP S k b && decide (wmB S k a d = wmB S k b d))) 10) j)) ?_ ?_ 400 1 0 (by omega) (by omega) ⟨by omega, ?_⟩
    · intro q b ⟨_, hb⟩
      show f_X7_askOf_L27 _ _ _ _ _ (q + 1) _ _ _ = _
      rw [f_X7_askOf_L27, if_pos (show (10 : Int32) ≤ nI 10 from nI_le (Nat.le_refl _) (by omega)), hb]; rfl
    · intro q j b hj ⟨h1, hb⟩
      refine ⟨_, ?_, by omega, rfl⟩
      show f_X7_askOf_L27 _ _ _ _ _ (q + 1) _ _ _ = f_X7_askOf_L27 _ _ _ _ _ q (nI (if mxN (fun a => cntN (fun b => wlP S k a && (wlP S k b && decide (wmB S k a d = wmB S k b d))) 10) j < cntN (fun b => wlP S k j && (wlP S k b && decide (wmB S k j d = wmB S k b d))) 10 then cntN (fun b => wlP S k j && (wlP S k b && decide (wmB S k j d = wmB S k b d))) 10 else mxN (fun a => cntN (fun b => wlP S k a && (wlP S k b && decide (wmB S k a d = wmB S k b d))) 10) j)) _ _
      rw [f_X7_askOf_L27, if_neg (show ¬ (10 : Int32) ≤ nI j from nI_ge (b := 10) hj (by omega)), in40 d hd j hj, hb]
      have hc := cntN_le (fun b => wlP S k j && (wlP S k b && decide (wmB S k j d = wmB S k b d))) 10
      have hm : mxN (fun a => cntN (fun b => wlP S k a && (wlP S k b && decide (wmB S k a d = wmB S k b d))) 10) j ≤ 10 := mxN_le j (fun a _ => cntN_le _ _)
      by_cases c : mxN (fun a => cntN (fun b => wlP S k a && (wlP S k b && decide (wmB S k a d = wmB S k b d))) 10) j < cntN (fun b => wlP S k j && (wlP S k b && decide (wmB S k j d = wmB S k b d))) 10
      · rw [if_pos c, if_neg (nI_ge c (by omega)), ev_v, nI_1]
      · rw [if_neg c, if_pos (nI_le (by omega) (by omega)), ev_v, nI_1]
    · have e0 : cntN (fun b => wlP S k 0 && (wlP S k b && decide (wmB S k 0 d = wmB S k b d))) 10 = 0 := cntN_no 10 (fun b _ => by rw [wlP_0]; simp)
      show (0 : Int32) = nI (if mxN (fun a => cntN (fun b => wlP S k a && (wlP S k b && decide (wmB S k a d = wmB S k b d))) 10) 0 < cntN (fun b => wlP S k 0 && (wlP S k b && decide (wmB S k 0 d = wmB S k b d))) 10 then cntN (fun b => wlP S k 0 && (wlP S k b && decide (wmB S k 0 d = wmB S k b d))) 10 else mxN (fun a => cntN (fun b => wlP S k a && (wlP S k b && decide (wmB S k a d = wmB S k b d))) 10) 0)
      rw [e0, if_neg (Nat.not_lt_zero _)]; rfl
  generalize hw9 : (fun d => nI (gS S k d)) = gw
  have hgw : ∀ d, nI (gS S k d) = gw d := fun d => by rw [← hw9]
  unfold vAsk
  rw [hw9]
  refine loop_X (fun n i (a : Int32 × Int32) => f_X7_askOf_L14 (bits (wlP S k) 10) (fun (x33 : Int32) μ => some (x33, μ)) n a.1 a.2 i m) (fun R => R = some (nI (cld gw 23), m)) 24 (fun j a => (j = 0 ∧ a.1 = -1) ∨ (1 ≤ j ∧ a.1 = nI (cld gw (j - 1)) ∧ a.2 = gw (cld gw (j - 1)))) ?_ ?_ 400 0 (-1, 0) (by omega) (by omega) (Or.inl ⟨rfl, rfl⟩)
  · intro n a ha
    rcases ha with ⟨q, -⟩ | ⟨-, ha, -⟩
    · omega
    · show f_X7_askOf_L14 _ _ (n + 1) _ _ _ _ = _
      rw [f_X7_askOf_L14, if_pos (show (24 : Int32) ≤ nI 24 from nI_le (Nat.le_refl _) (by omega)), ha]
  · intro n j a hj ha
    refine ⟨(nI (cld gw (j + 1 - 1)), gw (cld gw (j + 1 - 1))), ?_, Or.inr ⟨by omega, rfl, rfl⟩⟩
    show f_X7_askOf_L14 _ _ (n + 1) _ _ _ _ = f_X7_askOf_L14 _ _ n _ _ _ _
    rw [f_X7_askOf_L14, if_neg (show ¬ (24 : Int32) ≤ nI j from nI_ge (b := 24) hj (by omega)), in27 j hj]
    rw [ev_j]
    rcases ha with ⟨rfl, ha⟩ | ⟨h1j, ha, hb⟩
    · rw [if_pos ha]
      dsimp only
      rw [ev_j, if_neg (show ¬ (1 : Int32) = 0 by decide)]
      dsimp only
      rw [if_neg (show ¬ (1 : Int32) = 0 by decide), ev_v, nI_1, hgw 0]; rfl
    · have hcl := cld_le gw (j - 1)
      have e9 : cld gw (j + 1 - 1) = if gw j < gw (cld gw (j - 1)) then j else cld gw (j - 1) := by
        obtain ⟨i, rfl⟩ : ∃ i, j = i + 1 := ⟨j - 1, by omega⟩
        rfl
      rw [if_neg (show ¬ a.1 = -1 by rw [ha]; exact nI_m1 (by omega)), hgw j, e9, ha, hb]
      by_cases c : gw j < gw (cld gw (j - 1))
      · rw [if_pos c, if_neg (Int32.not_le.mpr c)]
        dsimp only
        rw [ev_j, if_neg (show ¬ (1 : Int32) = 0 by decide)]
        dsimp only
        rw [if_neg (show ¬ (1 : Int32) = 0 by decide), ev_v, nI_1]
      · rw [if_neg c, if_pos (Int32.not_lt.mp c)]
        dsimp only
        rw [ev_j, if_pos (show (0 : Int32) = 0 from rfl)]
        dsimp only
        rw [if_pos (show (0 : Int32) = 0 from rfl), ev_v, nI_1]
end AK
section AKo
variable {μC μM : zM}
theorem op_ask (a1 : Int32) (h : zRel μC μM) : ∃ (r : Int32) (μC1 μM1 : zM), f_X6_ask a1 μC = some (r, μC1) ∧ f_X7_ask a1 μM = some (r, μM1) ∧ zRel μC1 μM1 := by
  have h8 : itS μM 0 ≤ 8 := (wT_told h.1 0).1
  obtain ⟨m, e, h1, h2, -⟩ := told_e h.1 h.2
  obtain ⟨m2, e2, hB⟩ := isCallerM_e h.1 frM_rf a1
  rcases wi_cases1 a1 (n := itS μM 0) (by omega) with c | ⟨k, hk, rfl⟩
  · refine ask2 (r := -2) h ⟨m, ?_, h1⟩ ⟨m2, ?_, hB.1⟩
    · unfold f_X6_ask
      rw [e, ev_c, hasCaller_e h2, show wi a1 0 (nI (tolT μM 0 0) - (1 : Int32)) = false from c, ev_c, if_neg (fun q => q rfl)]
    · unfold f_X7_ask
      rw [e2, ev_c, c, if_pos (show bI false = 0 from rfl)]
  · refine ask2 h (cq_ask h.1 h.2 hk) ?_
    obtain ⟨m3, e3, hB3⟩ := askOf_e h.1 hB.1 hk
    refine ⟨m3, ?_, hB3.1⟩
    unfold f_X7_ask
    rw [e2, ev_c, show wi (nI k) 0 (nI (itS μM 0) - (1 : Int32)) = true from wi_k hk (by omega), if_neg nb0, e3, ev_c]
end AKo
