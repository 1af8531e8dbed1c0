-- PURE: what a house answers
theorem fstP_lt {p : Nat → Bool} {m : Nat} : ∀ {n : Nat}, fstP p n = some m → m < n ∧ p m = true ∧ ∀ i, i < m → p i = false
  | 0, h => by cases h
  | n + 1, h => by
    unfold fstP at h
    cases e : fstP p n with
    | some q =>
      rw [e] at h
      cases h
      obtain ⟨h1, h2, h3⟩ := fstP_lt e
      exact ⟨by omega, h2, h3⟩
    | none =>
      rw [e] at h
      by_cases c : p n = true
      · simp only [c, if_true] at h
        cases h
        refine ⟨by omega, c, ?_⟩
        clear c
        have key : ∀ k, fstP p k = none → ∀ i, i < k → p i = false := by
          intro k
          induction k with
          | zero => intro _ i hi; omega
          | succ k ih =>
            intro hk i hi
            unfold fstP at hk
            cases e2 : fstP p k with
            | some q => rw [e2] at hk; cases hk
            | none =>
              rw [e2] at hk
              by_cases c2 : p k = true
              · simp only [c2, if_true] at hk; cases hk
              · rcases Nat.lt_or_ge i k with q | q
                · exact ih e2 i q
                · have : i = k := by omega
                  subst this
                  simpa using c2
        exact key m e
      · simp only [c] at h; cases h
theorem fstP_none {p : Nat → Bool} : ∀ {n : Nat}, fstP p n = none → ∀ i, i < n → p i = false
  | 0, _, i, hi => by omega
  | n + 1, h, i, hi => by
    unfold fstP at h
    cases e : fstP p n with
    | some q => rw [e] at h; cases h
    | none =>
      rw [e] at h
      by_cases c : p n = true
      · simp only [c, if_true] at h; cases h
      · rcases Nat.lt_or_ge i n with q | q
        · exact fstP_none e i q
        · have : i = n := by omega
          subst this
          simpa using c
theorem fstP_at {p : Nat → Bool} {k : Nat} (h : fstP p k = none) (hp : p k = true) : ∀ {n : Nat}, k < n → fstP p n = some k
  | 0, hn => by omega
  | n + 1, hn => by
    unfold fstP
    rcases Nat.lt_or_ge k n with q | q
    · rw [fstP_at h hp q]
    · have : k = n := by omega
      subst this
      rw [h]
      simp [hp]
theorem bcount (a : Int32) (μ : zM) : ∃ v, f_J6_bitCount_0f7a4 a μ = some (v, μ) ∧ v = (f_J6_bitCount_0f7a4 a (fun _ _ => 0)).elim 0 (fun x => x.1) := ⟨_, rfl, rfl⟩
def bv (p : Nat → Bool) : Nat → Nat
  | 0 => 0
  | k + 1 => if p k = true then bv p k + 2 ^ k else bv p k
theorem bv_lt (p : Nat → Bool) : ∀ n, bv p n < 2 ^ n
  | 0 => Nat.one_pos
  | k + 1 => by
    have ih := bv_lt p k
    unfold bv
    rw [Nat.pow_succ]
    split <;> omega
theorem bits_step : ∀ k, k < 8 → ∀ m, m < 2 ^ k → nI m ||| ((1 : Int32) <<< (nI k &&& 31)) = nI (m + 2 ^ k) := by decide +kernel
theorem bits_bv (p : Nat → Bool) : ∀ n, n ≤ 8 → bits p n = nI (bv p n)
  | 0, _ => rfl
  | k + 1, h => by
    unfold bits bv
    rw [bits_bv p k (by omega)]
    by_cases c : p k = true
    · simp only [c, if_true]; exact bits_step k (by omega) _ (bv_lt p k)
    · simp only [c]; rfl
def pcN (m : Nat) : Nat := (List.range 8).foldl (fun a i => a + m / 2 ^ i % 2) 0
theorem pcN_step : ∀ k, k < 8 → ∀ m, m < 2 ^ k → pcN (m + 2 ^ k) = pcN m + 1 := by decide +kernel
theorem bc_val : ∀ m, m < 256 → (f_J6_bitCount_0f7a4 (nI m) (fun _ _ => 0)).elim 0 (fun x => x.1) = nI (pcN m) := by decide +kernel
theorem cntI_pc (p : Nat → Bool) : ∀ n, n ≤ 8 → cntI p n = nI (pcN (bv p n))
  | 0, _ => (by decide +kernel : (0 : Int32) = nI (pcN 0))
  | k + 1, h => by
    unfold cntI bv
    rw [cntI_pc p k (by omega)]
    by_cases c : p k = true
    · simp only [c, if_true]; rw [pcN_step k (by omega) _ (bv_lt p k), nI_1]
    · simp only [c]; rfl
theorem bitCount_e (p : Nat → Bool) {n : Nat} (hn : n ≤ 8) (μ : zM) : f_J6_bitCount_0f7a4 (bits p n) μ = some (cntI p n, μ) := by
  obtain ⟨v, h1, h2⟩ := bcount (bits p n) μ
  have h3 : bv p n < 256 := Nat.lt_of_lt_of_le (bv_lt p n) (Nat.pow_le_pow_right (by decide) hn)
  rw [h1, h2, bits_bv p n hn, bc_val _ h3, cntI_pc p n hn]
theorem tb_bits (p : Nat → Bool) {i : Nat} (hi : i < 31) : ∀ n, n ≤ 31 → tb (bits p n) i = (decide (i < n) && p i)
  | 0, _ => by rw [show bits p 0 = 0 from rfl, tb_0]; simp
  | k + 1, h => by
    have ih := tb_bits p hi k (by omega)
    unfold bits
    by_cases c : p k = true
    · simp only [c, if_true]
      rw [tb_or (by omega) hi, ih]
      by_cases e : i = k
      · subst e; simp [c]
      · by_cases e2 : i < k
        · simp [e2, e, Nat.lt_succ_of_lt e2]
        · have : ¬ i < k + 1 := by omega
          simp [e2, e, this]
    · simp only [c]
      rw [show (if false = true then bits p k ||| ((1 : Int32) <<< (nI k &&& 31)) else bits p k) = bits p k from rfl, ih]
      by_cases e : i = k
      · subst e; simp [c]
      · by_cases e2 : i < k
        · simp [e2, Nat.lt_succ_of_lt e2]
        · have : ¬ i < k + 1 := by omega
          simp [e2, this]
theorem bits_congr {p q : Nat → Bool} : ∀ {n : Nat}, (∀ k, k < n → p k = q k) → bits p n = bits q n
  | 0, _ => rfl
  | n + 1, h => by unfold bits; rw [bits_congr (fun k hk => h k (by omega)), h n (by omega)]
theorem cntI_congr {p q : Nat → Bool} : ∀ {n : Nat}, (∀ k, k < n → p k = q k) → cntI p n = cntI q n
  | 0, _ => rfl
  | n + 1, h => by unfold cntI; rw [cntI_congr (fun k hk => h k (by omega)), h n (by omega)]
section HQ2
variable {r0 : Nat} {μ : zM} {T : zT2} {σ : zSS}
theorem manAt_e (hr : hO r0) (hw : wT T) (hT : HT r0 μ T) {d : Nat} (hd : d < 24) : f_X2_manAt r0 (nI d) μ = some (oI (doorS T d), μ) := by
  obtain ⟨z1, z2, z3, z4, z5, z6, z7, z8, z9, z10, z11, z12⟩ := hz hr
  have hn := hw.2.1
  unfold f_X2_manAt
  refine loop_P (fun n i (_ : Unit) => f_X2_manAt_L2 r0 (nI d) (fun μ => some ((-1 : Int32), μ)) n i μ) (fun R => R = some (oI (doorS T d), μ)) (T 0 1) (fun k _ => fstP (fun m => decide (T 7 m ≤ d) && decide (d ≤ T 8 m)) k = none) ?_ ?_ 400 0 () (by omega) (by omega) rfl
  · intro n _ ha
    show f_X2_manAt_L2 _ _ _ (n + 1) _ _ = _
    rw [f_X2_manAt_L2, ev_g, hT.2.1, if_pos (nI_le (Nat.le_refl _) (by omega))]
    unfold doorS
    rw [ha]; rfl
  · intro n k _ hk ha
    have hm := hw.2.2.2 k hk
    have e7 := hT.2.2.2 7 (by omega) (by omega) k hk
    have e8 := hT.2.2.2 8 (by omega) (by omega) k hk
    show f_X2_manAt_L2 _ _ _ (n + 1) _ _ = _ ∨ ∃ s' : Unit, f_X2_manAt_L2 _ _ _ (n + 1) _ _ = f_X2_manAt_L2 _ _ _ n _ _ ∧ _
    rw [f_X2_manAt_L2, ev_g, hT.2.1, if_neg (nI_ge hk (by omega)), ev_ld (by omega) (by omega), e7]
    by_cases c1 : T 7 k ≤ d
    · rw [if_neg (nI_nlt c1 (by omega)), ev_ld (by omega) (by omega), e8]
      by_cases c2 : d ≤ T 8 k
      · left
        rw [if_neg (nI_nlt c2 (by omega))]
        unfold doorS
        rw [fstP_at ha (by simp [c1, c2]) hk]; rfl
      · right
        refine ⟨(), ?_, ?_⟩
        · rw [if_pos (nI_lt (by omega) (by omega)), ev_v, nI_1]
        · unfold fstP; rw [ha]; simp [c2]
    · right
      refine ⟨(), ?_, ?_⟩
      · rw [if_pos (nI_lt (by omega) (by omega)), ev_v, nI_1]
      · unfold fstP; rw [ha]; simp [c1]
theorem standing_e (h : HC r0 μ T σ) {k d : Nat} (hk : k < T 0 0) (hd : d < 24) : f_X2_standing r0 (nI k) (nI d) μ = some (nI (stn T σ k d), μ) := by
  have hI := isIn_e h hk hd
  obtain ⟨hr, hw, hT, hR, hS⟩ := h
  obtain ⟨z1, z2, z3, z4, z5, z6, z7, z8, z9, z10, z11, z12⟩ := hz hr
  have hn := hw.1
  have hk2 := hw.2.2.1 k hk
  obtain ⟨e1, e2, -⟩ := hR k hk
  have e3 := hT.2.2.1 3 (by omega) (by omega) k hk
  have hs1 := (hS k hk).1
  have hs2 := (hS k hk).2.1
  have hso : (if μ (r0 + 11) k = (-1 : Int32) then some ((1 : Int32), μ) else if nI d < μ (r0 + 11) k then some ((1 : Int32), μ) else some ((4 : Int32), μ)) = some (nI (sto (σ.2.1 k) d), μ) := by
    rw [e2]
    cases hc : σ.2.1 k with
    | none => rfl
    | some c =>
      have := hs2 c hc
      show (if nI c = -1 then _ else if nI d < nI c then _ else _) = _
      rw [if_neg (nI_m1 (by omega))]
      unfold sto
      by_cases h1 : d < c
      · rw [if_pos (nI_lt h1 (by omega))]; simp only [h1, if_true]; rfl
      · rw [if_neg (nI_nlt (by omega) (by omega))]; simp only [h1, if_false]; rfl
  unfold f_X2_standing
  rw [ev_ld (by omega) (by omega), e3]
  unfold stn
  by_cases c1 : d < T 3 k
  · rw [if_neg (nI_ge c1 (by omega)), if_pos c1]; rfl
  · rw [if_pos (nI_le (by omega) (by omega)), if_neg c1]
    simp only [ev_ld (show k < zln (r0 + 10) by omega) (show zln (r0 + 10) < 2 ^ 31 by omega), ev_ld (show k < zln (r0 + 11) by omega) (show zln (r0 + 11) < 2 ^ 31 by omega)]
    rw [hso, hI]
    simp only [e1]
    cases hc : σ.1 k with
    | none => rfl
    | some c =>
      have := hs1 c hc
      show (if nI c = -1 then _ else if nI d < nI c then _ else _) = _
      rw [if_neg (nI_m1 (by omega))]
      by_cases h1 : d < c
      · rw [if_pos (nI_lt h1 (by omega))]; simp only [h1, if_true]
      · rw [if_neg (nI_nlt (by omega) (by omega)), ev_c]
        simp only [h1, if_false]
        cases inn T σ k d <;> rfl
theorem hatsOn_e (h : HC r0 μ T σ) {d : Nat} (hd : d < 24) : f_X2_hatsOn r0 (nI d) μ = some (cntI (fun k => inn T σ k d && !decide (T 1 k = 2)) (T 0 0), μ) := by
  unfold f_X2_hatsOn
  have hn := h.2.1.1
  obtain ⟨z1, -⟩ := hz h.1
  refine loop_X (fun n i (a : Int32) => f_X2_hatsOn_L4 r0 (nI d) (fun (x11 : Int32) μ => some (x11, μ)) n a i μ) (fun R => R = some (cntI (fun k => inn T σ k d && !decide (T 1 k = 2)) (T 0 0), μ)) (T 0 0) (fun k a => a = cntI (fun k => inn T σ k d && !decide (T 1 k = 2)) k) ?_ ?_ 400 0 0 (by omega) (by omega) rfl
  · intro n a ha
    show f_X2_hatsOn_L4 _ _ _ (n + 1) _ _ _ = _
    rw [f_X2_hatsOn_L4, ev_g, h.2.2.1.1, if_pos (nI_le (Nat.le_refl _) (by omega)), ha]
  · intro n k a hk ha
    have e1 := h.2.2.1.2.2.1 1 (by omega) (by omega) k hk
    have hk2 := h.2.1.2.2.1 k hk
    refine ⟨_, ?_, rfl⟩
    show f_X2_hatsOn_L4 _ _ _ (n + 1) _ _ _ = f_X2_hatsOn_L4 _ _ _ n _ _ _
    rw [f_X2_hatsOn_L4, ev_g, h.2.2.1.1, if_neg (nI_ge hk (by omega)), isIn_e h hk hd, ev_c, ha]
    cases hi : inn T σ k d with
    | false => simp only [bI_f, if_true, ev_v, nI_1, cntI, hi, Bool.false_and, Bool.false_eq_true, if_false]
    | true =>
      rw [if_neg (by decide), ev_ld (by omega) (by omega), e1]
      by_cases c : T 1 k = 2
      · rw [if_pos (by rw [c]; rfl)]; simp only [ev_v, nI_1, cntI, hi, c, decide_true, Bool.not_true, Bool.and_false, Bool.false_eq_true, if_false]
      · rw [if_neg (show ¬ nI (T 1 k) = (2 : Int32) from fun q => c ((nI_eq (by omega) (by omega)).mp q))]; simp only [ev_v, nI_1, cntI, hi, c, decide_false, Bool.not_false, Bool.and_true, if_true]
theorem stepOn_e (h : HC r0 μ T σ) {d : Nat} (hd : d < 24) : f_X2_stepOn r0 (nI d) μ = some (bits (fun k => decide (stn T σ k d = 1)) (T 0 0), μ) := by
  unfold f_X2_stepOn
  have hn := h.2.1.1
  refine loop_X (fun n i (a : Int32) => f_X2_stepOn_L4 r0 (nI d) (fun (x8 : Int32) μ => some (x8, μ)) n a i μ) (fun R => R = some (bits (fun k => decide (stn T σ k d = 1)) (T 0 0), μ)) (T 0 0) (fun k a => a = bits (fun k => decide (stn T σ k d = 1)) k) ?_ ?_ 400 0 0 (by omega) (by omega) rfl
  · intro n a ha
    show f_X2_stepOn_L4 _ _ _ (n + 1) _ _ _ = _
    rw [f_X2_stepOn_L4, ev_g, h.2.2.1.1, if_pos (nI_le (Nat.le_refl _) (by omega)), ha]
  · intro n k a hk ha
    have hst : stn T σ k d < 5 := by
      unfold stn sto
      split
      · omega
      · split <;> (repeat' split) <;> omega
    refine ⟨_, ?_, rfl⟩
    show f_X2_stepOn_L4 _ _ _ (n + 1) _ _ _ = f_X2_stepOn_L4 _ _ _ n _ _ _
    rw [f_X2_stepOn_L4, ev_g, h.2.2.1.1, if_neg (nI_ge hk (by omega)), standing_e h hk hd, ev_c, ha]
    by_cases c : stn T σ k d = 1
    · rw [if_neg (fun q => q (by rw [c]; rfl))]; simp only [ev_v, nI_1, bits, c, decide_true, if_true]
    · rw [if_pos (show ¬ nI (stn T σ k d) = (1 : Int32) from fun q => c ((nI_eq (by omega) (by omega)).mp q))]; simp only [ev_v, nI_1, bits, c, decide_false, Bool.false_eq_true, if_false]
theorem those_e {r1 : Nat} {x : Nat → Option Nat} (h0 : μ r0 0 = nI (T 0 0)) (hn : T 0 0 ≤ 8) (hl : zln r1 = 8) (hx : ∀ k, k < T 0 0 → μ r1 k = oI (x k) ∧ ∀ c, x k = some c → c < 24) : f_X2_thoseWithADay r0 r1 μ = some (bits (fun k => (x k).isSome) (T 0 0), μ) := by
  unfold f_X2_thoseWithADay
  refine loop_X (fun n i (a : Int32) => f_X2_thoseWithADay_L4 r0 r1 (fun (x9 : Int32) μ => some (x9, μ)) n a i μ) (fun R => R = some (bits (fun k => (x k).isSome) (T 0 0), μ)) (T 0 0) (fun k a => a = bits (fun k => (x k).isSome) k) ?_ ?_ 400 0 0 (by omega) (by omega) rfl
  · intro n a ha
    show f_X2_thoseWithADay_L4 _ _ _ (n + 1) _ _ _ = _
    rw [f_X2_thoseWithADay_L4, ev_g, h0, if_pos (nI_le (Nat.le_refl _) (by omega)), ha]
  · intro n k a hk ha
    obtain ⟨e1, e2⟩ := hx k hk
    refine ⟨_, ?_, rfl⟩
    show f_X2_thoseWithADay_L4 _ _ _ (n + 1) _ _ _ = f_X2_thoseWithADay_L4 _ _ _ n _ _ _
    rw [f_X2_thoseWithADay_L4, ev_g, h0, if_neg (nI_ge hk (by omega)), hl, if_neg (nI_ge (show k < 8 by omega) (by omega)), ev_ld (by omega) (by omega), e1, ha]
    cases hc : x k with
    | none => simp only [oI, if_true, ev_v, nI_1, bits, hc, Option.isSome_none, Bool.false_eq_true, if_false]
    | some c =>
      have := e2 c hc
      rw [if_neg (show ¬ oI (some c) = -1 from nI_m1 (by omega))]; simp only [ev_v, nI_1, bits, hc, Option.isSome_some, if_true]
theorem everIn_e (h : HC r0 μ T σ) : f_X2_everIn r0 μ = some (bits (fun k => (σ.1 k).isSome) (T 0 0), μ) := by
  unfold f_X2_everIn
  obtain ⟨z1, z2, z3, z4, z5, z6, z7, z8, z9, z10, z11, z12⟩ := hz h.1
  rw [those_e (T := T) (x := σ.1) h.2.2.1.1 h.2.1.1 z10 (fun k hk => ⟨(h.2.2.2.1 k hk).1, (h.2.2.2.2 k hk).1⟩), ev_c]
theorem sentBits_e (h : HC r0 μ T σ) : f_X2_sentBits r0 μ = some (bits (fun k => (σ.2.1 k).isSome) (T 0 0), μ) := by
  unfold f_X2_sentBits
  obtain ⟨z1, z2, z3, z4, z5, z6, z7, z8, z9, z10, z11, z12⟩ := hz h.1
  rw [those_e (T := T) (x := σ.2.1) h.2.2.1.1 h.2.1.1 z11 (fun k hk => ⟨(h.2.2.2.1 k hk).2.1, (h.2.2.2.2 k hk).2.1⟩), ev_c]
def misP (T : zT2) (σ : zSS) (k : Nat) : Bool := match σ.2.2 k with
  | none => false
  | some v => !decide (v = T 1 k)
theorem misnamed_e (h : HC r0 μ T σ) : f_X2_misnamed r0 μ = some (bits (misP T σ) (T 0 0), μ) := by
  unfold f_X2_misnamed
  have hn := h.2.1.1
  obtain ⟨z1, z2, z3, z4, z5, z6, z7, z8, z9, z10, z11, z12⟩ := hz h.1
  refine loop_X (fun n i (a : Int32) => f_X2_misnamed_L4 r0 (fun (x12 : Int32) μ => some (x12, μ)) n a i μ) (fun R => R = some (bits (misP T σ) (T 0 0), μ)) (T 0 0) (fun k a => a = bits (misP T σ) k) ?_ ?_ 400 0 0 (by omega) (by omega) rfl
  · intro n a ha
    show f_X2_misnamed_L4 _ _ (n + 1) _ _ _ = _
    rw [f_X2_misnamed_L4, ev_g, h.2.2.1.1, if_pos (nI_le (Nat.le_refl _) (by omega)), ha]
  · intro n k a hk ha
    have e1 := h.2.2.1.2.2.1 1 (by omega) (by omega) k hk
    have hk2 := h.2.1.2.2.1 k hk
    have e3 := (h.2.2.2.1 k hk).2.2
    have hs := (h.2.2.2.2 k hk).2.2
    refine ⟨_, ?_, rfl⟩
    show f_X2_misnamed_L4 _ _ (n + 1) _ _ _ = f_X2_misnamed_L4 _ _ n _ _ _
    rw [f_X2_misnamed_L4, ev_g, h.2.2.1.1, if_neg (nI_ge hk (by omega)), ev_ld (by omega) (by omega), ev_ld (by omega) (by omega), ev_ld (by omega) (by omega), e1, e3, ha]
    cases hc : σ.2.2 k with
    | none => simp only [oI, if_true, ev_v, nI_1, bits, misP, hc, Bool.false_eq_true, if_false]
    | some v =>
      have hv := hs v hc
      rw [if_neg (show ¬ oI (some v) = -1 from nI_m1 (by omega))]
      by_cases c : v = T 1 k
      · rw [if_pos (by rw [c]; rfl)]; simp only [ev_v, nI_1, bits, misP, hc, c, decide_true, Bool.not_true, Bool.false_eq_true, if_false]
      · rw [if_neg (show ¬ oI (some v) = nI (T 1 k) from fun q => c ((nI_eq (by omega) (by omega)).mp q))]; simp only [ev_v, nI_1, bits, misP, hc, c, decide_false, Bool.not_false, if_true]
theorem hasNamed_e (h : HC r0 μ T σ) {v : Nat} (hv : v < 4) : f_X2_hasNamed r0 (nI v) μ = some (bI (fstP (fun k => decide (σ.2.2 k = some v)) (T 0 0)).isSome, μ) := by
  unfold f_X2_hasNamed
  have hn := h.2.1.1
  obtain ⟨z1, z2, z3, z4, z5, z6, z7, z8, z9, z10, z11, z12⟩ := hz h.1
  refine loop_P (fun n i (_ : Unit) => f_X2_hasNamed_L2 r0 (nI v) (fun μ => gd ((0 : Int32) = 0 ∨ (0 : Int32) = 1) (some ((0 : Int32), μ))) n i μ) (fun R => R = some (bI (fstP (fun k => decide (σ.2.2 k = some v)) (T 0 0)).isSome, μ)) (T 0 0) (fun k _ => fstP (fun k => decide (σ.2.2 k = some v)) k = none) ?_ ?_ 400 0 () (by omega) (by omega) rfl
  · intro n _ ha
    show f_X2_hasNamed_L2 _ _ _ (n + 1) _ _ = _
    rw [f_X2_hasNamed_L2, ev_g, h.2.2.1.1, if_pos (nI_le (Nat.le_refl _) (by omega)), ha]; rfl
  · intro n k _ hk ha
    have e3 := (h.2.2.2.1 k hk).2.2
    have hs := (h.2.2.2.2 k hk).2.2
    show f_X2_hasNamed_L2 _ _ _ (n + 1) _ _ = _ ∨ ∃ s' : Unit, f_X2_hasNamed_L2 _ _ _ (n + 1) _ _ = f_X2_hasNamed_L2 _ _ _ n _ _ ∧ _
    rw [f_X2_hasNamed_L2, ev_g, h.2.2.1.1, if_neg (nI_ge hk (by omega)), ev_ld (by omega) (by omega), e3]
    by_cases c : σ.2.2 k = some v
    · left
      rw [c, if_neg (fun q => q rfl), fstP_at ha (by simp [c]) hk]; rfl
    · right
      refine ⟨(), ?_, ?_⟩
      · rw [if_pos ?_, ev_v, nI_1]
        intro q
        cases hc : σ.2.2 k with
        | none => rw [hc] at q; exact nI_m1 (show v < 2 ^ 31 by omega) q.symm
        | some w =>
          rw [hc] at q
          have := hs w hc
          exact c (by rw [hc, (nI_eq (by omega) (by omega)).mp q])
      · unfold fstP; rw [ha]; simp [c]
theorem total_e (h : HC r0 μ T σ) : f_X2_total r0 μ = some (tsum T σ (T 0 0), μ) := by
  unfold f_X2_total
  have hn := h.2.1.1
  obtain ⟨z1, z2, z3, z4, z5, z6, z7, z8, z9, z10, z11, z12⟩ := hz h.1
  refine loop_X (fun n i (a : Int32) => f_X2_total_L4 r0 (fun (x12 : Int32) μ => some (x12, μ)) n a i μ) (fun R => R = some (tsum T σ (T 0 0), μ)) (T 0 0) (fun k a => a = tsum T σ k) ?_ ?_ 400 0 0 (by omega) (by omega) rfl
  · intro n a ha
    show f_X2_total_L4 _ _ (n + 1) _ _ _ = _
    rw [f_X2_total_L4, ev_g, h.2.2.1.1, if_pos (nI_le (Nat.le_refl _) (by omega)), ha]
  · intro n k a hk ha
    have e4 := h.2.2.1.2.2.1 4 (by omega) (by omega) k hk
    have hk2 := h.2.1.2.2.1 k hk
    have e1 := (h.2.2.2.1 k hk).1
    have hs := (h.2.2.2.2 k hk).1
    refine ⟨_, ?_, rfl⟩
    show f_X2_total_L4 _ _ (n + 1) _ _ _ = f_X2_total_L4 _ _ n _ _ _
    rw [f_X2_total_L4, ev_g, h.2.2.1.1, if_neg (nI_ge hk (by omega)), ev_ld (by omega) (by omega), e1, ha]
    cases hc : σ.1 k with
    | none => simp only [oI, if_true, ev_v, nI_1, tsum, hc]
    | some c =>
      have := hs c hc
      rw [if_neg (show ¬ oI (some c) = -1 from nI_m1 (by omega)), warmer_e h hk, ev_c, ev_ld (by omega) (by omega), ev_ld (by omega) (by omega), e4, e1, hc]
      show vI (if (nI 24 - nI c) < nI (T 4 k) then (nI 24 - nI c) else nI (T 4 k)) _ = _
      rw [pk_sub (by omega)]
      simp only [ev_v, nI_1, tsum, hc, mnO]
      by_cases h1 : 24 - c < T 4 k
      · rw [if_pos (nI_lt h1 (by omega)), if_pos h1]
      · rw [if_neg (nI_nlt (by omega) (by omega)), if_neg h1]
theorem bestBy_lt {p : Nat → Bool} {f : Nat → Nat} {b : Nat} : ∀ {n : Nat}, bestBy p f n = some b → b < n ∧ p b = true
  | 0, h => by cases h
  | n + 1, h => by
    unfold bestBy at h
    by_cases c : p n = true
    · simp only [c, if_true] at h
      cases e : bestBy p f n with
      | none => rw [e] at h; cases h; exact ⟨by omega, c⟩
      | some q =>
        rw [e] at h
        have ih := bestBy_lt e
        by_cases c2 : f n < f q
        · simp only [c2, if_true] at h; cases h; exact ⟨by omega, c⟩
        · simp only [c2, if_false] at h; cases h; exact ⟨by omega, ih.2⟩
    · simp only [c] at h
      have ih := bestBy_lt h
      exact ⟨by omega, ih.2⟩
theorem best_no {p : Nat → Bool} {f : Nat → Nat} {k : Nat} (h : p k = false) : bestBy p f (k + 1) = bestBy p f k := by
  show (if p k = true then _ else bestBy p f k) = _
  rw [if_neg (by rw [h]; decide)]
theorem best_1 {p : Nat → Bool} {f : Nat → Nat} {k : Nat} (h : p k = true) (hb : bestBy p f k = none) : bestBy p f (k + 1) = some k := by
  show (if p k = true then (match bestBy p f k with | none => some k | some b => if f k < f b then some k else some b) else bestBy p f k) = _
  rw [if_pos h, hb]
theorem best_2 {p : Nat → Bool} {f : Nat → Nat} {k b : Nat} (h : p k = true) (hb : bestBy p f k = some b) (hf : f k < f b) : bestBy p f (k + 1) = some k := by
  show (if p k = true then (match bestBy p f k with | none => some k | some b => if f k < f b then some k else some b) else bestBy p f k) = _
  rw [if_pos h, hb]
  exact if_pos hf
theorem best_3 {p : Nat → Bool} {f : Nat → Nat} {k b : Nat} (h : p k = true) (hb : bestBy p f k = some b) (hf : ¬ f k < f b) : bestBy p f (k + 1) = some b := by
  show (if p k = true then (match bestBy p f k with | none => some k | some b => if f k < f b then some k else some b) else bestBy p f k) = _
  rw [if_pos h, hb]
  exact if_neg hf
theorem firstByDoor_e (h : HC r0 μ T σ) : f_X2_firstByDoor r0 μ = some (oI (fdS T σ), μ) := by
  unfold f_X2_firstByDoor fdS
  have hn := h.2.1.1
  obtain ⟨z1, z2, z3, z4, z5, z6, z7, z8, z9, z10, z11, z12⟩ := hz h.1
  generalize hp : (fun k => (σ.1 k).isSome && !decide (T 1 k = 2)) = p
  generalize hf : (fun k => (σ.1 k).getD 0) = f
  refine loop_X (fun n i (a : Int32) => f_X2_firstByDoor_L4 r0 (fun (x16 : Int32) μ => some (x16, μ)) n a i μ) (fun R => R = some (oI (bestBy p f (T 0 0)), μ)) (T 0 0) (fun k a => a = oI (bestBy p f k)) ?_ ?_ 400 0 (-1) (by omega) (by omega) rfl
  · intro n a ha
    show f_X2_firstByDoor_L4 _ _ (n + 1) _ _ _ = _
    rw [f_X2_firstByDoor_L4, ev_g, h.2.2.1.1, if_pos (nI_le (Nat.le_refl _) (by omega)), ha]
  · intro n k a hk ha
    have e1 := h.2.2.1.2.2.1 1 (by omega) (by omega) k hk
    have hk2 := h.2.1.2.2.1 k hk
    have e3 := (h.2.2.2.1 k hk).1
    have hs := (h.2.2.2.2 k hk).1
    refine ⟨oI (bestBy p f (k + 1)), ?_, rfl⟩
    show f_X2_firstByDoor_L4 _ _ (n + 1) _ _ _ = f_X2_firstByDoor_L4 _ _ n _ _ _
    rw [f_X2_firstByDoor_L4, ev_g, h.2.2.1.1, if_neg (nI_ge hk (by omega)), ev_ld (by omega) (by omega), e3, ha]
    have hpk : p k = ((σ.1 k).isSome && !decide (T 1 k = 2)) := by rw [← hp]
    cases hc : σ.1 k with
    | none =>
      have hpf : p k = false := by rw [hpk, hc]; rfl
      rw [best_no hpf]; simp only [oI, if_true, ev_v, nI_1]
    | some c =>
      have hc24 := hs c hc
      rw [if_neg (show ¬ oI (some c) = -1 from nI_m1 (by omega)), ev_ld (by omega) (by omega), e1]
      by_cases c1 : T 1 k = 2
      · have hpf : p k = false := by rw [hpk, hc, c1]; rfl
        rw [if_pos (by rw [c1]; rfl)]
        rw [best_no hpf]; simp only [ev_v, nI_1]
      · have hpt : p k = true := by rw [hpk, hc]; simp [c1]
        rw [if_neg (show ¬ nI (T 1 k) = (2 : Int32) from fun q => c1 ((nI_eq (by omega) (by omega)).mp q))]
        cases hb : bestBy p f k with
        | none => rw [best_1 hpt hb]; simp only [oI, if_true, ev_v, nI_1]
        | some b =>
          obtain ⟨hb1, hb2⟩ := bestBy_lt hb
          have hbn : b < T 0 0 := by omega
          have e4 := (h.2.2.2.1 b hbn).1
          have hsb := (h.2.2.2.2 b hbn).1
          rw [if_neg (show ¬ oI (some b) = -1 from nI_m1 (by omega))]
          show ldI μ (r0 + 10) (nI k) (fun x11 => ldI μ (r0 + 10) (nI b) _) = _
          rw [ev_ld (by omega) (by omega), ev_ld (by omega) (by omega), e3, e4, hc]
          have hpb : p b = ((σ.1 b).isSome && !decide (T 1 b = 2)) := by rw [← hp]
          have hfk : f k = c := by rw [← hf]; simp [hc]
          cases hcb : σ.1 b with
          | none => rw [hpb, hcb] at hb2; cases hb2
          | some cb =>
            have hcb24 := hsb cb hcb
            have hfb : f b = cb := by rw [← hf]; simp [hcb]
            show (if nI cb ≤ nI c then _ else _) = _
            by_cases h1 : c < cb
            · rw [if_neg (nI_ge h1 (by omega)), best_2 hpt hb (by rw [hfk, hfb]; exact h1)]; simp only [ev_v, nI_1]; rfl
            · rw [if_pos (nI_le (by omega) (by omega)), best_3 hpt hb (by rw [hfk, hfb]; exact h1)]; simp only [ev_v, nI_1]
end HQ2
