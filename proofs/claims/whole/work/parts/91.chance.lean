-- PURE: cards by chance
def wtC (c b : Nat) : Nat → Nat
  | 0 => 1
  | i + 1 => wtC c b i * (if tb (nI b) i = true then 16 - c else c)
def pcP (b : Nat) : Nat → Nat
  | 0 => 0
  | i + 1 => if tb (nI b) i = true then pcP b i + 1 else pcP b i
theorem pcP_le (b : Nat) : ∀ i, pcP b i ≤ i
  | 0 => Nat.le_refl _
  | i + 1 => by
    have := pcP_le b i
    show (if tb (nI b) i = true then pcP b i + 1 else pcP b i) ≤ i + 1
    split <;> omega
theorem pcP_N : ∀ n, n < 9 → ∀ b, b < 2 ^ n → pcP b n = pcN b := by decide +kernel
theorem wtC_p (c b : Nat) : ∀ i, wtC c b i = c ^ (i - pcP b i) * (16 - c) ^ pcP b i
  | 0 => by
    show 1 = c ^ 0 * (16 - c) ^ 0
    rw [Nat.pow_zero, Nat.pow_zero]
  | i + 1 => by
    have ih := wtC_p c b i
    have hl := pcP_le b i
    show wtC c b i * (if tb (nI b) i = true then 16 - c else c) = c ^ (i + 1 - (if tb (nI b) i = true then pcP b i + 1 else pcP b i)) * (16 - c) ^ (if tb (nI b) i = true then pcP b i + 1 else pcP b i)
    by_cases q : tb (nI b) i = true
    · rw [if_pos q, if_pos q, ih, Nat.add_sub_add_right, Nat.pow_succ, Nat.mul_assoc]
    · rw [if_neg q, if_neg q, ih, show i + 1 - pcP b i = (i - pcP b i) + 1 by omega, Nat.pow_succ]
      exact Nat.mul_right_comm _ _ _
theorem wtC_le {c : Nat} (hc : c ≤ 16) (b : Nat) : ∀ i, wtC c b i ≤ 16 ^ i
  | 0 => Nat.le_refl _
  | i + 1 => by
    have ih := wtC_le hc b i
    show wtC c b i * (if tb (nI b) i = true then 16 - c else c) ≤ 16 ^ (i + 1)
    rw [Nat.pow_succ]
    exact Nat.mul_le_mul ih (by split <;> omega)
def smC (S : zM) (k c : Nat) : Nat → Nat
  | 0 => 0
  | b + 1 => smC S k c b + (if cmB S (nI b) k = true then wtC c b (cn S) else 0)
theorem smC_le {S : zM} {k c : Nat} (hc : c ≤ 16) : ∀ b, smC S k c b ≤ b * 16 ^ cn S
  | 0 => Nat.zero_le _
  | b + 1 => by
    have ih := smC_le (S := S) (k := k) hc b
    have h2 := wtC_le hc b (cn S)
    show smC S k c b + (if cmB S (nI b) k = true then wtC c b (cn S) else 0) ≤ (b + 1) * 16 ^ cn S
    rw [Nat.succ_mul]
    refine Nat.add_le_add ih ?_
    split
    · exact h2
    · exact Nat.zero_le _
theorem sm_lt {S : zM} {k c : Nat} (hn : cn S ≤ 8) (hc : c ≤ 16) : smC S k c (2 ^ cn S) < 2 ^ 63 := by
  have h1 := smC_le (S := S) (k := k) hc (2 ^ cn S)
  have h2 : 2 ^ cn S ≤ 2 ^ 8 := Nat.pow_le_pow_right (by omega) hn
  have h3 : 16 ^ cn S ≤ 16 ^ 8 := Nat.pow_le_pow_right (by omega) hn
  have h5 : 2 ^ 8 * 16 ^ 8 < 2 ^ 63 := by decide
  exact Nat.lt_of_le_of_lt (Nat.le_trans h1 (Nat.mul_le_mul h2 h3)) h5
theorem wys_s (S : zM) (k j b : Nat) : wys S k j (b + 1) = if cmB S (nI b) k = true ∧ cn S - pcN b = j then wys S k j b + 1 else wys S k j b := rfl
theorem wys_le (S : zM) (k j : Nat) : ∀ b, wys S k j b ≤ b
  | 0 => Nat.le_refl _
  | b + 1 => by
    have := wys_le S k j b
    rw [wys_s]
    split <;> omega
def abC (f : Nat → Nat) (c n : Nat) : Nat → Nat
  | 0 => 0
  | j + 1 => abC f c n j + f j * c ^ j * (16 - c) ^ (n - j)
theorem abC_congr {f g : Nat → Nat} {c n : Nat} : ∀ J, (∀ j, j < J → f j = g j) → abC f c n J = abC g c n J
  | 0, _ => rfl
  | J + 1, h => by
    show abC f c n J + f J * c ^ J * (16 - c) ^ (n - J) = abC g c n J + g J * c ^ J * (16 - c) ^ (n - J)
    rw [abC_congr J (fun j hj => h j (by omega)), h J (by omega)]
theorem abC_one {f g : Nat → Nat} {c n q : Nat} (hq : g q = f q + 1) (ho : ∀ j, j ≠ q → g j = f j) : ∀ J, q < J → abC g c n J = abC f c n J + c ^ q * (16 - c) ^ (n - q)
  | 0, h => by omega
  | J + 1, h => by
    show abC g c n J + g J * c ^ J * (16 - c) ^ (n - J) = abC f c n J + f J * c ^ J * (16 - c) ^ (n - J) + c ^ q * (16 - c) ^ (n - q)
    by_cases e : q = J
    · rw [e] at hq ho ⊢
      rw [abC_congr J (fun j hj => ho j (by omega)), hq, Nat.add_mul, Nat.add_mul, Nat.one_mul, Nat.add_assoc]
    · rw [abC_one hq ho J (by omega), ho J (fun x => e x.symm)]
      exact Nat.add_right_comm _ _ _
theorem ab_sm {S : zM} {k c : Nat} (hn : cn S ≤ 8) : ∀ b, b ≤ 2 ^ cn S → abC (fun j => wys S k j b) c (cn S) (cn S + 1) = smC S k c b
  | 0, _ => by
    have : ∀ J, abC (fun j => wys S k j 0) c (cn S) J = 0 := by
      intro J
      induction J with
      | zero => rfl
      | succ J ih =>
        show abC (fun j => wys S k j 0) c (cn S) J + 0 * c ^ J * (16 - c) ^ (cn S - J) = 0
        rw [ih, Nat.zero_mul, Nat.zero_mul]
    exact this _
  | b + 1, h => by
    have ih := ab_sm (S := S) (k := k) (c := c) hn b (by omega)
    have hp := pcP_N (cn S) (by omega) b (by omega)
    have hl := pcP_le b (cn S)
    show _ = smC S k c b + (if cmB S (nI b) k = true then wtC c b (cn S) else 0)
    by_cases q : cmB S (nI b) k = true
    · have e1 : abC (fun j => wys S k j (b + 1)) c (cn S) (cn S + 1) = abC (fun j => wys S k j b) c (cn S) (cn S + 1) + c ^ (cn S - pcN b) * (16 - c) ^ (cn S - (cn S - pcN b)) := by
        refine abC_one ?_ ?_ (cn S + 1) (by omega)
        · show wys S k (cn S - pcN b) (b + 1) = wys S k (cn S - pcN b) b + 1
          rw [wys_s, if_pos ⟨q, rfl⟩]
        · intro j hj
          show wys S k j (b + 1) = wys S k j b
          rw [wys_s, if_neg (fun x => hj x.2.symm)]
      rw [if_pos q, e1, ih, wtC_p, hp, show cn S - (cn S - pcN b) = pcN b by omega]
    · rw [if_neg q, Nat.add_zero, ← ih]
      refine abC_congr _ (fun j _ => ?_)
      show wys S k j (b + 1) = wys S k j b
      rw [wys_s, if_neg (fun x => q x.1)]
theorem zWy {i : Nat} (hi : i < 8) : zln (50 + i) = 9 := by
  have : i = 0 ∨ i = 1 ∨ i = 2 ∨ i = 3 ∨ i = 4 ∨ i = 5 ∨ i = 6 ∨ i = 7 := by omega
  rcases this with rfl | rfl | rfl | rfl | rfl | rfl | rfl | rfl <;> rfl
theorem shl1 : ∀ n, n < 9 → ((1 : Int32) <<< (nI n &&& 31)) = nI (2 ^ n) := by decide +kernel
theorem shlL : ∀ n, n < 9 → ((1 : Int64) <<< (Int32.toInt64 (nI (4 * n)) &&& 63)) = lN (2 ^ (4 * n)) := by decide +kernel
theorem power_e {a n : Nat} (ha : a < 2 ^ 31) (hn : n ≤ 8) (μ : zM) : f_X3_power (nI a) (nI n) μ = some (lN (a ^ n), μ) := by
  unfold f_X3_power
  refine loop_X (fun q i (s : Int64) => f_X3_power_L5 (nI a) (nI n) (fun (x4 : Int64) μ => some (x4, μ)) q s i μ) (fun R => R = some (lN (a ^ n), μ)) n (fun i s => s = lN (a ^ i)) ?_ ?_ 400 0 1 (by omega) (by omega) rfl
  · intro q s hs
    show f_X3_power_L5 _ _ _ (q + 1) _ _ _ = _
    rw [f_X3_power_L5, if_pos (nI_le (Nat.le_refl _) (by omega)), hs]
  · intro q i s hi hs
    refine ⟨_, ?_, rfl⟩
    show f_X3_power_L5 _ _ _ (q + 1) _ _ _ = f_X3_power_L5 _ _ _ q _ _ _
    rw [f_X3_power_L5, if_neg (nI_ge hi (by omega)), hs, nI_l ha, lN_mul, ev_w, ev_v, nI_1, Nat.pow_succ]
theorem above_e {S m : zM} (hw : wfS S) (ho : cOd S m) {c k : Nat} (hc : c ≤ 16) (hk : k < itS S 0) : f_X3_above (nI c) (nI k) (nI (cn S)) m = some (lN (smC S k c (2 ^ cn S)), m) := by
  have zz := zC
  have h8 : itS S 0 ≤ 8 := (wT_told hw 0).1
  have hn : cn S ≤ 8 := hw.2.2.1.2
  have hz50 := zWy (i := k) (by omega)
  have h256 : 2 ^ cn S ≤ 2 ^ 8 := Nat.pow_le_pow_right (by omega) hn
  unfold f_X3_above
  rw [← ab_sm hn (2 ^ cn S) (Nat.le_refl _)]
  refine loop_X (fun q i (s : Int64) => f_X3_above_L6 (nI c) (nI k) (nI (cn S)) (fun (x9 : Int64) μ => some (x9, μ)) q s i m) (fun R => R = some (lN (abC (fun j => wys S k j (2 ^ cn S)) c (cn S) (cn S + 1)), m)) (cn S + 1) (fun i s => s = lN (abC (fun j => wys S k j (2 ^ cn S)) c (cn S) i)) ?_ ?_ 400 0 0 (by omega) (by omega) rfl
  · intro q s hs
    show f_X3_above_L6 _ _ _ _ (q + 1) _ _ _ = _
    rw [f_X3_above_L6, if_pos (nI_lt (by omega) (by omega)), hs]
  · intro q j s hj hs
    have hle := wys_le S k j (2 ^ cn S)
    refine ⟨_, ?_, rfl⟩
    show f_X3_above_L6 _ _ _ _ (q + 1) _ _ _ = f_X3_above_L6 _ _ _ _ q _ _ _
    rw [f_X3_above_L6, if_neg (nI_nlt (by omega) (by omega)), if_neg (show ¬ (8 : Int32) < nI j from nI_nlt (a := 8) (by omega) (by omega)), ev_ldR (by omega) (by omega), show zrf 48 k = 50 + k from rfl, ev_ld (by omega) (by omega), ho k hk j (by omega), power_e (by omega) (by omega), ev_c, show (16 : Int32) - nI c = nI (16 - c) from pk_sub (a := 16) hc, pk_sub (by omega), power_e (by omega) (by omega), ev_c, ev_w, ev_v, nI_1, hs, nI_l (by omega), lN_mul, lN_mul, lN_add]
    rfl
-- the greatest common divisor, as the reference finds it
theorem gcd_st (x y : Nat) : Nat.gcd x y = Nat.gcd y (x % y) := by
  rw [Nat.gcd_comm x y, Nat.gcd_rec y x]
  exact Nat.gcd_comm _ _
theorem euc_e (μ : zM) (v0 v2 : Int64) (v4 : Int32) (K : Int64 → zM → Option (Int64 × zM)) : ∀ j x y n, x < 2 ^ 63 → y < 2 ^ 63 → y < 2 ^ j → 2 * j + 1 ≤ n → f_X7_lowest_L6 v0 v2 v4 K n (lN x) (lN y) μ = K (lN (Nat.gcd x y)) μ := by
  intro j
  induction j with
  | zero =>
    intro x y n hx hy hj hn
    have : y = 0 := by rw [Nat.pow_zero] at hj; omega
    subst this
    obtain ⟨n, rfl⟩ : ∃ k, n = k + 1 := ⟨n - 1, by omega⟩
    rw [f_X7_lowest_L6, if_pos (show lg_cmp (lN 0) (0 : Int64) = 0 from (lg_cmp_eq _ _).mpr rfl), Nat.gcd_zero_right]
  | succ j ih =>
    intro x y n hx hy hj hn
    obtain ⟨n, rfl⟩ : ∃ k, n = k + 1 := ⟨n - 1, by omega⟩
    by_cases hy0 : y = 0
    · subst hy0
      rw [f_X7_lowest_L6, if_pos (show lg_cmp (lN 0) (0 : Int64) = 0 from (lg_cmp_eq _ _).mpr rfl), Nat.gcd_zero_right]
    · have hne : ¬ lN y = 0 := fun q => hy0 ((pk_lEQ (b := 0) hy (by omega)).mp q)
      have hr : x % y < y := Nat.mod_lt _ (by omega)
      obtain ⟨n, rfl⟩ : ∃ k, n = k + 1 := ⟨n - 1, by omega⟩
      rw [f_X7_lowest_L6, if_neg (fun q => hne ((lg_cmp_eq _ _).mp q)), ev_gd hne, pk_lRem hx (by omega) hy, ev_w]
      by_cases hr0 : x % y = 0
      · rw [hr0, f_X7_lowest_L6, if_pos (show lg_cmp (lN 0) (0 : Int64) = 0 from (lg_cmp_eq _ _).mpr rfl), gcd_st x y, hr0, Nat.gcd_zero_right]
      · have hr1 : ¬ lN (x % y) = 0 := fun q => hr0 ((pk_lEQ (b := 0) (by omega) (by omega)).mp q)
        have hlt : y % (x % y) < x % y := Nat.mod_lt _ (by omega)
        have hhalf : y % (x % y) < 2 ^ j := by
          have h1 := Nat.div_add_mod y (x % y)
          have h2 : 1 ≤ y / (x % y) := Nat.div_pos (by omega) (by omega)
          have h3 : x % y ≤ (x % y) * (y / (x % y)) := Nat.le_mul_of_pos_right _ h2
          rw [Nat.pow_succ] at hj
          omega
        rw [f_X7_lowest_L6, if_neg (fun q => hr1 ((lg_cmp_eq _ _).mp q)), ev_gd hr1, pk_lRem hy (by omega) (by omega), ev_w, ih (x % y) (y % (x % y)) n (by omega) (by omega) hhalf (by omega), gcd_st x y, gcd_st y (x % y)]
theorem lowest_e {s t w : Nat} (hs : s < 2 ^ 63) (ht0 : 0 < t) (ht : t < 2 ^ 33) (hw : w < 2) (μ : zM) : f_X7_lowest (lN s) (lN t) (nI w) μ = some (lN ((if w = 0 then s else t) / Nat.gcd s t), μ) := by
  unfold f_X7_lowest
  have hg0 : 0 < Nat.gcd s t := Nat.gcd_pos_of_pos_right s ht0
  have hgt : Nat.gcd s t ≤ t := Nat.gcd_le_right s ht0
  have hne : ¬ lN (Nat.gcd s t) = 0 := fun q => by
    have := (pk_lEQ (b := 0) (by omega) (by omega)).mp q
    omega
  rw [euc_e μ _ _ _ _ 33 s t 400 hs (by omega) ht (by omega)]
  have : w = 0 ∨ w = 1 := by omega
  rcases this with rfl | rfl
  · rw [if_neg (fun q => q rfl), ev_gd hne, pk_lDiv hs hg0 (by omega), if_pos rfl]
  · rw [if_pos (show ¬ nI 1 = 0 by decide), ev_gd hne, pk_lDiv (by omega) hg0 (by omega), if_neg (show ¬ 1 = 0 by omega)]
-- the same, as the class finds it
theorem gcd_odd {a : Nat} (h : a % 2 = 1) (k : Nat) : Nat.gcd a (2 ^ k) = 1 := by
  have h2 : Nat.Coprime a 2 := by
    show Nat.gcd a 2 = 1
    rw [Nat.gcd_comm, Nat.gcd_rec 2 a, h]
    exact Nat.gcd_one_left 2
  exact Nat.Coprime.pow_right k h2
theorem red_g {s m i a : Nat} (hi : i ≤ m) (hs : s = 2 ^ i * a) (he : i = m ∨ a % 2 = 1) : Nat.gcd s (2 ^ m) = 2 ^ i := by
  have e : 2 ^ m = 2 ^ i * 2 ^ (m - i) := by rw [← Nat.pow_add, Nat.add_sub_cancel' hi]
  have e1 : Nat.gcd a (2 ^ (m - i)) = 1 := by
    rcases he with he | he
    · rw [he, Nat.sub_self]; exact Nat.gcd_one_right a
    · exact gcd_odd he (m - i)
  rw [hs, e, Nat.gcd_mul_left, e1, Nat.mul_one]
theorem red_a {s i a : Nat} (hs : s = 2 ^ i * a) : s / 2 ^ i = a := by
  rw [hs]
  exact Nat.mul_div_cancel_left a (Nat.two_pow_pos i)
theorem red_b {m i : Nat} (hi : i ≤ m) : 2 ^ m / 2 ^ i = 2 ^ (m - i) := Nat.pow_div hi (by omega)
theorem red_e {m : zM} {s n : Nat} (hs : s < 2 ^ 63) (hn : n ≤ 8) (h6 : m 6 2 = nI n) (v3 : Int32) (K : Int64 → Int64 → zM → Option (Int64 × zM)) : f_X6_chance_L106 v3 K 400 (lN s) (lN (2 ^ (4 * n))) 0 m = K (lN (s / Nat.gcd s (2 ^ (4 * n)))) (lN (2 ^ (4 * n) / Nat.gcd s (2 ^ (4 * n)))) m := by
  refine loop_P (fun q i (x : Int64 × Int64) => f_X6_chance_L106 v3 K q x.1 x.2 i m) (fun R => R = K (lN (s / Nat.gcd s (2 ^ (4 * n)))) (lN (2 ^ (4 * n) / Nat.gcd s (2 ^ (4 * n)))) m) (4 * n) (fun i x => ∃ a, s = 2 ^ i * a ∧ x.1 = lN a ∧ x.2 = lN (2 ^ (4 * n - i))) ?_ ?_ 400 0 (lN s, lN (2 ^ (4 * n))) (by omega) (by omega) ⟨s, by rw [Nat.pow_zero, Nat.one_mul], rfl, rfl⟩
  · intro q x ⟨a, h1, h2, h3⟩
    show f_X6_chance_L106 _ _ (q + 1) _ _ _ _ = _
    rw [f_X6_chance_L106, ev_g, h6, q_mul_4, if_pos (nI_le (Nat.le_refl _) (by omega)), h2, h3, red_g (Nat.le_refl _) h1 (Or.inl rfl), red_a h1, red_b (Nat.le_refl _)]
  · intro q i x hi ⟨a, h1, h2, h3⟩
    have ha : a ≤ s := by rw [h1]; exact Nat.le_mul_of_pos_left a (Nat.two_pow_pos i)
    have hb : 2 ^ (4 * n - i) ≤ 2 ^ 32 := Nat.pow_le_pow_right (by omega) (by omega)
    have hb2 : 2 ^ (4 * n - i) / 2 = 2 ^ (4 * n - (i + 1)) := by
      rw [show 4 * n - i = (4 * n - (i + 1)) + 1 by omega, Nat.pow_succ]
      exact Nat.mul_div_cancel _ (by omega)
    have d1 : lN a / (2 : Int64) = lN (a / 2) := pk_lDiv (b := 2) (by omega) (by omega) (by omega)
    have d2 : lN (2 ^ (4 * n - i)) / (2 : Int64) = lN (2 ^ (4 * n - (i + 1))) := by rw [← hb2]; exact pk_lDiv (b := 2) (by omega) (by omega) (by omega)
    have d3 : lN a - lN a / (2 : Int64) * (2 : Int64) = lN (a % 2) := pk_lRem (b := 2) (by omega) (by omega) (by omega)
    show f_X6_chance_L106 _ _ (q + 1) _ _ _ _ = _ ∨ ∃ s' : Int64 × Int64, f_X6_chance_L106 _ _ (q + 1) _ _ _ _ = f_X6_chance_L106 _ _ q _ _ _ _ ∧ _
    rw [f_X6_chance_L106, ev_g, h6, q_mul_4, if_neg (nI_ge hi (by omega)), h2, h3, ev_gd (show ¬ (2 : Int64) = 0 by decide), d3]
    by_cases c : a % 2 = 0
    · right
      rw [if_neg (show ¬ ¬ lg_cmp (lN (a % 2)) (0 : Int64) = 0 from fun z => z ((lg_cmp_eq _ _).mpr (by rw [c]; rfl))), ev_gd (show ¬ (2 : Int64) = 0 by decide), ev_w, ev_gd (show ¬ (2 : Int64) = 0 by decide), ev_w, ev_v, nI_1, d1, d2]
      refine ⟨(lN (a / 2), lN (2 ^ (4 * n - (i + 1)))), rfl, a / 2, ?_, rfl, rfl⟩
      rw [Nat.pow_succ, Nat.mul_assoc, show 2 * (a / 2) = a by omega]
      exact h1
    · left
      rw [if_pos (show ¬ lg_cmp (lN (a % 2)) (0 : Int64) = 0 from fun z => c ((pk_lEQ (b := 0) (by omega) (by omega)).mp ((lg_cmp_eq _ _).mp z))), red_g (by omega) h1 (Or.inr (by omega)), red_a h1, red_b (by omega)]
