-- PURE: what the days are (a told house T; a state σ: on which day each came in, was sent on, under which name)
abbrev zT2 : Type := Nat → Nat → Nat
abbrev zSS : Type := (Nat → Option Nat) × (Nat → Option Nat) × (Nat → Option Nat)
/-- T 0 0 callers, T 0 1 men; T 1 sort, 2 waits, 3 calls, 4 force, 5 first day of a card (24: none); T 6 rank, 7 from, 8 until -/
def wT (T : zT2) : Prop := T 0 0 ≤ 8 ∧ T 0 1 ≤ 4 ∧ (∀ k, k < T 0 0 → T 1 k < 4 ∧ 1 ≤ T 2 k ∧ T 2 k ≤ 9 ∧ T 3 k < 24 ∧ 1 ≤ T 4 k ∧ T 4 k ≤ 9 ∧ T 5 k ≤ 24) ∧ (∀ m, m < T 0 1 → T 6 m < 2 ∧ T 7 m < 24 ∧ T 8 m < 24)
def wS (T : zT2) (σ : zSS) : Prop := ∀ k, k < T 0 0 → (∀ c, σ.1 k = some c → c < 24) ∧ (∀ c, σ.2.1 k = some c → c < 24) ∧ (∀ c, σ.2.2 k = some c → c < 4)
def inn (T : zT2) (σ : zSS) (k d : Nat) : Bool := match σ.1 k with
  | none => false
  | some c => decide (c ≤ d) && decide (d < c + T 4 k)
def wo (x : Option Nat) : Int32 := match x with
  | none => 0
  | some v => zsv 72 v
def sto (x : Option Nat) (d : Nat) : Nat := match x with
  | none => 1
  | some s => if d < s then 1 else 4
def stn (T : zT2) (σ : zSS) (k d : Nat) : Nat := if d < T 3 k then 0 else match σ.1 k with
  | none => sto (σ.2.1 k) d
  | some c => if d < c then sto (σ.2.1 k) d else if inn T σ k d = true then 2 else 3
def wsum (T : zT2) (σ : zSS) (d : Nat) : Nat → Int32
  | 0 => 0
  | k + 1 => if inn T σ k d = true then wsum T σ d k + wo (σ.2.2 k) else wsum T σ d k
/-- the sum over those of n that p picks, one each -/
def cntI (p : Nat → Bool) : Nat → Int32
  | 0 => 0
  | k + 1 => if p k = true then cntI p k + 1 else cntI p k
/-- the bits of those of n that p picks -/
def bits (p : Nat → Bool) : Nat → Int32
  | 0 => 0
  | k + 1 => if p k = true then bits p k ||| ((1 : Int32) <<< (nI k &&& 31)) else bits p k
def mnO (a b : Nat) : Nat := if b < a then b else a
def tsum (T : zT2) (σ : zSS) : Nat → Int32
  | 0 => 0
  | k + 1 => match σ.1 k with
    | none => tsum T σ k
    | some c => tsum T σ k + wo (σ.2.2 k) * nI (mnO (T 4 k) (24 - c))
/-- the least of n that p picks -/
def fstP (p : Nat → Bool) : Nat → Option Nat
  | 0 => none
  | k + 1 => match fstP p k with
    | some m => some m
    | none => if p k = true then some k else none
def doorS (T : zT2) (d : Nat) : Option Nat := fstP (fun m => decide (T 7 m ≤ d) && decide (d ≤ T 8 m)) (T 0 1)
/-- of those that p picks the one of the least f, of like ones the first -/
def bestBy (p : Nat → Bool) (f : Nat → Nat) : Nat → Option Nat
  | 0 => none
  | k + 1 => if p k = true then (match bestBy p f k with
      | none => some k
      | some b => if f k < f b then some k else some b) else bestBy p f k
def fdS (T : zT2) (σ : zSS) : Option Nat := bestBy (fun k => (σ.1 k).isSome && !decide (T 1 k = 2)) (fun k => (σ.1 k).getD 0) (T 0 0)
-- how a house holds it
def HT (r0 : Nat) (μ : zM) (T : zT2) : Prop := μ r0 0 = nI (T 0 0) ∧ μ r0 6 = nI (T 0 1) ∧ (∀ j, 1 ≤ j → j ≤ 5 → ∀ k, k < T 0 0 → μ (r0 + j) k = nI (T j k)) ∧ (∀ j, 6 ≤ j → j ≤ 8 → ∀ k, k < T 0 1 → μ (r0 + j) k = nI (T j k))
def HR (r0 : Nat) (μ : zM) (T : zT2) (σ : zSS) : Prop := ∀ k, k < T 0 0 → μ (r0 + 10) k = oI (σ.1 k) ∧ μ (r0 + 11) k = oI (σ.2.1 k) ∧ μ (r0 + 12) k = oI (σ.2.2 k)
def hO (r0 : Nat) : Prop := r0 = 21 ∨ r0 = 34
theorem hz {r0 : Nat} (hr : hO r0) : zln (r0 + 1) = 8 ∧ zln (r0 + 2) = 8 ∧ zln (r0 + 3) = 8 ∧ zln (r0 + 4) = 8 ∧ zln (r0 + 5) = 8 ∧ zln (r0 + 6) = 4 ∧ zln (r0 + 7) = 4 ∧ zln (r0 + 8) = 4 ∧ zln (r0 + 9) = 24 ∧ zln (r0 + 10) = 8 ∧ zln (r0 + 11) = 8 ∧ zln (r0 + 12) = 8 := by
  rcases hr with rfl | rfl <;> decide +kernel
def HC (r0 : Nat) (μ : zM) (T : zT2) (σ : zSS) : Prop := hO r0 ∧ wT T ∧ HT r0 μ T ∧ HR r0 μ T σ ∧ wS T σ
def wi (a lo hi : Int32) : Bool := !decide (a < lo) && !decide (hi < a)
theorem ev_gT {α : Type} {c : Option α} : gd True c = c := rfl
theorem within_e (a lo hi : Int32) (μ : zM) : f_X6_within a lo hi μ = some (bI (wi a lo hi), μ) := by
  unfold f_X6_within wi
  by_cases h1 : a < lo
  · rw [if_pos h1]; simp [h1, ev_g0, ev_gT, bI]
  · rw [if_neg h1]
    by_cases h2 : hi < a
    · rw [if_pos h2]; simp [h1, h2, ev_g0, ev_gT, bI]
    · rw [if_neg h2]; simp [h1, h2, ev_g1, ev_gT, bI]
theorem in_e (a lo hi : Int32) (μ : zM) : f_X7_in a lo hi μ = some (bI (wi a lo hi), μ) := within_e a lo hi μ
theorem wi_nI {k a b : Nat} (hk : k < 2 ^ 31) (ha : a < 2 ^ 31) (hb : b < 2 ^ 31) : wi (nI k) (nI a) (nI b) = (decide (a ≤ k) && decide (k ≤ b)) := by
  unfold wi
  have e1 : decide (nI k < nI a) = decide (k < a) := by rw [decide_eq_decide]; exact nI_ltI hk ha
  have e2 : decide (nI b < nI k) = decide (b < k) := by rw [decide_eq_decide]; exact nI_ltI hb hk
  rw [e1, e2]
  by_cases h1 : a ≤ k <;> by_cases h2 : k ≤ b <;> simp [h1, h2] <;> omega
theorem wi_of {a : Int32} {n : Nat} (hn : n < 2 ^ 31) : wi a 0 (nI n) = true ↔ ∃ k, k ≤ n ∧ a = nI k := by
  constructor
  · intro h
    unfold wi at h
    simp only [Bool.and_eq_true, Bool.not_eq_true', decide_eq_false_iff_not] at h
    obtain ⟨k, hk, e⟩ := nI_of h.1
    refine ⟨k, ?_, e⟩
    have h2 := h.2
    rw [e, nI_ltI hn hk] at h2
    omega
  · rintro ⟨k, hk, rfl⟩
    rw [k_0, wi_nI (by omega) (by omega) hn]
    simp [hk]
theorem wi_n {a : Int32} {n : Nat} (hn : n < 2 ^ 30) : wi a 0 (nI n - (1 : Int32)) = true ↔ ∃ k, k < n ∧ a = nI k := by
  cases n with
  | zero =>
    constructor
    · intro h
      unfold wi at h
      simp only [Bool.and_eq_true, Bool.not_eq_true', decide_eq_false_iff_not] at h
      obtain ⟨k, hk, e⟩ := nI_of h.1
      exfalso
      apply h.2
      rw [e, Int32.lt_iff_toInt_lt, nI_toInt hk]
      have : (nI 0 - (1 : Int32)).toInt = -1 := by decide
      rw [this]; omega
    · rintro ⟨k, hk, -⟩; omega
  | succ n =>
    rw [nI_pred, wi_of (by omega)]
    constructor
    · rintro ⟨k, h1, h2⟩; exact ⟨k, by omega, h2⟩
    · rintro ⟨k, h1, h2⟩; exact ⟨k, by omega, h2⟩
theorem bI_eq (b : Bool) : (¬ bI b = 0) = (b = true) := by cases b <;> decide
theorem wi_k {k n : Nat} (hk : k < n) (hn : n < 2 ^ 30) : wi (nI k) 0 (nI n - (1 : Int32)) = true := (wi_n hn).mpr ⟨k, hk, rfl⟩
section HQ
variable {r0 : Nat} {μ : zM} {T : zT2} {σ : zSS}
theorem hasCaller_e (h : HC r0 μ T σ) (a : Int32) : f_X2_hasCaller r0 a μ = some (bI (wi a 0 (nI (T 0 0) - (1 : Int32))), μ) := by
  unfold f_X2_hasCaller
  rw [ev_g, h.2.2.1.1, within_e, ev_c, ev_gb]
theorem hasMan_e (h : HC r0 μ T σ) (a : Int32) : f_X2_hasMan r0 a μ = some (bI (wi a 0 (nI (T 0 1) - (1 : Int32))), μ) := by
  unfold f_X2_hasMan
  rw [ev_g, h.2.2.1.2.1, within_e, ev_c, ev_gb]
theorem isIn_e (h : HC r0 μ T σ) {k d : Nat} (hk : k < T 0 0) (hd : d < 24) : f_X2_isIn r0 (nI k) (nI d) μ = some (bI (inn T σ k d), μ) := by
  obtain ⟨hr, hw, hT, hR, hS⟩ := h
  obtain ⟨z1, z2, z3, z4, z5, z6, z7, z8, z9, z10, z11, z12⟩ := hz hr
  have hn := hw.1
  have hk2 := hw.2.2.1 k hk
  obtain ⟨e1, e2, e3⟩ := hR k hk
  have e4 := hT.2.2.1 4 (by omega) (by omega) k hk
  have hs := (hS k hk).1
  unfold f_X2_isIn
  rw [ev_ld (by omega) (by omega), e1, ev_ld (by omega) (by omega), ev_ld (by omega) (by omega), ev_ld (by omega) (by omega), e1, e4]
  unfold inn
  cases hc : σ.1 k with
  | none => simp [oI, ev_g0, ev_gT, bI]
  | some c =>
    have hc24 := hs c hc
    show (if nI c = -1 then _ else _) = _
    rw [if_neg (nI_m1 (by omega))]
    show (if nI d < nI c then _ else if nI c + nI (T 4 k) ≤ nI d then _ else _) = _
    rw [nI_add]
    by_cases h1 : d < c
    · rw [if_pos ((nI_ltI (by omega) (by omega)).mpr h1)]
      simp [ev_g0, ev_gT, bI, Nat.not_le.mpr h1]
    · rw [if_neg (fun q => h1 ((nI_ltI (by omega) (by omega)).mp q))]
      by_cases h2 : c + T 4 k ≤ d
      · rw [if_pos ((nI_leI (by omega) (by omega)).mpr h2)]
        simp [ev_g0, ev_gT, bI, Nat.not_lt.mpr h2]
      · rw [if_neg (fun q => h2 ((nI_leI (by omega) (by omega)).mp q))]
        simp [ev_g1, ev_gT, bI, Nat.not_lt.mp h1, Nat.not_le.mp h2]
theorem warmer_e (h : HC r0 μ T σ) {k : Nat} (hk : k < T 0 0) : f_X2_warmer r0 (nI k) μ = some (wo (σ.2.2 k), μ) := by
  obtain ⟨hr, hw, hT, hR, hS⟩ := h
  obtain ⟨z1, z2, z3, z4, z5, z6, z7, z8, z9, z10, z11, z12⟩ := hz hr
  have hn := hw.1
  obtain ⟨e1, e2, e3⟩ := hR k hk
  have hs := (hS k hk).2.2
  have z72 : zln 72 = 4 := rfl
  unfold f_X2_warmer
  rw [ev_ld (by omega) (by omega), e3, ev_ld (by omega) (by omega), ev_ld (by omega) (by omega), e3]
  cases hc : σ.2.2 k with
  | none => rfl
  | some v =>
    have hv := hs v hc
    show (if nI v < 0 then _ else if nI (zln 72) ≤ nI v then _ else ldS 72 (nI v) _) = _
    rw [if_neg (nI_pos (by omega)), if_neg (nI_ge (by omega) (by omega)), ev_ldS (by omega) (by omega)]
    rfl
theorem warmthOn_e (h : HC r0 μ T σ) {d : Nat} (hd : d < 24) : f_X2_warmthOn r0 (nI d) μ = some (wsum T σ d (T 0 0), μ) := by
  unfold f_X2_warmthOn
  have hn := h.2.1.1
  refine loop_X (fun n i (a : Int32) => f_X2_warmthOn_L4 r0 (nI d) (fun (x9 : Int32) μ => some (x9, μ)) n a i μ) (fun R => R = some (wsum T σ d (T 0 0), μ)) (T 0 0) (fun k a => a = wsum T σ d k) ?_ ?_ 400 0 0 (by omega) (by omega) rfl
  · intro n a ha
    show f_X2_warmthOn_L4 _ _ _ (n + 1) _ _ _ = _
    rw [f_X2_warmthOn_L4, ev_g, h.2.2.1.1, if_pos (nI_le (Nat.le_refl _) (by omega)), ha]
  · intro n k a hk ha
    refine ⟨wsum T σ d (k + 1), ?_, rfl⟩
    show f_X2_warmthOn_L4 _ _ _ (n + 1) _ _ _ = f_X2_warmthOn_L4 _ _ _ n _ _ _
    rw [f_X2_warmthOn_L4, ev_g, h.2.2.1.1, if_neg (nI_ge hk (by omega)), isIn_e h hk hd, ev_c, ha]
    cases hi : inn T σ k d with
    | false => simp only [bI_f, if_true, ev_v, nI_1, wsum, hi, Bool.false_eq_true, if_false]
    | true => 
      rw [if_neg (by decide), warmer_e h hk, ev_c]
      simp only [ev_v, nI_1, wsum, hi, if_true]
end HQ
