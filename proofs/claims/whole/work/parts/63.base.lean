-- PURE: numbers, bits, loops (the bits family is out of kit/laws)
def bt (x : Int32) (i : Nat) : Bool := x.toBitVec.getLsbD i
theorem b_ext {x y : Int32} (h : ∀ i, i < 32 → bt x i = bt y i) : x = y := Int32.toBitVec_inj.mp (BitVec.eq_of_getLsbD_eq (fun i hi => h i hi))
theorem b_or (x y : Int32) (i : Nat) : bt (x ||| y) i = (bt x i || bt y i) := by unfold bt; rw [Int32.toBitVec_or, BitVec.getLsbD_or]
theorem b_and (x y : Int32) (i : Nat) : bt (x &&& y) i = (bt x i && bt y i) := by unfold bt; rw [Int32.toBitVec_and, BitVec.getLsbD_and]
theorem b_xor (x y : Int32) (i : Nat) : bt (x ^^^ y) i = (bt x i ^^ bt y i) := by unfold bt; rw [Int32.toBitVec_xor, BitVec.getLsbD_xor]
theorem b_big {x : Int32} {i : Nat} (h : 32 ≤ i) : bt x i = false := BitVec.getLsbD_of_ge _ _ h
theorem b_255 (i : Nat) : bt 255 i = decide (i < 8) := by
  rcases Nat.lt_or_ge i 32 with h | h
  · exact (by decide +kernel : ∀ i, i < 32 → bt 255 i = decide (i < 8)) i h
  · rw [b_big h, decide_eq_false (by omega)]
theorem b_65535 (i : Nat) : bt 65535 i = decide (i < 16) := by
  rcases Nat.lt_or_ge i 32 with h | h
  · exact (by decide +kernel : ∀ i, i < 32 → bt 65535 i = decide (i < 16)) i h
  · rw [b_big h, decide_eq_false (by omega)]
theorem b_m1 : ∀ i, i < 32 → bt (-1) i = true := by decide +kernel
theorem b_0 (i : Nat) : bt 0 i = false := BitVec.getLsbD_zero
theorem s_l : ∀ n, n < 32 → ((nI n &&& 31).toBitVec.smod 32).toNat = n := by decide +kernel
theorem s_u : ∀ n, n < 32 → (((nI n).toUInt32 &&& Int32.toUInt32 31).toBitVec % 32).toNat = n := by decide +kernel
theorem b_shl (n : Nat) (hn : n < 32) (x : Int32) {i : Nat} (hi : i < 32) : bt (x <<< (nI n &&& 31)) i = (decide (n ≤ i) && bt x (i - n)) := by
  unfold bt
  rw [Int32.toBitVec_shiftLeft]
  show (x.toBitVec <<< ((nI n &&& 31).toBitVec.smod 32).toNat).getLsbD i = _
  rw [s_l n hn, BitVec.getLsbD_shiftLeft]
  rcases Nat.lt_or_ge i n with h | h
  · simp [h, Nat.not_le.mpr h]
  · simp [hi, h, Nat.not_lt.mpr h]
theorem b_ushr (n : Nat) (hn : n < 32) (x : Int32) (i : Nat) : bt ((x.toUInt32 >>> ((nI n).toUInt32 &&& Int32.toUInt32 31)).toInt32) i = bt x (n + i) := by
  show (x.toUInt32 >>> ((nI n).toUInt32 &&& Int32.toUInt32 31)).toBitVec.getLsbD i = x.toUInt32.toBitVec.getLsbD (n + i)
  rw [UInt32.toBitVec_shiftRight]
  show (x.toUInt32.toBitVec >>> (((nI n).toUInt32 &&& Int32.toUInt32 31).toBitVec % 32).toNat).getLsbD i = _
  rw [s_u n hn, BitVec.getLsbD_ushiftRight]
theorem b_sshr (n : Nat) (hn : n < 32) (x : Int32) {i : Nat} (hi : i < 32) : bt (x >>> (nI n &&& 31)) i = if n + i < 32 then bt x (n + i) else bt x 31 := by
  unfold bt
  rw [Int32.toBitVec_shiftRight]
  show (x.toBitVec.sshiftRight ((nI n &&& 31).toBitVec.smod 32).toNat).getLsbD i = _
  rw [s_l n hn, BitVec.getLsbD_sshiftRight, BitVec.msb_eq_getLsbD_last]
  simp [hi]

theorem k_0 : (0 : Int32) = nI 0 := rfl
theorem k_1 : (1 : Int32) = nI 1 := rfl
theorem k_2 : (2 : Int32) = nI 2 := rfl
theorem k_3 : (3 : Int32) = nI 3 := rfl
theorem k_4 : (4 : Int32) = nI 4 := rfl
theorem k_5 : (5 : Int32) = nI 5 := rfl
theorem k_6 : (6 : Int32) = nI 6 := rfl
theorem k_7 : (7 : Int32) = nI 7 := rfl
theorem k_8 : (8 : Int32) = nI 8 := rfl
theorem k_9 : (9 : Int32) = nI 9 := rfl
theorem k_10 : (10 : Int32) = nI 10 := rfl
theorem k_14 : (14 : Int32) = nI 14 := rfl
theorem k_15 : (15 : Int32) = nI 15 := rfl
theorem k_16 : (16 : Int32) = nI 16 := rfl
theorem k_17 : (17 : Int32) = nI 17 := rfl
theorem k_23 : (23 : Int32) = nI 23 := rfl
theorem k_24 : (24 : Int32) = nI 24 := rfl
theorem k_39 : (39 : Int32) = nI 39 := rfl
theorem k_40 : (40 : Int32) = nI 40 := rfl
theorem k_48 : (48 : Int32) = nI 48 := rfl
theorem k_49 : (49 : Int32) = nI 49 := rfl
theorem k_57 : (57 : Int32) = nI 57 := rfl
theorem k_59 : (59 : Int32) = nI 59 := rfl
theorem k_60 : (60 : Int32) = nI 60 := rfl
theorem k_63 : (63 : Int32) = nI 63 := rfl
theorem k_97 : (97 : Int32) = nI 97 := rfl
theorem k_98 : (98 : Int32) = nI 98 := rfl
theorem k_102 : (102 : Int32) = nI 102 := rfl
theorem k_103 : (103 : Int32) = nI 103 := rfl
theorem k_106 : (106 : Int32) = nI 106 := rfl
theorem k_114 : (114 : Int32) = nI 114 := rfl
theorem k_115 : (115 : Int32) = nI 115 := rfl
theorem k_120 : (120 : Int32) = nI 120 := rfl
theorem k_255 : (255 : Int32) = nI 255 := rfl
theorem nI_m1 {n : Nat} (h : n < 2 ^ 31) : ¬ nI n = -1 := by
  intro e
  have := congrArg Int32.toInt e
  rw [nI_toInt h] at this
  have h2 : (-1 : Int32).toInt = -1 := by decide
  rw [h2] at this
  omega
def oI (x : Option Nat) : Int32 := match x with
  | none => -1
  | some d => nI d
def bI (b : Bool) : Int32 := if b = true then 1 else 0
theorem bI_t : bI true = 1 := rfl
theorem bI_f : bI false = 0 := rfl
theorem ev_ld {α : Type} {μ : zM} {id i : Nat} {c : Int32 → Option α} (h : i < zln id) (hz : zln id < 2 ^ 31) : ldI μ id (nI i) c = c (μ id i) := by
  unfold ldI
  rw [if_neg (nI_in h hz), nI_clamp (by omega)]
theorem ev_st {α : Type} {μ : zM} {id i : Nat} {v : Int32} {c : zM → Option α} (h : i < zln id) (hz : zln id < 2 ^ 31) : stI μ id (nI i) v c = c (zup μ id i v) := by
  unfold stI
  rw [if_neg (nI_in h hz), nI_clamp (by omega)]
theorem ev_ldR {α : Type} {id i : Nat} {c : Nat → Option α} (h : i < zln id) (hz : zln id < 2 ^ 31) : ldR id (nI i) c = c (zrf id i) := by
  unfold ldR
  rw [if_neg (nI_in h hz), nI_clamp (by omega)]
theorem ev_ldS {α : Type} {id i : Nat} {c : Int32 → Option α} (h : i < zln id) (hz : zln id < 2 ^ 31) : ldS id (nI i) c = c (zsv id i) := by
  unfold ldS
  rw [if_neg (nI_in h hz), nI_clamp (by omega)]
theorem ev_g {α : Type} {μ : zM} {id k : Nat} {c : Int32 → Option α} : gI μ id k c = c (μ id k) := rfl
theorem ev_p {α : Type} {μ : zM} {id k : Nat} {v : Int32} {c : zM → Option α} : pI μ id k v c = c (zup μ id k v) := rfl
theorem ev_v {α : Type} {x : Int32} {c : Int32 → Option α} : vI x c = c x := rfl
theorem ev_w {α : Type} {x : Int64} {c : Int64 → Option α} : vJ x c = c x := rfl
theorem ev_c {α β : Type} {r : β} {μ : zM} {c : β → zM → Option α} : cl (some (r, μ)) c = c r μ := rfl
theorem ev_gd {α : Type} {q : Prop} [Decidable q] {c : Option α} (h : q) : gd q c = c := if_pos h
theorem ev_j {α β : Type} {t : β} {f : β → Option α} : jn t f = f t := rfl
theorem ev_g0 {α : Type} {c : Option α} : gd ((0 : Int32) = 0 ∨ (0 : Int32) = 1) c = c := rfl
theorem ev_g1 {α : Type} {c : Option α} : gd ((1 : Int32) = 0 ∨ (1 : Int32) = 1) c = c := rfl
theorem ev_gb {α : Type} {b : Bool} {c : Option α} : gd (bI b = 0 ∨ bI b = 1) c = c := by cases b <;> rfl
theorem bI_0 (b : Bool) : (bI b = 0) = (b = false) := by cases b <;> decide
theorem zup_e {μ : zM} {j i : Nat} {v : Int32} : zup μ j i v j i = v := by rw [zup_s]; simp [upd]
theorem zup_o {μ : zM} {j i b : Nat} {v : Int32} (h : b ≠ i) : zup μ j i v j b = μ j b := by rw [zup_s]; simp [upd, h]
/-- a loop that counts up to N: what it comes to -/
theorem loop_P {σ A : Type} (F : Nat → Int32 → σ → Option A) (P : Option A → Prop) (N : Nat) (Inv : Nat → σ → Prop) (hexit : ∀ n s, Inv N s → P (F (n + 1) (nI N) s)) (hstep : ∀ n k s, k < N → Inv k s → P (F (n + 1) (nI k) s) ∨ ∃ s', F (n + 1) (nI k) s = F n (nI (k + 1)) s' ∧ Inv (k + 1) s') : ∀ n k s, k ≤ N → N - k < n → Inv k s → P (F n (nI k) s) := by
  intro n
  induction n with
  | zero => intro k s _ h; exact absurd h (by omega)
  | succ n ih =>
    intro k s hk hn hI
    rcases Nat.lt_or_ge k N with h | h
    · rcases hstep n k s h hI with q | ⟨s', q, hI'⟩
      · exact q
      · rw [q]; exact ih (k + 1) s' h (by omega) hI'
    · have e : k = N := by omega
      subst e
      exact hexit n s hI
/-- the same, where nothing ends it before its time -/
theorem loop_X {σ A : Type} (F : Nat → Int32 → σ → Option A) (P : Option A → Prop) (N : Nat) (Inv : Nat → σ → Prop) (hexit : ∀ n s, Inv N s → P (F (n + 1) (nI N) s)) (hstep : ∀ n k s, k < N → Inv k s → ∃ s', F (n + 1) (nI k) s = F n (nI (k + 1)) s' ∧ Inv (k + 1) s') : ∀ n k s, k ≤ N → N - k < n → Inv k s → P (F n (nI k) s) := loop_P F P N Inv hexit (fun n k s h1 h2 => Or.inr (hstep n k s h1 h2))
/-- bit i of a number below 2^31 that the programs ask for -/
def tb (x : Int32) (i : Nat) : Bool := bt x i
theorem tb_ask (x : Int32) {i : Nat} (hi : i < 31) : (((x >>> (nI i &&& 31)) &&& (1 : Int32)) = 0) = (tb x i = false) := by
  apply propext
  constructor
  · intro h
    have h2 := congrArg (fun y => bt y 0) h
    simp only [b_and, b_0] at h2
    rw [b_sshr i (by omega) x (by omega)] at h2
    have h3 : bt 1 0 = true := by decide
    rw [h3, Bool.and_true, if_pos (by omega)] at h2
    simpa [tb] using h2
  · intro h
    apply b_ext
    intro j hj
    rw [b_and, b_0]
    by_cases c : j = 0
    · subst c
      rw [b_sshr i (by omega) x (by omega), if_pos (by omega)]
      have : bt x (i + 0) = false := h
      rw [this]; rfl
    · have h1 : bt 1 j = false := (by decide +kernel : ∀ j, j < 32 → ¬ j = 0 → bt 1 j = false) j hj c
      rw [h1, Bool.and_false]
theorem tb_ask1 (x : Int32) {i : Nat} (hi : i < 31) : (((x >>> (nI i &&& 31)) &&& (1 : Int32)) = 1) = (tb x i = true) := by
  apply propext
  constructor
  · intro h
    cases e : tb x i with
    | true => rfl
    | false =>
      have := (tb_ask x hi).symm ▸ e
      rw [this] at h
      exact absurd h (by decide)
  · intro h
    apply b_ext
    intro j hj
    rw [b_and]
    by_cases c : j = 0
    · subst c
      rw [b_sshr i (by omega) x (by omega), if_pos (by omega)]
      have : bt x (i + 0) = true := h
      rw [this]; rfl
    · have h1 : bt 1 j = false := (by decide +kernel : ∀ j, j < 32 → ¬ j = 0 → bt 1 j = false) j hj c
      rw [h1, Bool.and_false]
theorem tb_0 (i : Nat) : tb 0 i = false := b_0 i
theorem tb_one {j i : Nat} (hj : j < 31) (hi : i < 31) : tb ((1 : Int32) <<< (nI j &&& 31)) i = decide (i = j) := by
  unfold tb
  rw [b_shl j (by omega) 1 (by omega)]
  by_cases c : i = j
  · subst c
    have : bt 1 (i - i) = true := by rw [Nat.sub_self]; decide
    rw [this]; simp
  · by_cases h : j ≤ i
    · have h1 : bt 1 (i - j) = false := (by decide +kernel : ∀ k, k < 32 → ¬ k = 0 → bt 1 k = false) (i - j) (by omega) (by omega)
      rw [h1]; simp [c]
    · simp [h, c]
theorem tb_or {x : Int32} {j i : Nat} (hj : j < 31) (hi : i < 31) : tb (x ||| ((1 : Int32) <<< (nI j &&& 31))) i = (tb x i || decide (i = j)) := by
  rw [← tb_one hj hi]
  exact b_or _ _ i
theorem tb_oror (x y : Int32) (i : Nat) : tb (x ||| y) i = (tb x i || tb y i) := b_or _ _ i
theorem tb_not {x : Int32} {j i : Nat} (hj : j < 31) (hi : i < 31) : tb (x &&& (((1 : Int32) <<< (nI j &&& 31)) ^^^ (-1 : Int32))) i = (tb x i && !decide (i = j)) := by
  rw [← tb_one hj hi]
  unfold tb
  rw [b_and, b_xor, b_m1 i (by omega), Bool.xor_true]
