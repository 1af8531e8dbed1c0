-- PURE: what the texts and cards say (S is the reference's memory, its told cells alone)
def mnA (x : Int32) : Option Nat := if x = 114 then some 0 else if x = 102 then some 1 else if x = 103 then some 2 else if x = 115 then some 3 else none
def mnB (x : Int32) : Option Nat := if x = 98 then some 0 else if x = 106 then some 1 else none
def mnC (x : Int32) : Option Nat := if x < 49 then none else if 57 < x then none else some (nN (x - 48))
def mnD (x : Int32) : Option Nat := if x < 97 then none else if 120 < x then none else some (nN (x - 97))
def mnS (s : Nat) (x : Int32) : Option Nat := match s with
  | 0 => mnA x
  | 1 => mnB x
  | 2 => mnC x
  | 3 => mnD x
  | _ => none
theorem rng {x lo hi : Int32} {a b : Nat} (hlo : lo = nI a) (hhi : hi = nI b) (ha : a < 2 ^ 31) (hb : b < 2 ^ 31) (h1 : ¬ x < lo) (h2 : ¬ hi < x) : ∃ k, a ≤ k ∧ k ≤ b ∧ x = nI k := by
  subst hlo hhi
  have h0 : ¬ x < 0 := fun q => h1 (by
    rw [Int32.lt_iff_toInt_lt] at q ⊢
    rw [nI_toInt ha]
    have : (0 : Int32).toInt = 0 := by decide
    omega)
  obtain ⟨k, hk, rfl⟩ := nI_of h0
  rw [nI_ltI hk ha] at h1
  rw [nI_ltI hb hk] at h2
  exact ⟨k, by omega, by omega, rfl⟩
theorem mn2 {x : Int32} (h1 : ¬ x < 49) (h2 : ¬ (57 : Int32) < x) : ∃ k, 49 ≤ k ∧ k ≤ 57 ∧ x = nI k ∧ x - 48 = nI (k - 48) ∧ mnS 2 x = some (k - 48) := by
  obtain ⟨k, h3, h4, e⟩ := rng k_49 k_57 (by omega) (by omega) h1 h2
  have e2 : x - 48 = nI (k - 48) := by rw [e]; exact pk_sub (b := 48) (by omega)
  refine ⟨k, h3, h4, e, e2, ?_⟩
  show mnC x = _
  unfold mnC
  rw [if_neg h1, if_neg h2, e2, nN_nI (by omega)]
theorem mn3 {x : Int32} (h1 : ¬ x < 97) (h2 : ¬ (120 : Int32) < x) : ∃ k, 97 ≤ k ∧ k ≤ 120 ∧ x = nI k ∧ x - 97 = nI (k - 97) ∧ mnS 3 x = some (k - 97) := by
  obtain ⟨k, h3, h4, e⟩ := rng k_97 k_120 (by omega) (by omega) h1 h2
  have e2 : x - 97 = nI (k - 97) := by rw [e]; exact pk_sub (b := 97) (by omega)
  refine ⟨k, h3, h4, e, e2, ?_⟩
  show mnD x = _
  unfold mnD
  rw [if_neg h1, if_neg h2, e2, nN_nI (by omega)]
theorem mn_lt0 {x : Int32} {v : Nat} (h : mnS 0 x = some v) : v < 4 := by
  change mnA x = _ at h; unfold mnA at h
  split at h
  · cases h; omega
  · split at h
    · cases h; omega
    · split at h
      · cases h; omega
      · split at h
        · cases h; omega
        · cases h
theorem mn_lt1 {x : Int32} {v : Nat} (h : mnS 1 x = some v) : v < 2 := by
  change mnB x = _ at h; unfold mnB at h
  split at h
  · cases h; omega
  · split at h
    · cases h; omega
    · cases h
theorem mn_lt2 {x : Int32} {v : Nat} (h : mnS 2 x = some v) : 1 ≤ v ∧ v ≤ 9 := by
  by_cases h1 : x < 49
  · change mnC x = _ at h; unfold mnC at h; rw [if_pos h1] at h; cases h
  · by_cases h2 : (57 : Int32) < x
    · change mnC x = _ at h; unfold mnC at h; rw [if_neg h1, if_pos h2] at h; cases h
    · obtain ⟨k, a, b, -, -, e⟩ := mn2 h1 h2
      rw [e] at h; cases h; omega
theorem mn_lt3 {x : Int32} {v : Nat} (h : mnS 3 x = some v) : v < 24 := by
  by_cases h1 : x < 97
  · change mnD x = _ at h; unfold mnD at h; rw [if_pos h1] at h; cases h
  · by_cases h2 : (120 : Int32) < x
    · change mnD x = _ at h; unfold mnD at h; rw [if_neg h1, if_pos h2] at h; cases h
    · obtain ⟨k, a, b, -, -, e⟩ := mn3 h1 h2
      rw [e] at h; cases h; omega
theorem meaning_e {s : Nat} (hs : s ≤ 3) (x : Int32) (μ : zM) : f_X5_meaning (nI s) x μ = some (oI (mnS s x), μ) := by
  have hc : s = 0 ∨ s = 1 ∨ s = 2 ∨ s = 3 := by omega
  unfold f_X5_meaning
  rcases hc with rfl | rfl | rfl | rfl
  · rw [if_pos (show nI 0 = (0 : Int32) from rfl)]
    show _ = some (oI (mnA x), μ)
    unfold mnA
    by_cases c1 : x = 114
    · rw [if_neg (fun q => q c1), if_pos c1]; rfl
    · rw [if_pos c1, if_neg c1]
      by_cases c2 : x = 102
      · rw [if_neg (fun q => q c2), if_pos c2]; rfl
      · rw [if_pos c2, if_neg c2]
        by_cases c3 : x = 103
        · rw [if_neg (fun q => q c3), if_pos c3]; rfl
        · rw [if_pos c3, if_neg c3]
          by_cases c4 : x = 115
          · rw [if_neg (fun q => q c4), if_pos c4]; rfl
          · rw [if_pos c4, if_neg c4]; rfl
  · rw [if_neg (show ¬ nI 1 = (0 : Int32) by decide), if_pos (show nI 1 = (1 : Int32) from rfl)]
    show _ = some (oI (mnB x), μ)
    unfold mnB
    by_cases c1 : x = 98
    · rw [if_neg (fun q => q c1), if_pos c1]; rfl
    · rw [if_pos c1, if_neg c1]
      by_cases c2 : x = 106
      · rw [if_neg (fun q => q c2), if_pos c2]; rfl
      · rw [if_pos c2, if_neg c2]; rfl
  · rw [if_neg (show ¬ nI 2 = (0 : Int32) by decide), if_neg (show ¬ nI 2 = (1 : Int32) by decide), if_pos (show nI 2 = (2 : Int32) from rfl)]
    by_cases c1 : x < 49
    · rw [if_pos c1]; show _ = some (oI (mnC x), μ); unfold mnC; rw [if_pos c1]; rfl
    · by_cases c2 : (57 : Int32) < x
      · rw [if_neg c1, if_pos c2]; show _ = some (oI (mnC x), μ); unfold mnC; rw [if_neg c1, if_pos c2]; rfl
      · obtain ⟨k, -, -, -, e1, e2⟩ := mn2 c1 c2
        rw [if_neg c1, if_neg c2, e2, e1]; rfl
  · rw [if_neg (show ¬ nI 3 = (0 : Int32) by decide), if_neg (show ¬ nI 3 = (1 : Int32) by decide), if_neg (show ¬ nI 3 = (2 : Int32) by decide), if_pos (show nI 3 = (3 : Int32) from rfl)]
    by_cases c1 : x < 97
    · rw [if_pos c1]; show _ = some (oI (mnD x), μ); unfold mnD; rw [if_pos c1]; rfl
    · by_cases c2 : (120 : Int32) < x
      · rw [if_neg c1, if_pos c2]; show _ = some (oI (mnD x), μ); unfold mnD; rw [if_neg c1, if_pos c2]; rfl
      · obtain ⟨k, -, -, -, e1, e2⟩ := mn3 c1 c2
        rw [if_neg c1, if_neg c2, e2, e1]; rfl
def sgn (t i : Nat) : Nat := (if t = 0 then [0, 2, 3, 2] else [1, 3, 3]).getD i 3
def wd (t : Nat) : Nat := if t = 0 then 5 else 4
def tz (S : zM) (t : Nat) : Nat := nN (S 101 t)
def bX (S : zM) (t i : Nat) : Int32 := S 102 (39 * t + i)
def okB (S : zM) (t i : Nat) : Bool := decide (i < tz S t) && (if i % wd t = wd t - 1 then decide (bX S t i = 59) else (mnS (sgn t (i % wd t)) (bX S t i)).isSome)
def ftS (S : zM) (t : Nat) : Option Nat := match fstP (fun i => !okB S t i) 40 with
  | none => none
  | some i => if i = tz S t ∧ (i = 0 ∨ i % wd t = wd t - 1) then none else some i
def itS (S : zM) (t : Nat) : Nat := if ftS S t = none then (tz S t + 1) / wd t else 0
def vlS (S : zM) (t k j : Nat) : Nat := (mnS (sgn t j) (bX S t (wd t * k + j))).getD 0
def cn (S : zM) : Nat := nN (S 100 11)
def cd (S : zM) (i : Nat) : Nat := nN (S 113 i)
def cf (S : zM) (i : Nat) : Nat := nN (S 114 i)
/-- the first day of a card for k among n cards that are not in b; 24: none -/
def iv (b : Int32) (dd ff : Nat → Nat) : Nat → Nat → Nat
  | 0, _ => 24
  | n + 1, k => if tb b n = false ∧ ff n = k ∧ dd n < iv b dd ff n k then dd n else iv b dd ff n k
theorem iv_s {b : Int32} {dd ff : Nat → Nat} {n k : Nat} : iv b dd ff (n + 1) k = if tb b n = false ∧ ff n = k ∧ dd n < iv b dd ff n k then dd n else iv b dd ff n k := rfl
theorem iv_le (b : Int32) (dd ff : Nat → Nat) : ∀ n k, iv b dd ff n k ≤ 24
  | 0, _ => Nat.le_refl _
  | n + 1, k => by
    have := iv_le b dd ff n k
    unfold iv
    split <;> omega
def setF (T : zT2) (f : Nat → Nat) : zT2 := fun a k => if a = 5 then f k else T a k
def setT (T : zT2) (j i v : Nat) : zT2 := fun a k => if a = j ∧ k = i then v else T a k
theorem setF_F (T : zT2) (f g : Nat → Nat) : setF (setF T f) g = setF T g := by
  funext a k
  unfold setF
  by_cases c : a = 5
  · rw [if_pos c, if_pos c]
  · rw [if_neg c, if_neg c, if_neg c]
theorem setF_n {T : zT2} {f : Nat → Nat} {a k : Nat} (h : a ≠ 5) : setF T f a k = T a k := if_neg h
theorem setF_5 {T : zT2} {f : Nat → Nat} {k : Nat} : setF T f 5 k = f k := if_pos rfl
theorem setT_e {T : zT2} {j i v : Nat} : setT T j i v j i = v := if_pos ⟨rfl, rfl⟩
theorem setT_a {T : zT2} {j i v a k : Nat} (h : a ≠ j) : setT T j i v a k = T a k := if_neg (fun q => h q.1)
theorem setT_k {T : zT2} {j i v a k : Nat} (h : k ≠ i) : setT T j i v a k = T a k := if_neg (fun q => h q.2)
theorem wT_F {T : zT2} (h : wT T) {f : Nat → Nat} (hf : ∀ k, k < T 0 0 → f k ≤ 24) : wT (setF T f) := ⟨h.1, h.2.1, fun k hk => by
    obtain ⟨a, b, c, d, e, g, -⟩ := h.2.2.1 k hk
    exact ⟨a, b, c, d, e, g, hf k hk⟩, h.2.2.2⟩
def tolA (S : zM) : zT2 := fun j k => match j with
  | 0 => if k = 0 then itS S 0 else itS S 1
  | 1 => vlS S 0 k 0
  | 2 => vlS S 0 k 1
  | 3 => vlS S 0 k 2
  | 4 => vlS S 0 k 3
  | 5 => 24
  | 6 => vlS S 1 k 0
  | 7 => vlS S 1 k 1
  | 8 => vlS S 1 k 2
  | _ => 0
/-- the house of the texts, and of the cards that are not in b -/
def tolB (S : zM) (b : Int32) : zT2 := setF (tolA S) (iv b (cd S) (cf S) (cn S))
abbrev tolT (S : zM) : zT2 := tolB S 0
def fn (S : zM) : Nat := nN (S 100 28)
def fd (S : zM) (i : Nat) : Nat := nN (S 130 i)
def sz (S : zM) (s : Nat) : Nat := nN (S 135 s)
def wfS (S : zM) : Prop := (S 101 0 = nI (tz S 0) ∧ tz S 0 ≤ 39) ∧ (S 101 1 = nI (tz S 1) ∧ tz S 1 ≤ 15) ∧ (S 100 11 = nI (cn S) ∧ cn S ≤ 8) ∧ (∀ i, i < cn S → S 113 i = nI (cd S i) ∧ cd S i < 24 ∧ S 114 i = nI (cf S i) ∧ cf S i < 8) ∧ (S 100 28 = nI (fn S) ∧ fn S ≤ 8) ∧ (∀ i, i < fn S → S 130 i = nI (fd S i) ∧ fd S i < 24) ∧ ∀ s, s < 4 → S 133 s = 0 ∨ S 133 s = 1 ∧ (S 134 s = 0 ∨ S 134 s = 1 ∨ S 134 s = 2) ∧ S 135 s = nI (sz S s) ∧ sz S s ≤ 60
theorem wf_t {S : zM} (h : wfS S) {t : Nat} (ht : t < 2) : S 101 t = nI (tz S t) ∧ tz S t ≤ 39 ∧ (t = 1 → tz S t ≤ 15) := by
  have : t = 0 ∨ t = 1 := by omega
  rcases this with rfl | rfl
  · exact ⟨h.1.1, h.1.2, by omega⟩
  · exact ⟨h.2.1.1, by have := h.2.1.2; omega, fun _ => h.2.1.2⟩
/-- the first index that is not as it should be: it is there -/
theorem ft_at (S : zM) {t : Nat} (hz : tz S t ≤ 39) : ∃ i, fstP (fun i => !okB S t i) 40 = some i ∧ i ≤ tz S t ∧ okB S t i = false ∧ ∀ j, j < i → okB S t j = true := by
  cases e : fstP (fun i => !okB S t i) 40 with
  | none =>
    have := fstP_none e (tz S t) (by omega)
    simp [okB] at this
  | some i =>
    obtain ⟨h1, h2, h3⟩ := fstP_lt e
    have h3' : ∀ j, j < i → okB S t j = true := fun j hj => by have := h3 j hj; simpa using this
    refine ⟨i, rfl, ?_, by simpa using h2, h3'⟩
    rcases Nat.lt_or_ge (tz S t) i with q | q
    · have := h3' _ q
      simp [okB] at this
    · exact q
theorem ft_is {S : zM} {t i : Nat} (hz : tz S t ≤ 39) (h1 : okB S t i = false) (h2 : ∀ j, j < i → okB S t j = true) : fstP (fun i => !okB S t i) 40 = some i := by
  obtain ⟨k, e, h3, h4, h5⟩ := ft_at S hz
  rw [e]
  rcases Nat.lt_trichotomy i k with q | q | q
  · rw [h5 i q] at h1; cases h1
  · rw [q]
  · rw [h2 k q] at h4; cases h4
theorem ft_bad {S : zM} {t i : Nat} (hz : tz S t ≤ 39) (h1 : okB S t i = false) (h2 : ∀ j, j < i → okB S t j = true) (h3 : ¬ (i = tz S t ∧ (i = 0 ∨ i % wd t = wd t - 1))) : ftS S t = some i := by
  unfold ftS
  rw [ft_is hz h1 h2]
  exact if_neg h3
theorem ft_end {S : zM} {t : Nat} (hz : tz S t ≤ 39) (h2 : ∀ j, j < tz S t → okB S t j = true) (h3 : tz S t = 0 ∨ tz S t % wd t = wd t - 1) : ftS S t = none := by
  unfold ftS
  rw [ft_is hz (by simp [okB]) h2]
  exact if_pos ⟨rfl, h3⟩
theorem ft_no {S : zM} {t : Nat} (hz : tz S t ≤ 39) (h : ftS S t = none) : (∀ j, j < tz S t → okB S t j = true) ∧ (tz S t = 0 ∨ tz S t % wd t = wd t - 1) := by
  obtain ⟨k, e, h3, h4, h5⟩ := ft_at S hz
  unfold ftS at h
  rw [e] at h
  by_cases c : k = tz S t ∧ (k = 0 ∨ k % wd t = wd t - 1)
  · obtain ⟨rfl, c2⟩ := c
    exact ⟨h5, c2⟩
  · have : (match some k with | none => (none : Option Nat) | some i => if i = tz S t ∧ (i = 0 ∨ i % wd t = wd t - 1) then none else some i) = some k := if_neg c
    simp only [c, if_false] at h
    cases h
theorem wd_pos (t : Nat) : 4 ≤ wd t ∧ wd t ≤ 5 := by unfold wd; split <;> omega
theorem it_ok {S : zM} {t k j : Nat} (hz : tz S t ≤ 39) (hk : k < itS S t) (hj : j < wd t - 1) : (mnS (sgn t j) (bX S t (wd t * k + j))).isSome = true ∧ wd t * k + j < tz S t := by
  unfold itS at hk
  by_cases c : ftS S t = none
  · rw [if_pos c] at hk
    obtain ⟨h1, -⟩ := ft_no hz c
    have hw := wd_pos t
    have h3 : (k + 1) * wd t ≤ tz S t + 1 := (Nat.le_div_iff_mul_le (by omega)).mp hk
    have h4 : wd t * k + wd t ≤ tz S t + 1 := by rw [Nat.mul_comm] at h3; rw [Nat.mul_succ] at h3; exact h3
    have h5 : wd t * k + j < tz S t := by omega
    have h6 := h1 _ h5
    have e : (wd t * k + j) % wd t = j := by rw [Nat.mul_add_mod]; exact Nat.mod_eq_of_lt (by omega)
    unfold okB at h6
    rw [e, if_neg (by omega)] at h6
    simp only [Bool.and_eq_true] at h6
    exact ⟨h6.2, h5⟩
  · rw [if_neg c] at hk; omega
theorem it_le {S : zM} {t : Nat} (hz : tz S t ≤ 39) (h1 : t = 1 → tz S t ≤ 15) (ht : t < 2) : itS S t ≤ if t = 0 then 8 else 4 := by
  unfold itS
  split
  · have : t = 0 ∨ t = 1 := by omega
    rcases this with rfl | rfl
    · show (tz S 0 + 1) / 5 ≤ 8
      omega
    · have := h1 rfl
      show (tz S 1 + 1) / 4 ≤ 4
      omega
  · split <;> omega
theorem vl_some {S : zM} {t k j : Nat} (hz : tz S t ≤ 39) (hk : k < itS S t) (hj : j < wd t - 1) : mnS (sgn t j) (bX S t (wd t * k + j)) = some (vlS S t k j) := by
  obtain ⟨h, -⟩ := it_ok hz hk hj
  unfold vlS
  cases e : mnS (sgn t j) (bX S t (wd t * k + j)) with
  | none => rw [e] at h; cases h
  | some v => rfl
theorem wT_A {S : zM} (h : wfS S) : wT (tolA S) := by
  obtain ⟨a1, a2⟩ := h.1
  obtain ⟨b1, b2⟩ := h.2.1
  refine ⟨?_, ?_, fun k hk => ?_, fun m hm => ?_⟩
  · exact it_le (t := 0) a2 (by omega) (by omega)
  · exact it_le (t := 1) (by omega) (fun _ => b2) (by omega)
  · have hk : k < itS S 0 := hk
    have w : wd 0 = 5 := rfl
    have v0 := mn_lt0 (vl_some (j := 0) a2 hk (by omega))
    have v1 := mn_lt2 (vl_some (j := 1) a2 hk (by omega))
    have v2 := mn_lt3 (vl_some (j := 2) a2 hk (by omega))
    have v3 := mn_lt2 (vl_some (j := 3) a2 hk (by omega))
    exact ⟨v0, v1.1, v1.2, v2, v3.1, v3.2, Nat.le_refl _⟩
  · have hm : m < itS S 1 := hm
    have w : wd 1 = 4 := rfl
    have v0 := mn_lt1 (vl_some (j := 0) (by omega) hm (by omega))
    have v1 := mn_lt3 (vl_some (j := 1) (by omega) hm (by omega))
    have v2 := mn_lt3 (vl_some (j := 2) (by omega) hm (by omega))
    exact ⟨v0, v1, v2⟩
theorem wT_told {S : zM} (h : wfS S) (b : Int32) : wT (tolB S b) := wT_F (wT_A h) (fun k _ => iv_le _ _ _ _ _)
