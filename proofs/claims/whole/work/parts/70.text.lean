-- PURE: the class's texts
def cTx (S μ : zM) : Prop := μ 2 3 = S 101 0 ∧ μ 4 3 = S 101 1 ∧ μ 2 1 = 8 ∧ μ 4 1 = 4 ∧ (∀ i, i < tz S 0 → μ 3 i = S 102 i) ∧ (∀ i, i < tz S 1 → μ 5 i = S 102 (39 + i))
def cText (S μ : zM) (t r : Nat) : Prop := t < 2 ∧ r = 2 + 2 * t ∧ tz S t ≤ 39 ∧ (t = 1 → tz S t ≤ 15) ∧ μ r 3 = nI (tz S t) ∧ μ r 1 = nI (if t = 0 then 8 else 4) ∧ (∀ i, i < tz S t → μ (r + 1) i = bX S t i) ∧ zln (zrf r 0) = wd t - 1 ∧ (∀ i, i < wd t - 1 → zsv (zrf r 0) i = nI (sgn t i)) ∧ zln (r + 1) = (if t = 0 then 39 else 15)
theorem cText_of {S μ : zM} (hw : wfS S) (h : cTx S μ) {t : Nat} (ht : t < 2) : cText S μ t (2 + 2 * t) := by
  obtain ⟨w1, w2, w3⟩ := wf_t hw ht
  obtain ⟨h1, h2, h3, h4, h5, h6⟩ := h
  have : t = 0 ∨ t = 1 := by omega
  rcases this with rfl | rfl
  · refine ⟨ht, rfl, w2, w3, h1.trans w1, h3, fun i hi => ?_, rfl, by decide, rfl⟩
    rw [show bX S 0 i = S 102 (0 + i) from by unfold bX; rw [Nat.mul_zero], Nat.zero_add]
    exact h5 i hi
  · exact ⟨ht, rfl, w2, w3, h2.trans w1, h4, fun i hi => h6 i hi, rfl, by decide, rfl⟩
theorem sgn_le {t i : Nat} : sgn t i ≤ 3 := by
  unfold sgn
  split
  · rcases i with _ | _ | _ | _ | i <;> simp [List.getD]
  · rcases i with _ | _ | _ | i <;> simp [List.getD]
section TX
variable {S μ : zM} {t r : Nat}
theorem firstFault_e (h : cText S μ t r) : f_X5_firstFault r μ = some (oI (ftS S t), μ) := by
  obtain ⟨ht, hr, z39, z15, h3, h1, hb, hl, hs, hl2⟩ := h
  have hw := wd_pos t
  have e0 : nI (zln (zrf r 0)) + (1 : Int32) = nI (wd t) := by rw [hl, nI_1]; congr 1; omega
  unfold f_X5_firstFault
  rw [ev_v, e0]
  refine loop_P (fun n i (_ : Unit) => f_X5_firstFault_L10 r (nI (wd t)) (fun μ => gI μ r 3 fun x24 => (if x24 = 0 then some ((-1 : Int32), μ) else gI μ r 3 fun x26 => gd (¬ nI (wd t) = 0) ((if ¬ (x26 - x26 / nI (wd t) * nI (wd t)) = (nI (zln (zrf r 0))) then gI μ r 3 fun x28 => some (x28, μ) else some ((-1 : Int32), μ))))) n i μ) (fun R => R = some (oI (ftS S t), μ)) (tz S t) (fun k _ => ∀ j, j < k → okB S t j = true) ?_ ?_ 400 0 () (by omega) (by omega) (fun j hj => by omega)
  · intro n _ ha
    show f_X5_firstFault_L10 _ _ _ (n + 1) _ _ = _
    rw [f_X5_firstFault_L10, ev_g, h3, if_pos (nI_le (Nat.le_refl _) (by omega)), ev_g, h3, ev_g, h3, ev_g, h3, q_rem (by omega) (by omega) (by omega), hl]
    by_cases c : tz S t = 0
    · rw [if_pos (by rw [c]; rfl), ft_end z39 ha (Or.inl c)]; rfl
    · rw [if_neg (nI_ne0 (by omega) (by omega)), ev_gd (nI_ne0 (by omega) (by omega))]
      by_cases c2 : tz S t % wd t = wd t - 1
      · rw [if_neg (fun q => q (by rw [c2])), ft_end z39 ha (Or.inr c2)]; rfl
      · have hm := Nat.mod_lt (tz S t) (show 0 < wd t by omega)
        rw [if_pos (fun q => c2 ((nI_eq (by omega) (by omega)).mp q)), ft_bad (i := tz S t) z39 (by simp [okB]) ha (by rintro ⟨-, q | q⟩ <;> contradiction)]; rfl
  · intro n k _ hk ha
    have hm := Nat.mod_lt k (show 0 < wd t by omega)
    have hkb := hb k hk
    have hdv : k / wd t < (if t = 0 then 8 else 4) := by
      have : t = 0 ∨ t = 1 := by omega
      rcases this with rfl | rfl
      · show k / 5 < 8; omega
      · have := z15 rfl; show k / 4 < 4; omega
    have hm8 : (if t = 0 then 8 else 4) ≤ 8 := by split <;> omega
    have h28 : zln (r + 1) ≤ 39 := by rw [hl2]; split <;> omega
    have hzk : k < zln (r + 1) := by
      have : t = 0 ∨ t = 1 := by omega
      rw [hl2]
      rcases this with rfl | rfl
      · exact (by omega : k < 39)
      · have := z15 rfl; exact (by omega : k < 15)
    show f_X5_firstFault_L10 _ _ _ (n + 1) _ _ = _ ∨ ∃ s' : Unit, f_X5_firstFault_L10 _ _ _ (n + 1) _ _ = f_X5_firstFault_L10 _ _ _ n _ _ ∧ _
    rw [f_X5_firstFault_L10, ev_g, h3, if_neg (nI_ge hk (by omega)), ev_gd (nI_ne0 (by omega) (by omega)), ev_v, q_rem (by omega) (by omega) (by omega), hl]
    have hnext : okB S t k = true → ∀ j, j < k + 1 → okB S t j = true := fun q j hj => by
      rcases Nat.lt_or_ge j k with q2 | q2
      · exact ha j q2
      · have : j = k := by omega
        rw [this]; exact q
    have hbad : okB S t k = false → some (nI k, μ) = some (oI (ftS S t), μ) := fun q => by
      rw [ft_bad z39 q ha (by rintro ⟨q1, -⟩; omega)]; rfl
    by_cases c : k % wd t = wd t - 1
    · rw [if_neg (fun q => q (by rw [c])), ev_ld hzk (by omega), hkb]
      by_cases c2 : bX S t k = 59
      · right
        refine ⟨(), ?_, hnext (by unfold okB; rw [if_pos c]; simp [hk, c2])⟩
        rw [if_neg (fun q => q c2), if_pos (show ¬ (1 : Int32) = 0 by decide), ev_v, nI_1]
      · left
        rw [if_pos c2, if_neg (show ¬ ¬ (0 : Int32) = 0 from fun q => q rfl)]
        exact hbad (by unfold okB; rw [if_pos c]; simp [c2])
    · rw [if_pos (fun q => c ((nI_eq (by omega) (by omega)).mp q)), ev_gd (nI_ne0 (by omega) (by omega)), ev_g, h1, q_div (by omega) (by omega) (by omega), if_neg (nI_ge hdv (by omega)), ev_ldS (by omega) (by omega), hs _ (by omega), ev_ld hzk (by omega), hkb, meaning_e sgn_le, ev_c]
      cases c2 : mnS (sgn t (k % wd t)) (bX S t k) with
      | none =>
        left
        rw [if_pos (show oI none = -1 from rfl), if_neg (show ¬ ¬ (0 : Int32) = 0 from fun q => q rfl)]
        exact hbad (by unfold okB; rw [if_neg c, c2]; simp)
      | some v =>
        right
        have hv : v < 2 ^ 31 := by
          have h4 : sgn t (k % wd t) ≤ 3 := sgn_le
          have h5 : sgn t (k % wd t) = 0 ∨ sgn t (k % wd t) = 1 ∨ sgn t (k % wd t) = 2 ∨ sgn t (k % wd t) = 3 := by omega
          rcases h5 with q | q | q | q <;> rw [q] at c2
          · have := mn_lt0 c2; omega
          · have := mn_lt1 c2; omega
          · have := mn_lt2 c2; omega
          · have := mn_lt3 c2; omega
        refine ⟨(), ?_, hnext (by unfold okB; rw [if_neg c, c2]; simp [hk])⟩
        rw [if_neg (show ¬ oI (some v) = -1 from nI_m1 hv), if_pos (show ¬ (1 : Int32) = 0 by decide), ev_v, nI_1]
theorem itemCount_e (h : cText S μ t r) : f_X5_itemCount r μ = some (nI (itS S t), μ) := by
  have hf := firstFault_e h
  obtain ⟨ht, hr, z39, z15, h3, h1, hb, hl, hs, hl2⟩ := h
  have hw := wd_pos t
  have e0 : nI (zln (zrf r 0)) + (1 : Int32) = nI (wd t) := by rw [hl, nI_1]; congr 1; omega
  unfold f_X5_itemCount
  rw [hf, ev_c, ev_g, h3, e0, nI_1, q_div (by omega) (by omega) (by omega), ev_gd (nI_ne0 (by omega) (by omega))]
  unfold itS
  cases c : ftS S t with
  | none => rw [if_neg (show ¬ ¬ oI none = -1 from fun q => q rfl), if_pos rfl]
  | some i =>
    obtain ⟨j, e, h5, -⟩ := ft_at S z39
    have hi : i ≤ tz S t := by
      unfold ftS at c
      rw [e] at c
      by_cases q : j = tz S t ∧ (j = 0 ∨ j % wd t = wd t - 1)
      · have c : (if j = tz S t ∧ (j = 0 ∨ j % wd t = wd t - 1) then none else some j) = some i := c
        rw [if_pos q] at c; cases c
      · have c : (if j = tz S t ∧ (j = 0 ∨ j % wd t = wd t - 1) then none else some j) = some i := c
        rw [if_neg q] at c; cases c; exact h5
    rw [if_pos (show ¬ oI (some i) = -1 from nI_m1 (by omega)), if_neg (by intro q; cases q)]; rfl
theorem value_e (h : cText S μ t r) {k j : Nat} (hk : k < itS S t) (hj : j < wd t - 1) {μ' : zM} (hμ : μ' r = μ r ∧ μ' (r + 1) = μ (r + 1)) : f_X5_value r (nI k) (nI j) μ' = some (nI (vlS S t k j), μ') := by
  obtain ⟨ht, hr, z39, z15, h3, h1, hb, hl, hs, hl2⟩ := h
  have hw := wd_pos t
  have e0 : nI (zln (zrf r 0)) + (1 : Int32) = nI (wd t) := by rw [hl, nI_1]; congr 1; omega
  have hle := it_le z39 z15 ht
  have hle8 : itS S t ≤ 8 := Nat.le_trans hle (by split <;> omega)
  obtain ⟨-, h5⟩ := it_ok z39 hk hj
  have e1 : k * wd t + j = wd t * k + j := by rw [Nat.mul_comm]
  have hzk : wd t * k + j < zln (r + 1) := by
    have : t = 0 ∨ t = 1 := by omega
    rw [hl2]
    rcases this with rfl | rfl
    · exact (by omega : wd 0 * k + j < 39)
    · have := z15 rfl; exact (by omega : wd 1 * k + j < 15)
  have h28 : zln (r + 1) ≤ 39 := by rw [hl2]; split <;> omega
  unfold f_X5_value
  rw [ev_v, e0, pk_mul, nI_add, e1, if_neg (nI_pos (by omega)), ev_g, hμ.1, h3, if_neg (nI_ge h5 (by omega)), within_e, ev_c]
  have e2 : wi (nI j) 0 (nI (zln (zrf r 0)) - (1 : Int32)) = true := wi_k (by omega) (by omega)
  rw [e2, if_neg (by decide), ev_ldS (by omega) (by omega), hs _ hj, ev_ld hzk (by omega), hμ.2, hb _ h5, meaning_e sgn_le, ev_c, vl_some z39 hk hj]; rfl
end TX
