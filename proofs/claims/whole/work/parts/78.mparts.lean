-- PURE: the reference reads its texts, all items
section PP
variable {S : zM}
/-- what the loop over the items comes to -/
theorem parts_e (hw : wfS S) {t : Nat} (ht : t < 2) (kx : Int32 → zM → Option (Int32 × zM)) (Q : Nat → zM → Prop) (hQ : ∀ k m, Q k m → m 101 = S 101 ∧ m 102 = S 102)
    (hR : ∀ k m, Q k m → k < (if t = 0 then 8 else 4) → ∃ g m', (if ¬ nI t = (0 : Int32) then f_X7_readsMan (nI k) (nI (wd t * k)) m else f_X7_readsCaller (nI k) (nI (wd t * k)) m) = some (nI g, m') ∧ RdP S m m' t k g ∧ (g = wd t - 1 → Q (k + 1) m')) {μ : zM} (h0 : Q 0 μ) :
    ∃ m', (∃ i, ftS S t = some i ∧ f_X7_readsParts_L48 (nI t) (nI (wd t - 1)) kx 400 0 0 μ = some (nI i, m') ∧ ∃ k, Q k m') ∨ (ftS S t = none ∧ itS S t = 0 ∧ f_X7_readsParts_L48 (nI t) (nI (wd t - 1)) kx 400 0 0 μ = some (-1, m') ∧ Q 0 m') ∨ (ftS S t = none ∧ f_X7_readsParts_L48 (nI t) (nI (wd t - 1)) kx 400 0 0 μ = kx (nI (itS S t)) m' ∧ Q (itS S t) m') := by
  have zz := zMt
  obtain ⟨w1, w2, w3⟩ := wf_t hw ht
  have hwd := wd_pos t
  have hwt : 40 ≤ wd t * 10 := by omega
  refine loop_P (fun n i (s : Int32 × zM) => f_X7_readsParts_L48 (nI t) (nI (wd t - 1)) kx n i s.1 s.2) (fun R => ∃ m', (∃ i, ftS S t = some i ∧ R = some (nI i, m') ∧ ∃ k, Q k m') ∨ (ftS S t = none ∧ itS S t = 0 ∧ R = some (-1, m') ∧ Q 0 m') ∨ (ftS S t = none ∧ R = kx (nI (itS S t)) m' ∧ Q (itS S t) m')) 10 (fun k s => s.1 = nI (wd t * k) ∧ Q k s.2 ∧ (∀ j, j < wd t * k → okB S t j = true) ∧ wd t * k ≤ tz S t) ?_ ?_ 400 0 (0, μ) (by omega) (by omega) ⟨rfl, h0, fun j hj => by omega, by omega⟩
  · intro n s ⟨g1, g2, g3, g4⟩
    exfalso
    omega
  · intro n k s hk ⟨g1, g2, g3, g4⟩
    have hk8 : k < (if t = 0 then 8 else 4) := by
      have : t = 0 ∨ t = 1 := by omega
      rcases this with rfl | rfl
      · have g5 : 5 * k ≤ tz S 0 := g4
        show k < 8; omega
      · have g5 : 4 * k ≤ tz S 1 := g4
        have := w3 rfl
        show k < 4; omega
    obtain ⟨q1, q2⟩ := hQ k s.2 g2
    obtain ⟨g, m', r1, ⟨r2, r3, r4⟩, r5⟩ := hR k s.2 g2 hk8
    have hmul : wd t * k ≤ 39 := by omega
    have hok : ∀ j, j < wd t * k + g → okB S t j = true := fun j hj => by
      rcases Nat.lt_or_ge j (wd t * k) with q | q
      · exact g3 j q
      · have := r3 (j - wd t * k) (by omega)
        rw [show wd t * k + (j - wd t * k) = j by omega] at this
        exact this
    -- the body, once it is entered
    have body : ¬ (k = 0 ∧ tz S t = 0) → ∀ R, R = jn (fun (y6 : Int32) (μ : zM) => (if nI (wd t - 1) ≤ y6 then vI (nI k + (1 : Int32)) fun x8 => vI (nI (wd t * k) + nI (wd t - 1)) fun x9 => ldI μ 101 (nI t) fun x10 => (if ¬ x9 = x10 then cl (f_X7_byteAt (nI t) x9 μ) fun x12 μ => (if x12 = (59 : Int32) then vI (x9 + (1 : Int32)) fun x14 => f_X7_readsParts_L48 (nI t) (nI (wd t - 1)) kx n x8 x14 μ else some (x9, μ)) else kx x8 μ) else some ((nI (wd t * k) + y6), μ))) (fun j85_4 => (if ¬ nI t = 0 then cl (f_X7_readsMan (nI k) (nI (wd t * k)) s.2) fun x16 μ => j85_4 x16 μ else cl (f_X7_readsCaller (nI k) (nI (wd t * k)) s.2) fun x17 μ => j85_4 x17 μ)) → (∃ m', (∃ i, ftS S t = some i ∧ R = some (nI i, m') ∧ ∃ k, Q k m') ∨ (ftS S t = none ∧ itS S t = 0 ∧ R = some (-1, m') ∧ Q 0 m') ∨ (ftS S t = none ∧ R = kx (nI (itS S t)) m' ∧ Q (itS S t) m')) ∨ ∃ s' : Int32 × zM, R = f_X7_readsParts_L48 (nI t) (nI (wd t - 1)) kx n (nI (k + 1)) s'.1 s'.2 ∧ s'.1 = nI (wd t * (k + 1)) ∧ Q (k + 1) s'.2 ∧ (∀ j, j < wd t * (k + 1) → okB S t j = true) ∧ wd t * (k + 1) ≤ tz S t := by
      intro hne R hR9
      have er : ∀ J : Int32 → zM → Option (Int32 × zM), (if ¬ nI t = (0 : Int32) then cl (f_X7_readsMan (nI k) (nI (wd t * k)) s.2) fun x16 μ => J x16 μ else cl (f_X7_readsCaller (nI k) (nI (wd t * k)) s.2) fun x17 μ => J x17 μ) = J (nI g) m' := by
        intro J
        by_cases c : ¬ nI t = (0 : Int32)
        · rw [if_pos c] at r1 ⊢; rw [r1, ev_c]
        · rw [if_neg c] at r1 ⊢; rw [r1, ev_c]
      rw [ev_j, er] at hR9
      by_cases c : g < wd t - 1
      · obtain ⟨r6, r7⟩ := r4 c
        left
        rw [if_neg (nI_ge c (by omega)), nI_add] at hR9
        refine ⟨m', Or.inl ⟨wd t * k + g, ft_bad w2 r6 hok ?_, hR9, k, by rw [r7]; exact g2⟩⟩
        rintro ⟨z1, z2 | z2⟩
        · apply hne
          constructor
          · rcases Nat.eq_zero_or_pos k with q | q
            · exact q
            · have : wd t * 1 ≤ wd t * k := Nat.mul_le_mul_left _ q
              omega
          · omega
        · rw [Nat.mul_add_mod, Nat.mod_eq_of_lt (by omega)] at z2
          omega
      · have hg : g = wd t - 1 := by omega
        have hQ1 := r5 hg
        obtain ⟨u1, u2⟩ := hQ _ _ hQ1
        have hlast : wd t * k + (wd t - 2) < tz S t := by
          have := hok (wd t * k + (wd t - 2)) (by omega)
          unfold okB at this
          simp only [Bool.and_eq_true, decide_eq_true_eq] at this
          exact this.1
        rw [if_pos (nI_le (by omega) (by omega)), ev_v, ev_v, nI_1, nI_add, ev_ld (by omega) (by omega), u1, w1] at hR9
        have hmod : (wd t * k + (wd t - 1)) % wd t = wd t - 1 := by rw [Nat.mul_add_mod, Nat.mod_eq_of_lt (by omega)]
        by_cases c2 : wd t * k + (wd t - 1) = tz S t
        · left
          rw [if_neg (fun q => q (by rw [c2]))] at hR9
          have hft : ftS S t = none := ft_end w2 (fun j hj => hok j (by omega)) (Or.inr (by rw [← c2]; exact hmod))
          have hit : itS S t = k + 1 := by
            unfold itS
            rw [if_pos hft]
            have e9 : tz S t + 1 = wd t * (k + 1) := by rw [Nat.mul_succ]; omega
            rw [e9, Nat.mul_div_cancel_left _ (by omega)]
          refine ⟨m', Or.inr (Or.inr ⟨hft, by rw [hit]; exact hR9, by rw [hit]; exact hQ1⟩)⟩
        · rw [if_pos (fun q => c2 ((nI_eq (by omega) (by omega)).mp q)), byteAt_e hw u1 u2 ht (by omega), ev_c] at hR9
          have hlt : wd t * k + (wd t - 1) < tz S t := by omega
          have eY : bY S t (wd t * k + (wd t - 1)) = bX S t (wd t * k + (wd t - 1)) := if_pos hlt
          have eO : okB S t (wd t * k + (wd t - 1)) = decide (bX S t (wd t * k + (wd t - 1)) = 59) := by
            unfold okB
            rw [hmod, if_pos rfl]
            simp [hlt]
          rw [eY] at hR9
          by_cases c3 : bX S t (wd t * k + (wd t - 1)) = 59
          · right
            rw [if_pos c3, ev_v, nI_1] at hR9
            have e9 : wd t * k + (wd t - 1) + 1 = wd t * (k + 1) := by rw [Nat.mul_succ]; omega
            refine ⟨(nI (wd t * k + (wd t - 1) + 1), m'), hR9, by rw [e9], hQ1, fun j hj => ?_, by omega⟩
            rcases Nat.lt_or_ge j (wd t * k + (wd t - 1)) with q | q
            · exact hok j (by omega)
            · have : j = wd t * k + (wd t - 1) := by omega
              rw [this, eO]; simp [c3]
          · left
            rw [if_neg c3] at hR9
            refine ⟨m', Or.inl ⟨wd t * k + (wd t - 1), ft_bad w2 (by rw [eO]; simp [c3]) (fun j hj => hok j (by omega)) (fun q => by omega), hR9, k + 1, hQ1⟩⟩
    show (∃ m', (∃ i, _ ∧ f_X7_readsParts_L48 _ _ _ (n + 1) _ _ _ = _ ∧ _) ∨ (_ ∧ _ ∧ f_X7_readsParts_L48 _ _ _ (n + 1) _ _ _ = _ ∧ _) ∨ (_ ∧ f_X7_readsParts_L48 _ _ _ (n + 1) _ _ _ = _ ∧ _)) ∨ ∃ s' : Int32 × zM, f_X7_readsParts_L48 _ _ _ (n + 1) _ _ _ = f_X7_readsParts_L48 _ _ _ n _ _ _ ∧ _
    have hunf : f_X7_readsParts_L48 (nI t) (nI (wd t - 1)) kx (n + 1) (nI k) s.1 s.2 = (if nI (wd t * k) < nI (tz S t) then jn (fun (y6 : Int32) (μ : zM) => (if nI (wd t - 1) ≤ y6 then vI (nI k + (1 : Int32)) fun x8 => vI (nI (wd t * k) + nI (wd t - 1)) fun x9 => ldI μ 101 (nI t) fun x10 => (if ¬ x9 = x10 then cl (f_X7_byteAt (nI t) x9 μ) fun x12 μ => (if x12 = (59 : Int32) then vI (x9 + (1 : Int32)) fun x14 => f_X7_readsParts_L48 (nI t) (nI (wd t - 1)) kx n x8 x14 μ else some (x9, μ)) else kx x8 μ) else some ((nI (wd t * k) + y6), μ))) (fun j85_4 => (if ¬ nI t = 0 then cl (f_X7_readsMan (nI k) (nI (wd t * k)) s.2) fun x16 μ => j85_4 x16 μ else cl (f_X7_readsCaller (nI k) (nI (wd t * k)) s.2) fun x17 μ => j85_4 x17 μ)) else (if nI (wd t * k) ≤ 0 then some ((-1 : Int32), s.2) else jn (fun (y6 : Int32) (μ : zM) => (if nI (wd t - 1) ≤ y6 then vI (nI k + (1 : Int32)) fun x8 => vI (nI (wd t * k) + nI (wd t - 1)) fun x9 => ldI μ 101 (nI t) fun x10 => (if ¬ x9 = x10 then cl (f_X7_byteAt (nI t) x9 μ) fun x12 μ => (if x12 = (59 : Int32) then vI (x9 + (1 : Int32)) fun x14 => f_X7_readsParts_L48 (nI t) (nI (wd t - 1)) kx n x8 x14 μ else some (x9, μ)) else kx x8 μ) else some ((nI (wd t * k) + y6), μ))) (fun j85_4 => (if ¬ nI t = 0 then cl (f_X7_readsMan (nI k) (nI (wd t * k)) s.2) fun x16 μ => j85_4 x16 μ else cl (f_X7_readsCaller (nI k) (nI (wd t * k)) s.2) fun x17 μ => j85_4 x17 μ)))) := by
      rw [f_X7_readsParts_L48, ev_ld (by omega) (by omega), q1, w1, g1]
    rcases Nat.eq_zero_or_pos k with q | q
    · subst q
      by_cases c : tz S t = 0
      · left
        refine ⟨s.2, Or.inr (Or.inl ⟨ft_end w2 (fun j hj => by omega) (Or.inl c), ?_, ?_, g2⟩)⟩
        · unfold itS
          split
          · rw [c]; exact Nat.div_eq_of_lt (by omega)
          · rfl
        · rw [hunf, if_neg (nI_nlt (by omega) (by omega)), if_pos (show nI (wd t * 0) ≤ (0 : Int32) from nI_le (b := 0) (by omega) (by omega))]
      · exact body (fun q => c q.2) _ (by rw [hunf, if_pos (nI_lt (by omega) (by omega))])
    · have hpos : 0 < wd t * k := Nat.mul_pos (by omega) q
      refine body (fun q2 => by omega) _ ?_
      rw [hunf]
      by_cases c : wd t * k < tz S t
      · rw [if_pos (nI_lt c (by omega))]
      · rw [if_neg (nI_nlt (by omega) (by omega)), if_neg (nI_nle hpos (by omega))]
end PP

section PQ
variable {S μ : zM}
theorem readsParts0_e (hw : wfS S) (h1 : μ 101 = S 101) (h2 : μ 102 = S 102) : ∃ μ', f_X7_readsParts 0 μ = some (oI (ftS S 0), μ') ∧ (∀ a, a ≠ 100 → a ≠ 104 → a ≠ 105 → a ≠ 106 → a ≠ 107 → μ' a = μ a) ∧ (∀ i, i ≠ 2 → μ' 100 i = μ 100 i) ∧ μ' 100 2 = nI (itS S 0) ∧ ∀ k, k < itS S 0 → μ' 104 k = nI (vlS S 0 k 0) ∧ μ' 105 k = nI (vlS S 0 k 1) ∧ μ' 106 k = nI (vlS S 0 k 2) ∧ μ' 107 k = nI (vlS S 0 k 3) := by
  have zz := zMt
  unfold f_X7_readsParts
  rw [ev_j, if_neg (show ¬ ¬ (0 : Int32) = 0 from fun q => q rfl)]
  dsimp only
  rw [ev_j, if_neg (show ¬ ¬ (0 : Int32) = 0 from fun q => q rfl)]
  dsimp only
  rw [ev_p, ev_j, if_pos (show ¬ (0 : Int32) = 1 by decide), ev_g]
  dsimp only
  rw [ev_p]
  generalize hμ0 : zup (zup μ 100 2 (0 : Int32)) 100 7 (zup μ 100 2 (0 : Int32) 100 7) = μ0
  have f0 : ∀ a, a ≠ 100 → μ0 a = μ a := fun a ha => by rw [← hμ0, zup_n ha, zup_n ha]
  have f1 : ∀ i, i ≠ 2 → μ0 100 i = μ 100 i := fun i hi => by
    rw [← hμ0]
    by_cases c : i = 7
    · subst c; rw [zup_e, zup_o hi]
    · rw [zup_o c, zup_o hi]
  have f2 : μ0 100 2 = 0 := by rw [← hμ0, zup_o (by omega), zup_e]
  have key := parts_e hw (t := 0) (by omega) (fun (x31 : Int32) μ => jn (fun (y32 : Int32) (μ : zM) => pI μ 100 2 y32 fun μ => (if ¬ (0 : Int32) = (1 : Int32) then gI μ 100 7 fun x34 => pI μ 100 7 x34 fun μ => some ((-1 : Int32), μ) else pI μ 100 7 x31 fun μ => some ((-1 : Int32), μ))) fun j132_6 => (if ¬ (0 : Int32) = 0 then gI μ 100 2 fun x36 => j132_6 x36 μ else j132_6 x31 μ)) (fun k m => (∀ a, a ≠ 104 → a ≠ 105 → a ≠ 106 → a ≠ 107 → m a = μ0 a) ∧ ∀ i, i < k → m 104 i = nI (vlS S 0 i 0) ∧ m 105 i = nI (vlS S 0 i 1) ∧ m 106 i = nI (vlS S 0 i 2) ∧ m 107 i = nI (vlS S 0 i 3)) (fun k m q => ⟨by rw [q.1 101 (by omega) (by omega) (by omega) (by omega), f0 101 (by omega)]; exact h1, by rw [q.1 102 (by omega) (by omega) (by omega) (by omega), f0 102 (by omega)]; exact h2⟩) ?_ (μ := μ0) ⟨fun _ _ _ _ _ => rfl, fun i hi => by omega⟩
  · have e4 : (4 : Int32) = nI (wd 0 - 1) := rfl
    obtain ⟨m', c | c | c⟩ := key
    · obtain ⟨i, c1, c2, k, c3, c4⟩ := c
      refine ⟨m', ?_, fun a a0 a1 a2 a3 a4 => by rw [c3 a a1 a2 a3 a4, f0 a a0], fun i hi => by rw [c3 100 (by omega) (by omega) (by omega) (by omega), f1 i hi], ?_, ?_⟩
      · rw [c1]; exact c2
      · rw [c3 100 (by omega) (by omega) (by omega) (by omega), f2]
        unfold itS
        rw [if_neg (by rw [c1]; intro q; cases q)]; rfl
      · intro k hk
        unfold itS at hk
        rw [if_neg (by rw [c1]; intro q; cases q)] at hk
        omega
    · obtain ⟨c1, c0, c2, c3, c4⟩ := c
      refine ⟨m', ?_, fun a a0 a1 a2 a3 a4 => by rw [c3 a a1 a2 a3 a4, f0 a a0], fun i hi => by rw [c3 100 (by omega) (by omega) (by omega) (by omega), f1 i hi], ?_, ?_⟩
      · rw [c1]; exact c2
      · rw [c3 100 (by omega) (by omega) (by omega) (by omega), f2, c0]; rfl
      · intro k hk; omega
    · obtain ⟨c1, c2, c3, c4⟩ := c
      rw [ev_j, if_neg (show ¬ ¬ (0 : Int32) = 0 from fun q => q rfl)] at c2
      dsimp only at c2
      rw [ev_p, if_pos (show ¬ (0 : Int32) = 1 by decide), ev_g, ev_p] at c2
      refine ⟨_, by rw [c1]; exact c2, fun a a0 a1 a2 a3 a4 => by rw [zup_n a0, zup_n a0, c3 a a1 a2 a3 a4, f0 a a0], fun i hi => ?_, ?_, fun k hk => ?_⟩
      · by_cases c : i = 7
        · subst c; rw [zup_e, zup_o hi, c3 100 (by omega) (by omega) (by omega) (by omega), f1 7 hi]
        · rw [zup_o c, zup_o hi, c3 100 (by omega) (by omega) (by omega) (by omega), f1 i hi]
      · rw [zup_o (by omega), zup_e]
      · rw [zup_n (show 104 ≠ 100 by omega), zup_n (show 104 ≠ 100 by omega), zup_n (show 105 ≠ 100 by omega), zup_n (show 105 ≠ 100 by omega), zup_n (show 106 ≠ 100 by omega), zup_n (show 106 ≠ 100 by omega), zup_n (show 107 ≠ 100 by omega), zup_n (show 107 ≠ 100 by omega)]
        exact c4 k hk
  · intro k m hq hk
    have hk : k < 8 := hk
    obtain ⟨q1, q2⟩ := hq
    obtain ⟨g, m', r1, r2, r3⟩ := readsCaller_e (k := k) (μ := m) hw (by rw [q1 101 (by omega) (by omega) (by omega) (by omega), f0 101 (by omega)]; exact h1) (by rw [q1 102 (by omega) (by omega) (by omega) (by omega), f0 102 (by omega)]; exact h2) hk
    refine ⟨g, m', (if_neg (fun q => q rfl)).trans r1, r2, fun hg => ?_⟩
    have hg : g = 4 := hg
    have e9 := r3 hg
    rw [e9]
    refine ⟨fun a a1 a2 a3 a4 => by rw [zup_n a4, zup_n a3, zup_n a2, zup_n a1]; exact q1 a a1 a2 a3 a4, fun i hi => ?_⟩
    rw [zup_n (show 104 ≠ 107 by omega), zup_n (show 104 ≠ 106 by omega), zup_n (show 104 ≠ 105 by omega), zup_n (show 105 ≠ 107 by omega), zup_n (show 105 ≠ 106 by omega), zup_n (show 106 ≠ 107 by omega)]
    by_cases c : i = k
    · subst c; rw [zup_e, zup_e, zup_e, zup_e]; exact ⟨rfl, rfl, rfl, rfl⟩
    · rw [zup_o c, zup_o c, zup_o c, zup_o c, zup_n (show 105 ≠ 104 by omega), zup_n (show 106 ≠ 105 by omega), zup_n (show 106 ≠ 104 by omega), zup_n (show 107 ≠ 106 by omega), zup_n (show 107 ≠ 105 by omega), zup_n (show 107 ≠ 104 by omega)]
      exact q2 i (by omega)
theorem readsParts1_e (hw : wfS S) (h1 : μ 101 = S 101) (h2 : μ 102 = S 102) : ∃ μ', f_X7_readsParts 1 μ = some (oI (ftS S 1), μ') ∧ (∀ a, a ≠ 100 → a ≠ 109 → a ≠ 110 → a ≠ 111 → μ' a = μ a) ∧ (∀ i, i ≠ 7 → μ' 100 i = μ 100 i) ∧ μ' 100 7 = nI (itS S 1) ∧ ∀ k, k < itS S 1 → μ' 109 k = nI (vlS S 1 k 0) ∧ μ' 110 k = nI (vlS S 1 k 1) ∧ μ' 111 k = nI (vlS S 1 k 2) := by
  have zz := zMt
  unfold f_X7_readsParts
  rw [ev_j, if_pos (show ¬ (1 : Int32) = 0 by decide)]
  dsimp only
  rw [ev_j, if_pos (show ¬ (1 : Int32) = 0 by decide), ev_g]
  dsimp only
  rw [ev_p, ev_j, if_neg (show ¬ ¬ (1 : Int32) = 1 from fun q => q rfl)]
  dsimp only
  rw [ev_p]
  generalize hμ0 : zup (zup μ 100 2 (μ 100 2)) 100 7 (0 : Int32) = μ0
  have f0 : ∀ a, a ≠ 100 → μ0 a = μ a := fun a ha => by rw [← hμ0, zup_n ha, zup_n ha]
  have f1 : ∀ i, i ≠ 7 → μ0 100 i = μ 100 i := fun i hi => by
    rw [← hμ0, zup_o hi]
    by_cases c : i = 2
    · subst c; rw [zup_e]
    · rw [zup_o c]
  have f2 : μ0 100 7 = 0 := by rw [← hμ0, zup_e]
  have key := parts_e hw (t := 1) (by omega) (fun (x31 : Int32) μ => jn (fun (y32 : Int32) (μ : zM) => pI μ 100 2 y32 fun μ => (if ¬ (1 : Int32) = (1 : Int32) then gI μ 100 7 fun x34 => pI μ 100 7 x34 fun μ => some ((-1 : Int32), μ) else pI μ 100 7 x31 fun μ => some ((-1 : Int32), μ))) fun j132_6 => (if ¬ (1 : Int32) = 0 then gI μ 100 2 fun x36 => j132_6 x36 μ else j132_6 x31 μ)) (fun k m => (∀ a, a ≠ 109 → a ≠ 110 → a ≠ 111 → m a = μ0 a) ∧ ∀ i, i < k → m 109 i = nI (vlS S 1 i 0) ∧ m 110 i = nI (vlS S 1 i 1) ∧ m 111 i = nI (vlS S 1 i 2)) (fun k m q => ⟨by rw [q.1 101 (by omega) (by omega) (by omega), f0 101 (by omega)]; exact h1, by rw [q.1 102 (by omega) (by omega) (by omega), f0 102 (by omega)]; exact h2⟩) ?_ (μ := μ0) ⟨fun _ _ _ _ => rfl, fun i hi => by omega⟩
  · obtain ⟨m', c | c | c⟩ := key
    · obtain ⟨i, c1, c2, k, c3, c4⟩ := c
      refine ⟨m', ?_, fun a a0 a1 a2 a3 => by rw [c3 a a1 a2 a3, f0 a a0], fun i hi => by rw [c3 100 (by omega) (by omega) (by omega), f1 i hi], ?_, ?_⟩
      · rw [c1]; exact c2
      · rw [c3 100 (by omega) (by omega) (by omega), f2]
        unfold itS
        rw [if_neg (by rw [c1]; intro q; cases q)]; rfl
      · intro k hk
        unfold itS at hk
        rw [if_neg (by rw [c1]; intro q; cases q)] at hk
        omega
    · obtain ⟨c1, c0, c2, c3, c4⟩ := c
      refine ⟨m', ?_, fun a a0 a1 a2 a3 => by rw [c3 a a1 a2 a3, f0 a a0], fun i hi => by rw [c3 100 (by omega) (by omega) (by omega), f1 i hi], ?_, ?_⟩
      · rw [c1]; exact c2
      · rw [c3 100 (by omega) (by omega) (by omega), f2, c0]; rfl
      · intro k hk; omega
    · obtain ⟨c1, c2, c3, c4⟩ := c
      rw [ev_j, if_pos (show ¬ (1 : Int32) = 0 by decide), ev_g] at c2
      dsimp only at c2
      rw [ev_p, if_neg (show ¬ ¬ (1 : Int32) = 1 from fun q => q rfl), ev_p] at c2
      refine ⟨_, by rw [c1]; exact c2, fun a a0 a1 a2 a3 => by rw [zup_n a0, zup_n a0, c3 a a1 a2 a3, f0 a a0], fun i hi => ?_, ?_, fun k hk => ?_⟩
      · rw [zup_o hi]
        by_cases c : i = 2
        · subst c; rw [zup_e, c3 100 (by omega) (by omega) (by omega), f1 2 hi]
        · rw [zup_o c, c3 100 (by omega) (by omega) (by omega), f1 i hi]
      · rw [zup_e]
      · rw [zup_n (show 109 ≠ 100 by omega), zup_n (show 109 ≠ 100 by omega), zup_n (show 110 ≠ 100 by omega), zup_n (show 110 ≠ 100 by omega), zup_n (show 111 ≠ 100 by omega), zup_n (show 111 ≠ 100 by omega)]
        exact c4 k hk
  · intro k m hq hk
    have hk : k < 4 := hk
    obtain ⟨q1, q2⟩ := hq
    obtain ⟨g, m', r1, r2, r3⟩ := readsMan_e (k := k) (μ := m) hw (by rw [q1 101 (by omega) (by omega) (by omega), f0 101 (by omega)]; exact h1) (by rw [q1 102 (by omega) (by omega) (by omega), f0 102 (by omega)]; exact h2) hk
    refine ⟨g, m', (if_pos (show ¬ nI 1 = (0 : Int32) by decide)).trans r1, r2, fun hg => ?_⟩
    have hg : g = 3 := hg
    have e9 := r3 hg
    rw [e9]
    refine ⟨fun a a1 a2 a3 => by rw [zup_n a3, zup_n a2, zup_n a1]; exact q1 a a1 a2 a3, fun i hi => ?_⟩
    rw [zup_n (show 109 ≠ 111 by omega), zup_n (show 109 ≠ 110 by omega), zup_n (show 110 ≠ 111 by omega)]
    by_cases c : i = k
    · subst c; rw [zup_e, zup_e, zup_e]; exact ⟨rfl, rfl, rfl⟩
    · rw [zup_o c, zup_o c, zup_o c, zup_n (show 110 ≠ 109 by omega), zup_n (show 111 ≠ 110 by omega), zup_n (show 111 ≠ 109 by omega)]
      exact q2 i (by omega)
/-- the reference has read its texts -/
def MB (S μ : zM) : Prop := frM S μ ∧ MA μ (tolA S)
theorem faultOf_e (hw : wfS S) (h : frM S μ) {t : Nat} (ht : t < 2) : ∃ μ', f_X7_faultOf (nI t) μ = some (oI (ftS S t), μ') ∧ MB S μ' := by
  unfold f_X7_faultOf
  obtain ⟨m1, a1, a2, a3, a4, a5⟩ := readsParts0_e hw (h.1 101 (by omega)) (h.1 102 (by omega))
  rw [a1, ev_c]
  obtain ⟨m2, b1, b2, b3, b4, b5⟩ := readsParts1_e (μ := m1) hw (by rw [a2 101 (by omega) (by omega) (by omega) (by omega) (by omega)]; exact h.1 101 (by omega)) (by rw [a2 102 (by omega) (by omega) (by omega) (by omega) (by omega)]; exact h.1 102 (by omega))
  rw [b1, ev_c]
  have hB : MB S m2 := by
    refine ⟨⟨fun a ha => ?_, ?_, ?_, ?_⟩, ?_, ?_, fun k hk => ?_, fun m hm => ?_⟩
    · rw [b2 a (by omega) (by omega) (by omega) (by omega), a2 a (by omega) (by omega) (by omega) (by omega) (by omega)]; exact h.1 a ha
    · rw [b3 11 (by omega), a3 11 (by omega)]; exact h.2.1
    · rw [b3 28 (by omega), a3 28 (by omega)]; exact h.2.2.1
    · rw [b3 37 (by omega), a3 37 (by omega)]; exact h.2.2.2
    · rw [b3 2 (by omega)]; exact a4
    · exact b4
    · rw [b2 104 (by omega) (by omega) (by omega) (by omega), b2 105 (by omega) (by omega) (by omega) (by omega), b2 106 (by omega) (by omega) (by omega) (by omega), b2 107 (by omega) (by omega) (by omega) (by omega)]
      exact a5 k hk
    · exact b5 m hm
  have : t = 0 ∨ t = 1 := by omega
  rcases this with rfl | rfl
  · exact ⟨m2, if_neg (fun q => q rfl), hB⟩
  · exact ⟨m2, if_pos (show ¬ nI 1 = (0 : Int32) by decide), hB⟩
theorem reads_e (hw : wfS S) (h : frM S μ) : ∃ μ', f_X7_reads μ = some ((), μ') ∧ MB S μ' := by
  unfold f_X7_reads
  obtain ⟨m, e, hB⟩ := faultOf_e hw h (t := 0) (by omega)
  rw [show f_X7_faultOf (0 : Int32) μ = _ from e, ev_c]
  exact ⟨m, rfl, hB⟩
theorem MA_F {T : zT2} {f : Nat → Nat} (h : MA μ T) : MA μ (setF T f) := h
/-- the reference's house as it was told -/
def MTo (S μ : zM) : Prop := MB S μ ∧ MN μ (cn S) (cd S) (cf S) 0
theorem asTold_e (hw : wfS S) (h : frM S μ) : ∃ μ', f_X7_asTold μ = some ((), μ') ∧ MTo S μ' := by
  have zz := zMt
  obtain ⟨m1, e1, ⟨f1, hA⟩⟩ := reads_e hw h
  obtain ⟨-, -, ⟨w1, w2⟩, w3, -⟩ := hw
  unfold f_X7_asTold
  rw [e1, ev_c, ev_g, ev_p, f1.2.1, w1]
  generalize hm2 : zup m1 100 14 (nI (cn S)) = m2
  have g0 : ∀ a, a ≠ 100 → m2 a = m1 a := fun a ha => by rw [← hm2, zup_n ha]
  have g1 : ∀ i, i ≠ 14 → m2 100 i = m1 100 i := fun i hi => by rw [← hm2, zup_o hi]
  have g2 : m2 100 14 = nI (cn S) := by rw [← hm2, zup_e]
  refine loop_X (fun n i (m : zM) => f_X7_asTold_L14 (fun μ => pI μ 100 17 (0 : Int32) fun μ => some ((), μ)) n i m) (fun R => ∃ μ', R = some ((), μ') ∧ MTo S μ') (cn S) (fun i m => (∀ a, a ≠ 116 → a ≠ 117 → m a = m2 a) ∧ ∀ j, j < i → m 116 j = nI (cd S j) ∧ m 117 j = nI (cf S j)) ?_ ?_ 400 0 m2 (by omega) (by omega) ⟨fun _ _ _ => rfl, fun j hj => by omega⟩
  · intro n m ⟨k1, k2⟩
    show ∃ μ', f_X7_asTold_L14 _ (n + 1) _ _ = _ ∧ _
    rw [f_X7_asTold_L14, ev_g, k1 100 (by omega) (by omega), g1 11 (by omega), f1.2.1, w1, if_pos (nI_le (Nat.le_refl _) (by omega)), ev_p]
    have x0 : ∀ a, a ≠ 100 → a ≠ 116 → a ≠ 117 → zup m 100 17 0 a = m1 a := fun a p q r => by rw [zup_n p, k1 a q r, g0 a p]
    have x1 : ∀ i, i ≠ 14 → i ≠ 17 → zup m 100 17 0 100 i = m1 100 i := fun i p q => by rw [zup_o q, k1 100 (by omega) (by omega), g1 i p]
    refine ⟨_, rfl, ⟨⟨fun a ha => by rw [x0 a (by omega) (by omega) (by omega)]; exact f1.1 a ha, by rw [x1 11 (by omega) (by omega)]; exact f1.2.1, by rw [x1 28 (by omega) (by omega)]; exact f1.2.2.1, by rw [x1 37 (by omega) (by omega)]; exact f1.2.2.2⟩, ?_⟩, by omega, by rw [zup_o (by omega), k1 100 (by omega) (by omega)]; exact g2, by rw [zup_e], fun i hi => ?_⟩
    · unfold MA
      rw [x1 2 (by omega) (by omega), x1 7 (by omega) (by omega), x0 104 (by omega) (by omega) (by omega), x0 105 (by omega) (by omega) (by omega), x0 106 (by omega) (by omega) (by omega), x0 107 (by omega) (by omega) (by omega), x0 109 (by omega) (by omega) (by omega), x0 110 (by omega) (by omega) (by omega), x0 111 (by omega) (by omega) (by omega)]
      exact hA
    · obtain ⟨v1, v2, v3, v4⟩ := w3 i hi
      rw [zup_n (show 116 ≠ 100 by omega), zup_n (show 117 ≠ 100 by omega)]
      exact ⟨(k2 i hi).1, v2, (k2 i hi).2, v4⟩
  · intro n i m hi ⟨k1, k2⟩
    obtain ⟨v1, v2, v3, v4⟩ := w3 i hi
    have e113 : m 113 i = nI (cd S i) := by rw [k1 113 (by omega) (by omega), g0 113 (by omega), f1.1 113 (by omega)]; exact v1
    have e114 : m 114 i = nI (cf S i) := by rw [k1 114 (by omega) (by omega), g0 114 (by omega), f1.1 114 (by omega)]; exact v3
    show ∃ s' : zM, f_X7_asTold_L14 _ (n + 1) _ _ = f_X7_asTold_L14 _ n _ _ ∧ _
    rw [f_X7_asTold_L14, ev_g, k1 100 (by omega) (by omega), g1 11 (by omega), f1.2.1, w1, if_neg (nI_ge hi (by omega)), ev_ld (by omega) (by omega), e113, ev_st (by omega) (by omega), ev_ld (by omega) (by omega), zup_n (by omega), e114, ev_st (by omega) (by omega), ev_v, nI_1]
    refine ⟨_, rfl, fun a p q => by rw [zup_n q, zup_n p]; exact k1 a p q, fun j hj => ?_⟩
    rw [zup_n (show 116 ≠ 117 by omega)]
    by_cases c : j = i
    · subst c; rw [zup_e, zup_e]; exact ⟨rfl, rfl⟩
    · rw [zup_o c, zup_o c, zup_n (show 117 ≠ 116 by omega)]
      exact k2 j (by omega)
end PQ
