-- PURE: the relation, and what leaves it as it is
section FR
variable {S S' : zM}
theorem tz_fr (h : frM S S') : tz S' = tz S := by funext t; unfold tz; rw [h.1 101 (by omega)]
theorem bX_fr (h : frM S S') : bX S' = bX S := by funext t i; unfold bX; rw [h.1 102 (by omega)]
theorem okB_fr (h : frM S S') : okB S' = okB S := by funext t i; unfold okB; rw [tz_fr h, bX_fr h]
theorem ftS_fr (h : frM S S') : ftS S' = ftS S := by funext t; unfold ftS; rw [okB_fr h, tz_fr h]
theorem itS_fr (h : frM S S') : itS S' = itS S := by funext t; unfold itS; rw [ftS_fr h, tz_fr h]
theorem vlS_fr (h : frM S S') : vlS S' = vlS S := by funext t k j; unfold vlS; rw [bX_fr h]
theorem tolA_fr (h : frM S S') : tolA S' = tolA S := by unfold tolA; rw [itS_fr h, vlS_fr h]
theorem cn_fr (h : frM S S') : cn S' = cn S := by unfold cn; rw [h.2.1]
theorem cd_fr (h : frM S S') : cd S' = cd S := by funext i; unfold cd; rw [h.1 113 (by omega)]
theorem cf_fr (h : frM S S') : cf S' = cf S := by funext i; unfold cf; rw [h.1 114 (by omega)]
theorem tolB_fr (h : frM S S') : tolB S' = tolB S := by funext b; unfold tolB; rw [tolA_fr h, cn_fr h, cd_fr h, cf_fr h]
theorem cmB_fr (h : frM S S') : cmB S' = cmB S := by funext b k; unfold cmB; rw [tolB_fr h]
theorem wys_fr (h : frM S S') : wys S' = wys S := by
  funext k n b
  induction b with
  | zero => rfl
  | succ b ih => unfold wys; rw [ih, cmB_fr h, cn_fr h]
theorem fn_fr (h : frM S S') : fn S' = fn S := by unfold fn; rw [h.2.2.1]
theorem fd_fr (h : frM S S') : fd S' = fd S := by funext i; unfold fd; rw [h.1 130 (by omega)]
theorem sz_fr (h : frM S S') : sz S' = sz S := by funext i; unfold sz; rw [h.1 135 (by omega)]
theorem wf_fr (h : frM S S') (hw : wfS S) : wfS S' := by
  unfold wfS
  rw [tz_fr h, cn_fr h, cd_fr h, cf_fr h, fn_fr h, fd_fr h, sz_fr h, h.1 101 (by omega), h.2.1, h.1 113 (by omega), h.1 114 (by omega), h.2.2.1, h.1 130 (by omega), h.1 133 (by omega), h.1 134 (by omega), h.1 135 (by omega)]
  exact hw
theorem CS_fr {μ : zM} (h : frM S S') (hc : CS S μ) : CS S' μ := by
  unfold CS cTx crd cFe cSh cOd tolT
  rw [tz_fr h, cn_fr h, fn_fr h, itS_fr h, wys_fr h, tolB_fr h, h.1 101 (by omega), h.1 102 (by omega), h.2.1, h.1 113 (by omega), h.1 114 (by omega), h.2.2.1, h.1 130 (by omega), h.1 131 (by omega), h.1 133 (by omega), h.1 134 (by omega), h.1 135 (by omega), h.1 136 (by omega), h.2.2.2]
  exact hc
end FR
def zRel (μC μM : zM) : Prop := wfS μM ∧ CS μM μC
theorem zRel_0 : zRel zM0C zM0M := by
  refine ⟨⟨⟨rfl, ?_⟩, ⟨rfl, ?_⟩, ⟨rfl, ?_⟩, fun i hi => ?_, ⟨rfl, ?_⟩, fun i hi => ?_, fun s _ => Or.inl rfl⟩, ⟨rfl, rfl, rfl, rfl, fun i hi => ?_, fun i hi => ?_⟩, ⟨rfl, fun i hi => ?_⟩, ⟨rfl, fun i hi => ?_⟩, fun s hs => ⟨fun _ => ?_, fun q => ?_⟩, rfl, Or.inl rfl⟩
  · exact Nat.zero_le _
  · exact Nat.zero_le _
  · exact Nat.zero_le _
  · exact absurd hi (Nat.not_lt_zero _)
  · exact Nat.zero_le _
  · exact absurd hi (Nat.not_lt_zero _)
  · exact absurd hi (Nat.not_lt_zero _)
  · exact absurd hi (Nat.not_lt_zero _)
  · exact absurd hi (Nat.not_lt_zero _)
  · exact absurd hi (Nat.not_lt_zero _)
  · have : s = 0 ∨ s = 1 ∨ s = 2 ∨ s = 3 := by omega
    rcases this with rfl | rfl | rfl | rfl <;> rfl
  · exact absurd q (show ¬ (0 : Int32) = 1 by decide)
/-- a call that changes nothing that was told -/
theorem ask2 {α : Type} {r : α} {FC FM : zM → Option (α × zM)} {μC μM : zM} (h : zRel μC μM) (hc : ∃ μ', FC μC = some (r, μ') ∧ CS μM μ') (hm : ∃ μ', FM μM = some (r, μ') ∧ frM μM μ') : ∃ (r : α) (μC1 μM1 : zM), FC μC = some (r, μC1) ∧ FM μM = some (r, μM1) ∧ zRel μC1 μM1 := by
  obtain ⟨c, c1, c2⟩ := hc
  obtain ⟨m, m1, m2⟩ := hm
  exact ⟨r, c, m, c1, m1, wf_fr m2 h.1, CS_fr m2 c2⟩
theorem cntI_ext {p : Nat → Bool} {n : Nat} : ∀ N, n ≤ N → cntI (fun i => decide (i < n) && p i) N = cntI p n
  | 0, h => by
    have : n = 0 := by omega
    subst this; rfl
  | N + 1, h => by
    by_cases c : n = N + 1
    · subst c
      exact cntI_congr (fun k hk => by simp [hk])
    · have ih := cntI_ext (p := p) (n := n) N (by omega)
      show (if (decide (N < n) && p N) = true then cntI _ N + 1 else cntI _ N) = _
      rw [if_neg (by simp; intro q; omega), ih]
/-- the sum over the first D days -/
def wtot (T : zT2) (σ : zSS) (n : Nat) : Nat → Int32
  | 0 => 0
  | D + 1 => wtot T σ n D + wsum T σ D n
def one1 (T : zT2) (σ : zSS) (k : Nat) : Nat → Int32
  | 0 => 0
  | D + 1 => if inn T σ k D = true then one1 T σ k D + wo (σ.2.2 k) else one1 T σ k D
theorem i_lc (a b c : Int32) : a + (b + c) = b + (a + c) := by rw [← Int32.add_assoc, Int32.add_comm a b, Int32.add_assoc]
theorem wtot_s (T : zT2) (σ : zSS) (n : Nat) : ∀ D, wtot T σ (n + 1) D = wtot T σ n D + one1 T σ n D
  | 0 => (Int32.add_zero _).symm
  | D + 1 => by
    show wtot T σ (n + 1) D + (if inn T σ n D = true then wsum T σ D n + wo (σ.2.2 n) else wsum T σ D n) = (wtot T σ n D + wsum T σ D n) + (if inn T σ n D = true then one1 T σ n D + wo (σ.2.2 n) else one1 T σ n D)
    rw [wtot_s T σ n D]
    by_cases c : inn T σ n D = true
    · rw [if_pos c, if_pos c]
      simp only [Int32.add_assoc, Int32.add_comm, i_lc]
    · rw [if_neg c, if_neg c]
      simp only [Int32.add_assoc, Int32.add_comm, i_lc]
theorem one1_no {T : zT2} {σ : zSS} {k : Nat} (h : σ.1 k = none) : ∀ D, one1 T σ k D = 0
  | 0 => rfl
  | D + 1 => by
    unfold one1
    rw [one1_no h D, if_neg (by unfold inn; rw [h]; simp)]
theorem one1_c {T : zT2} {σ : zSS} {k c : Nat} (h : σ.1 k = some c) : ∀ D, one1 T σ k D = wo (σ.2.2 k) * nI (mnO (T 4 k) (D - c))
  | 0 => by
    have : mnO (T 4 k) (0 - c) = 0 := by unfold mnO; split <;> omega
    rw [this]
    show (0 : Int32) = _ * 0
    rw [Int32.mul_zero]
  | D + 1 => by
    have ih := one1_c (T := T) h D
    unfold one1
    rw [ih]
    by_cases q : inn T σ k D = true
    · rw [if_pos q]
      unfold inn at q
      rw [h] at q
      simp at q
      have e1 : mnO (T 4 k) (D + 1 - c) = mnO (T 4 k) (D - c) + 1 := by unfold mnO; split <;> split <;> omega
      rw [e1, ← nI_1]
      rw [Int32.mul_add, Int32.mul_one]
    · rw [if_neg q]
      unfold inn at q
      rw [h] at q
      simp at q
      have e1 : mnO (T 4 k) (D + 1 - c) = mnO (T 4 k) (D - c) := by unfold mnO; split <;> split <;> omega
      rw [e1]
theorem wtot_t (T : zT2) (σ : zSS) : ∀ n, wtot T σ n 24 = tsum T σ n
  | 0 => by
    have : ∀ D, wtot T σ 0 D = 0 := by
      intro D
      induction D with
      | zero => rfl
      | succ D ih => show wtot T σ 0 D + 0 = 0; rw [ih]; rfl
    exact this 24
  | n + 1 => by
    rw [wtot_s, wtot_t T σ n]
    show tsum T σ n + one1 T σ n 24 = (match σ.1 n with
      | none => tsum T σ n
      | some c => tsum T σ n + wo (σ.2.2 n) * nI (mnO (T 4 n) (24 - c)))
    cases h : σ.1 n with
    | none => rw [one1_no h]; exact Int32.add_zero _
    | some c => rw [one1_c h]
