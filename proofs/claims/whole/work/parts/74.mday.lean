-- PURE: a day of the reference
theorem zMt : zln 101 = 2 ∧ zln 102 = 78 ∧ zln 104 = 9 ∧ zln 105 = 9 ∧ zln 106 = 9 ∧ zln 107 = 9 ∧ zln 109 = 5 ∧ zln 110 = 5 ∧ zln 111 = 5 ∧ zln 113 = 9 ∧ zln 114 = 9 ∧ zln 116 = 9 ∧ zln 117 = 9 ∧ zln 119 = 8 ∧ zln 120 = 8 ∧ zln 121 = 8 ∧ zln 124 = 192 ∧ zln 125 = 24 ∧ zln 126 = 24 ∧ zln 127 = 24 ∧ zln 128 = 2 ∧ zln 130 = 8 ∧ zln 131 = 8 ∧ zln 132 = 240 ∧ zln 133 = 4 ∧ zln 134 = 4 ∧ zln 135 = 4 ∧ zln 136 = 240 ∧ zln 137 = 60 := by decide
def MA (μ : zM) (T : zT2) : Prop := μ 100 2 = nI (T 0 0) ∧ μ 100 7 = nI (T 0 1) ∧ (∀ k, k < T 0 0 → μ 104 k = nI (T 1 k) ∧ μ 105 k = nI (T 2 k) ∧ μ 106 k = nI (T 3 k) ∧ μ 107 k = nI (T 4 k)) ∧ ∀ m, m < T 0 1 → μ 109 m = nI (T 6 m) ∧ μ 110 m = nI (T 7 m) ∧ μ 111 m = nI (T 8 m)
def MN (μ : zM) (n : Nat) (dd ff : Nat → Nat) (b : Int32) : Prop := n ≤ 9 ∧ μ 100 14 = nI n ∧ μ 100 17 = b ∧ ∀ i, i < n → μ 116 i = nI (dd i) ∧ dd i < 24 ∧ μ 117 i = nI (ff i) ∧ ff i < 8
def MT (μ : zM) (T : zT2) : Prop := wT T ∧ MA μ T ∧ ∃ n dd ff b, MN μ n dd ff b ∧ ∀ k, k < T 0 0 → T 5 k = iv b dd ff n k
/-- what a run of the reference may change -/
def frR (μ μ' : zM) : Prop := (∀ a, a ≠ 100 → a ≠ 119 → a ≠ 120 → a ≠ 121 → a ≠ 124 → a ≠ 125 → a ≠ 126 → a ≠ 127 → μ' a = μ a) ∧ ∀ i, i ≠ 21 → i ≠ 22 → μ' 100 i = μ 100 i
theorem frR_rf {μ : zM} : frR μ μ := ⟨fun _ _ _ _ _ _ _ _ _ => rfl, fun _ _ _ => rfl⟩
theorem frR_tr {μ μ1 μ2 : zM} (h : frR μ μ1) (h2 : frR μ1 μ2) : frR μ μ2 := ⟨fun a x1 x2 x3 x4 x5 x6 x7 x8 => (h2.1 a x1 x2 x3 x4 x5 x6 x7 x8).trans (h.1 a x1 x2 x3 x4 x5 x6 x7 x8), fun i x y => (h2.2 i x y).trans (h.2 i x y)⟩
theorem frR_at {μ μ1 : zM} (h : frR μ μ1) {a : Nat} (ha : a < 119 ∨ 128 ≤ a) (h0 : a ≠ 100) : μ1 a = μ a := h.1 a h0 (by omega) (by omega) (by omega) (by omega) (by omega) (by omega) (by omega)
theorem MA_fr {μ μ1 : zM} {T : zT2} (h : MA μ T) (hf : frR μ μ1) : MA μ1 T := by
  obtain ⟨h1, h2, h3, h4⟩ := h
  unfold MA
  rw [hf.2 2 (by omega) (by omega), hf.2 7 (by omega) (by omega), frR_at hf (a := 104) (by omega) (by omega), frR_at hf (a := 105) (by omega) (by omega), frR_at hf (a := 106) (by omega) (by omega), frR_at hf (a := 107) (by omega) (by omega), frR_at hf (a := 109) (by omega) (by omega), frR_at hf (a := 110) (by omega) (by omega), frR_at hf (a := 111) (by omega) (by omega)]
  exact ⟨h1, h2, h3, h4⟩
theorem MN_fr {μ μ1 : zM} {n : Nat} {dd ff : Nat → Nat} {b : Int32} (h : MN μ n dd ff b) (hf : frR μ μ1) : MN μ1 n dd ff b := by
  unfold MN
  rw [hf.2 14 (by omega) (by omega), hf.2 17 (by omega) (by omega), frR_at hf (a := 116) (by omega) (by omega), frR_at hf (a := 117) (by omega) (by omega)]
  exact h
theorem MT_fr {μ μ1 : zM} {T : zT2} (h : MT μ T) (hf : frR μ μ1) : MT μ1 T := by
  obtain ⟨h1, h2, n, dd, ff, b, h3, h4⟩ := h
  exact ⟨h1, MA_fr h2 hf, n, dd, ff, b, MN_fr h3 hf, h4⟩
def MJ (μ : zM) (T : zT2) (f : Nat → Nat) (σ : zSS) : Prop := ∀ k, k < T 0 0 → μ 119 k = nI (f k) ∧ (∀ c, σ.1 k = some c → μ 120 k = nI c) ∧ μ 121 k = oI (σ.2.2 k)
theorem stn_congr {T : zT2} {σ σ' : zSS} {k d : Nat} (h1 : σ'.1 k = σ.1 k) (h2 : σ'.2.1 k = σ.2.1 k) : stn T σ' k d = stn T σ k d := by
  unfold stn inn
  rw [h1, h2]
def stp (T : zT2) (σ : zSS) (d k : Nat) : Nat := if T 3 k < d then stn T σ k (d - 1) else 0
def stq (T : zT2) (σ : zSS) (d k : Nat) : Nat := if T 3 k < d then stn T σ k d else 0
theorem pq_2 {T : zT2} (hw : wT T) {d k : Nat} (h : stp T (sim T d) d k = 2) : ∃ c, (sim T d).1 k = some c ∧ c < d ∧ stq T (sim T d) d k = if d - c = T 4 k then 3 else 2 := by
  unfold stp at h
  by_cases q : T 3 k < d
  · rw [if_pos q] at h
    obtain ⟨i1, -⟩ := sim_I2 hw d k
    have h2 := (st_2 (fun c hc => (i1 c hc).2)).mp h
    unfold inn at h2
    cases e : (sim T d).1 k with
    | none => rw [e] at h2; cases h2
    | some c =>
      rw [e] at h2
      have := i1 c e
      simp at h2
      refine ⟨c, rfl, this.1, ?_⟩
      unfold stq stn
      rw [if_pos q, if_neg (by omega), e]
      show (if d < c then _ else _) = _
      rw [if_neg (by omega)]
      by_cases q2 : d - c = T 4 k
      · have : inn T (sim T d) k d = false := by unfold inn; rw [e]; simp; omega
        rw [this, if_pos q2]; rfl
      · have : inn T (sim T d) k d = true := by unfold inn; rw [e]; simp; omega
        rw [this, if_neg q2]; rfl
  · rw [if_neg q] at h; omega
theorem pq_n {T : zT2} (hw : wT T) {d k : Nat} (h : ¬ stp T (sim T d) d k = 2) : stq T (sim T d) d k = stp T (sim T d) d k := by
  unfold stp at h
  unfold stp stq
  by_cases q : T 3 k < d
  · rw [if_pos q] at h
    rw [if_pos q, if_pos q]
    obtain ⟨i1, i2, -⟩ := sim_I2 hw d k
    have h2 : ¬ inn T (sim T d) k (d - 1) = true := fun q2 => h ((st_2 (fun c hc => (i1 c hc).2)).mpr q2)
    unfold stn
    rw [if_neg (show ¬ d < T 3 k by omega), if_neg (show ¬ d - 1 < T 3 k by omega)]
    cases e : (sim T d).1 k with
    | none =>
      show sto _ _ = sto _ _
      cases e2 : (sim T d).2.1 k with
      | none => rfl
      | some s =>
        have := i2 s e2
        show (if d < s then 1 else 4) = (if d - 1 < s then 1 else 4)
        rw [if_neg (show ¬ d < s by omega), if_neg (show ¬ d - 1 < s by omega)]
    | some c =>
      have := i1 c e
      show (if d < c then _ else _) = (if d - 1 < c then _ else _)
      rw [if_neg (show ¬ d < c by omega), if_neg (show ¬ d - 1 < c by omega), if_neg h2]
      have : ¬ inn T (sim T d) k d = true := by
        unfold inn at h2 ⊢
        rw [e] at h2 ⊢
        simp at h2 ⊢
        intro _
        have := h2 (by omega)
        omega
      rw [if_neg this]
  · rw [if_neg q, if_neg q]
theorem stp_lt {T : zT2} {σ : zSS} {d k : Nat} : stp T σ d k < 5 := by
  unfold stp
  split
  · exact stn_lt
  · omega
section MD
variable {μ : zM} {T : zT2}
theorem letsIn_e {k d v : Nat} (hk : k < 8) : f_X7_letsIn (nI k) (nI d) (nI v) μ = some ((), zup (zup (zup μ 119 k (nI 2)) 120 k (nI d)) 121 k (nI v)) := by
  have zz := zMt
  unfold f_X7_letsIn
  rw [ev_st (by omega) (by omega), ev_st (by omega) (by omega), ev_st (by omega) (by omega)]; rfl
def frA (μ μ' : zM) : Prop := ∀ a, a ≠ 119 → a ≠ 120 → a ≠ 121 → μ' a = μ a
theorem frR_A {μ μ1 : zM} (h : frA μ μ1) : frR μ μ1 := ⟨fun a _ x y z _ _ _ _ => h a x y z, fun i _ _ => by rw [h 100 (by omega) (by omega) (by omega)]⟩
theorem frA_tr {μ μ1 μ2 : zM} (h : frA μ μ1) (h2 : frA μ1 μ2) : frA μ μ2 := fun a x y z => (h2 a x y z).trans (h a x y z)
theorem arrives_e (hw : wT T) (h : MA μ T) {d : Nat} (hd : d < 24) (hJ : MJ μ T (stp T (sim T d) d) (sim T d)) : ∃ μ', f_X7_arrives (nI d) μ = some ((), μ') ∧ MJ μ' T (fun k => stn T (dayA T d (sim T d)) k d) (dayA T d (sim T d)) ∧ frA μ μ' := by
  have zz := zMt
  have hn := hw.1
  unfold f_X7_arrives
  refine loop_X (fun n i (m : zM) => f_X7_arrives_L2 (nI d) (fun μ => f_X7_arrives_L61 (nI d) (fun μ => some ((), μ)) 400 (0 : Int32) μ) n i m) (fun R => ∃ μ', R = some ((), μ') ∧ MJ μ' T (fun k => stn T (dayA T d (sim T d)) k d) (dayA T d (sim T d)) ∧ frA μ μ') (T 0 0) (fun i m => (∀ a, a ≠ 119 → m a = μ a) ∧ ∀ k, k < T 0 0 → m 119 k = nI (if k < i then stq T (sim T d) d k else stp T (sim T d) d k)) ?_ ?_ 400 0 μ (by omega) (by omega) ⟨fun _ _ => rfl, fun k hk => by rw [if_neg (by omega)]; exact (hJ k hk).1⟩
  · intro n m ⟨g1, g2⟩
    show ∃ μ', f_X7_arrives_L2 _ _ (n + 1) _ _ = _ ∧ _
    rw [f_X7_arrives_L2, ev_g, g1 100 (by omega), h.1, if_pos (nI_le (Nat.le_refl _) (by omega))]
    refine loop_X (fun n i (m2 : zM) => f_X7_arrives_L61 (nI d) (fun μ => some ((), μ)) n i m2) (fun R => ∃ μ', R = some ((), μ') ∧ MJ μ' T (fun k => stn T (dayA T d (sim T d)) k d) (dayA T d (sim T d)) ∧ frA μ μ') (T 0 0) (fun i m2 => frA μ m2 ∧ ∀ k, k < T 0 0 → m2 119 k = nI (if k < i then stn T (dayA T d (sim T d)) k d else stq T (sim T d) d k) ∧ (∀ c, (if k < i then (dayA T d (sim T d)).1 k else (sim T d).1 k) = some c → m2 120 k = nI c) ∧ m2 121 k = oI (if k < i then (dayA T d (sim T d)).2.2 k else (sim T d).2.2 k)) ?_ ?_ 400 0 m (by omega) (by omega) ⟨fun a x _ _ => g1 a x, fun k hk => ⟨by rw [g2 k hk, if_pos hk, if_neg (by omega)], fun c hc => by rw [if_neg (by omega)] at hc; rw [g1 120 (by omega)]; exact (hJ k hk).2.1 c hc, by rw [if_neg (by omega), g1 121 (by omega)]; exact (hJ k hk).2.2⟩⟩
    · intro n m2 ⟨f1, f2⟩
      refine ⟨m2, ?_, fun k hk => ?_, f1⟩
      · show f_X7_arrives_L61 _ _ (n + 1) _ _ = _
        rw [f_X7_arrives_L61, ev_g, f1 100 (by omega) (by omega) (by omega), h.1, if_pos (nI_le (Nat.le_refl _) (by omega))]
      · have := f2 k hk
        rw [if_pos hk, if_pos hk, if_pos hk] at this
        exact this
    · intro n i m2 hi ⟨f1, f2⟩
      obtain ⟨a1, a2, a3, a4⟩ := h.2.2.1 i hi
      have b1 : m2 104 i = nI (T 1 i) := by rw [f1 104 (by omega) (by omega) (by omega)]; exact a1
      have b3 : m2 106 i = nI (T 3 i) := by rw [f1 106 (by omega) (by omega) (by omega)]; exact a3
      have hk2 := hw.2.2.1 i hi
      obtain ⟨s1, s2⟩ := stA T d (sim T d) i
      have hI1 := sim_I1 T d i
      obtain ⟨f3, f4, f5⟩ := f2 i hi
      rw [if_neg (by omega)] at f3 f5
      have f4 : ∀ c, (sim T d).1 i = some c → m2 120 i = nI c := fun c hc => f4 c (by rw [if_neg (by omega)]; exact hc)
      -- one caller's change
      have hput : ∀ m3 : zM, frA μ m3 → (∀ k, k ≠ i → m3 119 k = m2 119 k ∧ m3 120 k = m2 120 k ∧ m3 121 k = m2 121 k) → m3 119 i = nI (stn T (dayA T d (sim T d)) i d) → (∀ c, (dayA T d (sim T d)).1 i = some c → m3 120 i = nI c) → m3 121 i = oI ((dayA T d (sim T d)).2.2 i) → frA μ m3 ∧ ∀ k, k < T 0 0 → m3 119 k = nI (if k < i + 1 then stn T (dayA T d (sim T d)) k d else stq T (sim T d) d k) ∧ (∀ c, (if k < i + 1 then (dayA T d (sim T d)).1 k else (sim T d).1 k) = some c → m3 120 k = nI c) ∧ m3 121 k = oI (if k < i + 1 then (dayA T d (sim T d)).2.2 k else (sim T d).2.2 k) := by
        intro m3 e1 e2 e3 e4 e5
        refine ⟨e1, fun k hk => ?_⟩
        by_cases c : k = i
        · subst c
          rw [if_pos (by omega), if_pos (by omega), if_pos (by omega)]
          exact ⟨e3, e4, e5⟩
        · obtain ⟨q1, q2, q3⟩ := e2 k c
          rw [q1, q2, q3]
          have := f2 k hk
          by_cases c2 : k < i
          · rw [if_pos c2, if_pos c2, if_pos c2] at this
            rw [if_pos (by omega), if_pos (by omega), if_pos (by omega)]
            exact this
          · rw [if_neg c2, if_neg c2, if_neg c2] at this
            rw [if_neg (by omega), if_neg (by omega), if_neg (by omega)]
            exact this
      show ∃ s' : zM, f_X7_arrives_L61 _ _ (n + 1) _ _ = f_X7_arrives_L61 _ _ n _ _ ∧ _
      rw [f_X7_arrives_L61, ev_g, f1 100 (by omega) (by omega) (by omega), h.1, if_neg (nI_ge hi (by omega)), ev_ld (by omega) (by omega), b3]
      by_cases c : T 3 i = d
      · rw [if_neg (show ¬ ¬ nI (T 3 i) = nI d from fun q => q (by rw [c])), ev_ld (by omega) (by omega), b1]
        by_cases c2 : T 1 i = 2
        · rw [if_neg (show ¬ ¬ nI (T 1 i) = (2 : Int32) from fun q => q (by rw [c2]; rfl))]
          rw [show f_X7_letsIn (nI i) (nI d) (2 : Int32) m2 = _ from letsIn_e (v := 2) (by omega), ev_c, ev_v, nI_1]
          refine ⟨_, rfl, hput _ (fun a x y z => by rw [zup_n z, zup_n y, zup_n x]; exact f1 a x y z) (fun k hk => ?_) ?_ ?_ ?_⟩
          · rw [zup_n (by omega), zup_n (by omega), zup_o hk, zup_n (by omega), zup_o hk, zup_n (by omega), zup_o hk, zup_n (by omega), zup_n (by omega)]
            exact ⟨rfl, rfl, rfl⟩
          · rw [zup_n (by omega), zup_n (by omega), zup_e]
            have e1 : (dayA T d (sim T d)).1 i = some d := if_pos ⟨c, c2⟩
            have : stn T (dayA T d (sim T d)) i d = 2 := by
              rw [st_2 (fun x hx => by rw [e1] at hx; cases hx; omega)]
              unfold inn
              rw [e1]
              simp; omega
            rw [this]
          · intro x hx
            have e1 : (dayA T d (sim T d)).1 i = some d := if_pos ⟨c, c2⟩
            rw [e1] at hx
            cases hx
            rw [zup_n (by omega), zup_e]
          · rw [zup_e]
            have e1 : (dayA T d (sim T d)).2.2 i = some 2 := if_pos ⟨c, c2⟩
            rw [e1]; rfl
        · rw [if_pos (show ¬ nI (T 1 i) = (2 : Int32) from fun q => c2 ((nI_eq (by omega) (by omega)).mp q)), ev_ld (by omega) (by omega), b3, if_neg (show ¬ ¬ nI (T 3 i) = nI d from fun q => q (by rw [c])), ev_st (by omega) (by omega), ev_v, nI_1]
          obtain ⟨n1, n2, n3⟩ := hI1 (by omega)
          have e1 : (dayA T d (sim T d)).1 i = none := (if_neg (fun q => c2 q.2)).trans n1
          have e2 : (dayA T d (sim T d)).2.2 i = (sim T d).2.2 i := if_neg (fun q => c2 q.2)
          refine ⟨_, rfl, hput _ (fun a x y z => by rw [zup_n x]; exact f1 a x y z) (fun k hk => ?_) ?_ ?_ ?_⟩
          · rw [zup_o hk, zup_n (by omega), zup_n (by omega)]
            exact ⟨rfl, rfl, rfl⟩
          · rw [zup_e]
            have : stn T (dayA T d (sim T d)) i d = 1 := by
              unfold stn
              rw [if_neg (by omega), e1, s1, n2]; rfl
            rw [this]; rfl
          · intro x hx; rw [e1] at hx; cases hx
          · rw [zup_n (by omega), e2]; exact f5
      · rw [if_pos (show ¬ nI (T 3 i) = nI d from fun q => c ((nI_eq (by omega) (by omega)).mp q)), ev_ld (by omega) (by omega), b3, if_pos (show ¬ nI (T 3 i) = nI d from fun q => c ((nI_eq (by omega) (by omega)).mp q)), ev_v, nI_1]
        have e1 : (dayA T d (sim T d)).1 i = (sim T d).1 i := if_neg (fun q => c q.1)
        have e2 : (dayA T d (sim T d)).2.2 i = (sim T d).2.2 i := if_neg (fun q => c q.1)
        refine ⟨_, rfl, hput _ f1 (fun k hk => ⟨rfl, rfl, rfl⟩) ?_ ?_ ?_⟩
        · rw [f3]
          unfold stq
          by_cases c3 : T 3 i < d
          · rw [if_pos c3, stn_congr e1 rfl]
          · rw [if_neg c3]
            unfold stn
            rw [if_pos (by omega)]
        · intro x hx; rw [e1] at hx; exact f4 x hx
        · rw [e2]; exact f5
  · intro n i m hi ⟨g1, g2⟩
    obtain ⟨a1, a2, a3, a4⟩ := h.2.2.1 i hi
    have hk2 := hw.2.2.1 i hi
    obtain ⟨j1, j2, j3⟩ := hJ i hi
    have g3 := g2 i hi
    rw [if_neg (by omega)] at g3
    have hst : stp T (sim T d) d i < 5 := stp_lt
    have hput : ∀ v, nI v = nI (stq T (sim T d) d i) → (∀ a, a ≠ 119 → zup m 119 i (nI v) a = μ a) ∧ ∀ k, k < T 0 0 → zup m 119 i (nI v) 119 k = nI (if k < i + 1 then stq T (sim T d) d k else stp T (sim T d) d k) := by
      intro v hv
      refine ⟨fun a ha => by rw [zup_n ha]; exact g1 a ha, fun k hk => ?_⟩
      by_cases c : k = i
      · subst c; rw [zup_e, if_pos (by omega)]; exact hv
      · rw [zup_o c, g2 k hk]
        by_cases c2 : k < i
        · rw [if_pos c2, if_pos (by omega)]
        · rw [if_neg c2, if_neg (by omega)]
    show ∃ s' : zM, f_X7_arrives_L2 _ _ (n + 1) _ _ = f_X7_arrives_L2 _ _ n _ _ ∧ _
    rw [f_X7_arrives_L2, ev_g, g1 100 (by omega), h.1, if_neg (nI_ge hi (by omega)), ev_ld (by omega) (by omega), g3]
    by_cases c : stp T (sim T d) d i = 2
    · obtain ⟨x, x1, x2, x3⟩ := pq_2 hw c
      rw [if_neg (show ¬ ¬ nI (stp T (sim T d) d i) = (2 : Int32) from fun q => q (by rw [c]; rfl)), ev_ld (by omega) (by omega), g1 120 (by omega), j2 x x1, ev_ld (by omega) (by omega), g1 107 (by omega), a4, pk_sub (by omega)]
      by_cases c2 : d - x = T 4 i
      · rw [if_neg (show ¬ ¬ nI (d - x) = nI (T 4 i) from fun q => q (by rw [c2])), ev_st (by omega) (by omega), ev_v, nI_1]
        rw [if_pos c2] at x3
        exact ⟨_, rfl, hput 3 (by rw [x3])⟩
      · rw [if_pos (show ¬ nI (d - x) = nI (T 4 i) from fun q => c2 ((nI_eq (by omega) (by omega)).mp q)), ev_ld (by omega) (by omega), g3, ev_st (by omega) (by omega), ev_v, nI_1]
        rw [if_neg c2] at x3
        exact ⟨_, rfl, hput _ (by rw [x3, c])⟩
    · rw [if_pos (show ¬ nI (stp T (sim T d) d i) = (2 : Int32) from fun q => c ((nI_eq (by omega) (by omega)).mp q)), ev_ld (by omega) (by omega), g3, ev_st (by omega) (by omega), ev_v, nI_1]
      exact ⟨_, rfl, hput _ (by rw [pq_n hw c])⟩
theorem onDuty_e (hw : wT T) (h : MA μ T) {d : Nat} (hd : d < 24) : f_X7_onDuty (nI d) μ = some (oI (doorS T d), μ) := by
  have zz := zMt
  have hn := hw.2.1
  unfold f_X7_onDuty
  refine loop_P (fun n i (_ : Unit) => f_X7_onDuty_L2 (nI d) (fun μ => some ((-1 : Int32), μ)) n i μ) (fun R => R = some (oI (doorS T d), μ)) (T 0 1) (fun k _ => fstP (fun m => decide (T 7 m ≤ d) && decide (d ≤ T 8 m)) k = none) ?_ ?_ 400 0 () (by omega) (by omega) rfl
  · intro n _ ha
    show f_X7_onDuty_L2 _ _ (n + 1) _ _ = _
    rw [f_X7_onDuty_L2, ev_g, h.2.1, if_pos (nI_le (Nat.le_refl _) (by omega))]
    unfold doorS
    rw [ha]; rfl
  · intro n k _ hk ha
    have hm := hw.2.2.2 k hk
    obtain ⟨-, e7, e8⟩ := h.2.2.2 k hk
    show f_X7_onDuty_L2 _ _ (n + 1) _ _ = _ ∨ ∃ s' : Unit, f_X7_onDuty_L2 _ _ (n + 1) _ _ = f_X7_onDuty_L2 _ _ n _ _ ∧ _
    rw [f_X7_onDuty_L2, ev_g, h.2.1, if_neg (nI_ge hk (by omega)), ev_ld (by omega) (by omega), e7, ev_ld (by omega) (by omega), e8, in_e, ev_c, wi_nI (by omega) (by omega) (by omega)]
    cases c : (decide (T 7 k ≤ d) && decide (d ≤ T 8 k)) with
    | true =>
      left
      rw [if_neg (by decide)]
      unfold doorS
      rw [fstP_at ha c hk]; rfl
    | false =>
      right
      refine ⟨(), by rw [if_pos (show bI false = 0 from rfl), ev_v, nI_1], ?_⟩
      unfold fstP; rw [ha]; simp only [c]; rfl
theorem isInM_e (b : Int32) {i : Nat} (hi : i < 31) : f_X7_isIn b (nI i) μ = some (bI (tb b i), μ) := by
  unfold f_X7_isIn
  have hb := tb_ask1 b hi
  cases c : tb b i with
  | true => rw [if_neg (fun q => q (hb.mpr c))]; rfl
  | false => rw [if_pos (fun q => by rw [hb.mp q] at c; cases c)]; rfl
theorem hasCard_e {n : Nat} {dd ff : Nat → Nat} {b : Int32} (h : MN μ n dd ff b) {k d : Nat} (hk : k < 8) (hd : d < 24) : f_X7_hasCard (nI k) (nI d) μ = some (bI (decide (iv b dd ff n k ≤ d)), μ) := by
  have zz := zMt
  obtain ⟨hn, h1, h2, h3⟩ := h
  unfold f_X7_hasCard
  refine loop_X (fun q i (a : Int32) => f_X7_hasCard_L5 (nI k) (nI d) (fun (x16 : Int32) μ => gd (x16 = 0 ∨ x16 = 1) (some (x16, μ))) q a i μ) (fun R => R = some (bI (decide (iv b dd ff n k ≤ d)), μ)) n (fun i a => a = bI (decide (iv b dd ff i k ≤ d))) ?_ ?_ 400 0 0 (by omega) (by omega) (by rw [show iv b dd ff 0 k = 24 from rfl, decide_eq_false (by omega)]; rfl)
  · intro q a ha
    show f_X7_hasCard_L5 _ _ _ (q + 1) _ _ _ = _
    rw [f_X7_hasCard_L5, ev_g, h1, if_pos (nI_le (Nat.le_refl _) (by omega)), ha, ev_gb]
  · intro q i a hi ha
    obtain ⟨a1, a2, a3, a4⟩ := h3 i hi
    refine ⟨_, ?_, rfl⟩
    show f_X7_hasCard_L5 _ _ _ (q + 1) _ _ _ = f_X7_hasCard_L5 _ _ _ q _ _ _
    rw [f_X7_hasCard_L5, ev_g, h1, if_neg (nI_ge hi (by omega)), ha, iv_s]
    by_cases c : iv b dd ff i k ≤ d
    · rw [decide_eq_true c, if_pos (by decide), ev_v, nI_1]
      have : (if tb b i = false ∧ ff i = k ∧ dd i < iv b dd ff i k then dd i else iv b dd ff i k) ≤ d := by split <;> omega
      rw [decide_eq_true this]; rfl
    · rw [decide_eq_false c, if_neg (by decide), ev_ld (by omega) (by omega), a3]
      by_cases c2 : ff i = k
      · rw [if_neg (show ¬ ¬ nI (ff i) = nI k from fun q => q (by rw [c2])), ev_ld (by omega) (by omega), a1]
        by_cases c3 : d < dd i
        · rw [if_pos (nI_lt c3 (by omega)), ev_v, nI_1]
          have : ¬ (if tb b i = false ∧ ff i = k ∧ dd i < iv b dd ff i k then dd i else iv b dd ff i k) ≤ d := by split <;> omega
          rw [decide_eq_false this]; rfl
        · rw [if_neg (nI_nlt (by omega) (by omega)), ev_g, h2, isInM_e b (by omega), ev_c]
          cases c4 : tb b i with
          | true =>
            rw [if_pos (by decide), ev_v, nI_1]
            rw [if_neg (fun q => by cases q.1), decide_eq_false c]; rfl
          | false =>
            rw [if_neg (by decide), ev_v, nI_1]
            rw [if_pos ⟨rfl, c2, by omega⟩, decide_eq_true (by omega)]; rfl
      · rw [if_pos (show ¬ nI (ff i) = nI k from fun q => c2 ((nI_eq (by omega) (by omega)).mp q)), ev_v, nI_1]
        rw [if_neg (fun q => c2 q.2.1), decide_eq_false c]; rfl
end MD
