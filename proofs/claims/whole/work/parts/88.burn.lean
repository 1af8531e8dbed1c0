-- PURE: cards that had better be burnt; years
def pB (a : Nat) : Int32 := (1 : Int32) <<< (nI a &&& 31)
section BU
variable {S μ : zM} {T : zT2}
def frP (S : zM) (b : Int32) (k : Nat) : Bool := decide ((sim (tolB S b) 24).2.2 k = some 1)
def nf (S : zM) (b : Int32) : Bool := (fstP (frP S b) (itS S 0)).isNone
theorem noFrost_e (hw : wfS S) {m : zM} (hc : crd S m) (h : TR S m) (b : Int32) : ∃ m', f_X6_noFrostWithout b m = some (bI (nf S b), m') ∧ fC m m' ∧ TR S m' := by
  obtain ⟨m1, m2, d1, d2, d3, d4, d5⟩ := trial_e hw hc h b
  have hn : f_X2_hasNamed 34 (1 : Int32) m2 = some (bI (fstP (frP S b) (itS S 0)).isSome, m2) := hasNamed_e d3 (v := 1) (by omega)
  refine ⟨m2, ?_, d4, d5⟩
  unfold f_X6_noFrostWithout
  rw [d1, ev_c, d2, ev_c, hn, ev_c]
  unfold nf
  cases fstP (frP S b) (itS S 0) with
  | none => rw [if_neg (fun q => q rfl)]; rfl
  | some x => rw [if_pos (show ¬ bI (some x).isSome = 0 from nb0)]; rfl
theorem isBurnt_e (hw : wfS S) {m : zM} (h : MBu S m) (b : Int32) : ∃ m', f_X7_isBurnt b m = some (bI (nf S b), m') ∧ MBu S m' ∧ m' 128 = m 128 := by
  have zm := zMt
  have h8 : itS S 0 ≤ 8 := (wT_told hw 0).1
  obtain ⟨q1, q2⟩ := MBu_b h b
  obtain ⟨m4, e4, l1, l2⟩ := runs_e (MT_of hw q1.2 q2)
  have hB := MB_R q1 l2
  have hn : m4 100 2 = nI (itS S 0) := hB.2.1
  refine ⟨m4, ?_, ⟨hB, _, MN_fr q2 l2⟩, by rw [frR_at l2 (by omega) (by omega), zup_n (by omega)]⟩
  unfold f_X7_isBurnt
  rw [ev_p, e4, ev_c]
  refine loop_X (fun n i (a : Int32) => f_X7_isBurnt_L13 (fun (x9 : Int32) μ => (if ¬ x9 = 0 then gd ((0 : Int32) = 0 ∨ (0 : Int32) = 1) (some ((0 : Int32), μ)) else gd ((1 : Int32) = 0 ∨ (1 : Int32) = 1) (some ((1 : Int32), μ)))) n a i m4) (fun R => R = some (bI (nf S b), m4)) (itS S 0) (fun k a => a = bI (fstP (frP S b) k).isSome) ?_ ?_ 400 0 0 (by omega) (by omega) rfl
  · intro n a ha
    show f_X7_isBurnt_L13 _ (n + 1) _ _ _ = _
    rw [f_X7_isBurnt_L13, ev_g, hn, if_pos (nI_le (Nat.le_refl _) (by omega)), ha]
    unfold nf
    cases fstP (frP S b) (itS S 0) with
    | none => rw [if_neg (fun q => q rfl)]; rfl
    | some x => rw [if_pos (show ¬ bI (some x).isSome = 0 from nb0)]; rfl
  · intro n k a hk ha
    refine ⟨_, ?_, rfl⟩
    show f_X7_isBurnt_L13 _ (n + 1) _ _ _ = f_X7_isBurnt_L13 _ n (bI (match fstP (frP S b) k with | some m => some m | none => if frP S b k = true then some k else none).isSome) _ _
    rw [f_X7_isBurnt_L13, ev_g, hn, if_neg (nI_ge hk (by omega)), ha]
    cases e : fstP (frP S b) k with
    | some j => rw [if_pos (show ¬ bI (some j).isSome = 0 from nb0), ev_v, nI_1]; rfl
    | none =>
      have hnm : m4 121 k = oI ((sim (tolB S b) 24).2.2 k) := (l1.1 k hk).2
      rw [if_neg (fun q => q rfl), ev_ld (by omega) (by omega), hnm]
      by_cases c : (sim (tolB S b) 24).2.2 k = some 1
      · have : frP S b k = true := by unfold frP; simp [c]
        rw [this, c, if_neg (fun q => q rfl), ev_v, nI_1]; rfl
      · have : frP S b k = false := by unfold frP; simp [c]
        have hne : ¬ oI ((sim (tolB S b) 24).2.2 k) = (1 : Int32) := by
          cases e2 : (sim (tolB S b) 24).2.2 k with
          | none => decide
          | some v =>
            have hv := (sim_I2 (wT_told hw b) 24 k).2.2.1 v e2
            intro q
            have q : nI v = nI 1 := q
            rw [nI_eq (by omega) (by omega)] at q
            rw [e2, q] at c
            exact c rfl
        rw [this, if_pos hne, ev_v, nI_1]; rfl
def oneS (S : zM) : Option Nat := fstP (fun a => nf S (pB a)) (cn S)
def prP (S : zM) (a b : Nat) : Bool := decide (a < b) && nf S (pB a ||| pB b)
def prS (S : zM) (a : Nat) : Option Nat := fstP (prP S a) (cn S)
def twoS (S : zM) : Option Nat := fstP (fun a => (prS S a).isSome) (cn S)
/-- which cards: how many, the first, the second; none: two are too few -/
def brn (S : zM) : Option (Nat × Nat × Nat) := if nf S 0 = true then some (0, 0, 0) else match oneS S with
  | some a => some (1, a, 0)
  | none => match twoS S with
    | some a => some (2, a, (prS S a).getD 0)
    | none => none
def brC (x : Option (Nat × Nat × Nat)) : Int32 := match x with
  | none => -1
  | some y => if y.1 = 0 then 0 else if y.1 = 1 then pB y.2.1 else pB y.2.1 ||| pB y.2.2
def brM (x : Option (Nat × Nat × Nat)) : Int32 := match x with
  | none => -1
  | some y => nI y.1
/-- what it says of the places -/
def brW (x : Option (Nat × Nat × Nat)) : Prop := ∀ y, x = some y → (y.1 = 0 ∨ (y.1 = 1 ∧ y.2.1 < 8) ∨ (y.1 = 2 ∧ y.2.1 < y.2.2 ∧ y.2.2 < 8))
theorem brn_w (hw : wfS S) : brW (brn S) := by
  have h8 := hw.2.2.1.2
  intro y hy
  unfold brn at hy
  by_cases c : nf S 0 = true
  · rw [if_pos c] at hy; cases hy; exact Or.inl rfl
  · rw [if_neg c] at hy
    cases e : oneS S with
    | some a =>
      rw [e] at hy; cases hy
      have := (fstP_lt e).1
      exact Or.inr (Or.inl ⟨rfl, by show a < 8; omega⟩)
    | none =>
      rw [e] at hy
      cases e2 : twoS S with
      | none => rw [e2] at hy; cases hy
      | some a =>
        rw [e2] at hy; cases hy
        obtain ⟨f1, f2, -⟩ := fstP_lt e2
        cases e3 : prS S a with
        | none => rw [e3] at f2; cases f2
        | some b =>
          obtain ⟨g1, g2, -⟩ := fstP_lt e3
          unfold prP at g2
          simp only [Bool.and_eq_true, decide_eq_true_eq] at g2
          exact Or.inr (Or.inr ⟨rfl, g2.1, by show b < 8; omega⟩)
theorem pr_0 (S : zM) (a : Nat) : fstP (prP S a) (a + 1) = none := by
  cases e : fstP (prP S a) (a + 1) with
  | none => rfl
  | some b =>
    obtain ⟨g1, g2, -⟩ := fstP_lt e
    unfold prP at g2
    simp only [Bool.and_eq_true, decide_eq_true_eq] at g2
    omega
theorem pr_more {S : zM} {a b : Nat} (h : fstP (prP S a) b = none) (hn : prP S a b = false) : fstP (prP S a) (b + 1) = none := by
  show (match fstP (prP S a) b with | some m => some m | none => if prP S a b = true then some b else none) = none
  rw [h, hn]; rfl
theorem cardsToBurn_e (hw : wfS S) {m : zM} (hC : CS S m) (h2 : HC 21 m (tolT S) (sim (tolT S) 24)) : ∃ m', f_X6_cardsToBurn 21 m = some (brC (brn S), m') ∧ fC m m' := by
  have hcn := hw.2.2.1
  obtain ⟨m2, e2, b1, b2⟩ := become_e (wT_told hw 0) h2.2.2.1
  unfold f_X6_cardsToBurn
  rw [e2, ev_c]
  have crdF : ∀ s, fC m s → crd S s := fun s hs => crd_eq hC.2.1 (fun a _ _ => hs a (by omega))
  have c62 : ∀ s, fC m s → s 6 2 = nI (cn S) := fun s hs => (crdF s hs).1.trans hcn.1
  obtain ⟨m3, d1, d2, d3⟩ := noFrost_e hw (crdF _ b2) (TR_of hw b1) 0
  have F3 := fC_tr b2 d2
  rw [d1, ev_c]
  cases hnf : nf S 0 with
  | true =>
    have e : brn S = some (0, 0, 0) := by unfold brn; rw [if_pos hnf]
    rw [if_neg nb0, e]
    exact ⟨m3, rfl, F3⟩
  | false =>
    rw [if_pos (show bI false = 0 from rfl)]
    refine loop_P (fun n i (s : zM) => f_X6_cardsToBurn_L20 (fun μ => f_X6_cardsToBurn_L53 (fun μ => some ((-1 : Int32), μ)) 400 (0 : Int32) μ) n i s) (fun R => ∃ m', R = some (brC (brn S), m') ∧ fC m m') (cn S) (fun a s => fstP (fun a => nf S (pB a)) a = none ∧ fC m s ∧ TR S s) ?_ ?_ 400 0 m3 (by omega) (by omega) ⟨rfl, F3, d3⟩
    · intro n s ⟨g1, g2, g3⟩
      show ∃ m', f_X6_cardsToBurn_L20 _ (n + 1) _ _ = _ ∧ _
      rw [f_X6_cardsToBurn_L20, ev_g, c62 s g2, if_pos (nI_le (Nat.le_refl _) (by omega))]
      have g1 : oneS S = none := g1
      refine loop_P (fun n i (s : zM) => f_X6_cardsToBurn_L53 (fun μ => some ((-1 : Int32), μ)) n i s) (fun R => ∃ m', R = some (brC (brn S), m') ∧ fC m m') (cn S) (fun a s => fstP (fun a => (prS S a).isSome) a = none ∧ fC m s ∧ TR S s) ?_ ?_ 400 0 s (by omega) (by omega) ⟨rfl, g2, g3⟩
      · intro n s ⟨k1, k2, k3⟩
        have k1 : twoS S = none := k1
        have e : brn S = none := by unfold brn; rw [if_neg (by rw [hnf]; decide), g1, k1]
        refine ⟨s, ?_, k2⟩
        show f_X6_cardsToBurn_L53 _ (n + 1) _ _ = _
        rw [f_X6_cardsToBurn_L53, ev_g, c62 s k2, if_pos (nI_le (Nat.le_refl _) (by omega)), e]; rfl
      · intro n a s ha ⟨k1, k2, k3⟩
        show (∃ m', f_X6_cardsToBurn_L53 _ (n + 1) _ _ = _ ∧ _) ∨ ∃ s' : zM, f_X6_cardsToBurn_L53 _ (n + 1) _ _ = f_X6_cardsToBurn_L53 _ n _ _ ∧ _
        rw [f_X6_cardsToBurn_L53, ev_g, c62 s k2, if_neg (nI_ge ha (by omega)), ev_v, nI_1]
        refine loop_P (fun q i (s : zM) => f_X6_cardsToBurn_L68 (nI a) (fun μ => vI (nI (a + 1)) fun x16 => f_X6_cardsToBurn_L53 (fun μ => some ((-1 : Int32), μ)) n x16 μ) q i s) (fun R => (∃ m', R = some (brC (brn S), m') ∧ fC m m') ∨ ∃ s' : zM, R = f_X6_cardsToBurn_L53 (fun μ => some ((-1 : Int32), μ)) n (nI (a + 1)) s' ∧ fstP (fun a => (prS S a).isSome) (a + 1) = none ∧ fC m s' ∧ TR S s') (cn S) (fun b s => a + 1 ≤ b ∧ fstP (prP S a) b = none ∧ fC m s ∧ TR S s) ?_ ?_ 400 (a + 1) s (by omega) (by omega) ⟨Nat.le_refl _, pr_0 S a, k2, k3⟩
        · intro q s ⟨_, j1, j2, j3⟩
          right
          refine ⟨s, ?_, ?_, j2, j3⟩
          · show f_X6_cardsToBurn_L68 _ _ (q + 1) _ _ = _
            rw [f_X6_cardsToBurn_L68, ev_g, c62 s j2, if_pos (nI_le (Nat.le_refl _) (by omega)), ev_v]
          · have j1 : prS S a = none := j1
            show (match fstP (fun a => (prS S a).isSome) a with | some m => some m | none => if (prS S a).isSome = true then some a else none) = none
            rw [k1, j1]; rfl
        · intro q b s hb ⟨j0, j1, j2, j3⟩
          obtain ⟨m5, x1, x2, x3⟩ := noFrost_e hw (crdF _ j2) j3 (pB a ||| pB b)
          show ((∃ m', f_X6_cardsToBurn_L68 _ _ (q + 1) _ _ = _ ∧ _) ∨ ∃ s' : zM, f_X6_cardsToBurn_L68 _ _ (q + 1) _ _ = _ ∧ _) ∨ ∃ s' : zM, f_X6_cardsToBurn_L68 _ _ (q + 1) _ _ = f_X6_cardsToBurn_L68 _ _ q _ _ ∧ _
          rw [f_X6_cardsToBurn_L68, ev_g, c62 s j2, if_neg (nI_ge hb (by omega)), show f_X6_noFrostWithout (((1 : Int32) <<< (nI a &&& 31)) ||| ((1 : Int32) <<< (nI b &&& 31))) s = _ from x1, ev_c]
          cases hv : nf S (pB a ||| pB b) with
          | true =>
            left; left
            have hp : prP S a b = true := by unfold prP; rw [hv]; simp; omega
            have e3 : prS S a = some b := fstP_at j1 hp hb
            have e4 : twoS S = some a := fstP_at k1 (by rw [e3]; rfl) ha
            have e : brn S = some (2, a, b) := by unfold brn; rw [if_neg (by rw [hnf]; decide), g1, e4]; show some (2, a, (prS S a).getD 0) = _; rw [e3]; rfl
            rw [if_neg nb0, e]
            exact ⟨m5, rfl, fC_tr j2 x2⟩
          | false =>
            right
            rw [if_pos (show bI false = 0 from rfl), ev_v, nI_1]
            exact ⟨m5, rfl, by omega, pr_more j1 (by unfold prP; rw [hv]; simp), fC_tr j2 x2, x3⟩
    · intro n a s ha ⟨g1, g2, g3⟩
      obtain ⟨m5, x1, x2, x3⟩ := noFrost_e hw (crdF _ g2) g3 (pB a)
      show (∃ m', f_X6_cardsToBurn_L20 _ (n + 1) _ _ = _ ∧ _) ∨ ∃ s' : zM, f_X6_cardsToBurn_L20 _ (n + 1) _ _ = f_X6_cardsToBurn_L20 _ n _ _ ∧ _
      rw [f_X6_cardsToBurn_L20, ev_g, c62 s g2, if_neg (nI_ge ha (by omega)), show f_X6_noFrostWithout ((1 : Int32) <<< (nI a &&& 31)) s = _ from x1, ev_c]
      cases hv : nf S (pB a) with
      | true =>
        left
        have e3 : oneS S = some a := fstP_at g1 hv ha
        have e : brn S = some (1, a, 0) := by unfold brn; rw [if_neg (by rw [hnf]; decide), e3]
        rw [if_neg nb0, e]
        exact ⟨m5, rfl, fC_tr g2 x2⟩
      | false =>
        right
        rw [if_pos (show bI false = 0 from rfl), ev_v, nI_1]
        refine ⟨m5, rfl, ?_, fC_tr g2 x2, x3⟩
        show (match fstP (fun a => nf S (pB a)) a with | some m => some m | none => if nf S (pB a) = true then some a else none) = none
        rw [g1, hv]; rfl
/-- what the reference's row holds -/
def brR (x : Option (Nat × Nat × Nat)) (m : zM) : Prop := match x with
  | none => True
  | some y => (1 ≤ y.1 → m 128 0 = nI y.2.1) ∧ (2 ≤ y.1 → m 128 1 = nI y.2.2)
theorem MBu_up {m : zM} (h : MBu S m) {i : Nat} {v : Int32} : MBu S (zup m 128 i v) := by
  obtain ⟨⟨h1, h2⟩, b, h3⟩ := h
  refine ⟨⟨frM_up h1 (by omega), ?_⟩, b, MN_up h3 (by omega) (by omega) (by omega)⟩
  unfold MA
  rw [zup_n (show 100 ≠ 128 by omega), zup_n (show 104 ≠ 128 by omega), zup_n (show 105 ≠ 128 by omega), zup_n (show 106 ≠ 128 by omega), zup_n (show 107 ≠ 128 by omega), zup_n (show 109 ≠ 128 by omega), zup_n (show 110 ≠ 128 by omega), zup_n (show 111 ≠ 128 by omega)]
  exact h2
theorem burnBy_e (hw : wfS S) (h : frM S μ) : ∃ μ', f_X7_burnBy μ = some (brM (brn S), μ') ∧ MB S μ' ∧ brR (brn S) μ' := by
  have zm := zMt
  have hcn := hw.2.2.1
  unfold f_X7_burnBy
  obtain ⟨m1, e1, b1, b3⟩ := asTold_e hw h
  rw [e1, ev_c]
  obtain ⟨m3, d1, d2, -⟩ := isBurnt_e hw ⟨b1, _, b3⟩ 0
  rw [d1, ev_c]
  have c11 : ∀ s, MBu S s → s 100 11 = nI (cn S) := fun s hs => hs.1.1.2.1.trans hcn.1
  cases hnf : nf S 0 with
  | true =>
    have e : brn S = some (0, 0, 0) := by unfold brn; rw [if_pos hnf]
    rw [if_neg nb0, e]
    exact ⟨m3, rfl, d2.1, fun q => absurd q (by show ¬ 1 ≤ 0; omega), fun q => absurd q (by show ¬ 2 ≤ 0; omega)⟩
  | false =>
    rw [if_pos (show bI false = 0 from rfl)]
    refine loop_P (fun n i (s : zM) => f_X7_burnBy_L16 (fun μ => f_X7_burnBy_L51 (fun μ => some ((-1 : Int32), μ)) 400 (0 : Int32) μ) n i s) (fun R => ∃ m', R = some (brM (brn S), m') ∧ MB S m' ∧ brR (brn S) m') (cn S) (fun a s => fstP (fun a => nf S (pB a)) a = none ∧ MBu S s) ?_ ?_ 400 0 m3 (by omega) (by omega) ⟨rfl, d2⟩
    · intro n s ⟨g1, g2⟩
      show ∃ m', f_X7_burnBy_L16 _ (n + 1) _ _ = _ ∧ _
      rw [f_X7_burnBy_L16, ev_g, c11 s g2, if_pos (nI_le (Nat.le_refl _) (by omega))]
      have g1 : oneS S = none := g1
      refine loop_P (fun n i (s : zM) => f_X7_burnBy_L51 (fun μ => some ((-1 : Int32), μ)) n i s) (fun R => ∃ m', R = some (brM (brn S), m') ∧ MB S m' ∧ brR (brn S) m') (cn S) (fun a s => fstP (fun a => (prS S a).isSome) a = none ∧ MBu S s) ?_ ?_ 400 0 s (by omega) (by omega) ⟨rfl, g2⟩
      · intro n s ⟨k1, k2⟩
        have k1 : twoS S = none := k1
        have e : brn S = none := by unfold brn; rw [if_neg (by rw [hnf]; decide), g1, k1]
        refine ⟨s, ?_, k2.1, by rw [e]; trivial⟩
        show f_X7_burnBy_L51 _ (n + 1) _ _ = _
        rw [f_X7_burnBy_L51, ev_g, c11 s k2, if_pos (nI_le (Nat.le_refl _) (by omega)), e]; rfl
      · intro n a s ha ⟨k1, k2⟩
        show (∃ m', f_X7_burnBy_L51 _ (n + 1) _ _ = _ ∧ _) ∨ ∃ s' : zM, f_X7_burnBy_L51 _ (n + 1) _ _ = f_X7_burnBy_L51 _ n _ _ ∧ _
        rw [f_X7_burnBy_L51, ev_g, c11 s k2, if_neg (nI_ge ha (by omega)), ev_v, nI_1]
        refine loop_P (fun q i (s : zM) => f_X7_burnBy_L63 (nI a) (fun μ => vI (nI (a + 1)) fun x16 => f_X7_burnBy_L51 (fun μ => some ((-1 : Int32), μ)) n x16 μ) q i s) (fun R => (∃ m', R = some (brM (brn S), m') ∧ MB S m' ∧ brR (brn S) m') ∨ ∃ s' : zM, R = f_X7_burnBy_L51 (fun μ => some ((-1 : Int32), μ)) n (nI (a + 1)) s' ∧ fstP (fun a => (prS S a).isSome) (a + 1) = none ∧ MBu S s') (cn S) (fun b s => a + 1 ≤ b ∧ fstP (prP S a) b = none ∧ MBu S s) ?_ ?_ 400 (a + 1) s (by omega) (by omega) ⟨Nat.le_refl _, pr_0 S a, k2⟩
        · intro q s ⟨_, j1, j2⟩
          right
          refine ⟨s, ?_, ?_, j2⟩
          · show f_X7_burnBy_L63 _ _ (q + 1) _ _ = _
            rw [f_X7_burnBy_L63, ev_g, c11 s j2, if_pos (nI_le (Nat.le_refl _) (by omega)), ev_v]
          · have j1 : prS S a = none := j1
            show (match fstP (fun a => (prS S a).isSome) a with | some m => some m | none => if (prS S a).isSome = true then some a else none) = none
            rw [k1, j1]; rfl
        · intro q b s hb ⟨j0, j1, j2⟩
          have j5 : MBu S (zup (zup s 128 0 (nI a)) 128 1 (nI b)) := MBu_up (MBu_up j2)
          obtain ⟨m5, x1, x2, x3⟩ := isBurnt_e hw j5 (pB a ||| pB b)
          show ((∃ m', f_X7_burnBy_L63 _ _ (q + 1) _ _ = _ ∧ _) ∨ ∃ s' : zM, f_X7_burnBy_L63 _ _ (q + 1) _ _ = _ ∧ _) ∨ ∃ s' : zM, f_X7_burnBy_L63 _ _ (q + 1) _ _ = f_X7_burnBy_L63 _ _ q _ _ ∧ _
          rw [f_X7_burnBy_L63, ev_g, c11 s j2, if_neg (nI_ge hb (by omega)), show stI s 128 (0 : Int32) (nI a) = stI s 128 (nI 0) (nI a) from rfl, ev_st (by omega) (by omega), show stI (zup s 128 0 (nI a)) 128 (1 : Int32) (nI b) = stI (zup s 128 0 (nI a)) 128 (nI 1) (nI b) from rfl, ev_st (by omega) (by omega), show f_X7_isBurnt (((1 : Int32) <<< (nI a &&& 31)) ||| ((1 : Int32) <<< (nI b &&& 31))) _ = _ from x1, ev_c]
          cases hv : nf S (pB a ||| pB b) with
          | true =>
            left; left
            have hp : prP S a b = true := by unfold prP; rw [hv]; simp; omega
            have e3 : prS S a = some b := fstP_at j1 hp hb
            have e4 : twoS S = some a := fstP_at k1 (by rw [e3]; rfl) ha
            have e : brn S = some (2, a, b) := by unfold brn; rw [if_neg (by rw [hnf]; decide), g1, e4]; show some (2, a, (prS S a).getD 0) = _; rw [e3]; rfl
            rw [if_neg nb0, e]
            refine ⟨m5, rfl, x2.1, fun _ => ?_, fun _ => ?_⟩
            · rw [x3, zup_o (by omega), zup_e]
            · rw [x3, zup_e]
          | false =>
            right
            rw [if_pos (show bI false = 0 from rfl), ev_v, nI_1]
            exact ⟨m5, rfl, by omega, pr_more j1 (by unfold prP; rw [hv]; simp), x2⟩
    · intro n a s ha ⟨g1, g2⟩
      have j5 : MBu S (zup s 128 0 (nI a)) := MBu_up g2
      obtain ⟨m5, x1, x2, x3⟩ := isBurnt_e hw j5 (pB a)
      show (∃ m', f_X7_burnBy_L16 _ (n + 1) _ _ = _ ∧ _) ∨ ∃ s' : zM, f_X7_burnBy_L16 _ (n + 1) _ _ = f_X7_burnBy_L16 _ n _ _ ∧ _
      rw [f_X7_burnBy_L16, ev_g, c11 s g2, if_neg (nI_ge ha (by omega)), show stI s 128 (0 : Int32) (nI a) = stI s 128 (nI 0) (nI a) from rfl, ev_st (by omega) (by omega), show f_X7_isBurnt ((1 : Int32) <<< (nI a &&& 31)) _ = _ from x1, ev_c]
      cases hv : nf S (pB a) with
      | true =>
        left
        have e3 : oneS S = some a := fstP_at g1 hv ha
        have e : brn S = some (1, a, 0) := by unfold brn; rw [if_neg (by rw [hnf]; decide), e3]
        rw [if_neg nb0, e]
        exact ⟨m5, rfl, x2.1, fun _ => by rw [x3, zup_e], fun q => absurd q (by show ¬ 2 ≤ 1; omega)⟩
      | false =>
        right
        rw [if_pos (show bI false = 0 from rfl), ev_v, nI_1]
        refine ⟨m5, rfl, ?_, x2⟩
        show (match fstP (fun a => nf S (pB a)) a with | some m => some m | none => if nf S (pB a) = true then some a else none) = none
        rw [g1, hv]; rfl
def brV (x : Option (Nat × Nat × Nat)) (i : Int32) : Int32 := match x with
  | none => -1
  | some y => if i = -1 then nI y.1 else if i = 0 then (if 1 ≤ y.1 then nI y.2.1 else -1) else (if 2 ≤ y.1 then nI y.2.2 else -1)
theorem place_L (x i : Int32) (μ μ0 : zM) : ∀ n v2 v3, f_X6_placeOfBit_L4 x i (fun μ => some ((-1 : Int32), μ)) n v2 v3 μ = ((f_X6_placeOfBit_L4 x i (fun μ => some ((-1 : Int32), μ)) n v2 v3 μ0).map (fun y => y.1)).map (fun v => (v, μ))
  | 0, _, _ => rfl
  | n + 1, v2, v3 => by
    have ih := place_L x i μ μ0 n
    rw [f_X6_placeOfBit_L4, f_X6_placeOfBit_L4]
    by_cases c1 : (8 : Int32) ≤ v3
    · rw [if_pos c1, if_pos c1]; rfl
    · rw [if_neg c1, if_neg c1]
      by_cases c2 : ((x >>> (v3 &&& 31)) &&& (1 : Int32)) = 0
      · rw [if_pos c2, if_pos c2, ev_v, ev_v]; exact ih _ _
      · rw [if_neg c2, if_neg c2]
        by_cases c3 : v2 = i
        · rw [if_neg (fun q => q c3), if_neg (fun q => q c3)]; rfl
        · rw [if_pos c3, if_pos c3, ev_v, ev_v, ev_v, ev_v]; exact ih _ _
theorem place_e (x i : Int32) (μ : zM) : f_X6_placeOfBit x i μ = ((f_X6_placeOfBit x i (fun _ _ => 0)).map (fun y => y.1)).map (fun v => (v, μ)) := place_L x i μ _ 400 0 0
theorem place0 : (f_X6_placeOfBit 0 0 (fun _ _ => 0)).map (fun y => y.1) = some (-1) ∧ (f_X6_placeOfBit 0 1 (fun _ _ => 0)).map (fun y => y.1) = some (-1) := by decide +kernel
theorem place1 : ∀ a, a < 8 → (f_X6_placeOfBit (pB a) 0 (fun _ _ => 0)).map (fun y => y.1) = some (nI a) ∧ (f_X6_placeOfBit (pB a) 1 (fun _ _ => 0)).map (fun y => y.1) = some (-1) := by decide +kernel
theorem place2 : ∀ b, b < 8 → ∀ a, a < b → (f_X6_placeOfBit (pB a ||| pB b) 0 (fun _ _ => 0)).map (fun y => y.1) = some (nI a) ∧ (f_X6_placeOfBit (pB a ||| pB b) 1 (fun _ _ => 0)).map (fun y => y.1) = some (nI b) := by decide +kernel
theorem bct1 : ∀ a, a < 8 → (f_J6_bitCount_0f7a4 (pB a) (fun _ _ => 0)).elim 0 (fun x => x.1) = nI 1 := by decide +kernel
theorem bct2 : ∀ b, b < 8 → ∀ a, a < b → (f_J6_bitCount_0f7a4 (pB a ||| pB b) (fun _ _ => 0)).elim 0 (fun x => x.1) = nI 2 := by decide +kernel
theorem bct0 : (f_J6_bitCount_0f7a4 0 (fun _ _ => 0)).elim 0 (fun x => x.1) = nI 0 := by decide +kernel
theorem pBne1 : ∀ a, a < 8 → ¬ pB a = -1 := by decide +kernel
theorem pBne2 : ∀ b, b < 8 → ∀ a, a < b → ¬ (pB a ||| pB b) = -1 := by decide +kernel
theorem brV_c {x : Option (Nat × Nat × Nat)} (hx : brW x) {i : Int32} (hi : i = -1 ∨ i = 0 ∨ i = 1) (μ : zM) : (if ¬ brC x = (-1 : Int32) then (if ¬ i = (-1 : Int32) then cl (f_X6_placeOfBit (brC x) i μ) fun x6 μ => some (x6, μ) else cl (f_J6_bitCount_0f7a4 (brC x) μ) fun x7 μ => some (x7, μ)) else some ((-1 : Int32), μ)) = some (brV x i, μ) := by
  cases x with
  | none => rw [if_neg (fun q => q rfl)]; rfl
  | some y =>
    obtain ⟨c, a, b⟩ := y
    have key : ∀ X : Int32, brC (some (c, a, b)) = X → ¬ X = -1 → ∀ v0 v1 vc, (f_X6_placeOfBit X 0 (fun _ _ => 0)).map (fun y => y.1) = some v0 → (f_X6_placeOfBit X 1 (fun _ _ => 0)).map (fun y => y.1) = some v1 → (f_J6_bitCount_0f7a4 X (fun _ _ => 0)).elim 0 (fun x => x.1) = vc → brV (some (c, a, b)) (-1) = vc → brV (some (c, a, b)) 0 = v0 → brV (some (c, a, b)) 1 = v1 → (if ¬ brC (some (c, a, b)) = (-1 : Int32) then (if ¬ i = (-1 : Int32) then cl (f_X6_placeOfBit (brC (some (c, a, b))) i μ) fun x6 μ => some (x6, μ) else cl (f_J6_bitCount_0f7a4 (brC (some (c, a, b))) μ) fun x7 μ => some (x7, μ)) else some ((-1 : Int32), μ)) = some (brV (some (c, a, b)) i, μ) := by
      intro X hX hne v0 v1 vc p0 p1 pc r0 r1 r2
      rw [hX, if_pos hne]
      rcases hi with rfl | rfl | rfl
      · rw [if_neg (fun q => q rfl)]
        obtain ⟨v, z1, z2⟩ := bcount X μ
        rw [z1, ev_c, z2, pc, r0]
      · rw [if_pos (by decide), place_e, p0, r1]; rfl
      · rw [if_pos (by decide), place_e, p1, r2]; rfl
    rcases hx _ rfl with h0 | ⟨h1, h2⟩ | ⟨h1, h2, h3⟩
    · have h0 : c = 0 := h0
      subst h0
      exact key 0 rfl (by decide) (-1) (-1) (nI 0) place0.1 place0.2 bct0 rfl rfl rfl
    · have h1 : c = 1 := h1
      have h2 : a < 8 := h2
      subst h1
      exact key (pB a) rfl (pBne1 a h2) (nI a) (-1) (nI 1) (place1 a h2).1 (place1 a h2).2 (bct1 a h2) rfl rfl rfl
    · have h1 : c = 2 := h1
      have h2 : a < b := h2
      have h3 : b < 8 := h3
      subst h1
      exact key (pB a ||| pB b) rfl (pBne2 b h3 a h2) (nI a) (nI b) (nI 2) (place2 b h3 a h2).1 (place2 b h3 a h2).2 (bct2 b h3 a h2) rfl rfl rfl
theorem wi_m1 {a : Int32} (h : wi a (-1) 1 = true) : a = -1 ∨ a = 0 ∨ a = 1 := by
  unfold wi at h
  simp only [Bool.and_eq_true, Bool.not_eq_true', decide_eq_false_iff_not] at h
  obtain ⟨h1, h2⟩ := h
  rw [Int32.lt_iff_toInt_lt] at h1 h2
  have e1 : (-1 : Int32).toInt = -1 := by decide
  have e2 : (1 : Int32).toInt = 1 := by decide
  have e0 : (0 : Int32).toInt = 0 := by decide
  have : a.toInt = -1 ∨ a.toInt = 0 ∨ a.toInt = 1 := by omega
  rcases this with q | q | q
  · exact Or.inl (Int32.toInt_inj.mp (by rw [q, e1]))
  · exact Or.inr (Or.inl (Int32.toInt_inj.mp (by rw [q, e0])))
  · exact Or.inr (Or.inr (Int32.toInt_inj.mp (by rw [q, e2])))
theorem wi_m1' {a : Int32} (h : a = -1 ∨ a = 0 ∨ a = 1) : wi a (-1) 1 = true := by
  rcases h with rfl | rfl | rfl <;> decide
theorem cq_burn (hw : wfS S) (h : CS S μ) {i : Int32} (hi : i = -1 ∨ i = 0 ∨ i = 1) : ∃ μ', f_X6_burn i μ = some (brV (brn S) i, μ') ∧ CS S μ' := by
  unfold f_X6_burn
  obtain ⟨m1, e1, c1, c2, -⟩ := told_e hw h
  obtain ⟨m2, e2, c3⟩ := cardsToBurn_e hw c1 c2
  rw [within_e, wi_m1' hi, ev_c, if_pos nb0, e1, ev_c, e2, ev_c, brV_c (brn_w hw) hi]
  exact ⟨m2, rfl, CS_K hw c1 (fK_C c3)⟩
theorem ofRow_e {x : Option (Nat × Nat × Nat)} (hx : brW x) {i : Int32} (hi : i = -1 ∨ i = 0 ∨ i = 1) {m : zM} (hr : brR x m) : f_X7_ofRow (brM x) i m = some (brV x i, m) := by
  have zm := zMt
  unfold f_X7_ofRow
  have i0 : (0 : Int32) = nI 0 := rfl
  cases x with
  | none =>
    rcases hi with rfl | rfl | rfl
    · rw [if_neg (fun q => q rfl)]; rfl
    · rw [if_pos (by decide), if_pos (show brM none ≤ 0 by decide)]; rfl
    · rw [if_pos (by decide), if_pos (show brM none ≤ 1 by decide)]; rfl
  | some y =>
    obtain ⟨c, a, b⟩ := y
    have hc : c = 0 ∨ c = 1 ∨ c = 2 := by
      rcases hx _ rfl with h0 | ⟨h1, -⟩ | ⟨h1, -⟩
      · exact Or.inl h0
      · exact Or.inr (Or.inl h1)
      · exact Or.inr (Or.inr h1)
    obtain ⟨r1, r2⟩ := hr
    rcases hi with rfl | rfl | rfl
    · rw [if_neg (fun q => q rfl)]; rfl
    · rw [if_pos (by decide)]
      show (if nI c ≤ nI 0 then _ else ldI m 128 (nI 0) _) = some (if 1 ≤ c then nI a else -1, m)
      rw [ev_ld (by omega) (by omega)]
      by_cases q : 1 ≤ c
      · rw [if_neg (nI_ge (by omega) (by omega)), if_pos q, r1 q]
      · rw [if_pos (nI_le (by omega) (by omega)), if_neg q]
    · rw [if_pos (by decide)]
      show (if nI c ≤ nI 1 then _ else ldI m 128 (nI 1) _) = some (if 2 ≤ c then nI b else -1, m)
      rw [ev_ld (by omega) (by omega)]
      by_cases q : 2 ≤ c
      · rw [if_neg (nI_ge (by omega) (by omega)), if_pos q, r2 q]
      · rw [if_pos (nI_le (by omega) (by omega)), if_neg q]
end BU
section BUo
variable {μC μM : zM}
theorem op_burn (a1 : Int32) (h : zRel μC μM) : ∃ (r : Int32) (μC1 μM1 : zM), f_X6_burn a1 μC = some (r, μC1) ∧ f_X7_burn a1 μM = some (r, μM1) ∧ zRel μC1 μM1 := by
  cases c : wi a1 (-1) 1 with
  | false =>
    refine ask2 (r := -2) h ⟨μC, ?_, h.2⟩ ⟨μM, ?_, frM_rf⟩
    · unfold f_X6_burn
      rw [within_e, c, ev_c, if_neg (fun q => q rfl)]
    · unfold f_X7_burn
      rw [in_e, c, ev_c, if_pos (show bI false = 0 from rfl)]
  | true =>
    have hi := wi_m1 c
    refine ask2 h (cq_burn h.1 h.2 hi) ?_
    obtain ⟨m3, e3, hB3, hr⟩ := burnBy_e h.1 frM_rf
    refine ⟨m3, ?_, hB3.1⟩
    unfold f_X7_burn
    rw [in_e, c, ev_c, if_neg nb0, e3, ev_c, ofRow_e (brn_w h.1) hi hr, ev_c]
end BUo
