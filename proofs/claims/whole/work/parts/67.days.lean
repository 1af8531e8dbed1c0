-- PURE: the days, one after the other
def fr4 (r0 : Nat) (μ μ' : zM) : Prop := ∀ a, a ≠ r0 + 9 → a ≠ r0 + 10 → a ≠ r0 + 11 → a ≠ r0 + 12 → μ' a = μ a
theorem onS_let {T : zT2} {σ : zSS} {d i b v : Nat} : onS T (letS b d v σ) d i = (onS T σ d i && !decide (i = b)) := by
  by_cases c : i = b
  · subst c; simp [onS, letS]
  · simp [onS, letS, c]
theorem best_on {T : zT2} {σ : zSS} {d b : Nat} (h : bestS T σ d = some b) : b < T 0 0 ∧ onS T σ d b = true ∧ T 5 b ≤ d := by
  obtain ⟨h1, h2⟩ := bestBy_lt h
  simp only [Bool.and_eq_true, decide_eq_true_eq] at h2
  exact ⟨h1, h2.1, h2.2⟩
theorem stA (T : zT2) (d : Nat) (σ : zSS) (k : Nat) : (dayA T d σ).2.1 k = σ.2.1 k ∧ ((¬ (T 3 k = d ∧ T 1 k = 2) ∧ (dayA T d σ).1 k = σ.1 k ∧ (dayA T d σ).2.2 k = σ.2.2 k) ∨ ((T 3 k = d ∧ T 1 k = 2) ∧ (dayA T d σ).1 k = some d ∧ (dayA T d σ).2.2 k = some 2)) := by
  refine ⟨rfl, ?_⟩
  by_cases c : T 3 k = d ∧ T 1 k = 2
  · right; exact ⟨c, if_pos c, if_pos c⟩
  · left; exact ⟨c, if_neg c, if_neg c⟩
theorem stB (T : zT2) (d : Nat) (σ : zSS) (k : Nat) : (dayB T d σ).1 k = σ.1 k ∧ (dayB T d σ).2.2 k = σ.2.2 k ∧ ((dayB T d σ).2.1 k = σ.2.1 k ∨ (onS T σ d k = true ∧ T 1 k = 3 ∧ (dayB T d σ).2.1 k = some d)) := by
  cases hm : doorS T d with
  | none =>
    have e : dayB T d σ = σ := by unfold dayB; rw [hm]
    rw [e]; exact ⟨rfl, rfl, Or.inl rfl⟩
  | some m =>
    by_cases c : T 6 m = 0
    · have e : dayB T d σ = sunS T d σ := by unfold dayB; rw [hm]; exact if_pos c
      rw [e]
      refine ⟨rfl, rfl, ?_⟩
      by_cases c2 : onS T σ d k = true ∧ T 1 k = 3
      · right; exact ⟨c2.1, c2.2, if_pos c2⟩
      · left; exact if_neg c2
    · have e : dayB T d σ = σ := by unfold dayB; rw [hm]; exact if_neg c
      rw [e]; exact ⟨rfl, rfl, Or.inl rfl⟩
theorem stC (T : zT2) (d : Nat) (σ : zSS) (k : Nat) : (dayC T d σ).2.1 k = σ.2.1 k ∧ (((dayC T d σ).1 k = σ.1 k ∧ (dayC T d σ).2.2 k = σ.2.2 k) ∨ ∃ m, doorS T d = some m ∧ bestS T σ d = some k ∧ (dayC T d σ).1 k = some d ∧ (dayC T d σ).2.2 k = some (nmS T m k)) := by
  unfold dayC
  cases hm : doorS T d with
  | none => exact ⟨rfl, Or.inl ⟨rfl, rfl⟩⟩
  | some m =>
    cases hb : bestS T σ d with
    | none => exact ⟨rfl, Or.inl ⟨rfl, rfl⟩⟩
    | some b =>
      refine ⟨rfl, ?_⟩
      by_cases c : k = b
      · subst c; right; exact ⟨m, rfl, rfl, if_pos rfl, if_pos rfl⟩
      · left; exact ⟨if_neg c, if_neg c⟩
theorem stD (T : zT2) (d : Nat) (σ : zSS) (k : Nat) : (dayD T d σ).1 k = σ.1 k ∧ (dayD T d σ).2.2 k = σ.2.2 k ∧ ((dayD T d σ).2.1 k = σ.2.1 k ∧ ¬ (onS T σ d k = true ∧ T 2 k ≤ d - T 3 k + 1) ∨ (onS T σ d k = true ∧ T 2 k ≤ d - T 3 k + 1 ∧ (dayD T d σ).2.1 k = some d)) := by
  refine ⟨rfl, rfl, ?_⟩
  by_cases c2 : onS T σ d k = true ∧ T 2 k ≤ d - T 3 k + 1
  · right; exact ⟨c2.1, c2.2, if_pos c2⟩
  · left; exact ⟨if_neg c2, c2⟩
/-- what a day does to one caller -/
theorem dayAll (T : zT2) (d k : Nat) : ((sim T (d + 1)).1 k = (sim T d).1 k ∧ (sim T (d + 1)).2.2 k = (sim T d).2.2 k ∨ ((sim T d).1 k = none ∨ T 3 k = d) ∧ T 3 k ≤ d ∧ (sim T (d + 1)).1 k = some d ∧ ∃ v, (sim T (d + 1)).2.2 k = some v ∧ (v = 2 ∨ k < T 0 0 ∧ ∃ m, v = nmS T m k)) ∧ ((sim T (d + 1)).2.1 k = (sim T d).2.1 k ∨ (sim T d).2.1 k = none ∧ T 3 k ≤ d ∧ (sim T (d + 1)).2.1 k = some d) := by
  have e : sim T (d + 1) = dayD T d (dayC T d (dayB T d (dayA T d (sim T d)))) := rfl
  rw [e]
  obtain ⟨a1, a2⟩ := stA T d (sim T d) k
  generalize dayA T d (sim T d) = σa at a1 a2 ⊢
  obtain ⟨b1, b2, b3⟩ := stB T d σa k
  generalize dayB T d σa = σb at b1 b2 b3 ⊢
  obtain ⟨c1, c2⟩ := stC T d σb k
  generalize dayC T d σb = σc at c1 c2 ⊢
  obtain ⟨d1, d2, d3⟩ := stD T d σc k
  generalize dayD T d σc = σd at d1 d2 d3 ⊢
  rw [d1, d2]
  constructor
  · rcases c2 with ⟨c2, c3⟩ | ⟨m, c4, c5, c6, c7⟩
    · rw [c2, c3, b1, b2]
      rcases a2 with ⟨-, a2, a3⟩ | ⟨a2, a3, a4⟩
      · left; exact ⟨a2, a3⟩
      · right; exact ⟨Or.inr a2.1, by omega, a3, 2, a4, Or.inl rfl⟩
    · right
      obtain ⟨q1, q2, -⟩ := best_on c5
      obtain ⟨-, q3, q4, -⟩ := onS_lt q2
      refine ⟨?_, q3, c6, _, c7, Or.inr ⟨q1, m, rfl⟩⟩
      rw [b1] at q4
      rcases a2 with ⟨-, a2, -⟩ | ⟨a2, -, -⟩
      · left; rw [← a2]; exact q4
      · right; exact a2.1
  · rcases d3 with ⟨d3, -⟩ | ⟨d3, -, d4⟩
    · rw [d3, c1]
      rcases b3 with b3 | ⟨b3, -, b4⟩
      · left; rw [b3, a1]
      · right
        obtain ⟨-, q3, -, q5⟩ := onS_lt b3
        exact ⟨by rw [← a1]; exact q5, q3, b4⟩
    · right
      obtain ⟨-, q3, -, q5⟩ := onS_lt d3
      refine ⟨?_, q3, d4⟩
      rw [c1] at q5
      rcases b3 with b3 | ⟨-, -, b4⟩
      · rw [← a1, ← b3]; exact q5
      · rw [b4] at q5; cases q5
theorem sim_I1 (T : zT2) : ∀ (d k : Nat), d ≤ T 3 k → (sim T d).1 k = none ∧ (sim T d).2.1 k = none ∧ (sim T d).2.2 k = none
  | 0, k, _ => ⟨rfl, rfl, rfl⟩
  | d + 1, k, h => by
    obtain ⟨h1, h2, h3⟩ := sim_I1 T d k (by omega)
    obtain ⟨x, y⟩ := dayAll T d k
    refine ⟨?_, ?_, ?_⟩
    · rcases x with ⟨x, -⟩ | ⟨-, x, -⟩
      · rw [x]; exact h1
      · omega
    · rcases y with y | ⟨-, y, -⟩
      · rw [y]; exact h2
      · omega
    · rcases x with ⟨-, x⟩ | ⟨-, x, -⟩
      · rw [x]; exact h3
      · omega
theorem nmS_lt {T : zT2} (hw : wT T) {m k : Nat} (hk : k < T 0 0) : nmS T m k < 4 := by
  unfold nmS
  have := (hw.2.2.1 k hk).1
  split <;> omega
/-- where it stands in time; what comes in has a name -/
theorem sim_I2 {T : zT2} (hw : wT T) : ∀ (d k : Nat), (∀ c, (sim T d).1 k = some c → c < d ∧ T 3 k ≤ c) ∧ (∀ c, (sim T d).2.1 k = some c → c < d ∧ T 3 k ≤ c) ∧ (∀ v, (sim T d).2.2 k = some v → v < 4) ∧ ((sim T d).1 k = none ↔ (sim T d).2.2 k = none)
  | 0, k => ⟨(fun c h => by cases h), (fun c h => by cases h), (fun v h => by cases h), ⟨fun _ => rfl, fun _ => rfl⟩⟩
  | d + 1, k => by
    obtain ⟨h1, h2, h3, h4⟩ := sim_I2 hw d k
    obtain ⟨x, y⟩ := dayAll T d k
    refine ⟨fun c hc => ?_, fun c hc => ?_, fun v hv => ?_, ?_⟩
    · rcases x with ⟨x, -⟩ | ⟨-, x, x2, -⟩
      · rw [x] at hc; have := h1 c hc; omega
      · rw [x2] at hc; cases hc; omega
    · rcases y with y | ⟨-, y, y2⟩
      · rw [y] at hc; have := h2 c hc; omega
      · rw [y2] at hc; cases hc; omega
    · rcases x with ⟨-, x⟩ | ⟨-, -, -, w, x, x2⟩
      · rw [x] at hv; exact h3 v hv
      · rw [x] at hv; cases hv
        rcases x2 with x2 | ⟨x2, m, x3⟩
        · omega
        · rw [x3]; exact nmS_lt hw x2
    · rcases x with ⟨x, x2⟩ | ⟨-, -, x, w, x2, -⟩
      · rw [x, x2]; exact h4
      · rw [x, x2]; exact ⟨(fun h => by cases h), (fun h => by cases h)⟩
theorem sim_wS {T : zT2} (hw : wT T) {d : Nat} (hd : d ≤ 24) : wS T (sim T d) := fun k _ => by
  obtain ⟨h1, h2, h3, -⟩ := sim_I2 hw d k
  exact ⟨fun c hc => by have := h1 c hc; omega, fun c hc => by have := h2 c hc; omega, h3⟩
section LV2
variable {r0 : Nat} {μ μ1 : zM} {T : zT2} {σ σ' : zSS}
theorem tail_e (hr : hO r0) (hw : wT T) (hT : HT r0 μ T) (hR : HR r0 μ T σ) {d m : Nat} (hd : d < 24) (hm : doorS T d = some m) {x y : Int32} (hx : ∀ i, i < 31 → tb x i = onS T σ d i) (hy : y = if T 6 m = 0 then 1 else 0) :
    ∃ v μ', (cl (f_X2_longestInvited r0 x (nI d) μ) fun x6 μ => (if ¬ x6 = (-1 : Int32) then jn (fun (y8 : Int32) (μ : zM) => cl (f_X2_letIn r0 x6 (nI d) y8 μ) fun _ μ => some ((x &&& (((1 : Int32) <<< (x6 &&& 31)) ^^^ (-1 : Int32))), μ)) fun j94_3 => (if y = 0 then ldI μ (r0 + 1) x6 fun x10 => gd (¬ (4 : Int32) = 0) (j94_3 ((x10 + (1 : Int32)) - (x10 + (1 : Int32)) / (4 : Int32) * (4 : Int32)) μ) else ldI μ (r0 + 1) x6 fun x11 => j94_3 x11 μ) else some (x, μ))) = some (v, μ') ∧ HR r0 μ' T (dayC T d σ) ∧ fr3 r0 μ μ' ∧ ∀ i, i < 31 → tb v i = onS T (dayC T d σ) d i := by
  obtain ⟨z1, z2, z3, z4, z5, z6, z7, z8, z9, z10, z11, z12⟩ := hz hr
  have hn := hw.1
  rw [longest_e hr hw hT hd hx, ev_c]
  cases hb : bestS T σ d with
  | none =>
    have e : dayC T d σ = σ := by unfold dayC; rw [hm, hb]
    rw [e]
    exact ⟨x, μ, by rfl, hR, fr3_rf, hx⟩
  | some b =>
    obtain ⟨hb1, hb2, -⟩ := best_on hb
    have e : dayC T d σ = letS b d (nmS T m b) σ := by unfold dayC; rw [hm, hb]
    have e1 := hT.2.2.1 1 (by omega) (by omega) b hb1
    have hk2 := hw.2.2.1 b hb1
    have hval : (if y = 0 then ldI μ (r0 + 1) (nI b) fun x10 => gd (¬ (4 : Int32) = 0) ((fun (y8 : Int32) (μ : zM) => cl (f_X2_letIn r0 (nI b) (nI d) y8 μ) fun _ μ => some ((x &&& (((1 : Int32) <<< (nI b &&& 31)) ^^^ (-1 : Int32))), μ)) ((x10 + (1 : Int32)) - (x10 + (1 : Int32)) / (4 : Int32) * (4 : Int32)) μ) else ldI μ (r0 + 1) (nI b) fun x11 => (fun (y8 : Int32) (μ : zM) => cl (f_X2_letIn r0 (nI b) (nI d) y8 μ) fun _ μ => some ((x &&& (((1 : Int32) <<< (nI b &&& 31)) ^^^ (-1 : Int32))), μ)) x11 μ) = some (x &&& (((1 : Int32) <<< (nI b &&& 31)) ^^^ (-1 : Int32)), zup (zup μ (r0 + 10) b (nI d)) (r0 + 12) b (nI (nmS T m b))) := by
      rw [ev_ld (by omega) (by omega), ev_ld (by omega) (by omega), e1, ev_gd (by decide), nI_1]
      rw [show nI (T 1 b + 1) - nI (T 1 b + 1) / (4 : Int32) * (4 : Int32) = nI ((T 1 b + 1) % 4) from pk_rem (a := T 1 b + 1) (d := 4) (by omega) (by omega) (by omega)]
      unfold nmS
      by_cases c : T 6 m = 0
      · rw [hy]; simp only [c, if_true]; rw [if_neg (by decide), letIn_e hr (by omega)]; rfl
      · rw [hy]; rw [if_neg c, if_pos rfl, if_neg c]; dsimp only; rw [letIn_e hr (by omega)]; rfl
    rw [e]
    refine ⟨_, _, (if_pos (show ¬ oI (some b) = -1 from nI_m1 (by omega))).trans hval, ?_, ?_, ?_⟩
    · intro i hi
      obtain ⟨r1, r2, r3⟩ := hR i hi
      rw [zup_n (show r0 + 10 ≠ r0 + 12 by omega), zup_n (show r0 + 11 ≠ r0 + 12 by omega), zup_n (show r0 + 11 ≠ r0 + 10 by omega)]
      by_cases c : i = b
      · subst c
        rw [zup_e, zup_e]
        simp only [letS, if_true, oI, r2, and_self]
      · rw [zup_o c, zup_o c, zup_n (show r0 + 12 ≠ r0 + 10 by omega)]
        simp only [letS, c, if_false]
        exact ⟨r1, r2, r3⟩
    · exact fun a a1 a2 a3 => by rw [zup_n a3, zup_n a1]
    · intro i hi
      rw [tb_not (by omega) hi, hx i hi, onS_let]
theorem openDoor_e (hr : hO r0) (hw : wT T) (hT : HT r0 μ T) (hR : HR r0 μ T σ) {d : Nat} (hd : d < 24) {x : Int32} (hx : ∀ i, i < 31 → tb x i = onS T σ d i) :
    ∃ v μ', f_X2_openDoor r0 x (nI d) μ = some (v, μ') ∧ HR r0 μ' T (dayC T d (dayB T d σ)) ∧ fr3 r0 μ μ' ∧ ∀ i, i < 31 → tb v i = onS T (dayC T d (dayB T d σ)) d i := by
  obtain ⟨z1, z2, z3, z4, z5, z6, z7, z8, z9, z10, z11, z12⟩ := hz hr
  have hn := hw.2.1
  unfold f_X2_openDoor
  rw [manAt_e hr hw hT hd, ev_c]
  cases hm : doorS T d with
  | none =>
    have e1 : dayB T d σ = σ := by unfold dayB; rw [hm]
    have e2 : dayC T d σ = σ := by unfold dayC; rw [hm]
    rw [e1, e2]
    exact ⟨x, μ, by rfl, hR, fr3_rf, hx⟩
  | some m =>
    obtain ⟨hm1, -, -⟩ := fstP_lt hm
    have e6 := hT.2.2.2 6 (by omega) (by omega) m hm1
    have hm2 := hw.2.2.2 m hm1
    rw [if_pos (show ¬ oI (some m) = -1 from nI_m1 (by omega))]
    show ∃ v μ', ldI μ (r0 + 6) (nI m) _ = _ ∧ _
    rw [ev_ld (by omega) (by omega), e6]
    simp only [ev_j]
    by_cases c : T 6 m = 0
    · have e1 : dayB T d σ = sunS T d σ := by unfold dayB; rw [hm]; exact if_pos c
      rw [e1, if_neg (show ¬ ¬ nI (T 6 m) = 0 from fun q => q (by rw [c]; rfl)), if_neg (show ¬ (1 : Int32) = 0 by decide)]
      obtain ⟨v1, μ2, f1, f2, f3, f4⟩ := sunshines_e hr hw hT hR hd hx
      rw [f1, ev_c]
      obtain ⟨v2, μ3, g1, g2, g3, g4⟩ := tail_e hr hw (HT_fr hT f3) f2 hd hm f4 (y := 1) (by rw [if_pos c])
      simp only [ev_j] at g1
      exact ⟨v2, μ3, g1, g2, fr3_tr f3 g3, g4⟩
    · have e1 : dayB T d σ = σ := by unfold dayB; rw [hm]; exact if_neg c
      rw [e1, if_pos (show ¬ nI (T 6 m) = 0 from fun q => c ((nI_eq (by omega) (by omega)).mp q)), if_pos trivial]
      obtain ⟨v2, μ3, g1, g2, g3, g4⟩ := tail_e hr hw hT hR hd hm hx (y := 0) (by rw [if_neg c])
      simp only [ev_j] at g1
      exact ⟨v2, μ3, g1, g2, g3, g4⟩
theorem fr43 (h : fr3 r0 μ μ1) : fr4 r0 μ μ1 := fun a _ a1 a2 a3 => h a a1 a2 a3
theorem fr4_tr {μ2 : zM} (h : fr4 r0 μ μ1) (h2 : fr4 r0 μ1 μ2) : fr4 r0 μ μ2 := fun a x y z w => (h2 a x y z w).trans (h a x y z w)
theorem HT_fr4 (h : HT r0 μ T) (hf : fr4 r0 μ μ1) : HT r0 μ1 T := by
  obtain ⟨h1, h2, h3, h4⟩ := h
  refine ⟨?_, ?_, fun j a b k hk => ?_, fun j a b k hk => ?_⟩
  · rw [hf r0 (by omega) (by omega) (by omega) (by omega)]; exact h1
  · rw [hf r0 (by omega) (by omega) (by omega) (by omega)]; exact h2
  · rw [hf _ (by omega) (by omega) (by omega) (by omega)]; exact h3 j a b k hk
  · rw [hf _ (by omega) (by omega) (by omega) (by omega)]; exact h4 j a b k hk
theorem gather_e (hr : hO r0) (hw : wT T) (hT : HT r0 μ T) : ∃ μ', f_X2_gather r0 μ = some ((), μ') ∧ HR r0 μ' T sim0 ∧ fr4 r0 μ μ' ∧ ∀ d, d < 24 → ∀ i, i < 31 → tb (μ' (r0 + 9) d) i = (decide (i < T 0 0) && decide (T 3 i = d)) := by
  obtain ⟨z1, z2, z3, z4, z5, z6, z7, z8, z9, z10, z11, z12⟩ := hz hr
  have hn := hw.1
  unfold f_X2_gather
  refine loop_X (fun n i (m1 : zM) => f_X2_gather_L2 r0 (fun μ => f_X2_gather_L23 r0 (fun μ => some ((), μ)) 400 (0 : Int32) μ) n i m1) (fun R => ∃ μ', R = some ((), μ') ∧ HR r0 μ' T sim0 ∧ fr4 r0 μ μ' ∧ ∀ d, d < 24 → ∀ i, i < 31 → tb (μ' (r0 + 9) d) i = (decide (i < T 0 0) && decide (T 3 i = d))) 24
    (fun k m1 => fr4 r0 μ m1 ∧ ∀ d, d < k → m1 (r0 + 9) d = 0) ?_ ?_ 400 0 μ (by omega) (by omega) ⟨fun _ _ _ _ _ => rfl, fun d h => by omega⟩
  · intro n m1 ⟨h1, h2⟩
    show ∃ μ', f_X2_gather_L2 _ _ (n + 1) _ _ = _ ∧ _
    rw [f_X2_gather_L2, if_pos (show (24 : Int32) ≤ nI 24 from nI_le (Nat.le_refl _) (by omega))]
    refine loop_X (fun n i (m2 : zM) => f_X2_gather_L23 r0 (fun μ => some ((), μ)) n i m2) (fun R => ∃ μ', R = some ((), μ') ∧ HR r0 μ' T sim0 ∧ fr4 r0 μ μ' ∧ ∀ d, d < 24 → ∀ i, i < 31 → tb (μ' (r0 + 9) d) i = (decide (i < T 0 0) && decide (T 3 i = d))) (T 0 0)
      (fun k m2 => fr4 r0 μ m2 ∧ (∀ i, i < k → m2 (r0 + 10) i = -1 ∧ m2 (r0 + 11) i = -1 ∧ m2 (r0 + 12) i = -1) ∧ ∀ d, d < 24 → ∀ i, i < 31 → tb (m2 (r0 + 9) d) i = (decide (i < k) && decide (T 3 i = d))) ?_ ?_ 400 0 m1 (by omega) (by omega) ⟨h1, fun i h => by omega, fun d hd i hi => by rw [h2 d hd, tb_0]; simp⟩
    · intro n m2 ⟨g1, g2, g3⟩
      show ∃ μ', f_X2_gather_L23 _ _ (n + 1) _ _ = _ ∧ _
      rw [f_X2_gather_L23, ev_g, (HT_fr4 hT g1).1, if_pos (nI_le (Nat.le_refl _) (by omega))]
      exact ⟨m2, rfl, fun k hk => g2 k hk, g1, g3⟩
    · intro n k m2 hk ⟨g1, g2, g3⟩
      have hT2 := HT_fr4 hT g1
      have e3 := hT2.2.2.1 3 (by omega) (by omega) k hk
      have hk2 := hw.2.2.1 k hk
      show ∃ s' : zM, f_X2_gather_L23 _ _ (n + 1) _ _ = f_X2_gather_L23 _ _ n _ _ ∧ _
      rw [f_X2_gather_L23, ev_g, hT2.1, if_neg (nI_ge hk (by omega)), ev_st (by omega) (by omega), ev_st (by omega) (by omega), ev_st (by omega) (by omega)]
      have e4 : zup (zup (zup m2 (r0 + 10) k (-1)) (r0 + 11) k (-1)) (r0 + 12) k (-1) (r0 + 3) k = nI (T 3 k) := by
        rw [zup_n (by omega), zup_n (by omega), zup_n (by omega)]; exact e3
      rw [ev_ld (by omega) (by omega), e4, if_neg (nI_pos (by omega)), ev_ld (by omega) (by omega), e4, if_neg (show ¬ (24 : Int32) ≤ nI (T 3 k) from nI_ge (b := 24) (by omega) (by omega)), ev_ld (by omega) (by omega), e4, ev_ld (by omega) (by omega), ev_st (by omega) (by omega)]
      refine ⟨_, by simp only [ev_v, nI_1]; rfl, ?_, ?_, ?_⟩
      · exact fun a a0 a1 a2 a3 => by rw [zup_n a0, zup_n a3, zup_n a2, zup_n a1]; exact g1 a a0 a1 a2 a3
      · intro i hi
        rw [zup_n (show r0 + 10 ≠ r0 + 9 by omega), zup_n (show r0 + 11 ≠ r0 + 9 by omega), zup_n (show r0 + 12 ≠ r0 + 9 by omega), zup_n (show r0 + 10 ≠ r0 + 12 by omega), zup_n (show r0 + 11 ≠ r0 + 12 by omega), zup_n (show r0 + 10 ≠ r0 + 11 by omega)]
        by_cases c : i = k
        · subst c; rw [zup_e, zup_e, zup_e]; exact ⟨rfl, rfl, rfl⟩
        · rw [zup_o c, zup_o c, zup_o c, zup_n (show r0 + 11 ≠ r0 + 10 by omega), zup_n (show r0 + 12 ≠ r0 + 11 by omega), zup_n (show r0 + 12 ≠ r0 + 10 by omega)]
          exact g2 i (by omega)
      · intro d hd i hi
        have e9 : ∀ q, zup (zup (zup m2 (r0 + 10) k (-1)) (r0 + 11) k (-1)) (r0 + 12) k (-1) (r0 + 9) q = m2 (r0 + 9) q := fun q => by rw [zup_n (by omega), zup_n (by omega), zup_n (by omega)]
        by_cases c : d = T 3 k
        · subst c
          rw [zup_e, e9, tb_or (by omega) hi, g3 _ hd i hi]
          by_cases c2 : i = k
          · subst c2; simp
          · by_cases c3 : i < k
            · simp [c2, c3, Nat.lt_succ_of_lt c3]
            · have c4 : ¬ i < k + 1 := by omega
              simp [c2, c3, c4]
        · rw [zup_o c, e9, g3 d hd i hi]
          by_cases c2 : i = k
          · subst c2
            have : ¬ T 3 i = d := fun q => c q.symm
            simp [this]
          · by_cases c3 : i < k
            · simp [c3, Nat.lt_succ_of_lt c3]
            · have c4 : ¬ i < k + 1 := by omega
              simp [c3, c4]
  · intro n k m1 hk ⟨h1, h2⟩
    show ∃ s' : zM, f_X2_gather_L2 _ _ (n + 1) _ _ = f_X2_gather_L2 _ _ n _ _ ∧ _
    rw [f_X2_gather_L2, if_neg (show ¬ (24 : Int32) ≤ nI k from nI_ge (b := 24) hk (by omega)), ev_st (by omega) (by omega)]
    refine ⟨_, by simp only [ev_v, nI_1]; rfl, ?_, ?_⟩
    · exact fun a a0 a1 a2 a3 => by rw [zup_n a0]; exact h1 a a0 a1 a2 a3
    · intro d hd
      by_cases c : d = k
      · subst c; rw [zup_e]
      · rw [zup_o c]; exact h2 d (by omega)
theorem HR_same (h : HR r0 μ T σ) (hs : ∀ k, k < T 0 0 → σ'.1 k = σ.1 k ∧ σ'.2.1 k = σ.2.1 k ∧ σ'.2.2 k = σ.2.2 k) : HR r0 μ T σ' := fun k hk => by
  obtain ⟨h1, h2, h3⟩ := hs k hk
  rw [h1, h2, h3]; exact h k hk
theorem live_e (hr : hO r0) (hw : wT T) (hT : HT r0 μ T) : ∃ μ', f_X2_live r0 μ = some ((), μ') ∧ HR r0 μ' T (sim T 24) ∧ fr4 r0 μ μ' := by
  obtain ⟨z1, z2, z3, z4, z5, z6, z7, z8, z9, z10, z11, z12⟩ := hz hr
  have hn := hw.1
  unfold f_X2_live
  obtain ⟨μ0, g1, g2, g3, g4⟩ := gather_e hr hw hT
  rw [g1, ev_c]
  refine loop_X (fun n i (s : Int32 × zM) => f_X2_live_L8 r0 (fun μ => some ((), μ)) n s.1 i s.2) (fun R => ∃ μ', R = some ((), μ') ∧ HR r0 μ' T (sim T 24) ∧ fr4 r0 μ μ') 24
    (fun d s => HR r0 s.2 T (sim T d) ∧ fr4 r0 μ s.2 ∧ s.2 (r0 + 9) = μ0 (r0 + 9) ∧ ∀ i, i < 31 → tb s.1 i = (decide (i < T 0 0) && (decide (T 3 i < d) && (((sim T d).1 i).isNone && ((sim T d).2.1 i).isNone)))) ?_ ?_ 400 0 (0, μ0) (by omega) (by omega) ⟨g2, g3, rfl, fun i hi => by rw [tb_0]; simp⟩
  · intro n s ⟨h1, h2, _, _⟩
    show ∃ μ', f_X2_live_L8 _ _ (n + 1) _ _ _ = _ ∧ _
    rw [f_X2_live_L8, if_pos (show (24 : Int32) ≤ nI 24 from nI_le (Nat.le_refl _) (by omega))]
    exact ⟨s.2, rfl, h1, h2⟩
  · intro n d s hd ⟨h1, h2, h3, h4⟩
    show ∃ s' : Int32 × zM, f_X2_live_L8 _ _ (n + 1) _ _ _ = f_X2_live_L8 _ _ n _ _ _ ∧ _
    rw [f_X2_live_L8, if_neg (show ¬ (24 : Int32) ≤ nI d from nI_ge (b := 24) hd (by omega)), ev_ld (by omega) (by omega), h3]
    have hT1 := HT_fr4 hT h2
    obtain ⟨v, μ1, a1, a2, a3, a4⟩ := receive_e hr hw hT1 h1 hd (g4 d hd)
    rw [a1, ev_c, ev_v]
    have hT2 := HT_fr hT1 a3
    have hI1 := sim_I1 T d
    have hstep : ∀ i, i < 31 → tb (s.1 ||| v) i = onS T (dayA T d (sim T d)) d i := by
      intro i hi
      rw [tb_oror, h4 i hi, a4 i hi]
      by_cases c0 : i < T 0 0
      · rcases Nat.lt_trichotomy (T 3 i) d with c | c | c
        · have e : ¬ T 3 i = d := by omega
          have e2 : T 3 i ≤ d := by omega
          simp [onS, dayA, c0, c, e, e2]
        · obtain ⟨q1, q2, -⟩ := hI1 i (by omega)
          by_cases c1 : T 1 i = 2
          · simp [onS, dayA, c0, c, c1]
          · simp [onS, dayA, c0, c, c1, q1, q2]
        · have e : ¬ T 3 i = d := by omega
          have e2 : ¬ T 3 i ≤ d := by omega
          have e3 : ¬ T 3 i < d := by omega
          simp [onS, e, e2, e3]
      · simp [onS, c0]
    have hfin : ∀ σ2 : zSS, ∀ i, (decide (i < T 0 0) && (decide (T 3 i < d + 1) && ((σ2.1 i).isNone && (σ2.2.1 i).isNone))) = onS T σ2 d i := fun σ2 i => by
      unfold onS
      by_cases c : T 3 i ≤ d
      · have e : T 3 i < d + 1 := by omega
        simp [c, e]
      · have e : ¬ T 3 i < d + 1 := by omega
        simp [c, e]
    by_cases c : (s.1 ||| v) = 0
    · rw [if_pos c]
      have hno : ∀ i, i < T 0 0 → onS T (dayA T d (sim T d)) d i = false := fun i hi => by rw [← hstep i (by omega), c, tb_0]
      have hsame : ∀ k, k < T 0 0 → (sim T (d + 1)).1 k = (dayA T d (sim T d)).1 k ∧ (sim T (d + 1)).2.1 k = (dayA T d (sim T d)).2.1 k ∧ (sim T (d + 1)).2.2 k = (dayA T d (sim T d)).2.2 k := by
        intro k hk
        have e : sim T (d + 1) = dayD T d (dayC T d (dayB T d (dayA T d (sim T d)))) := rfl
        rw [e]
        generalize dayA T d (sim T d) = σa at hno ⊢
        obtain ⟨b1, b2, b3⟩ := stB T d σa k
        have hb3 : ∀ k, k < T 0 0 → (dayB T d σa).1 k = σa.1 k ∧ (dayB T d σa).2.1 k = σa.2.1 k := fun k hk => by
          obtain ⟨b1, b2, b3⟩ := stB T d σa k
          rcases b3 with b3 | ⟨b3, -⟩
          · exact ⟨b1, b3⟩
          · rw [hno k hk] at b3; cases b3
        have hnoB : ∀ k, k < T 0 0 → onS T (dayB T d σa) d k = false := fun k hk => by
          obtain ⟨q1, q2⟩ := hb3 k hk
          have := hno k hk
          unfold onS at this ⊢
          rw [q1, q2]; exact this
        obtain ⟨c1, c2⟩ := stC T d (dayB T d σa) k
        have hc2 : ∀ k, k < T 0 0 → (dayC T d (dayB T d σa)).1 k = (dayB T d σa).1 k ∧ (dayC T d (dayB T d σa)).2.2 k = (dayB T d σa).2.2 k ∧ (dayC T d (dayB T d σa)).2.1 k = (dayB T d σa).2.1 k := fun k hk => by
          obtain ⟨c1, c2⟩ := stC T d (dayB T d σa) k
          rcases c2 with ⟨c2, c3⟩ | ⟨m, -, c5, -⟩
          · exact ⟨c2, c3, c1⟩
          · have := (best_on c5).2.1
            rw [hnoB k hk] at this; cases this
        obtain ⟨d1, d2, d3⟩ := stD T d (dayC T d (dayB T d σa)) k
        obtain ⟨p1, p2, p3⟩ := hc2 k hk
        obtain ⟨p4, p5⟩ := hb3 k hk
        refine ⟨by rw [d1, p1, p4], ?_, by rw [d2, p2, b2]⟩
        rcases d3 with ⟨d3, -⟩ | ⟨d3, -⟩
        · rw [d3, p3, p5]
        · have := hnoB k hk
          unfold onS at this d3
          rw [p1, p3] at d3
          rw [this] at d3; cases d3
      refine ⟨(s.1 ||| v, μ1), by simp only [ev_v, nI_1], HR_same a2 hsame, fr4_tr h2 (fr43 a3), ?_, ?_⟩
      · show μ1 (r0 + 9) = _
        rw [a3 (r0 + 9) (by omega) (by omega) (by omega)]; exact h3
      · intro i hi
        show tb (s.1 ||| v) i = _
        rw [hfin, hstep i hi]
        by_cases c0 : i < T 0 0
        · obtain ⟨q1, q2, -⟩ := hsame i c0
          unfold onS
          rw [q1, q2]
        · simp [onS, c0]
    · rw [if_neg c]
      obtain ⟨v2, μ2, b1, b2, b3, b4⟩ := openDoor_e hr hw hT2 a2 hd hstep
      rw [b1, ev_c]
      obtain ⟨v3, μ3, c1, c2, c3, c4⟩ := weary_e hr hw (HT_fr hT2 b3) b2 hd b4
      rw [c1, ev_c]
      have hf := fr3_tr (fr3_tr a3 b3) c3
      refine ⟨(v3, μ3), by simp only [ev_v, nI_1], c2, fr4_tr h2 (fr43 hf), ?_, ?_⟩
      · show μ3 (r0 + 9) = _
        rw [hf (r0 + 9) (by omega) (by omega) (by omega)]; exact h3
      · intro i hi
        show tb v3 i = _
        rw [hfin]; exact c4 i hi
end LV2
