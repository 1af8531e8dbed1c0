-- PURE: the reference's days, all of them
def hatP (T : zT2) (σ : zSS) (d k : Nat) : Bool := inn T σ k d && !decide (T 1 k = 2)
section MG
variable {μ : zM} {T : zT2} {σ : zSS}
def frG (μ μ' : zM) : Prop := ∀ a, a ≠ 119 → a ≠ 124 → a ≠ 126 → a ≠ 127 → μ' a = μ a
theorem frR_G {μ μ1 : zM} (h : frG μ μ1) : frR μ μ1 := ⟨fun a _ x _ _ y _ z w => h a x y z w, fun i _ _ => by rw [h 100 (by omega) (by omega) (by omega) (by omega)]⟩
/-- the last part of a day: the weary go, and the day is written down -/
theorem endDay_e (hw : wT T) (hA : MA μ T) {d : Nat} (hd : d < 24) (hl : LB σ d) (hJ : MJ μ T (fun k => stn T σ k d) σ) (h0 : μ 127 d = 0) (h1 : μ 126 d = 0) (hwt : ∀ k, onS T σ d k = true → d - T 3 k + 1 ≤ T 2 k) (hc3 : ∀ k c, σ.1 k = some c → T 3 k ≤ c) (hnm : ∀ k, k < T 0 0 → (∀ v, σ.2.2 k = some v → v < 4) ∧ (σ.2.2 k = none → σ.1 k = none)) : ∃ μ', f_X7_goesBy_L53 (nI d) (fun μ => some ((), μ)) 400 0 μ = some ((), μ') ∧ frG μ μ' ∧ (∀ k, k < T 0 0 → μ' 119 k = nI (stn T (dayD T d σ) k d)) ∧ μ' 127 d = wsum T (dayD T d σ) d (T 0 0) ∧ μ' 126 d = cntI (hatP T (dayD T d σ) d) (T 0 0) ∧ (∀ e, e ≠ d → μ' 127 e = μ 127 e ∧ μ' 126 e = μ 126 e) ∧ (∀ k, k < T 0 0 → μ' 124 (8 * d + k) = nI (stn T (dayD T d σ) k d)) ∧ ∀ x, x < 8 * d → μ' 124 x = μ 124 x := by
  have zz := zMt
  have hn := hw.1
  refine loop_X (fun n i (m : zM) => f_X7_goesBy_L53 (nI d) (fun μ => some ((), μ)) n i m) (fun R => ∃ μ', R = some ((), μ') ∧ frG μ μ' ∧ (∀ k, k < T 0 0 → μ' 119 k = nI (stn T (dayD T d σ) k d)) ∧ μ' 127 d = wsum T (dayD T d σ) d (T 0 0) ∧ μ' 126 d = cntI (hatP T (dayD T d σ) d) (T 0 0) ∧ (∀ e, e ≠ d → μ' 127 e = μ 127 e ∧ μ' 126 e = μ 126 e) ∧ (∀ k, k < T 0 0 → μ' 124 (8 * d + k) = nI (stn T (dayD T d σ) k d)) ∧ ∀ x, x < 8 * d → μ' 124 x = μ 124 x) (T 0 0) (fun i m => frG μ m ∧ (∀ k, k < T 0 0 → m 119 k = nI (if k < i then stn T (dayD T d σ) k d else stn T σ k d)) ∧ m 127 d = wsum T (dayD T d σ) d i ∧ m 126 d = cntI (hatP T (dayD T d σ) d) i ∧ (∀ e, e ≠ d → m 127 e = μ 127 e ∧ m 126 e = μ 126 e) ∧ (∀ k, k < i → m 124 (8 * d + k) = nI (stn T (dayD T d σ) k d)) ∧ ∀ x, x < 8 * d → m 124 x = μ 124 x) ?_ ?_ 400 0 μ (by omega) (by omega) ⟨fun _ _ _ _ _ => rfl, fun k hk => by rw [if_neg (by omega)]; exact (hJ k hk).1, h0, h1, fun _ _ => ⟨rfl, rfl⟩, fun k hk => by omega, fun _ _ => rfl⟩
  · intro n m ⟨g1, g2, g3, g4, g5, g6, g7⟩
    refine ⟨m, ?_, g1, fun k hk => by rw [g2 k hk, if_pos hk], g3, g4, g5, g6, g7⟩
    show f_X7_goesBy_L53 _ _ (n + 1) _ _ = _
    rw [f_X7_goesBy_L53, ev_g, g1 100 (by omega) (by omega) (by omega) (by omega), hA.1, if_pos (nI_le (Nat.le_refl _) (by omega))]
  · intro n k m hk ⟨g1, g2, g3, g4, g5, g6, g7⟩
    obtain ⟨a1, a2, a3, a4⟩ := hA.2.2.1 k hk
    have hk2 := hw.2.2.1 k hk
    have b104 : m 104 k = nI (T 1 k) := by rw [g1 104 (by omega) (by omega) (by omega) (by omega)]; exact a1
    have b105 : m 105 k = nI (T 2 k) := by rw [g1 105 (by omega) (by omega) (by omega) (by omega)]; exact a2
    have b106 : m 106 k = nI (T 3 k) := by rw [g1 106 (by omega) (by omega) (by omega) (by omega)]; exact a3
    have b121 : m 121 k = oI (σ.2.2 k) := by rw [g1 121 (by omega) (by omega) (by omega) (by omega)]; exact (hJ k hk).2.2
    have b119 := g2 k hk
    rw [if_neg (by omega)] at b119
    have hst : stn T σ k d < 5 := stn_lt
    have hst2 : stn T (dayD T d σ) k d < 5 := stn_lt
    have key1 : ∀ {α : Type} (t : Int32 → zM → Option α), jn t (fun j105_2 => (if ¬ nI (stn T σ k d) = (1 : Int32) then ldI m 119 (nI k) fun x22 => j105_2 x22 m else ldI m 106 (nI k) fun x23 => ldI m 105 (nI k) fun x24 => (if ¬ ((nI d - x23) + (1 : Int32)) = x24 then ldI m 119 (nI k) fun x26 => j105_2 x26 m else j105_2 (4 : Int32) m))) = t (nI (stn T (dayD T d σ) k d)) m := by
      intro α t
      rw [ev_j, ev_ld (by omega) (by omega), b119, ev_ld (by omega) (by omega), ev_ld (by omega) (by omega), b106, b105]
      by_cases c : onS T σ d k = true
      · obtain ⟨-, o1, o2, o3⟩ := onS_lt c
        have c1 := (st_1 hk hl).mpr c
        have c2 := hwt k c
        rw [if_neg (show ¬ ¬ nI (stn T σ k d) = (1 : Int32) from fun q => q (by rw [c1]; rfl)), pk_sub o1, nI_1]
        by_cases c3 : T 2 k ≤ d - T 3 k + 1
        · rw [if_neg (show ¬ ¬ nI (d - T 3 k + 1) = nI (T 2 k) from fun q => q (by congr 1; omega))]
          have e1 : (dayD T d σ).2.1 k = some d := if_pos ⟨c, c3⟩
          have e2 : (dayD T d σ).1 k = none := o2
          have : stn T (dayD T d σ) k d = 4 := by
            unfold stn
            rw [if_neg (by omega), e1, e2]
            show (if d < d then 1 else 4) = 4
            rw [if_neg (by omega)]
          rw [this]; rfl
        · rw [if_pos (show ¬ nI (d - T 3 k + 1) = nI (T 2 k) from fun q => by have := (nI_eq (by omega) (by omega)).mp q; omega)]
          rw [stn_congr (σ := σ) (σ' := dayD T d σ) rfl (if_neg (fun q => c3 q.2))]
      · have c1 : ¬ stn T σ k d = 1 := fun q => c ((st_1 hk hl).mp q)
        rw [if_pos (show ¬ nI (stn T σ k d) = (1 : Int32) from fun q => c1 ((nI_eq (by omega) (by omega)).mp q))]
        rw [stn_congr (σ := σ) (σ' := dayD T d σ) rfl (if_neg (fun q => c q.1))]
    have h2 : stn T (dayD T d σ) k d = 2 ↔ inn T (dayD T d σ) k d = true := st_2 (fun c hc => hc3 k c hc)
    generalize hy : stn T (dayD T d σ) k d = y at key1 h2 hst2
    have key2 : ∀ {α : Type} (m2 : zM) (t : Int32 → zM → Option α), m2 121 k = oI (σ.2.2 k) → jn t (fun j136_3 => (if ¬ nI y = (2 : Int32) then j136_3 (0 : Int32) m2 else ldI m2 121 (nI k) fun x19 => cl (f_X7_warms x19 m2) fun x20 μ => j136_3 x20 μ)) = t (if inn T (dayD T d σ) k d = true then wo (σ.2.2 k) else 0) m2 := by
      intro α m2 t hm2
      rw [ev_j, ev_ld (by omega) (by omega), hm2]
      by_cases c : inn T (dayD T d σ) k d = true
      · have c1 := h2.mpr c
        rw [if_neg (show ¬ ¬ nI y = (2 : Int32) from fun q => q (by rw [c1]; rfl)), if_pos c]
        cases e : σ.2.2 k with
        | none =>
          have := (hnm k hk).2 e
          unfold inn at c
          rw [show (dayD T d σ).1 k = none from this] at c; cases c
        | some v =>
          show cl (f_X7_warms (nI v) m2) _ = _
          rw [warms_e ((hnm k hk).1 v e), ev_c]; rfl
      · have c1 : ¬ y = 2 := fun q => c (h2.mp q)
        rw [if_pos (show ¬ nI y = (2 : Int32) from fun q => c1 ((nI_eq (by omega) (by omega)).mp q)), if_neg c]
    have key3 : ∀ {α : Type} (m2 : zM) (t : Int32 → zM → Option α), m2 104 k = nI (T 1 k) → jn t (fun j170_4 => (if ¬ nI y = (2 : Int32) then j170_4 (0 : Int32) m2 else ldI m2 104 (nI k) fun x16 => (if x16 = (2 : Int32) then j170_4 (0 : Int32) m2 else j170_4 (1 : Int32) m2))) = t (if hatP T (dayD T d σ) d k = true then 1 else 0) m2 := by
      intro α m2 t hm2
      rw [ev_j, ev_ld (by omega) (by omega), hm2]
      unfold hatP
      by_cases c : inn T (dayD T d σ) k d = true
      · have c1 := h2.mpr c
        rw [if_neg (show ¬ ¬ nI y = (2 : Int32) from fun q => q (by rw [c1]; rfl)), c]
        by_cases c3 : T 1 k = 2
        · rw [if_pos (show nI (T 1 k) = (2 : Int32) by rw [c3]; rfl), if_neg (by simp [c3])]
        · rw [if_neg (show ¬ nI (T 1 k) = (2 : Int32) from fun q => c3 ((nI_eq (by omega) (by omega)).mp q)), if_pos (by simp [c3])]
      · have c1 : ¬ y = 2 := fun q => c (h2.mp q)
        rw [if_pos (show ¬ nI y = (2 : Int32) from fun q => c1 ((nI_eq (by omega) (by omega)).mp q)), if_neg (by simp [c])]
    show ∃ s' : zM, f_X7_goesBy_L53 _ _ (n + 1) _ _ = f_X7_goesBy_L53 _ _ n _ _ ∧ _
    rw [f_X7_goesBy_L53, ev_g, g1 100 (by omega) (by omega) (by omega) (by omega), hA.1, if_neg (nI_ge hk (by omega)), ev_ld (by omega) (by omega), b119, key1, ev_st (by omega) (by omega), ev_ld (by omega) (by omega), ev_ld (by omega) (by omega), zup_e, zup_n (by omega), g3, key2 _ _ (by rw [zup_n (by omega)]; exact b121), ev_st (by omega) (by omega), ev_ld (by omega) (by omega), ev_ld (by omega) (by omega), zup_n (show 119 ≠ 127 by omega), zup_e, zup_n (show 126 ≠ 127 by omega), zup_n (show 126 ≠ 119 by omega), g4, key3 _ _ (by rw [zup_n (by omega), zup_n (by omega)]; exact b104), ev_st (by omega) (by omega), ev_ld (by omega) (by omega), zup_n (show 119 ≠ 126 by omega), zup_n (show 119 ≠ 127 by omega), zup_e, q_mul_8, nI_add, ev_st (by omega) (by omega), ev_v, nI_1]
    refine ⟨_, rfl, fun a x1 x2 x3 x4 => ?_, fun j hj => ?_, ?_, ?_, fun e he => ?_, fun j hj => ?_, fun x hx => ?_⟩
    · rw [zup_n x2, zup_n x3, zup_n x4, zup_n x1]; exact g1 a x1 x2 x3 x4
    · rw [zup_n (show 119 ≠ 124 by omega), zup_n (show 119 ≠ 126 by omega), zup_n (show 119 ≠ 127 by omega)]
      by_cases c : j = k
      · subst c; rw [zup_e, if_pos (by omega), hy]
      · rw [zup_o c, g2 j hj]
        by_cases c2 : j < k
        · rw [if_pos c2, if_pos (show j < k + 1 by omega)]
        · rw [if_neg c2, if_neg (show ¬ j < k + 1 by omega)]
    · rw [zup_n (by omega), zup_n (by omega), zup_e]
      show _ = (if inn T (dayD T d σ) k d = true then wsum T (dayD T d σ) d k + wo (σ.2.2 k) else wsum T (dayD T d σ) d k)
      by_cases c : inn T (dayD T d σ) k d = true
      · rw [if_pos c, if_pos c]
      · rw [if_neg c, if_neg c, Int32.add_zero]
    · rw [zup_n (by omega), zup_e]
      show _ = (if hatP T (dayD T d σ) d k = true then cntI (hatP T (dayD T d σ) d) k + 1 else cntI (hatP T (dayD T d σ) d) k)
      by_cases c : hatP T (dayD T d σ) d k = true
      · rw [if_pos c, if_pos c]
      · rw [if_neg c, if_neg c, Int32.add_zero]
    · rw [zup_n (show 127 ≠ 124 by omega), zup_n (show 127 ≠ 126 by omega), zup_o he, zup_n (show 127 ≠ 119 by omega), zup_n (show 126 ≠ 124 by omega), zup_o he, zup_n (show 126 ≠ 127 by omega), zup_n (show 126 ≠ 119 by omega)]
      exact g5 e he
    · by_cases c : j = k
      · subst c; rw [zup_e, hy]
      · rw [zup_o (by omega), zup_n (by omega), zup_n (by omega), zup_n (by omega)]
        exact g6 j (by omega)
    · rw [zup_o (by omega), zup_n (by omega), zup_n (by omega), zup_n (by omega)]
      exact g7 x hx
/-- on which day the first came by the door -/
def fdD (T : zT2) (σ : zSS) : Option Nat := match fdS T σ with
  | none => none
  | some w => σ.1 w
theorem LB_A {T : zT2} {σ : zSS} {d : Nat} (h : LB σ d) : LB (dayA T d σ) d := fun k => by
  obtain ⟨a1, a2⟩ := stA T d σ k
  rw [a1]
  refine ⟨fun c hc => ?_, (h k).2⟩
  rcases a2 with ⟨-, a2, -⟩ | ⟨-, a2, -⟩
  · rw [a2] at hc; exact (h k).1 c hc
  · rw [a2] at hc; cases hc; exact Nat.le_refl _
/-- what the middle of a day keeps -/
theorem mid {T : zT2} (hw : wT T) {d : Nat} (k : Nat) : ∀ σc, σc = dayC T d (dayB T d (dayA T d (sim T d))) → (∀ c, σc.1 k = some c → T 3 k ≤ c) ∧ (k < T 0 0 → (∀ v, σc.2.2 k = some v → v < 4) ∧ (σc.2.2 k = none → σc.1 k = none)) ∧ (onS T σc d k = true → d - T 3 k + 1 ≤ T 2 k) := by
  rintro σc rfl
  obtain ⟨j1, -, j3, j4⟩ := sim_I2 hw (d + 1) k
  have e : sim T (d + 1) = dayD T d (dayC T d (dayB T d (dayA T d (sim T d)))) := rfl
  rw [e] at j1 j3 j4
  refine ⟨fun c hc => (j1 c hc).2, fun hk => ⟨j3, j4.mpr⟩, fun ho => ?_⟩
  obtain ⟨hk, o1, o2, o3⟩ := onS_lt ho
  have hk2 := hw.2.2.1 k hk
  rcases Nat.lt_or_ge (T 3 k) d with q | q
  · have := sim_wait hw d k hk q ?_ ?_
    · omega
    · obtain ⟨-, c2⟩ := stC T d (dayB T d (dayA T d (sim T d))) k
      obtain ⟨b1, -, -⟩ := stB T d (dayA T d (sim T d)) k
      obtain ⟨-, a2⟩ := stA T d (sim T d) k
      rcases c2 with ⟨c2, -⟩ | ⟨_, -, -, c2, -⟩
      · rw [c2, b1] at o2
        rcases a2 with ⟨-, a2, -⟩ | ⟨-, a2, -⟩
        · rw [a2] at o2; exact o2
        · rw [a2] at o2; cases o2
      · rw [c2] at o2; cases o2
    · obtain ⟨c1, -⟩ := stC T d (dayB T d (dayA T d (sim T d))) k
      obtain ⟨-, -, b3⟩ := stB T d (dayA T d (sim T d)) k
      obtain ⟨a1, -⟩ := stA T d (sim T d) k
      rw [c1] at o3
      rcases b3 with b3 | ⟨-, -, b3⟩
      · rw [b3, a1] at o3; exact o3
      · rw [b3] at o3; cases o3
  · omega
/-- what stands after d days -/
def MW (m : zM) (T : zT2) (d : Nat) : Prop := MJ m T (stp T (sim T d) d) (sim T d) ∧ m 100 21 = oI (fdD T (sim T d)) ∧ m 100 22 = oI (fdS T (sim T d)) ∧ ∀ e, e < d → m 125 e = oI (doorS T e) ∧ m 127 e = wsum T (sim T (e + 1)) e (T 0 0) ∧ m 126 e = cntI (hatP T (sim T (e + 1)) e) (T 0 0) ∧ ∀ k, k < T 0 0 → m 124 (8 * e + k) = nI (stn T (sim T (e + 1)) k e)
theorem goesBy_e (h : MT μ T) {d : Nat} (hd : d < 24) (hW : MW μ T d) : ∃ μ', f_X7_goesBy (nI d) μ = some ((), μ') ∧ MW μ' T (d + 1) ∧ frR μ μ' := by
  have zz := zMt
  obtain ⟨hJ, h21, h22, hE⟩ := hW
  have hw := h.1
  have hn := hw.1
  have hn2 := hw.2.1
  unfold f_X7_goesBy
  obtain ⟨m1, e1, j1, f1⟩ := arrives_e hw h.2.1 hd hJ
  rw [e1, ev_c]
  have hT1 := MT_fr h (frR_A f1)
  rw [onDuty_e hw hT1.2.1 hd, ev_c, ev_st (by omega) (by omega), ev_ld (by omega) (by omega), zup_e]
  generalize hm2 : zup m1 125 d (oI (doorS T d)) = m2
  have hI := sim_I2 hw d
  have hl0 : LB (sim T d) d := fun k => ⟨fun c hc => by have := (hI k).1 c hc; omega, fun c hc => by have := (hI k).2.1 c hc; omega⟩
  have hlA := LB_A (T := T) hl0
  have f2 : frR μ m2 := by
    refine frR_tr (frR_A f1) ⟨fun a _ _ _ _ _ x _ _ => by rw [← hm2, zup_n x], fun i _ _ => by rw [← hm2, zup_n (by omega)]⟩
  have hT2 : MT m2 T := MT_fr h f2
  have j2 : MJ m2 T (fun k => stn T (dayA T d (sim T d)) k d) (dayA T d (sim T d)) := fun k hk => by
    rw [← hm2, zup_n (show 119 ≠ 125 by omega), zup_n (show 120 ≠ 125 by omega), zup_n (show 121 ≠ 125 by omega)]; exact j1 k hk
  have a125 : m2 125 d = oI (doorS T d) := by rw [← hm2, zup_e]
  have a125' : ∀ e, e ≠ d → m2 125 e = μ 125 e := fun e he => by rw [← hm2, zup_o he, f1 125 (by omega) (by omega) (by omega)]
  have aX : ∀ a, a = 124 ∨ a = 126 ∨ a = 127 ∨ a = 100 → m2 a = μ a := fun a ha => by rw [← hm2, zup_n (by omega), f1 a (by omega) (by omega) (by omega)]
  -- the door
  have hdoor : ∃ m3, (MJ m3 T (fun k => stn T (dayC T d (dayB T d (dayA T d (sim T d)))) k d) (dayC T d (dayB T d (dayA T d (sim T d)))) ∧ frB m2 m3 ∧ m3 100 21 = oI (fdD T (sim T (d + 1))) ∧ m3 100 22 = oI (fdS T (sim T (d + 1)))) ∧ ∀ J : zM → Option (Unit × zM), (if oI (doorS T d) = (-1 : Int32) then J m2 else ldI m2 125 (nI d) fun x28 => cl (f_X7_opens x28 (nI d) m2) fun _ μ => J μ) = J m3 := by
    have hstep := fd_step hw d hd
    have hold : ∀ w, fdS T (sim T d) = some w → (sim T (d + 1)).1 w = (sim T d).1 w := by
      intro w hw9
      unfold fdS at hw9
      obtain ⟨w1, w2⟩ := bestBy_lt hw9
      obtain ⟨x, -⟩ := dayAll T d w
      rcases x with ⟨x, -⟩ | ⟨x1, -, -, -⟩
      · exact x
      · cases e : (sim T d).1 w with
        | none => rw [e] at w2; cases w2
        | some c =>
          have := (hI w).1 c e
          rcases x1 with x1 | x1
          · rw [e] at x1; cases x1
          · omega
    have hsame : ∀ w, fdS T (sim T d) = some w → fdS T (sim T (d + 1)) = some w ∧ fdD T (sim T (d + 1)) = fdD T (sim T d) := by
      intro w hw9
      rw [hw9] at hstep
      refine ⟨hstep, ?_⟩
      unfold fdD
      rw [hstep, hw9]
      exact hold w hw9
    cases hm : doorS T d with
    | none =>
      have eB : dayB T d (dayA T d (sim T d)) = dayA T d (sim T d) := by unfold dayB; rw [hm]
      have eC : dayC T d (dayA T d (sim T d)) = dayA T d (sim T d) := by unfold dayC; rw [hm]
      rw [eB, eC]
      refine ⟨m2, ⟨j2, ⟨fun _ _ _ _ _ => rfl, fun _ _ _ => rfl⟩, ?_, ?_⟩, fun J => if_pos rfl⟩
      · rw [aX 100 (by omega), h21]
        cases hf : fdS T (sim T d) with
        | some w => rw [(hsame w hf).2]
        | none =>
          rw [hf, hm] at hstep
          have hstep : fdS T (sim T (d + 1)) = none := hstep
          unfold fdD
          rw [hf, hstep]
      · rw [aX 100 (by omega), h22]
        cases hf : fdS T (sim T d) with
        | some w => rw [(hsame w hf).1]
        | none => rw [hf, hm] at hstep; rw [hstep]
    | some m =>
      have h21' : m2 100 21 = -1 ∨ ∃ n, n < 24 ∧ m2 100 21 = nI n := by
        rw [aX 100 (by omega), h21]
        unfold fdD
        cases hf : fdS T (sim T d) with
        | none => exact Or.inl rfl
        | some w =>
          show oI ((sim T d).1 w) = -1 ∨ _
          cases e : (sim T d).1 w with
          | none => exact Or.inl rfl
          | some c => exact Or.inr ⟨c, by have := (hI w).1 c e; omega, by show oI ((sim T d).1 w) = nI c; rw [e]; rfl⟩
      obtain ⟨m3, o1, o2, o3, o4⟩ := opens_e hT2 hm hd hlA j2 h21'
      refine ⟨m3, ⟨o2, o3, ?_⟩, fun J => ?_⟩
      · have hne : ∀ w, fdS T (sim T d) = some w → ¬ m2 100 21 = -1 := by
          intro w hf q
          rw [aX 100 (by omega), h21] at q
          have hf0 := hf
          unfold fdS at hf
          obtain ⟨w1, w2⟩ := bestBy_lt hf
          unfold fdD at q
          rw [hf0] at q
          have q : oI ((sim T d).1 w) = -1 := q
          cases e : (sim T d).1 w with
          | none => rw [e] at w2; cases w2
          | some c =>
            rw [e] at q
            have := (hI w).1 c e
            exact nI_m1 (by omega) q
        cases hf : fdS T (sim T d) with
        | some w =>
          have k1 : m3 100 21 = m2 100 21 ∧ m3 100 22 = m2 100 22 := by
            cases hb : bestS T (dayB T d (dayA T d (sim T d))) d with
            | none => rw [hb] at o4; have o4 : m3 100 = m2 100 := o4; rw [o4]; exact ⟨rfl, rfl⟩
            | some b => rw [hb] at o4; exact o4.2 (hne w hf)
          rw [k1.1, k1.2, aX 100 (by omega), h21, h22, (hsame w hf).1, (hsame w hf).2, hf]
          exact ⟨rfl, rfl⟩
        | none =>
          have q1 : m2 100 21 = -1 := by rw [aX 100 (by omega), h21]; unfold fdD; rw [hf]; rfl
          have q2 : m2 100 22 = -1 := by rw [aX 100 (by omega), h22, hf]; rfl
          rw [hf, hm] at hstep
          have hstep : fdS T (sim T (d + 1)) = bestS T (dayB T d (dayA T d (sim T d))) d := hstep
          cases hb : bestS T (dayB T d (dayA T d (sim T d))) d with
          | none =>
            rw [hb] at o4 hstep
            have o4 : m3 100 = m2 100 := o4
            unfold fdD
            rw [o4, q1, q2, hstep]
            exact ⟨rfl, rfl⟩
          | some b =>
            rw [hb] at o4 hstep
            obtain ⟨r1, r2⟩ := o4.1 q1
            unfold fdD
            rw [r1, r2, hstep]
            refine ⟨?_, rfl⟩
            show nI d = oI ((sim T (d + 1)).1 b)
            have e9 : (sim T (d + 1)).1 b = (dayC T d (dayB T d (dayA T d (sim T d)))).1 b := rfl
            have eC : dayC T d (dayB T d (dayA T d (sim T d))) = letS b d (nmS T m b) (dayB T d (dayA T d (sim T d))) := by unfold dayC; rw [hm, hb]
            rw [e9, eC]
            show nI d = oI (if b = b then some d else _)
            rw [if_pos rfl]; rfl
      · obtain ⟨hm1, -, -⟩ := fstP_lt hm
        rw [if_neg (show ¬ oI (some m) = -1 from nI_m1 (by omega)), ev_ld (by omega) (by omega), a125, hm]
        show cl (f_X7_opens (nI m) (nI d) m2) _ = _
        rw [o1, ev_c]
  obtain ⟨m3, ⟨j3, f3, k21, k22⟩, hD⟩ := hdoor
  have fR3 : frR μ m3 := frR_tr f2 (frR_B f3)
  rw [ev_j]
  rw [hD (fun (μ : zM) => stI μ 126 (nI d) (0 : Int32) fun μ => stI μ 127 (nI d) (0 : Int32) fun μ => f_X7_goesBy_L53 (nI d) (fun μ => some ((), μ)) 400 (0 : Int32) μ)]
  rw [ev_st (by omega) (by omega), ev_st (by omega) (by omega)]
  generalize hm4 : zup (zup m3 126 d (0 : Int32)) 127 d (0 : Int32) = m4
  have f4 : frR μ m4 := frR_tr fR3 ⟨fun a _ _ _ _ _ _ x y => by rw [← hm4, zup_n y, zup_n x], fun i _ _ => by rw [← hm4, zup_n (by omega), zup_n (by omega)]⟩
  have hT4 := MT_fr h f4
  have j4 : MJ m4 T (fun k => stn T (dayC T d (dayB T d (dayA T d (sim T d)))) k d) (dayC T d (dayB T d (dayA T d (sim T d)))) := fun k hk => by
    rw [← hm4, zup_n (show 119 ≠ 127 by omega), zup_n (show 119 ≠ 126 by omega), zup_n (show 120 ≠ 127 by omega), zup_n (show 120 ≠ 126 by omega), zup_n (show 121 ≠ 127 by omega), zup_n (show 121 ≠ 126 by omega)]
    exact j3 k hk
  obtain ⟨m5, x1, x2, x3, x4, x5, x6, x7, x8⟩ := endDay_e hw hT4.2.1 hd (LB_C (T := T) (LB_B (T := T) hlA)) j4 (by rw [← hm4, zup_e]) (by rw [← hm4, zup_n (by omega), zup_e]) (fun k => (mid hw k _ rfl).2.2) (fun k => (mid hw k _ rfl).1) (fun k => (mid hw k _ rfl).2.1)
  have eS : dayD T d (dayC T d (dayB T d (dayA T d (sim T d)))) = sim T (d + 1) := rfl
  rw [eS] at x3 x4 x5 x7
  have f5 := frR_tr f4 (frR_G x2)
  have y3 : ∀ a, a = 124 ∨ a = 125 → m4 a = m2 a := fun a ha => by rw [← hm4, zup_n (by omega), zup_n (by omega), f3.1 a (by omega) (by omega) (by omega) (by omega)]
  have y4 : ∀ e, e ≠ d → m4 126 e = μ 126 e ∧ m4 127 e = μ 127 e := fun e he => by
    rw [← hm4, zup_n (show 126 ≠ 127 by omega), zup_o he, zup_o he, zup_n (show 127 ≠ 126 by omega), f3.1 126 (by omega) (by omega) (by omega) (by omega), f3.1 127 (by omega) (by omega) (by omega) (by omega), aX 126 (by omega), aX 127 (by omega)]
    exact ⟨rfl, rfl⟩
  have y100 : m5 100 = m3 100 := by rw [x2 100 (by omega) (by omega) (by omega) (by omega), ← hm4, zup_n (by omega), zup_n (by omega)]
  refine ⟨m5, x1, ⟨fun k hk => ⟨?_, ?_, ?_⟩, by rw [y100]; exact k21, by rw [y100]; exact k22, fun e he => ?_⟩, f5⟩
  · rw [x3 k hk]
    unfold stp
    by_cases c : T 3 k < d + 1
    · rw [if_pos c]; rfl
    · rw [if_neg c]; unfold stn; rw [if_pos (by omega)]
  · intro c hc
    rw [x2 120 (by omega) (by omega) (by omega) (by omega)]
    exact (j4 k hk).2.1 c hc
  · rw [x2 121 (by omega) (by omega) (by omega) (by omega)]
    exact (j4 k hk).2.2
  · have z125 : m5 125 = m2 125 := by rw [x2 125 (by omega) (by omega) (by omega) (by omega), y3 125 (by omega)]
    rw [z125]
    rcases Nat.lt_or_ge e d with q | q
    · obtain ⟨r1, r2, r3, r4⟩ := hE e q
      refine ⟨by rw [a125' e (by omega)]; exact r1, ?_, ?_, fun k hk => ?_⟩
      · rw [(x6 e (by omega)).1, (y4 e (by omega)).2]; exact r2
      · rw [(x6 e (by omega)).2, (y4 e (by omega)).1]; exact r3
      · rw [x8 _ (by omega), y3 124 (by omega), aX 124 (by omega)]; exact r4 k hk
    · have : e = d := by omega
      subst this
      exact ⟨a125, x4, x5, x7⟩
/-- what a run of the reference leaves -/
def MRn (μ : zM) (T : zT2) : Prop := (∀ k, k < T 0 0 → μ 119 k = nI (stn T (sim T 24) k 23) ∧ μ 121 k = oI ((sim T 24).2.2 k)) ∧ μ 100 21 = oI (fdD T (sim T 24)) ∧ μ 100 22 = oI (fdS T (sim T 24)) ∧ ∀ e, e < 24 → μ 125 e = oI (doorS T e) ∧ μ 127 e = wsum T (sim T 24) e (T 0 0) ∧ μ 126 e = cntI (hatP T (sim T 24) e) (T 0 0) ∧ ∀ k, k < T 0 0 → μ 124 (8 * e + k) = nI (stn T (sim T 24) k e)
theorem runs_e (h : MT μ T) : ∃ μ', f_X7_runs μ = some ((), μ') ∧ MRn μ' T ∧ frR μ μ' := by
  have zz := zMt
  have hw := h.1
  have hn := hw.1
  have hA := h.2.1
  unfold f_X7_runs
  refine loop_X (fun n i (m : zM) => f_X7_runs_L2 (fun μ => pI μ 100 21 (-1 : Int32) fun μ => pI μ 100 22 (-1 : Int32) fun μ => f_X7_runs_L49 (fun μ => some ((), μ)) 400 (0 : Int32) μ) n i m) (fun R => ∃ μ', R = some ((), μ') ∧ MRn μ' T ∧ frR μ μ') (T 0 0) (fun i m => frA μ m ∧ ∀ k, k < i → m 119 k = 0 ∧ m 121 k = -1) ?_ ?_ 400 0 μ (by omega) (by omega) ⟨fun _ _ _ _ => rfl, fun k hk => by omega⟩
  · intro n m ⟨g1, g2⟩
    show ∃ μ', f_X7_runs_L2 _ (n + 1) _ _ = _ ∧ _
    rw [f_X7_runs_L2, ev_g, g1 100 (by omega) (by omega) (by omega), hA.1, if_pos (nI_le (Nat.le_refl _) (by omega)), ev_p, ev_p]
    generalize hm0 : zup (zup m 100 21 (-1 : Int32)) 100 22 (-1 : Int32) = m0
    have f0 : frR μ m0 := ⟨fun a x y z w _ _ _ _ => by rw [← hm0, zup_n x, zup_n x]; exact g1 a y z w, fun i x y => by rw [← hm0, zup_o y, zup_o x, g1 100 (by omega) (by omega) (by omega)]⟩
    refine loop_X (fun n i (m : zM) => f_X7_runs_L49 (fun μ => some ((), μ)) n i m) (fun R => ∃ μ', R = some ((), μ') ∧ MRn μ' T ∧ frR μ μ') 24 (fun d m => frR μ m ∧ MW m T d) ?_ ?_ 400 0 m0 (by omega) (by omega) ⟨f0, fun k hk => ⟨?_, ?_, ?_⟩, ?_, ?_, fun e he => by omega⟩
    · intro n m5 ⟨f1, f2⟩
      refine ⟨m5, ?_, ?_, f1⟩
      · show f_X7_runs_L49 _ (n + 1) _ _ = _
        rw [f_X7_runs_L49, if_pos (show (24 : Int32) ≤ nI 24 from nI_le (Nat.le_refl _) (by omega))]
      · obtain ⟨w1, w2, w3, w4⟩ := f2
        refine ⟨fun k hk => ⟨?_, (w1 k hk).2.2⟩, w2, w3, fun e he => ?_⟩
        · have h3 := (hw.2.2.1 k hk).2.2.2.1
          rw [(w1 k hk).1]
          unfold stp
          rw [if_pos h3]
        · obtain ⟨r1, r2, r3, r4⟩ := w4 e he
          refine ⟨r1, by rw [r2, stab_w hw he], ?_, fun k hk => by rw [r4 k hk, (stab hw he k).1]⟩
          rw [r3]
          refine cntI_congr (fun k hk => ?_)
          unfold hatP
          rw [(stab hw he k).2.1]
    · intro n d m5 hd ⟨f1, f2⟩
      obtain ⟨m6, e1, e2, e3⟩ := goesBy_e (MT_fr h f1) hd f2
      refine ⟨m6, ?_, frR_tr f1 e3, e2⟩
      show f_X7_runs_L49 _ (n + 1) _ _ = f_X7_runs_L49 _ n _ _
      rw [f_X7_runs_L49, if_neg (show ¬ (24 : Int32) ≤ nI d from nI_ge (b := 24) hd (by omega)), e1, ev_c, ev_v, nI_1]
    · rw [← hm0, zup_n (by omega), zup_n (by omega), (g2 k hk).1]
      unfold stp
      rw [if_neg (by omega)]; rfl
    · intro c hc; cases hc
    · rw [← hm0, zup_n (by omega), zup_n (by omega), (g2 k hk).2]; rfl
    · rw [← hm0, zup_o (by omega), zup_e]
      have : fdS T (sim T 0) = none := by
        cases e : fdS T (sim T 0) with
        | none => rfl
        | some w =>
          unfold fdS at e
          have := (bestBy_lt e).2
          simp [sim, sim0] at this
      unfold fdD
      rw [this]; rfl
    · rw [← hm0, zup_e]
      have : fdS T (sim T 0) = none := by
        cases e : fdS T (sim T 0) with
        | none => rfl
        | some w =>
          unfold fdS at e
          have := (bestBy_lt e).2
          simp [sim, sim0] at this
      rw [this]; rfl
  · intro n k m hk ⟨g1, g2⟩
    show ∃ s' : zM, f_X7_runs_L2 _ (n + 1) _ _ = f_X7_runs_L2 _ n _ _ ∧ _
    rw [f_X7_runs_L2, ev_g, g1 100 (by omega) (by omega) (by omega), hA.1, if_neg (nI_ge hk (by omega)), ev_st (by omega) (by omega), ev_st (by omega) (by omega), ev_st (by omega) (by omega), ev_v, nI_1]
    refine ⟨_, rfl, fun a x y z => by rw [zup_n z, zup_n y, zup_n x]; exact g1 a x y z, fun j hj => ?_⟩
    rw [zup_n (show 119 ≠ 121 by omega), zup_n (show 119 ≠ 120 by omega)]
    by_cases c : j = k
    · subst c; rw [zup_e, zup_e]; exact ⟨rfl, rfl⟩
    · rw [zup_o c, zup_o c, zup_n (show 121 ≠ 120 by omega), zup_n (show 121 ≠ 119 by omega)]
      exact g2 j (by omega)
end MG
