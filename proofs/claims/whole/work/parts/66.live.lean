-- PURE: how a house is told, and lives its days
def dayA (T : zT2) (d : Nat) (σ : zSS) : zSS := (fun k => if T 3 k = d ∧ T 1 k = 2 then some d else σ.1 k, σ.2.1, fun k => if T 3 k = d ∧ T 1 k = 2 then some 2 else σ.2.2 k)
def onS (T : zT2) (σ : zSS) (d k : Nat) : Bool := decide (k < T 0 0) && (decide (T 3 k ≤ d) && ((σ.1 k).isNone && (σ.2.1 k).isNone))
def sunS (T : zT2) (d : Nat) (σ : zSS) : zSS := (σ.1, fun k => if onS T σ d k = true ∧ T 1 k = 3 then some d else σ.2.1 k, σ.2.2)
def dayB (T : zT2) (d : Nat) (σ : zSS) : zSS := match doorS T d with
  | none => σ
  | some m => if T 6 m = 0 then sunS T d σ else σ
def bestS (T : zT2) (σ : zSS) (d : Nat) : Option Nat := bestBy (fun k => onS T σ d k && decide (T 5 k ≤ d)) (T 3) (T 0 0)
def letS (b d v : Nat) (σ : zSS) : zSS := (fun k => if k = b then some d else σ.1 k, σ.2.1, fun k => if k = b then some v else σ.2.2 k)
def nmS (T : zT2) (m b : Nat) : Nat := if T 6 m = 0 then T 1 b else (T 1 b + 1) % 4
def dayC (T : zT2) (d : Nat) (σ : zSS) : zSS := match doorS T d with
  | none => σ
  | some m => match bestS T σ d with
    | none => σ
    | some b => letS b d (nmS T m b) σ
def dayD (T : zT2) (d : Nat) (σ : zSS) : zSS := (σ.1, fun k => if onS T σ d k = true ∧ T 2 k ≤ d - T 3 k + 1 then some d else σ.2.1 k, σ.2.2)
def sim0 : zSS := (fun _ => none, fun _ => none, fun _ => none)
def sim (T : zT2) : Nat → zSS
  | 0 => sim0
  | d + 1 => dayD T d (dayC T d (dayB T d (dayA T d (sim T d))))
def mix (k : Nat) (a b : zSS) : zSS := (fun i => if i < k then a.1 i else b.1 i, fun i => if i < k then a.2.1 i else b.2.1 i, fun i => if i < k then a.2.2 i else b.2.2 i)
def fr3 (r0 : Nat) (μ μ' : zM) : Prop := ∀ a, a ≠ r0 + 10 → a ≠ r0 + 11 → a ≠ r0 + 12 → μ' a = μ a
theorem onS_lt {T : zT2} {σ : zSS} {d i : Nat} (h : onS T σ d i = true) : i < T 0 0 ∧ T 3 i ≤ d ∧ σ.1 i = none ∧ σ.2.1 i = none := by
  simpa only [onS, Bool.and_eq_true, decide_eq_true_eq, Option.isNone_iff_eq_none] using h
theorem onS_sent {T : zT2} {σ : zSS} {d i : Nat} {q : Nat → Prop} [DecidablePred q] : onS T (σ.1, (fun k => if onS T σ d k = true ∧ q k then some d else σ.2.1 k), σ.2.2) d i = (onS T σ d i && !(decide (i < T 0 0) && decide (q i))) := by
  by_cases c : onS T σ d i = true
  · obtain ⟨h1, h2, h3, h4⟩ := onS_lt c
    show (decide (i < T 0 0) && (decide (T 3 i ≤ d) && ((σ.1 i).isNone && (if onS T σ d i = true ∧ q i then some d else σ.2.1 i).isNone))) = _
    rw [c]
    by_cases hq : q i
    · rw [if_pos ⟨rfl, hq⟩]; simp [hq, h1]
    · rw [if_neg (fun z => hq z.2), h3, h4]; simp [hq, h1, h2]
  · have c1 : onS T σ d i = false := by simpa using c
    show (decide (i < T 0 0) && (decide (T 3 i ≤ d) && ((σ.1 i).isNone && (if onS T σ d i = true ∧ q i then some d else σ.2.1 i).isNone))) = _
    rw [if_neg (fun z => c z.1)]
    show onS T σ d i = _
    rw [c1]; rfl
section LV
variable {r0 : Nat} {μ μ1 : zM} {T : zT2} {σ σ' : zSS}
theorem HR_0 (h : HR r0 μ T σ) : HR r0 μ T (mix 0 σ' σ) := fun k hk => by
  have := h k hk
  simpa [mix] using this
theorem HR_end (h : HR r0 μ T (mix (T 0 0) σ' σ)) : HR r0 μ T σ' := fun k hk => by
  have := h k hk
  simpa [mix, hk] using this
theorem HR_keep {k : Nat} (h : HR r0 μ T (mix k σ' σ)) (h1 : σ'.1 k = σ.1 k) (h2 : σ'.2.1 k = σ.2.1 k) (h3 : σ'.2.2 k = σ.2.2 k) : HR r0 μ T (mix (k + 1) σ' σ) := fun i hi => by
  have := h i hi
  by_cases c : i = k
  · subst c
    simp only [mix, Nat.lt_irrefl, if_false, Nat.lt_succ_self, if_true] at this ⊢
    rw [h1, h2, h3]; exact this
  · by_cases c2 : i < k
    · simpa [mix, c2, Nat.lt_succ_of_lt c2] using this
    · have c3 : ¬ i < k + 1 := by omega
      simpa [mix, c2, c3] using this
theorem HR_put {k : Nat} (h : HR r0 μ T (mix k σ' σ)) (ho : ∀ i, i ≠ k → μ1 (r0 + 10) i = μ (r0 + 10) i ∧ μ1 (r0 + 11) i = μ (r0 + 11) i ∧ μ1 (r0 + 12) i = μ (r0 + 12) i) (h1 : μ1 (r0 + 10) k = oI (σ'.1 k)) (h2 : μ1 (r0 + 11) k = oI (σ'.2.1 k)) (h3 : μ1 (r0 + 12) k = oI (σ'.2.2 k)) : HR r0 μ1 T (mix (k + 1) σ' σ) := fun i hi => by
  have := h i hi
  by_cases c : i = k
  · subst c
    simp only [mix, Nat.lt_succ_self, if_true]
    exact ⟨h1, h2, h3⟩
  · obtain ⟨o1, o2, o3⟩ := ho i c
    rw [o1, o2, o3]
    by_cases c2 : i < k
    · simpa [mix, c2, Nat.lt_succ_of_lt c2] using this
    · have c3 : ¬ i < k + 1 := by omega
      simpa [mix, c2, c3] using this
theorem HT_fr (h : HT r0 μ T) (hf : fr3 r0 μ μ1) : HT r0 μ1 T := by
  obtain ⟨h1, h2, h3, h4⟩ := h
  refine ⟨?_, ?_, fun j a b k hk => ?_, fun j a b k hk => ?_⟩
  · rw [hf r0 (by omega) (by omega) (by omega)]; exact h1
  · rw [hf r0 (by omega) (by omega) (by omega)]; exact h2
  · rw [hf _ (by omega) (by omega) (by omega)]; exact h3 j a b k hk
  · rw [hf _ (by omega) (by omega) (by omega)]; exact h4 j a b k hk
theorem fr3_rf : fr3 r0 μ μ := fun _ _ _ _ => rfl
theorem fr3_tr {μ2 : zM} (h : fr3 r0 μ μ1) (h2 : fr3 r0 μ1 μ2) : fr3 r0 μ μ2 := fun a x y z => (h2 a x y z).trans (h a x y z)
theorem letIn_e (hr : hO r0) {k d v : Nat} (hk : k < 8) : f_X2_letIn r0 (nI k) (nI d) (nI v) μ = some ((), zup (zup μ (r0 + 10) k (nI d)) (r0 + 12) k (nI v)) := by
  obtain ⟨z1, z2, z3, z4, z5, z6, z7, z8, z9, z10, z11, z12⟩ := hz hr
  unfold f_X2_letIn
  rw [ev_st (by omega) (by omega), ev_st (by omega) (by omega)]
theorem receive_e (hr : hO r0) (hw : wT T) (hT : HT r0 μ T) (hR : HR r0 μ T σ) {d : Nat} (hd : d < 24) {x : Int32} (hx : ∀ i, i < 31 → tb x i = (decide (i < T 0 0) && decide (T 3 i = d))) :
    ∃ v μ', f_X2_receive r0 x (nI d) μ = some (v, μ') ∧ HR r0 μ' T (dayA T d σ) ∧ fr3 r0 μ μ' ∧ ∀ i, i < 31 → tb v i = (decide (i < T 0 0) && (decide (T 3 i = d) && !decide (T 1 i = 2))) := by
  obtain ⟨z1, z2, z3, z4, z5, z6, z7, z8, z9, z10, z11, z12⟩ := hz hr
  have hn := hw.1
  unfold f_X2_receive
  refine loop_P (fun n i (s : Int32 × zM) => f_X2_receive_L5 r0 x (nI d) (fun (x11 : Int32) μ => some (x11, μ)) n s.1 i s.2) (fun R => ∃ v μ', R = some (v, μ') ∧ HR r0 μ' T (dayA T d σ) ∧ fr3 r0 μ μ' ∧ ∀ i, i < 31 → tb v i = (decide (i < T 0 0) && (decide (T 3 i = d) && !decide (T 1 i = 2)))) (T 0 0)
    (fun k s => HR r0 s.2 T (mix k (dayA T d σ) σ) ∧ fr3 r0 μ s.2 ∧ ∀ i, i < 31 → tb s.1 i = (tb x i && !(decide (i < k) && decide (T 1 i = 2)))) ?_ ?_ 400 0 (x, μ) (by omega) (by omega) ⟨HR_0 hR, fr3_rf, fun i hi => by simp⟩
  · intro n s ⟨h1, h2, h3⟩
    refine ⟨s.1, s.2, ?_, HR_end h1, h2, fun i hi => ?_⟩
    · show f_X2_receive_L5 _ _ _ _ (n + 1) _ _ _ = _
      rw [f_X2_receive_L5, ev_g, (HT_fr hT h2).1, if_pos (nI_le (Nat.le_refl _) (by omega))]
    · rw [h3 i hi, hx i hi]
      by_cases c : i < T 0 0 <;> simp [c]
  · intro n k s hk ⟨h1, h2, h3⟩
    have hT2 := HT_fr hT h2
    have e1 := hT2.2.2.1 1 (by omega) (by omega) k hk
    have hk2 := hw.2.2.1 k hk
    show (∃ v μ', f_X2_receive_L5 _ _ _ _ (n + 1) _ _ _ = _ ∧ _) ∨ ∃ s' : Int32 × zM, f_X2_receive_L5 _ _ _ _ (n + 1) _ _ _ = f_X2_receive_L5 _ _ _ _ n _ _ _ ∧ _
    rw [f_X2_receive_L5, ev_g, hT2.1, if_neg (nI_ge hk (by omega))]
    by_cases c0 : x = 0
    · left
      have hno : ∀ i, i < T 0 0 → ¬ T 3 i = d := fun i hi q => by
        have := hx i (by omega)
        rw [c0, tb_0] at this
        simp [hi, q] at this
      refine ⟨s.1, s.2, by rw [if_pos c0], fun i hi => ?_, h2, fun i hi => ?_⟩
      · have := h1 i hi
        simp only [mix, dayA, hno i hi, false_and, if_false, ite_self] at this ⊢
        exact this
      · rw [h3 i hi, hx i hi]
        by_cases c : i < T 0 0
        · simp [c, hno i c]
        · simp [c]
    · rw [if_neg c0]
      right
      have ht := hx k (by omega)
      have htb := tb_ask x (i := k) (by omega)
      by_cases c1 : T 3 k = d
      · have h9 : tb x k = true := by rw [ht]; simp [hk, c1]
        rw [if_neg (by rw [htb, h9]; decide), ev_ld (by omega) (by omega), e1]
        by_cases c2 : T 1 k = 2
        · rw [if_neg (show ¬ ¬ nI (T 1 k) = (2 : Int32) from fun q => q (by rw [c2]; rfl))]
          show ∃ s' : Int32 × zM, cl (f_X2_letIn r0 (nI k) (nI d) (nI 2) s.2) _ = _ ∧ _
          rw [letIn_e hr (by omega), ev_c]
          refine ⟨(s.1 &&& (((1 : Int32) <<< (nI k &&& 31)) ^^^ (-1 : Int32)), zup (zup s.2 (r0 + 10) k (nI d)) (r0 + 12) k (nI 2)), ?_, ?_, ?_, ?_⟩
          all_goals (try dsimp only)
          · simp only [ev_v, nI_1]
          · refine HR_put h1 (fun i hi => ?_) ?_ ?_ ?_
            · rw [zup_n (show r0 + 10 ≠ r0 + 12 by omega), zup_o hi, zup_n (show r0 + 11 ≠ r0 + 12 by omega), zup_n (show r0 + 11 ≠ r0 + 10 by omega), zup_o hi, zup_n (show r0 + 12 ≠ r0 + 10 by omega)]
              exact ⟨rfl, rfl, rfl⟩
            · rw [zup_n (show r0 + 10 ≠ r0 + 12 by omega), zup_e]; simp [dayA, c1, c2, oI]
            · rw [zup_n (show r0 + 11 ≠ r0 + 12 by omega), zup_n (show r0 + 11 ≠ r0 + 10 by omega)]
              have := (h1 k hk).2.1
              simpa [mix, dayA] using this
            · rw [zup_e]; simp [dayA, c1, c2, oI]
          · exact fun a a1 a2 a3 => by rw [zup_n a3, zup_n a1]; exact h2 a a1 a2 a3
          · intro i hi
            rw [tb_not (by omega) hi, h3 i hi]
            by_cases e : i = k
            · subst e; simp [c2]
            · by_cases e2 : i < k
              · simp [e, e2, Nat.lt_succ_of_lt e2]
              · have e3 : ¬ i < k + 1 := by omega
                simp [e, e2, e3]
        · rw [if_pos (show ¬ nI (T 1 k) = (2 : Int32) from fun q => c2 ((nI_eq (by omega) (by omega)).mp q))]
          refine ⟨s, ?_, ?_, h2, ?_⟩
          · simp only [ev_v, nI_1]
          · exact HR_keep h1 (by simp [dayA, c2]) rfl (by simp [dayA, c2])
          · intro i hi
            rw [h3 i hi]
            by_cases e : i = k
            · subst e; simp [c2]
            · by_cases e2 : i < k
              · simp [e2, Nat.lt_succ_of_lt e2]
              · have e3 : ¬ i < k + 1 := by omega
                simp [e2, e3]
      · have h9 : tb x k = false := by rw [ht]; simp [c1]
        rw [if_pos (by rw [htb, h9])]
        refine ⟨s, ?_, ?_, h2, ?_⟩
        · simp only [ev_v, nI_1]
        · exact HR_keep h1 (by simp [dayA, c1]) rfl (by simp [dayA, c1])
        · intro i hi
          rw [h3 i hi]
          by_cases e : i = k
          · subst e; simp [h9]
          · by_cases e2 : i < k
            · simp [e2, Nat.lt_succ_of_lt e2]
            · have e3 : ¬ i < k + 1 := by omega
              simp [e2, e3]
theorem sunshines_e (hr : hO r0) (hw : wT T) (hT : HT r0 μ T) (hR : HR r0 μ T σ) {d : Nat} (hd : d < 24) {x : Int32} (hx : ∀ i, i < 31 → tb x i = onS T σ d i) :
    ∃ v μ', f_X2_sendSunshines r0 x (nI d) μ = some (v, μ') ∧ HR r0 μ' T (sunS T d σ) ∧ fr3 r0 μ μ' ∧ ∀ i, i < 31 → tb v i = onS T (sunS T d σ) d i := by
  obtain ⟨z1, z2, z3, z4, z5, z6, z7, z8, z9, z10, z11, z12⟩ := hz hr
  have hn := hw.1
  unfold f_X2_sendSunshines
  refine loop_X (fun n i (s : Int32 × zM) => f_X2_sendSunshines_L5 r0 x (nI d) (fun (x10 : Int32) μ => some (x10, μ)) n s.1 i s.2) (fun R => ∃ v μ', R = some (v, μ') ∧ HR r0 μ' T (sunS T d σ) ∧ fr3 r0 μ μ' ∧ ∀ i, i < 31 → tb v i = onS T (sunS T d σ) d i) (T 0 0)
    (fun k s => HR r0 s.2 T (mix k (sunS T d σ) σ) ∧ fr3 r0 μ s.2 ∧ ∀ i, i < 31 → tb s.1 i = (tb x i && !(decide (i < k) && decide (T 1 i = 3)))) ?_ ?_ 400 0 (x, μ) (by omega) (by omega) ⟨HR_0 hR, fr3_rf, fun i hi => by simp⟩
  · intro n s ⟨h1, h2, h3⟩
    refine ⟨s.1, s.2, ?_, HR_end h1, h2, fun i hi => ?_⟩
    · show f_X2_sendSunshines_L5 _ _ _ _ (n + 1) _ _ _ = _
      rw [f_X2_sendSunshines_L5, ev_g, (HT_fr hT h2).1, if_pos (nI_le (Nat.le_refl _) (by omega))]
    · rw [h3 i hi, hx i hi]
      exact (onS_sent (q := fun k => T 1 k = 3)).symm
  · intro n k s hk ⟨h1, h2, h3⟩
    have hT2 := HT_fr hT h2
    have e1 := hT2.2.2.1 1 (by omega) (by omega) k hk
    have hk2 := hw.2.2.1 k hk
    have htb := tb_ask x (i := k) (by omega)
    have ht := hx k (by omega)
    have hgen : T 1 k ≠ 3 ∨ onS T σ d k = false → ∀ i, i < 31 → tb s.1 i = (tb x i && !(decide (i < k + 1) && decide (T 1 i = 3))) := by
      intro hc i hi
      rw [h3 i hi]
      by_cases e : i = k
      · subst e
        rcases hc with hc | hc
        · simp [hc]
        · rw [ht, hc]; simp
      · by_cases e2 : i < k
        · simp [e2, Nat.lt_succ_of_lt e2]
        · have e3 : ¬ i < k + 1 := by omega
          simp [e2, e3]
    show ∃ s' : Int32 × zM, f_X2_sendSunshines_L5 _ _ _ _ (n + 1) _ _ _ = f_X2_sendSunshines_L5 _ _ _ _ n _ _ _ ∧ _
    rw [f_X2_sendSunshines_L5, ev_g, hT2.1, if_neg (nI_ge hk (by omega))]
    by_cases c1 : onS T σ d k = true
    · rw [if_neg (by rw [htb, ht, c1]; decide), ev_ld (by omega) (by omega), e1]
      by_cases c2 : T 1 k = 3
      · rw [if_neg (show ¬ ¬ nI (T 1 k) = (3 : Int32) from fun q => q (by rw [c2]; rfl)), ev_st (by omega) (by omega)]
        refine ⟨(s.1 &&& (((1 : Int32) <<< (nI k &&& 31)) ^^^ (-1 : Int32)), zup s.2 (r0 + 11) k (nI d)), ?_, ?_, ?_, ?_⟩
        all_goals (try dsimp only)
        · simp only [ev_v, nI_1]
        · refine HR_put h1 (fun i hi => ?_) ?_ ?_ ?_
          · rw [zup_n (show r0 + 10 ≠ r0 + 11 by omega), zup_o hi, zup_n (show r0 + 12 ≠ r0 + 11 by omega)]
            exact ⟨rfl, rfl, rfl⟩
          · rw [zup_n (show r0 + 10 ≠ r0 + 11 by omega)]
            have := (h1 k hk).1
            simpa [mix, sunS] using this
          · rw [zup_e]; simp [sunS, c1, c2, oI]
          · rw [zup_n (show r0 + 12 ≠ r0 + 11 by omega)]
            have := (h1 k hk).2.2
            simpa [mix, sunS] using this
        · exact fun a a1 a2 a3 => by rw [zup_n a2]; exact h2 a a1 a2 a3
        · intro i hi
          rw [tb_not (by omega) hi, h3 i hi]
          by_cases e : i = k
          · subst e; simp [c2]
          · by_cases e2 : i < k
            · simp [e, e2, Nat.lt_succ_of_lt e2]
            · have e3 : ¬ i < k + 1 := by omega
              simp [e, e2, e3]
      · rw [if_pos (show ¬ nI (T 1 k) = (3 : Int32) from fun q => c2 ((nI_eq (by omega) (by omega)).mp q))]
        exact ⟨s, by simp only [ev_v, nI_1], HR_keep h1 rfl (by simp [sunS, c2]) rfl, h2, hgen (Or.inl c2)⟩
    · have c1 : onS T σ d k = false := by simpa using c1
      rw [if_pos (by rw [htb, ht, c1])]
      exact ⟨s, by simp only [ev_v, nI_1], HR_keep h1 rfl (by simp [sunS, c1]) rfl, h2, hgen (Or.inr c1)⟩
theorem weary_e (hr : hO r0) (hw : wT T) (hT : HT r0 μ T) (hR : HR r0 μ T σ) {d : Nat} (hd : d < 24) {x : Int32} (hx : ∀ i, i < 31 → tb x i = onS T σ d i) :
    ∃ v μ', f_X2_sendWeary r0 x (nI d) μ = some (v, μ') ∧ HR r0 μ' T (dayD T d σ) ∧ fr3 r0 μ μ' ∧ ∀ i, i < 31 → tb v i = onS T (dayD T d σ) d i := by
  obtain ⟨z1, z2, z3, z4, z5, z6, z7, z8, z9, z10, z11, z12⟩ := hz hr
  have hn := hw.1
  unfold f_X2_sendWeary
  refine loop_X (fun n i (s : Int32 × zM) => f_X2_sendWeary_L5 r0 x (nI d) (fun (x11 : Int32) μ => some (x11, μ)) n s.1 i s.2) (fun R => ∃ v μ', R = some (v, μ') ∧ HR r0 μ' T (dayD T d σ) ∧ fr3 r0 μ μ' ∧ ∀ i, i < 31 → tb v i = onS T (dayD T d σ) d i) (T 0 0)
    (fun k s => HR r0 s.2 T (mix k (dayD T d σ) σ) ∧ fr3 r0 μ s.2 ∧ ∀ i, i < 31 → tb s.1 i = (tb x i && !(decide (i < k) && decide (T 2 i ≤ d - T 3 i + 1)))) ?_ ?_ 400 0 (x, μ) (by omega) (by omega) ⟨HR_0 hR, fr3_rf, fun i hi => by simp⟩
  · intro n s ⟨h1, h2, h3⟩
    refine ⟨s.1, s.2, ?_, HR_end h1, h2, fun i hi => ?_⟩
    · show f_X2_sendWeary_L5 _ _ _ _ (n + 1) _ _ _ = _
      rw [f_X2_sendWeary_L5, ev_g, (HT_fr hT h2).1, if_pos (nI_le (Nat.le_refl _) (by omega))]
    · rw [h3 i hi, hx i hi]
      exact (onS_sent (q := fun k => T 2 k ≤ d - T 3 k + 1)).symm
  · intro n k s hk ⟨h1, h2, h3⟩
    have hT2 := HT_fr hT h2
    have e2 := hT2.2.2.1 2 (by omega) (by omega) k hk
    have e3 := hT2.2.2.1 3 (by omega) (by omega) k hk
    have hk2 := hw.2.2.1 k hk
    have htb := tb_ask x (i := k) (by omega)
    have ht := hx k (by omega)
    have hgen : ¬ T 2 k ≤ d - T 3 k + 1 ∨ onS T σ d k = false → ∀ i, i < 31 → tb s.1 i = (tb x i && !(decide (i < k + 1) && decide (T 2 i ≤ d - T 3 i + 1))) := by
      intro hc i hi
      rw [h3 i hi]
      by_cases e : i = k
      · subst e
        rcases hc with hc | hc
        · simp [hc]
        · rw [ht, hc]; simp
      · by_cases e2 : i < k
        · simp [e2, Nat.lt_succ_of_lt e2]
        · have e3 : ¬ i < k + 1 := by omega
          simp [e2, e3]
    show ∃ s' : Int32 × zM, f_X2_sendWeary_L5 _ _ _ _ (n + 1) _ _ _ = f_X2_sendWeary_L5 _ _ _ _ n _ _ _ ∧ _
    rw [f_X2_sendWeary_L5, ev_g, hT2.1, if_neg (nI_ge hk (by omega))]
    by_cases c1 : onS T σ d k = true
    · have c9 := c1
      simp only [onS, Bool.and_eq_true, decide_eq_true_eq, Option.isNone_iff_eq_none] at c9
      rw [if_neg (by rw [htb, ht, c1]; decide), ev_ld (by omega) (by omega), ev_ld (by omega) (by omega), e2, e3, pk_sub (by omega), nI_1]
      by_cases c2 : T 2 k ≤ d - T 3 k + 1
      · rw [if_neg (nI_nlt c2 (by omega)), ev_st (by omega) (by omega)]
        refine ⟨(s.1 &&& (((1 : Int32) <<< (nI k &&& 31)) ^^^ (-1 : Int32)), zup s.2 (r0 + 11) k (nI d)), ?_, ?_, ?_, ?_⟩
        all_goals (try dsimp only)
        · simp only [ev_v, nI_1]
        · refine HR_put h1 (fun i hi => ?_) ?_ ?_ ?_
          · rw [zup_n (show r0 + 10 ≠ r0 + 11 by omega), zup_o hi, zup_n (show r0 + 12 ≠ r0 + 11 by omega)]
            exact ⟨rfl, rfl, rfl⟩
          · rw [zup_n (show r0 + 10 ≠ r0 + 11 by omega)]
            have := (h1 k hk).1
            simpa [mix, dayD] using this
          · rw [zup_e]; simp [dayD, c1, c2, oI]
          · rw [zup_n (show r0 + 12 ≠ r0 + 11 by omega)]
            have := (h1 k hk).2.2
            simpa [mix, dayD] using this
        · exact fun a a1 a2 a3 => by rw [zup_n a2]; exact h2 a a1 a2 a3
        · intro i hi
          rw [tb_not (by omega) hi, h3 i hi]
          by_cases e : i = k
          · subst e; simp [c2]
          · by_cases e2 : i < k
            · simp [e, e2, Nat.lt_succ_of_lt e2]
            · have e3 : ¬ i < k + 1 := by omega
              simp [e, e2, e3]
      · rw [if_pos (nI_lt (by omega) (by omega))]
        exact ⟨s, by simp only [ev_v, nI_1], HR_keep h1 rfl (by simp [dayD, c2]) rfl, h2, hgen (Or.inl c2)⟩
    · have c1 : onS T σ d k = false := by simpa using c1
      rw [if_pos (by rw [htb, ht, c1])]
      exact ⟨s, by simp only [ev_v, nI_1], HR_keep h1 rfl (by simp [dayD, c1]) rfl, h2, hgen (Or.inr c1)⟩
theorem longest_e (hr : hO r0) (hw : wT T) (hT : HT r0 μ T) {d : Nat} (hd : d < 24) {x : Int32} (hx : ∀ i, i < 31 → tb x i = onS T σ d i) : f_X2_longestInvited r0 x (nI d) μ = some (oI (bestS T σ d), μ) := by
  obtain ⟨z1, z2, z3, z4, z5, z6, z7, z8, z9, z10, z11, z12⟩ := hz hr
  have hn := hw.1
  unfold f_X2_longestInvited bestS
  generalize hp : (fun k => onS T σ d k && decide (T 5 k ≤ d)) = p
  refine loop_X (fun n i (a : Int32) => f_X2_longestInvited_L5 r0 x (nI d) (fun (x15 : Int32) μ => some (x15, μ)) n a i μ) (fun R => R = some (oI (bestBy p (T 3) (T 0 0)), μ)) (T 0 0) (fun k a => a = oI (bestBy p (T 3) k)) ?_ ?_ 400 0 (-1) (by omega) (by omega) rfl
  · intro n a ha
    show f_X2_longestInvited_L5 _ _ _ _ (n + 1) _ _ _ = _
    rw [f_X2_longestInvited_L5, ev_g, hT.1, if_pos (nI_le (Nat.le_refl _) (by omega)), ha]
  · intro n k a hk ha
    have e5 := hT.2.2.1 5 (by omega) (by omega) k hk
    have e3 := hT.2.2.1 3 (by omega) (by omega) k hk
    have hk2 := hw.2.2.1 k hk
    have htb := tb_ask x (i := k) (by omega)
    have ht := hx k (by omega)
    have hpk : p k = (onS T σ d k && decide (T 5 k ≤ d)) := by rw [← hp]
    refine ⟨oI (bestBy p (T 3) (k + 1)), ?_, rfl⟩
    show f_X2_longestInvited_L5 _ _ _ _ (n + 1) _ _ _ = f_X2_longestInvited_L5 _ _ _ _ n _ _ _
    rw [f_X2_longestInvited_L5, ev_g, hT.1, if_neg (nI_ge hk (by omega)), ha]
    by_cases c1 : onS T σ d k = true
    · rw [if_neg (by rw [htb, ht, c1]; decide), ev_ld (by omega) (by omega), e5]
      by_cases c2 : T 5 k ≤ d
      · have hpt : p k = true := by rw [hpk, c1]; simp [c2]
        rw [if_neg (nI_nlt c2 (by omega))]
        cases hb : bestBy p (T 3) k with
        | none => rw [best_1 hpt hb]; simp only [oI, if_true, ev_v, nI_1]
        | some b =>
          obtain ⟨hb1, -⟩ := bestBy_lt hb
          have e4 := hT.2.2.1 3 (by omega) (by omega) b (by omega)
          have hb2 := hw.2.2.1 b (by omega)
          rw [if_neg (show ¬ oI (some b) = -1 from nI_m1 (by omega)), ev_ld (by omega) (by omega)]
          show ldI μ (r0 + 3) (nI b) _ = _
          rw [ev_ld (by omega) (by omega), e3, e4]
          by_cases h1 : T 3 k < T 3 b
          · rw [if_neg (nI_ge h1 (by omega)), best_2 hpt hb h1]; simp only [ev_v, nI_1]; rfl
          · rw [if_pos (nI_le (by omega) (by omega)), best_3 hpt hb h1]; simp only [ev_v, nI_1]
      · have hpf : p k = false := by rw [hpk]; simp [c2]
        rw [if_pos (nI_lt (by omega) (by omega)), best_no hpf]; simp only [ev_v, nI_1]
    · have c1 : onS T σ d k = false := by simpa using c1
      have hpf : p k = false := by rw [hpk, c1]; rfl
      rw [if_pos (by rw [htb, ht, c1]), best_no hpf]; simp only [ev_v, nI_1]
end LV
