-- PURE: the reference runs its days
section MR
variable {μ : zM} {T : zT2} {σ : zSS}
theorem opensA (kx : zM → Option (Unit × zM)) (hw : wT T) (h : MA μ T) {m d : Nat} (hm : m < T 0 1) (hd : d < 24) (hl : LB σ d) (hJ : ∀ k, k < T 0 0 → μ 119 k = nI (stn T σ k d)) : ∃ m1, f_X7_opens_L2 (nI m) (nI d) kx 400 0 μ = kx m1 ∧ (∀ a, a ≠ 119 → m1 a = μ a) ∧ ∀ k, k < T 0 0 → m1 119 k = nI (stn T (if T 6 m = 0 then sunS T d σ else σ) k d) := by
  have zz := zMt
  have hn := hw.1
  have hn2 := hw.2.1
  obtain ⟨m6, -, -⟩ := h.2.2.2 m hm
  have hm6 := (hw.2.2.2 m hm).1
  refine loop_X (fun n i (x : zM) => f_X7_opens_L2 (nI m) (nI d) kx n i x) (fun R => ∃ m1, R = kx m1 ∧ (∀ a, a ≠ 119 → m1 a = μ a) ∧ ∀ k, k < T 0 0 → m1 119 k = nI (stn T (if T 6 m = 0 then sunS T d σ else σ) k d)) (T 0 0) (fun i x => (∀ a, a ≠ 119 → x a = μ a) ∧ ∀ k, k < T 0 0 → x 119 k = nI (if k < i then stn T (if T 6 m = 0 then sunS T d σ else σ) k d else stn T σ k d)) ?_ ?_ 400 0 μ (by omega) (by omega) ⟨fun _ _ => rfl, fun k hk => by rw [if_neg (by omega)]; exact hJ k hk⟩
  · intro n x ⟨g1, g2⟩
    refine ⟨x, ?_, g1, fun k hk => by rw [g2 k hk, if_pos hk]⟩
    show f_X7_opens_L2 _ _ _ (n + 1) _ _ = _
    rw [f_X7_opens_L2, ev_g, g1 100 (by omega), h.1, if_pos (nI_le (Nat.le_refl _) (by omega))]
  · intro n i x hi ⟨g1, g2⟩
    obtain ⟨a1, -⟩ := h.2.2.1 i hi
    have hk2 := hw.2.2.1 i hi
    have g3 := g2 i hi
    rw [if_neg (by omega)] at g3
    have hst : stn T σ i d < 5 := stn_lt
    have hput : ∀ v, nI v = nI (stn T (if T 6 m = 0 then sunS T d σ else σ) i d) → (∀ a, a ≠ 119 → zup x 119 i (nI v) a = μ a) ∧ ∀ k, k < T 0 0 → zup x 119 i (nI v) 119 k = nI (if k < i + 1 then stn T (if T 6 m = 0 then sunS T d σ else σ) k d else stn T σ k d) := by
      intro v hv
      refine ⟨fun a ha => by rw [zup_n ha]; exact g1 a ha, fun k hk => ?_⟩
      by_cases c : k = i
      · subst c; rw [zup_e, if_pos (by omega)]; exact hv
      · rw [zup_o c, g2 k hk]
        by_cases c2 : k < i
        · rw [if_pos c2, if_pos (show k < i + 1 by omega)]
        · rw [if_neg c2, if_neg (show ¬ k < i + 1 by omega)]
    have hsame : ¬ (onS T σ d i = true ∧ T 1 i = 3 ∧ T 6 m = 0) → stn T (if T 6 m = 0 then sunS T d σ else σ) i d = stn T σ i d := by
      intro q
      by_cases c : T 6 m = 0
      · rw [if_pos c]
        exact stn_congr rfl (if_neg (fun q2 => q ⟨q2.1, q2.2, c⟩))
      · rw [if_neg c]
    show ∃ s' : zM, f_X7_opens_L2 _ _ _ (n + 1) _ _ = f_X7_opens_L2 _ _ _ n _ _ ∧ _
    rw [f_X7_opens_L2, ev_g, g1 100 (by omega), h.1, if_neg (nI_ge hi (by omega)), ev_ld (by omega) (by omega), g3]
    by_cases c : onS T σ d i = true
    · have c1 := (st_1 hi hl).mpr c
      rw [if_neg (show ¬ ¬ nI (stn T σ i d) = (1 : Int32) from fun q => q (by rw [c1]; rfl)), ev_ld (by omega) (by omega), g1 104 (by omega), a1]
      by_cases c2 : T 1 i = 3
      · rw [if_neg (show ¬ ¬ nI (T 1 i) = (3 : Int32) from fun q => q (by rw [c2]; rfl)), ev_ld (by omega) (by omega), g1 109 (by omega), m6]
        by_cases c3 : T 6 m = 0
        · rw [if_neg (show ¬ ¬ nI (T 6 m) = (0 : Int32) from fun q => q (by rw [c3]; rfl)), ev_st (by omega) (by omega), ev_v, nI_1]
          refine ⟨_, rfl, hput 4 ?_⟩
          rw [if_pos c3]
          obtain ⟨-, o1, o2, o3⟩ := onS_lt c
          have e1 : (sunS T d σ).2.1 i = some d := if_pos ⟨c, c2⟩
          have e2 : (sunS T d σ).1 i = none := o2
          unfold stn
          rw [if_neg (by omega), e1, e2]
          show nI 4 = nI (if d < d then 1 else 4)
          rw [if_neg (by omega)]
        · rw [if_pos (show ¬ nI (T 6 m) = (0 : Int32) from fun q => c3 ((nI_eq (by omega) (by omega)).mp q)), ev_ld (by omega) (by omega), g3, ev_st (by omega) (by omega), ev_v, nI_1]
          exact ⟨_, rfl, hput _ (by rw [hsame (fun q => c3 q.2.2)])⟩
      · rw [if_pos (show ¬ nI (T 1 i) = (3 : Int32) from fun q => c2 ((nI_eq (by omega) (by omega)).mp q)), ev_ld (by omega) (by omega), g3, ev_st (by omega) (by omega), ev_v, nI_1]
        exact ⟨_, rfl, hput _ (by rw [hsame (fun q => c2 q.2.1)])⟩
    · have c1 : ¬ stn T σ i d = 1 := fun q => c ((st_1 hi hl).mp q)
      rw [if_pos (show ¬ nI (stn T σ i d) = (1 : Int32) from fun q => c1 ((nI_eq (by omega) (by omega)).mp q)), ev_ld (by omega) (by omega), g3, ev_st (by omega) (by omega), ev_v, nI_1]
      exact ⟨_, rfl, hput _ (by rw [hsame (fun q => c q.1)])⟩
theorem opensB (kx : Int32 → zM → Option (Unit × zM)) (h : MT μ T) {v : Int32} {d : Nat} (hd : d < 24) (hl : LB σ d) (hJ : ∀ k, k < T 0 0 → μ 119 k = nI (stn T σ k d)) : f_X7_opens_L66 v (nI d) kx 400 (-1) 0 μ = kx (oI (bestS T σ d)) μ := by
  have zz := zMt
  obtain ⟨hw, hA, nn, dd, ff, b, hN, hiv⟩ := h
  have hn := hw.1
  unfold bestS
  generalize hp : (fun k => onS T σ d k && decide (T 5 k ≤ d)) = p
  refine loop_X (fun n i (a : Int32) => f_X7_opens_L66 v (nI d) kx n a i μ) (fun R => R = kx (oI (bestBy p (T 3) (T 0 0))) μ) (T 0 0) (fun k a => a = oI (bestBy p (T 3) k)) ?_ ?_ 400 0 (-1) (by omega) (by omega) rfl
  · intro n a ha
    show f_X7_opens_L66 _ _ _ (n + 1) _ _ _ = _
    rw [f_X7_opens_L66, ev_g, hA.1, if_pos (nI_le (Nat.le_refl _) (by omega)), ha]
  · intro n k a hk ha
    obtain ⟨-, -, e3, -⟩ := hA.2.2.1 k hk
    have hk2 := hw.2.2.1 k hk
    have hst : stn T σ k d < 5 := stn_lt
    have hpk : p k = (onS T σ d k && decide (T 5 k ≤ d)) := by rw [← hp]
    refine ⟨oI (bestBy p (T 3) (k + 1)), ?_, rfl⟩
    show f_X7_opens_L66 _ _ _ (n + 1) _ _ _ = f_X7_opens_L66 _ _ _ n _ _ _
    rw [f_X7_opens_L66, ev_g, hA.1, if_neg (nI_ge hk (by omega)), ev_ld (by omega) (by omega), hJ k hk, ha]
    by_cases c1 : onS T σ d k = true
    · have c1' := (st_1 hk hl).mpr c1
      rw [if_neg (show ¬ ¬ nI (stn T σ k d) = (1 : Int32) from fun q => q (by rw [c1']; rfl)), hasCard_e hN (by omega) hd, ev_c, ← hiv k hk]
      by_cases c2 : T 5 k ≤ d
      · have hpt : p k = true := by rw [hpk, c1]; simp [c2]
        rw [decide_eq_true c2, if_neg (by decide)]
        cases hb : bestBy p (T 3) k with
        | none => rw [best_1 hpt hb, if_pos (show oI none = -1 from rfl), ev_v, nI_1]; rfl
        | some w =>
          obtain ⟨hb1, -⟩ := bestBy_lt hb
          obtain ⟨-, -, e4, -⟩ := hA.2.2.1 w (by omega)
          have hb2 := hw.2.2.1 w (by omega)
          rw [if_neg (show ¬ oI (some w) = -1 from nI_m1 (by omega)), ev_ld (by omega) (by omega)]
          show ldI μ 106 (nI w) _ = _
          rw [ev_ld (by omega) (by omega), e3, e4]
          by_cases h1 : T 3 k < T 3 w
          · rw [if_neg (nI_ge h1 (by omega)), best_2 hpt hb h1, ev_v, nI_1]; rfl
          · rw [if_pos (nI_le (by omega) (by omega)), best_3 hpt hb h1, ev_v, nI_1]
      · have hpf : p k = false := by rw [hpk]; simp [c2]
        rw [decide_eq_false c2, if_pos (show bI false = 0 from rfl), best_no hpf, ev_v, nI_1]
    · have c1' : ¬ stn T σ k d = 1 := fun q => c1 ((st_1 hk hl).mp q)
      have c1 : onS T σ d k = false := by simpa using c1
      have hpf : p k = false := by rw [hpk, c1]; rfl
      rw [if_pos (show ¬ nI (stn T σ k d) = (1 : Int32) from fun q => c1' ((nI_eq (by omega) (by omega)).mp q)), best_no hpf, ev_v, nI_1]
def frB (μ μ' : zM) : Prop := (∀ a, a ≠ 100 → a ≠ 119 → a ≠ 120 → a ≠ 121 → μ' a = μ a) ∧ ∀ i, i ≠ 21 → i ≠ 22 → μ' 100 i = μ 100 i
theorem frR_B {μ μ1 : zM} (h : frB μ μ1) : frR μ μ1 := ⟨fun a x y z w _ _ _ _ => h.1 a x y z w, h.2⟩
theorem LB_B {T : zT2} {σ : zSS} {d : Nat} (h : LB σ d) : LB (dayB T d σ) d := fun k => by
  obtain ⟨b1, -, b3⟩ := stB T d σ k
  rw [b1]
  refine ⟨(h k).1, fun c hc => ?_⟩
  rcases b3 with b3 | ⟨-, -, b3⟩
  · rw [b3] at hc; exact (h k).2 c hc
  · rw [b3] at hc; cases hc; exact Nat.le_refl _
theorem LB_C {T : zT2} {σ : zSS} {d : Nat} (h : LB σ d) : LB (dayC T d σ) d := fun k => by
  obtain ⟨c1, c2⟩ := stC T d σ k
  rw [c1]
  refine ⟨fun c hc => ?_, (h k).2⟩
  rcases c2 with ⟨c2, -⟩ | ⟨_, -, -, c2, -⟩
  · rw [c2] at hc; exact (h k).1 c hc
  · rw [c2] at hc; cases hc; exact Nat.le_refl _
theorem opens_e (h : MT μ T) {m d : Nat} (hm : doorS T d = some m) (hd : d < 24) (hl : LB σ d) (hJ : MJ μ T (fun k => stn T σ k d) σ) (h21 : μ 100 21 = -1 ∨ ∃ n, n < 24 ∧ μ 100 21 = nI n) : ∃ μ', f_X7_opens (nI m) (nI d) μ = some ((), μ') ∧ MJ μ' T (fun k => stn T (dayC T d (dayB T d σ)) k d) (dayC T d (dayB T d σ)) ∧ frB μ μ' ∧ (match bestS T (dayB T d σ) d with
    | none => μ' 100 = μ 100
    | some b => (μ 100 21 = -1 → μ' 100 21 = nI d ∧ μ' 100 22 = nI b) ∧ (¬ μ 100 21 = -1 → μ' 100 21 = μ 100 21 ∧ μ' 100 22 = μ 100 22)) := by
  have zz := zMt
  have hh := h
  obtain ⟨hw, hA, nn, dd, ff, b, hN, hiv⟩ := h
  have hn := hw.1
  have hn2 := hw.2.1
  obtain ⟨hm1, -, -⟩ := fstP_lt hm
  obtain ⟨m6, -, -⟩ := hA.2.2.2 m hm1
  have hm6 := (hw.2.2.2 m hm1).1
  unfold f_X7_opens
  have eB : dayB T d σ = if T 6 m = 0 then sunS T d σ else σ := by unfold dayB; rw [hm]
  obtain ⟨m1, e1, g1, g2⟩ := opensA (σ := σ) (fun μ => f_X7_opens_L66 (nI m) (nI d) (fun (x31 : Int32) μ => (if x31 = (-1 : Int32) then some ((), μ) else ldI μ 109 (nI m) fun x33 => jn (fun (y34 : Int32) (μ : zM) => cl (f_X7_letsIn x31 (nI d) y34 μ) fun _ μ => gI μ 100 21 fun x35 => jn (fun (y36 : Int32) (μ : zM) => pI μ 100 22 y36 fun μ => gI μ 100 21 fun x37 => (if ¬ x37 = (-1 : Int32) then gI μ 100 21 fun x39 => pI μ 100 21 x39 fun μ => some ((), μ) else pI μ 100 21 (nI d) fun μ => some ((), μ))) fun j183_2 => (if ¬ x35 = (-1 : Int32) then gI μ 100 22 fun x41 => j183_2 x41 μ else j183_2 x31 μ)) fun j163_1 => (if ¬ x33 = (1 : Int32) then ldI μ 104 x31 fun x43 => j163_1 x43 μ else ldI μ 104 x31 fun x44 => gd (¬ (4 : Int32) = 0) (j163_1 ((x44 + (1 : Int32)) - (x44 + (1 : Int32)) / (4 : Int32) * (4 : Int32)) μ)))) 400 (-1 : Int32) (0 : Int32) μ) hw hA hm1 hd hl (fun k hk => (hJ k hk).1)
  rw [e1]
  rw [← eB] at g2
  have hlB := LB_B (T := T) hl
  have hT1 : MT m1 T := MT_fr hh (frR_A (fun a x _ _ => g1 a x))
  rw [opensB _ hT1 hd hlB g2]
  have hs1 : ∀ k, (dayB T d σ).1 k = σ.1 k ∧ (dayB T d σ).2.2 k = σ.2.2 k := fun k => ⟨(stB T d σ k).1, (stB T d σ k).2.1⟩
  cases hb : bestS T (dayB T d σ) d with
  | none =>
    have eC : dayC T d (dayB T d σ) = dayB T d σ := by unfold dayC; rw [hm, hb]
    rw [eC]
    refine ⟨m1, rfl, fun k hk => ?_, ⟨fun a _ x _ _ => g1 a x, fun i _ _ => by rw [g1 100 (by omega)]⟩, g1 100 (by omega)⟩
    obtain ⟨q1, q2⟩ := hs1 k
    refine ⟨g2 k hk, fun c hc => ?_, ?_⟩
    · rw [q1] at hc; rw [g1 120 (by omega)]; exact (hJ k hk).2.1 c hc
    · rw [q2, g1 121 (by omega)]; exact (hJ k hk).2.2
  | some b =>
    have eC : dayC T d (dayB T d σ) = letS b d (nmS T m b) (dayB T d σ) := by unfold dayC; rw [hm, hb]
    obtain ⟨hb1, hb2, -⟩ := best_on hb
    obtain ⟨a1, -⟩ := hA.2.2.1 b hb1
    have hk2 := hw.2.2.1 b hb1
    have hnm : nmS T m b < 4 := nmS_lt hw hb1
    have key : ∀ {α : Type} (t : Int32 → zM → Option α), jn t (fun j163_1 => (if ¬ nI (T 6 m) = (1 : Int32) then ldI m1 104 (nI b) fun x43 => j163_1 x43 m1 else ldI m1 104 (nI b) fun x44 => gd (¬ (4 : Int32) = 0) (j163_1 ((x44 + (1 : Int32)) - (x44 + (1 : Int32)) / (4 : Int32) * (4 : Int32)) m1))) = t (nI (nmS T m b)) m1 := by
      intro α t
      rw [ev_j, ev_ld (by omega) (by omega), ev_ld (by omega) (by omega), g1 104 (by omega), a1, ev_gd (by decide), nI_1]
      rw [show nI (T 1 b + 1) - nI (T 1 b + 1) / (4 : Int32) * (4 : Int32) = nI ((T 1 b + 1) % 4) from pk_rem (a := T 1 b + 1) (d := 4) (by omega) (by omega) (by omega)]
      unfold nmS
      by_cases c : T 6 m = 0
      · rw [if_pos c, if_pos (show ¬ nI (T 6 m) = (1 : Int32) from fun q => by have := (nI_eq (b := 1) (by omega) (by omega)).mp q; omega)]
      · have c1 : T 6 m = 1 := by omega
        rw [if_neg c, if_neg (show ¬ ¬ nI (T 6 m) = (1 : Int32) from fun q => q (by rw [c1]; rfl))]
    show ∃ μ', (if oI (some b) = (-1 : Int32) then some ((), m1) else ldI m1 109 (nI m) fun x33 => jn (fun (y34 : Int32) (μ : zM) => cl (f_X7_letsIn (nI b) (nI d) y34 μ) fun _ μ => gI μ 100 21 fun x35 => jn (fun (y36 : Int32) (μ : zM) => pI μ 100 22 y36 fun μ => gI μ 100 21 fun x37 => (if ¬ x37 = (-1 : Int32) then gI μ 100 21 fun x39 => pI μ 100 21 x39 fun μ => some ((), μ) else pI μ 100 21 (nI d) fun μ => some ((), μ))) fun j183_2 => (if ¬ x35 = (-1 : Int32) then gI μ 100 22 fun x41 => j183_2 x41 μ else j183_2 (nI b) μ)) fun j163_1 => (if ¬ x33 = (1 : Int32) then ldI m1 104 (nI b) fun x43 => j163_1 x43 m1 else ldI m1 104 (nI b) fun x44 => gd (¬ (4 : Int32) = 0) (j163_1 ((x44 + (1 : Int32)) - (x44 + (1 : Int32)) / (4 : Int32) * (4 : Int32)) m1))) = _ ∧ _
    rw [if_neg (show ¬ oI (some b) = -1 from nI_m1 (by omega)), ev_ld (by omega) (by omega), g1 109 (by omega), m6, key, letsIn_e (by omega), ev_c, ev_g]
    generalize hm3 : zup (zup (zup m1 119 b (nI 2)) 120 b (nI d)) 121 b (nI (nmS T m b)) = m3
    have e100 : m3 100 = μ 100 := by rw [← hm3, zup_n (by omega), zup_n (by omega), zup_n (by omega)]; exact g1 100 (by omega)
    have hF3 : ∀ a, a ≠ 119 → a ≠ 120 → a ≠ 121 → m3 a = μ a := fun a x y z => by rw [← hm3, zup_n z, zup_n y, zup_n x]; exact g1 a x
    have hJ3 : MJ m3 T (fun k => stn T (letS b d (nmS T m b) (dayB T d σ)) k d) (letS b d (nmS T m b) (dayB T d σ)) := by
      intro k hk
      by_cases c : k = b
      · subst c
        have e5 : (letS k d (nmS T m k) (dayB T d σ)).1 k = some d := if_pos rfl
        have e6 : (letS k d (nmS T m k) (dayB T d σ)).2.2 k = some (nmS T m k) := if_pos rfl
        obtain ⟨-, o1, -, -⟩ := onS_lt hb2
        refine ⟨?_, fun c hc => ?_, ?_⟩
        · rw [← hm3, zup_n (by omega), zup_n (by omega), zup_e]
          have : stn T (letS k d (nmS T m k) (dayB T d σ)) k d = 2 := by
            rw [st_2 (fun x hx => by rw [e5] at hx; cases hx; omega)]
            unfold inn
            rw [e5]
            simp; omega
          show nI 2 = nI (stn T (letS k d (nmS T m k) (dayB T d σ)) k d)
          rw [this]
        · rw [e5] at hc; cases hc
          rw [← hm3, zup_n (by omega), zup_e]
        · rw [e6, ← hm3, zup_e]; rfl
      · have e5 : (letS b d (nmS T m b) (dayB T d σ)).1 k = (dayB T d σ).1 k := if_neg c
        have e6 : (letS b d (nmS T m b) (dayB T d σ)).2.2 k = (dayB T d σ).2.2 k := if_neg c
        obtain ⟨q1, q2⟩ := hs1 k
        refine ⟨?_, fun x hx => ?_, ?_⟩
        · rw [← hm3, zup_n (by omega), zup_n (by omega), zup_o c, g2 k hk]
          show nI (stn T (dayB T d σ) k d) = nI (stn T (letS b d (nmS T m b) (dayB T d σ)) k d)
          rw [stn_congr (σ := dayB T d σ) (σ' := letS b d (nmS T m b) (dayB T d σ)) e5 rfl]
        · rw [e5, q1] at hx
          rw [← hm3, zup_n (by omega), zup_o c, zup_n (by omega), g1 120 (by omega)]
          exact (hJ k hk).2.1 x hx
        · rw [e6, q2, ← hm3, zup_o c, zup_n (by omega), zup_n (by omega), g1 121 (by omega)]
          exact (hJ k hk).2.2
    have hfin : ∀ u v : Int32, MJ (zup (zup m3 100 22 u) 100 21 v) T (fun k => stn T (letS b d (nmS T m b) (dayB T d σ)) k d) (letS b d (nmS T m b) (dayB T d σ)) ∧ frB μ (zup (zup m3 100 22 u) 100 21 v) := by
      intro u v
      refine ⟨fun k hk => ?_, fun a x1 x2 x3 x4 => ?_, fun i x y => ?_⟩
      · rw [zup_n (show 119 ≠ 100 by omega), zup_n (show 119 ≠ 100 by omega), zup_n (show 120 ≠ 100 by omega), zup_n (show 120 ≠ 100 by omega), zup_n (show 121 ≠ 100 by omega), zup_n (show 121 ≠ 100 by omega)]
        exact hJ3 k hk
      · rw [zup_n x1, zup_n x1]; exact hF3 a x2 x3 x4
      · rw [zup_o x, zup_o y, e100]
    rw [eC, ev_j, e100]
    rcases h21 with q | ⟨n9, q9, q⟩
    · rw [if_neg (show ¬ ¬ μ 100 21 = (-1 : Int32) from fun x => x q)]
      dsimp only
      rw [ev_p, ev_g, zup_o (by omega), e100, if_neg (show ¬ ¬ μ 100 21 = (-1 : Int32) from fun x => x q), ev_p]
      obtain ⟨r1, r2⟩ := hfin (nI b) (nI d)
      exact ⟨_, rfl, r1, r2, fun _ => ⟨by rw [zup_e], by rw [zup_o (by omega), zup_e]⟩, fun x => absurd q x⟩
    · have q1 : ¬ μ 100 21 = (-1 : Int32) := by rw [q]; exact nI_m1 (by omega)
      rw [if_pos q1, ev_g]
      dsimp only
      rw [ev_p, ev_g, zup_o (by omega), e100, if_pos q1, ev_g, zup_o (by omega), e100, ev_p]
      obtain ⟨r1, r2⟩ := hfin (μ 100 22) (μ 100 21)
      exact ⟨_, rfl, r1, r2, fun x => absurd x q1, fun _ => ⟨by rw [zup_e], by rw [zup_o (by omega), zup_e]⟩⟩
theorem warms_e {v : Nat} (hv : v < 4) : f_X7_warms (nI v) μ = some (zsv 72 v, μ) := by
  have : v = 0 ∨ v = 1 ∨ v = 2 ∨ v = 3 := by omega
  rcases this with rfl | rfl | rfl | rfl <;> rfl
end MR
