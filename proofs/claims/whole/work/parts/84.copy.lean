-- PURE: copy, write
section CW
variable {μC μM : zM}
def rn (z : Nat) (a n : Int32) : Bool := !decide (n < 0) && (wi a 0 (nI z) && !decide (nI z - a < n))
theorem rn_iff {z : Nat} (hz : z ≤ 60) {a n : Int32} : rn z a n = true ↔ ∃ i m, a = nI i ∧ n = nI m ∧ i + m ≤ z := by
  unfold rn
  simp only [Bool.and_eq_true, Bool.not_eq_true', decide_eq_false_iff_not]
  constructor
  · rintro ⟨h1, h2, h3⟩
    obtain ⟨m, hm, rfl⟩ := nI_of h1
    obtain ⟨i, hi, rfl⟩ := (wi_of (by omega)).mp h2
    rw [pk_sub hi, nI_ltI (by omega) hm] at h3
    exact ⟨i, m, rfl, rfl, by omega⟩
  · rintro ⟨i, m, rfl, rfl, h⟩
    refine ⟨nI_pos (by omega), wi_t (by omega) (by omega), ?_⟩
    rw [pk_sub (by omega)]
    exact nI_nlt (by omega) (by omega)
theorem hasRun_e {μ : zM} {r z : Nat} (h : μ r 1 = nI z) (a n : Int32) : f_X4_hasRun r a n μ = some (bI (rn z a n), μ) := by
  unfold f_X4_hasRun rn
  by_cases c : n < 0
  · rw [if_pos c, decide_eq_true c]; rfl
  · rw [if_neg c, decide_eq_false c, ev_g, h, within_e, ev_c]
    cases wi a 0 (nI z) with
    | false => rw [if_pos (show bI false = 0 from rfl)]; rfl
    | true =>
      rw [if_neg nb0, ev_g, h]
      by_cases c2 : nI z - a < n
      · rw [if_pos c2, decide_eq_true c2]; rfl
      · rw [if_neg c2, decide_eq_false c2]; rfl
theorem ev_cp {α : Type} {μ : zM} {id jd i j n : Nat} {c : zM → Option α} (h1 : i + n ≤ zln id) (h2 : j + n ≤ zln jd) (hz : zln id < 2 ^ 31) (hz2 : zln jd < 2 ^ 31) : cpI μ id (nI i) jd (nI j) (nI n) c = c (zcp μ id i jd j n) := by
  unfold cpI
  rw [nI_clamp (by omega), nI_clamp (by omega), nI_clamp (by omega), if_neg]
  rintro ((q | q) | q | q | q)
  · exact nI_pos (by omega) q
  · exact nI_pos (by omega) q
  · exact nI_pos (by omega) q
  · omega
  · omega
theorem copyA {μ : zM} {s i n : Nat} (hs : s < 4) (hi : i + n ≤ 60) (v3 v4 : Int32) (kx : zM → Option (Int32 × zM)) : ∃ μ', f_X7_copy_L120 (nI s) (nI i) v3 v4 (nI n) kx 400 0 μ = kx μ' ∧ (∀ a, a ≠ 137 → μ' a = μ a) ∧ ∀ k, k < n → μ' 137 k = μ 136 (60 * s + i + k) := by
  have zm := zMt
  refine loop_X (fun q k (m : zM) => f_X7_copy_L120 (nI s) (nI i) v3 v4 (nI n) kx q k m) (fun R => ∃ μ', R = kx μ' ∧ (∀ a, a ≠ 137 → μ' a = μ a) ∧ ∀ k, k < n → μ' 137 k = μ 136 (60 * s + i + k)) n (fun k m => (∀ a, a ≠ 137 → m a = μ a) ∧ ∀ j, j < k → m 137 j = μ 136 (60 * s + i + j)) ?_ ?_ 400 0 μ (by omega) (by omega) ⟨fun _ _ => rfl, fun j hj => by omega⟩
  · intro q m ⟨g1, g2⟩
    refine ⟨m, ?_, g1, g2⟩
    show f_X7_copy_L120 _ _ _ _ _ _ (q + 1) _ _ = _
    rw [f_X7_copy_L120, if_pos (nI_le (Nat.le_refl _) (by omega))]
  · intro q k m hk ⟨g1, g2⟩
    show ∃ s' : zM, f_X7_copy_L120 _ _ _ _ _ _ (q + 1) _ _ = f_X7_copy_L120 _ _ _ _ _ _ q _ _ ∧ _
    rw [f_X7_copy_L120, if_neg (nI_ge hk (by omega)), q_mul_60, nI_add, nI_add, ev_ld (by omega) (by omega), ev_st (by omega) (by omega), ev_v, nI_1, g1 136 (by omega)]
    refine ⟨_, rfl, fun a x => by rw [zup_n x]; exact g1 a x, fun j hj => ?_⟩
    by_cases c : j = k
    · subst c; rw [zup_e]
    · rw [zup_o c]; exact g2 j (by omega)
theorem copyB {μ : zM} {t j n : Nat} (ht : t < 4) (hj : j + n ≤ 60) (kx : zM → Option (Int32 × zM)) : ∃ μ', f_X7_copy_L157 (nI t) (nI j) (nI n) kx 400 0 μ = kx μ' ∧ (∀ a, a ≠ 136 → μ' a = μ a) ∧ (∀ k, k < n → μ' 136 (60 * t + j + k) = μ 137 k) ∧ ∀ x, x < 60 * t + j ∨ 60 * t + j + n ≤ x → μ' 136 x = μ 136 x := by
  have zm := zMt
  refine loop_X (fun q k (m : zM) => f_X7_copy_L157 (nI t) (nI j) (nI n) kx q k m) (fun R => ∃ μ', R = kx μ' ∧ (∀ a, a ≠ 136 → μ' a = μ a) ∧ (∀ k, k < n → μ' 136 (60 * t + j + k) = μ 137 k) ∧ ∀ x, x < 60 * t + j ∨ 60 * t + j + n ≤ x → μ' 136 x = μ 136 x) n (fun k m => (∀ a, a ≠ 136 → m a = μ a) ∧ (∀ i, i < k → m 136 (60 * t + j + i) = μ 137 i) ∧ ∀ x, x < 60 * t + j ∨ 60 * t + j + n ≤ x → m 136 x = μ 136 x) ?_ ?_ 400 0 μ (by omega) (by omega) ⟨fun _ _ => rfl, fun j hj => by omega, fun _ _ => rfl⟩
  · intro q m ⟨g1, g2, g3⟩
    refine ⟨m, ?_, g1, g2, g3⟩
    show f_X7_copy_L157 _ _ _ _ (q + 1) _ _ = _
    rw [f_X7_copy_L157, if_pos (nI_le (Nat.le_refl _) (by omega))]
  · intro q k m hk ⟨g1, g2, g3⟩
    show ∃ s' : zM, f_X7_copy_L157 _ _ _ _ (q + 1) _ _ = f_X7_copy_L157 _ _ _ _ q _ _ ∧ _
    rw [f_X7_copy_L157, if_neg (nI_ge hk (by omega)), ev_ld (by omega) (by omega), q_mul_60, nI_add, nI_add, ev_st (by omega) (by omega), ev_v, nI_1, g1 137 (by omega)]
    refine ⟨_, rfl, fun a x => by rw [zup_n x]; exact g1 a x, fun i hi => ?_, fun x hx => by rw [zup_o (by omega)]; exact g3 x hx⟩
    by_cases c : i = k
    · subst c; rw [zup_e]
    · rw [zup_o (by omega)]; exact g2 i (by omega)
theorem op_copy (a1 a2 a3 a4 a5 : Int32) (h : zRel μC μM) : ∃ (r : Int32) (μC1 μM1 : zM), f_X6_copy a1 a2 a3 a4 a5 μC = some (r, μC1) ∧ f_X7_copy a1 a2 a3 a4 a5 μM = some (r, μM1) ∧ zRel μC1 μM1 := by
  have zz := zC
  have zm := zMt
  unfold f_X6_copy f_X7_copy
  rw [isSheetC_e, isSheetM_e, ev_c, ev_c]
  rcases wi_cases a1 (n := 3) (by omega) with c | ⟨s, hs, rfl⟩
  · rw [show wi a1 0 3 = false from c, if_pos (show bI false = 0 from rfl), if_pos (show bI false = 0 from rfl)]
    exact ⟨-2, μC, μM, rfl, rfl, h⟩
  · rw [show wi (nI s) 0 3 = true from wi_t (n := 3) (by omega) (by omega), if_neg nb0, if_neg nb0, isSheetC_e, isSheetM_e, ev_c, ev_c]
    rcases wi_cases a3 (n := 3) (by omega) with c | ⟨t, ht, rfl⟩
    · rw [show wi a3 0 3 = false from c, if_neg (fun q => q rfl), if_neg (fun q => q rfl)]
      exact ⟨-2, μC, μM, rfl, rfl, h⟩
    · have hzs := zSh (s := s) (by omega)
      have hzt := zSh (s := t) (by omega)
      rw [show wi (nI t) 0 3 = true from wi_t (n := 3) (by omega) (by omega), if_pos nb0, if_pos nb0, ev_ldR (by omega) (by omega), ev_ldR (by omega) (by omega), show zrf 12 s = 13 + 2 * s from rfl, show zrf 12 t = 13 + 2 * t from rfl, ev_ld (by omega) (by omega), ev_ld (by omega) (by omega), ev_ld (by omega) (by omega), ev_ld (by omega) (by omega), ev_ld (by omega) (by omega), ev_ld (by omega) (by omega)]
      rcases shCase h (s := s) (by omega) with ⟨c1, c2⟩ | ⟨c1, ⟨f, hf, c2, c3⟩, ⟨c4, c5, c6⟩, c7⟩
      · rw [isLost_1 c2, ev_c, if_pos (show ¬ (1 : Int32) = 0 by decide), found_e, ev_c, c1, if_pos (show (0 : Int32) = 0 from rfl), meets_e, ev_c]
        exact ⟨_, _, _, rfl, rfl, zRel_find h 1⟩
      · rw [isLost_0 c3 hf, ev_c, if_neg (show ¬ ¬ (0 : Int32) = 0 from fun q => q rfl), c1, if_neg (show ¬ (1 : Int32) = 0 by decide)]
        rcases shCase h (s := t) (by omega) with ⟨d1, d2⟩ | ⟨d1, ⟨g, hg, d2, d3⟩, ⟨d4, d5, d6⟩, d7⟩
        · rw [isLost_1 d2, ev_c, if_neg (show ¬ (1 : Int32) = 0 by decide), found_e, ev_c, d1, if_neg (show ¬ ¬ (0 : Int32) = 0 from fun q => q rfl), meets_e, ev_c]
          exact ⟨_, _, _, rfl, rfl, zRel_find h 1⟩
        · rw [isLost_0 d3 hg, ev_c, if_pos (show (0 : Int32) = 0 from rfl), d1, if_pos (show ¬ (1 : Int32) = 0 by decide), ev_g, ev_g, c3, d3, c2, d2]
          by_cases cf : nI f = nI g
          · rw [if_pos cf, if_pos cf, hasRun_e c6, ev_c, hasRun_e d6, ev_c, c5, d5]
            by_cases hgood : rn (sz μM s) a2 a5 = true ∧ rn (sz μM t) a4 a5 = true
            · obtain ⟨i, m, rfl, rfl, hi⟩ := (rn_iff c4).mp hgood.1
              obtain ⟨j, m', rfl, e9, hj⟩ := (rn_iff d4).mp hgood.2
              have hm' : m' = m := by
                by_cases q : m' < 2 ^ 31
                · exact ((nI_eq (by omega) q).mp e9).symm
                · omega
              subst hm'
              rw [hgood.1, hgood.2, if_neg nb0, if_pos nb0, ev_cp (by omega) (by omega) (by omega) (by omega), if_neg (nI_pos (by omega)), if_neg (nI_pos (by omega)), if_neg (nI_pos (by omega)), nI_l (by omega), nI_l (by omega), nI_l (by omega), nI_l (by omega), nI_l (by omega), lN_add, lN_add, if_neg (by rw [lg_cmp_gt, pk_lLT (by omega) (by omega)]; omega), if_pos (by rw [lg_cmp_le, pk_lLE (by omega) (by omega)]; omega)]
              obtain ⟨m1, x1, x2, x3⟩ := copyA (μ := μM) (s := s) (i := i) (n := m') (by omega) (by omega) (nI t) (nI j) (fun μ => f_X7_copy_L157 (nI t) (nI j) (nI m') (fun μ => some ((1 : Int32), μ)) 400 (0 : Int32) μ)
              rw [x1]
              obtain ⟨m2, y1, y2, y3, y4⟩ := copyB (μ := m1) (t := t) (j := j) (n := m') (by omega) (by omega) (fun μ => some ((1 : Int32), μ))
              rw [y1]
              have hM2 : ∀ a, a ≠ 136 → a ≠ 137 → m2 a = μM a := fun a p q => by rw [y2 a p, x2 a q]
              have eid : 13 + 2 * t + 1 = 14 + 2 * t := by omega
              have eis : 13 + 2 * s + 1 = 14 + 2 * s := by omega
              refine ⟨_, _, _, rfl, rfl, sh_put h (s := t) (by omega) (fun a ha => hM2 a (by omega) (by omega)) (fun a x y => by rw [zcp_n (by omega)]) (fun k hk hc => ⟨by rw [hM2 133 (by omega) (by omega)], by rw [hM2 134 (by omega) (by omega)], by rw [hM2 135 (by omega) (by omega)], fun x hx => by rw [y4 _ (by omega), x2 136 (by omega)]⟩) (Or.inr ⟨by rw [hM2 133 (by omega) (by omega)]; exact d1, g, sz μM t, hg, d4, by rw [hM2 134 (by omega) (by omega)]; exact d2, by rw [hM2 135 (by omega) (by omega)]; exact d5, by rw [zcp_n (by omega)]; exact d3, by rw [zcp_n (by omega)]; exact d6, fun x hx => ?_⟩)⟩
              rw [← eid, zcp_s]
              by_cases q : j ≤ x ∧ x < j + m'
              · rw [pk_cpy_in q.1 q.2, c7 _ (by omega)]
                have := y3 (x - j) (by omega)
                rw [show 60 * t + j + (x - j) = 60 * t + x by omega] at this
                rw [this, x3 _ (by omega)]
                congr 1; omega
              · rw [pk_cpy_out (by omega), d7 x hx, y4 _ (by omega), x2 136 (by omega)]
            · -- one of the runs is not there: both find an index
              have hC : (if bI (rn (sz μM s) a2 a5) = 0 then cl (f_X6_found (2 : Int32) μC) fun x17 μ => some (x17, μ) else (if ¬ bI (rn (sz μM t) a4 a5) = 0 then cpI μC (13 + 2 * s + 1) a2 (13 + 2 * t + 1) a4 a5 fun μ => some ((1 : Int32), μ) else cl (f_X6_found (2 : Int32) μC) fun x20 μ => some (x20, μ))) = some ((-10 : Int32) - 2, zup μC 0 8 2) := by
                cases e1 : rn (sz μM s) a2 a5 with
                | false => rw [if_pos (show bI false = 0 from rfl), found_e, ev_c]
                | true =>
                  cases e2 : rn (sz μM t) a4 a5 with
                  | false => rw [if_neg nb0, if_neg (fun q => q rfl), found_e, ev_c]
                  | true => exact absurd ⟨e1, e2⟩ hgood
              rw [hC]
              refine ⟨_, _, zup μM 100 37 2, rfl, ?_, zRel_find h 2⟩
              by_cases q1 : a2 < 0
              · rw [if_pos q1, meets_e, ev_c]
              · rw [if_neg q1]
                by_cases q2 : a4 < 0
                · rw [if_pos q2, meets_e, ev_c]
                · rw [if_neg q2]
                  by_cases q3 : a5 < 0
                  · rw [if_pos q3, meets_e, ev_c]
                  · rw [if_neg q3]
                    obtain ⟨i, hi, rfl⟩ := nI_of q1
                    obtain ⟨j, hj, rfl⟩ := nI_of q2
                    obtain ⟨m, hm, rfl⟩ := nI_of q3
                    rw [nI_l hi, nI_l hj, nI_l hm, nI_l (by omega), nI_l (by omega), lN_add, lN_add]
                    by_cases q4 : sz μM s < i + m
                    · rw [if_pos (by rw [lg_cmp_gt, pk_lLT (by omega) (by omega)]; exact q4), meets_e, ev_c]
                    · rw [if_neg (by rw [lg_cmp_gt, pk_lLT (by omega) (by omega)]; exact q4)]
                      by_cases q5 : j + m ≤ sz μM t
                      · exact absurd ⟨(rn_iff c4).mpr ⟨i, m, rfl, rfl, by omega⟩, (rn_iff d4).mpr ⟨j, m, rfl, rfl, q5⟩⟩ hgood
                      · rw [if_neg (by rw [lg_cmp_le, pk_lLE (by omega) (by omega)]; exact q5), meets_e, ev_c]
          · rw [if_neg cf, if_neg cf, found_e, meets_e, ev_c, ev_c]
            exact ⟨_, _, _, rfl, rfl, zRel_find h 4⟩
theorem op_write (a1 : Int32) (h : zRel μC μM) : ∃ (r : Int32) (μC1 μM1 : zM), f_X6_write a1 μC = some (r, μC1) ∧ f_X7_write a1 μM = some (r, μM1) ∧ zRel μC1 μM1 := by
  have zz := zC
  have zm := zMt
  unfold f_X6_write f_X7_write
  rw [isSheetC_e, isSheetM_e, ev_c, ev_c]
  rcases wi_cases a1 (n := 3) (by omega) with c | ⟨s, hs, rfl⟩
  · rw [show wi a1 0 3 = false from c, if_neg (fun q => q rfl), if_neg (fun q => q rfl)]
    exact ⟨-2, μC, μM, rfl, rfl, h⟩
  · rw [show wi (nI s) 0 3 = true from wi_t (n := 3) (by omega) (by omega), if_pos nb0, if_pos nb0, ev_ldR (by omega) (by omega), show zrf 12 s = 13 + 2 * s from rfl, ev_ld (by omega) (by omega)]
    rcases shCase h (s := s) (by omega) with ⟨c1, c2⟩ | ⟨c1, ⟨f, hf, c2, c3⟩, ⟨c4, c5, c6⟩, c7⟩
    · rw [isLost_1 c2, ev_c, if_neg (show ¬ (1 : Int32) = 0 by decide), found_e, ev_c, c1, if_neg (show ¬ ¬ (0 : Int32) = 0 from fun q => q rfl), meets_e, ev_c]
      exact ⟨_, _, _, rfl, rfl, zRel_find h 1⟩
    · rw [isLost_0 c3 hf, ev_c, if_pos (show (0 : Int32) = 0 from rfl), c1, if_pos (show ¬ (1 : Int32) = 0 by decide)]
      obtain ⟨mc0, t1, t2, t3, -⟩ := told_e h.1 h.2
      obtain ⟨mm0, u1, u2, u3⟩ := runsTold_e h.1 frM_rf
      have hfr := u2.1.1
      have hr0 : zRel mc0 mm0 := ⟨wf_fr hfr h.1, CS_fr hfr t2⟩
      rw [t1, ev_c, u1, ev_c, ev_g]
      have e133 : mm0 133 = μM 133 := hfr.1 133 (by omega)
      have e134 : mm0 134 = μM 134 := hfr.1 134 (by omega)
      have e135 : mm0 135 = μM 135 := hfr.1 135 (by omega)
      have esz : sz mm0 s = sz μM s := by unfold sz; rw [e135]
      have c6' : mc0 (13 + 2 * s) 1 = nI (sz μM s) := by
        rcases shCase hr0 (s := s) (by omega) with ⟨d1, -⟩ | ⟨-, -, ⟨-, -, d6⟩, -⟩
        · rw [e133, c1] at d1; exact absurd d1 (by decide)
        · rw [esz] at d6; exact d6
      rw [c6', ev_v]
      generalize hN : (if 24 < sz μM s then 24 else sz μM s) = N
      have eN : (if (24 : Int32) < nI (sz μM s) then (24 : Int32) else nI (sz μM s)) = nI N := by
        rw [← hN]
        by_cases q : 24 < sz μM s
        · rw [if_pos q, if_pos (show (24 : Int32) < nI (sz μM s) from nI_lt (a := 24) q (by omega))]; rfl
        · rw [if_neg q, if_neg (show ¬ (24 : Int32) < nI (sz μM s) from nI_nlt (a := 24) (by omega) (by omega))]
      rw [eN]
      have hN24 : N ≤ 24 ∧ N ≤ sz μM s ∧ (N = 24 ∨ N = sz μM s) := by rw [← hN]; split <;> omega
      have key : ∀ n k (mc mm : zM), k ≤ N → N - k < n → zRel mc mm → HC 21 mc (tolT μM) (sim (tolT μM) 24) → mm 127 = mm0 127 → mm 133 = μM 133 → mm 134 = μM 134 → mm 135 = μM 135 → ∃ (r : Int32) (μC1 μM1 : zM), f_X6_write_L49 (13 + 2 * s) (nI N) (fun μ => some (nI N, μ)) n (nI k) mc = some (r, μC1) ∧ f_X7_write_L31 (nI s) (fun (x10 : Int32) μ => some (x10, μ)) n (nI k) mm = some (r, μM1) ∧ zRel μC1 μM1 := by
        intro n
        induction n with
        | zero => intro k mc mm _ hk; omega
        | succ n ih =>
          intro k mc mm hk hn hr hH h127 h133 h134 h135
          rw [f_X6_write_L49, f_X7_write_L31, ev_ld (by omega) (by omega), h135, c5]
          by_cases q : k < N
          · have w1 : mm 127 k = wsum (tolT μM) (sim (tolT μM) 24) k (tolT μM 0 0) := by rw [h127]; exact (u3.2.2.2 k (by omega)).2.1
            have esz2 : sz mm s = sz μM s := by unfold sz; rw [h135]
            rw [if_neg (nI_ge q (by omega)), warmthOn_e hH (by omega), ev_c, if_neg (nI_ge (show k < sz μM s by omega) (by omega)), if_neg (show ¬ (24 : Int32) ≤ nI k from nI_ge (b := 24) (by omega) (by omega)), ev_ld (by omega) (by omega), w1]
            obtain ⟨nc, nm, x1, x2, x3, x4, x5⟩ := store_e hr (s := s) (i := k) (f := f) (by omega) (by rw [h133]; exact c1) hf (by rw [h134]; exact c2) (by omega) (wsum (tolT μM) (sim (tolT μM) 24) k (tolT μM 0 0))
            rw [x1, x2, ev_c, ev_c, ev_v, ev_v, nI_1]
            refine ih (k + 1) nc nm (by omega) (by omega) x3 ?_ ?_ ?_ ?_ ?_
            · rw [x5]; exact HC_eq hH (fun a _ _ => by rw [zup_n (by omega)])
            · rw [x4, zup_n (by omega)]; exact h127
            · rw [x4, zup_n (by omega)]; exact h133
            · rw [x4, zup_n (by omega)]; exact h134
            · rw [x4, zup_n (by omega)]; exact h135
          · have e : k = N := by omega
            subst e
            refine ⟨nI k, mc, mm, by rw [if_pos (nI_le (Nat.le_refl _) (by omega))], ?_, hr⟩
            rcases hN24.2.2 with q2 | q2
            · by_cases q3 : sz μM s ≤ k
              · rw [if_pos (nI_le q3 (by omega))]
              · rw [if_neg (nI_ge (by omega) (by omega)), if_pos (show (24 : Int32) ≤ nI k from nI_le (a := 24) (by omega) (by omega))]
            · rw [if_pos (nI_le (by omega) (by omega))]
      exact key 400 0 mc0 mm0 (by omega) (by omega) hr0 t3 rfl e133 e134 e135
end CW
