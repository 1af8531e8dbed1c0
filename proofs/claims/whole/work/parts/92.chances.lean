-- PURE: cards by chance, class and reference
section CHN
variable {S μ : zM}
theorem clearW_e (r1 : Nat) (K : zM → Option (Unit × zM)) (m : zM) : ∃ m', f_X3_countWays_L2 r1 K 400 0 m = K m' ∧ (∀ a, a < 50 ∨ 58 ≤ a → m' a = m a) ∧ ∀ k, k < 8 → ∀ j, j ≤ 8 → m' (50 + k) j = 0 := by
  have zz := zC
  refine loop_X (fun q i (x : zM) => f_X3_countWays_L2 r1 K q i x) (fun R => ∃ m', R = K m' ∧ (∀ a, a < 50 ∨ 58 ≤ a → m' a = m a) ∧ ∀ k, k < 8 → ∀ j, j ≤ 8 → m' (50 + k) j = 0) 8 (fun i x => (∀ a, a < 50 ∨ 58 ≤ a → x a = m a) ∧ ∀ k, k < i → ∀ j, j ≤ 8 → x (50 + k) j = 0) ?_ ?_ 400 0 m (by omega) (by omega) ⟨fun _ _ => rfl, fun k hk => by omega⟩
  · intro q x ⟨g1, g2⟩
    refine ⟨x, ?_, g1, g2⟩
    show f_X3_countWays_L2 _ _ (q + 1) _ _ = _
    rw [f_X3_countWays_L2, if_pos (show (8 : Int32) ≤ nI 8 from nI_le (Nat.le_refl _) (by omega))]
  · intro q i x hi ⟨g1, g2⟩
    have hz50 := zWy hi
    show ∃ s' : zM, f_X3_countWays_L2 _ _ (q + 1) _ _ = f_X3_countWays_L2 _ _ q _ _ ∧ _
    rw [f_X3_countWays_L2, if_neg (show ¬ (8 : Int32) ≤ nI i from nI_ge (b := 8) hi (by omega))]
    have row : ∃ m5, f_X3_countWays_L11 r1 (nI i) (fun μ => vI (nI i + (1 : Int32)) fun x5 => f_X3_countWays_L2 r1 K q x5 μ) 400 0 x = f_X3_countWays_L2 r1 K q (nI (i + 1)) m5 ∧ (∀ a, a ≠ 50 + i → m5 a = x a) ∧ ∀ j, j ≤ 8 → m5 (50 + i) j = 0 := by
      refine loop_X (fun p j (y : zM) => f_X3_countWays_L11 r1 (nI i) (fun μ => vI (nI i + (1 : Int32)) fun x5 => f_X3_countWays_L2 r1 K q x5 μ) p j y) (fun R => ∃ m5, R = f_X3_countWays_L2 r1 K q (nI (i + 1)) m5 ∧ (∀ a, a ≠ 50 + i → m5 a = x a) ∧ ∀ j, j ≤ 8 → m5 (50 + i) j = 0) 9 (fun j y => (∀ a, a ≠ 50 + i → y a = x a) ∧ ∀ e, e < j → y (50 + i) e = 0) ?_ ?_ 400 0 x (by omega) (by omega) ⟨fun _ _ => rfl, fun e he => by omega⟩
      · intro p y ⟨p1, p2⟩
        refine ⟨y, ?_, p1, fun j hj => p2 j (by omega)⟩
        show f_X3_countWays_L11 _ _ _ (p + 1) _ _ = _
        rw [f_X3_countWays_L11, if_pos (show (8 : Int32) < nI 9 from nI_lt (a := 8) (by omega) (by omega)), ev_v, nI_1]
      · intro p j y hj ⟨p1, p2⟩
        show ∃ s' : zM, f_X3_countWays_L11 _ _ _ (p + 1) _ _ = f_X3_countWays_L11 _ _ _ p _ _ ∧ _
        rw [f_X3_countWays_L11, if_neg (show ¬ (8 : Int32) < nI j from nI_nlt (a := 8) (by omega) (by omega)), ev_ldR (by omega) (by omega), show zrf 48 i = 50 + i from rfl, ev_st (by omega) (by omega), ev_v, nI_1 j]
        refine ⟨zup y (50 + i) j 0, rfl, fun a ha => by rw [zup_n ha]; exact p1 a ha, fun e he => ?_⟩
        by_cases c : e = j
        · rw [c, zup_e]
        · rw [zup_o c]; exact p2 e (by omega)
    obtain ⟨m5, x1, x2, x3⟩ := row
    refine ⟨m5, x1, fun a ha => by rw [x2 a (by omega)]; exact g1 a ha, fun k hk j hj => ?_⟩
    by_cases c : k = i
    · rw [c]; exact x3 j hj
    · rw [x2 _ (by omega)]; exact g2 k (by omega) j hj
theorem countW_e {m : zM} (hw : wfS S) (hC : CS S m) (hT : HT 34 m (tolT S)) : ∃ m', f_X3_countWays 34 m = some ((), m') ∧ (∀ a, a < 34 ∨ a = 48 ∨ a = 49 ∨ 58 ≤ a → m' a = m a) ∧ m' 47 1 = 1 ∧ cOd S m' := by
  have zz := zC
  have hwT := wT_told hw 0
  have h8 : itS S 0 ≤ 8 := hwT.1
  have hn : cn S ≤ 8 := hw.2.2.1.2
  have h6 : m 6 2 = nI (cn S) := by rw [hC.2.1.1]; exact hw.2.2.1.1
  have h256 : 2 ^ cn S ≤ 2 ^ 8 := Nat.pow_le_pow_right (by omega) hn
  obtain ⟨z1, z2, z3, z4, z5, z6, z7, z8, z9, z10, z11, z12⟩ := hz (r0 := 34) (Or.inr rfl)
  unfold f_X3_countWays
  obtain ⟨m0, e0, f0, w0⟩ := clearW_e 34 (fun μ => f_X3_countWays_L42 34 (fun μ => pI μ 47 1 (1 : Int32) fun μ => some ((), μ)) 400 (0 : Int32) μ) m
  rw [e0]
  refine loop_X (fun q i (x : zM) => f_X3_countWays_L42 34 (fun μ => pI μ 47 1 (1 : Int32) fun μ => some ((), μ)) q i x) (fun R => ∃ m', R = some ((), m') ∧ (∀ a, a < 34 ∨ a = 48 ∨ a = 49 ∨ 58 ≤ a → m' a = m a) ∧ m' 47 1 = 1 ∧ cOd S m') (2 ^ cn S) (fun b x => (∀ a, a < 34 ∨ 47 ≤ a ∧ a < 50 ∨ 58 ≤ a → x a = m a) ∧ TR S x ∧ ∀ k, k < itS S 0 → ∀ j, j ≤ 8 → x (50 + k) j = nI (wys S k j b)) ?_ ?_ 400 0 m0 (Nat.zero_le _) (by omega) ⟨fun a ha => f0 a (by omega), TR_of hw (HT_eq hT (fun a _ _ => f0 a (by omega))), fun k hk j hj => w0 k (by omega) j hj⟩
  · intro q x ⟨g1, g2, g3⟩
    refine ⟨zup x 47 1 1, ?_, fun a ha => by rw [zup_n (by omega)]; exact g1 a (by omega), zup_e, fun k hk j hj => by rw [zup_n (by omega)]; exact g3 k hk j hj⟩
    show f_X3_countWays_L42 _ _ (q + 1) _ _ = _
    rw [f_X3_countWays_L42, ev_g, g1 6 (by omega), h6, shl1 (cn S) (by omega), if_pos (nI_le (Nat.le_refl _) (by omega)), ev_p]
  · intro q b x hb ⟨g1, g2, g3⟩
    have hcr : crd S x := crd_eq hC.2.1 (fun a _ _ => g1 a (by omega))
    obtain ⟨m3, m4, d1, d2, d3, d4, d5⟩ := trial_e hw hcr g2 (nI b)
    have hpc := pcP_N (cn S) (by omega) b hb
    have hpl := pcP_le b (cn S)
    obtain ⟨v, b1, b2⟩ := bcount (nI b) m4
    rw [bc_val b (by omega)] at b2
    have hn4 : m4 34 0 = nI (itS S 0) := d3.2.2.1.1
    have hci : ∀ k, k < itS S 0 → m4 (34 + 10) k = oI ((sim (tolB S (nI b)) 24).1 k) := fun k hk => (d3.2.2.2.1 k hk).1
    show ∃ s' : zM, f_X3_countWays_L42 _ _ (q + 1) _ _ = f_X3_countWays_L42 _ _ q _ _ ∧ _
    rw [f_X3_countWays_L42, ev_g, g1 6 (by omega), h6, shl1 (cn S) (by omega), if_neg (nI_ge hb (by omega)), d1, ev_c, d2, ev_c, ev_g, d4 6 (by omega), g1 6 (by omega), h6, b1, ev_c, b2, ev_v, pk_sub (by omega)]
    have row : ∃ m5, f_X3_countWays_L76 34 (nI b) (nI (cn S - pcN b)) (fun μ => vI (nI b + (1 : Int32)) fun x22 => f_X3_countWays_L42 34 (fun μ => pI μ 47 1 (1 : Int32) fun μ => some ((), μ)) q x22 μ) 400 0 m4 = f_X3_countWays_L42 34 (fun μ => pI μ 47 1 (1 : Int32) fun μ => some ((), μ)) q (nI (b + 1)) m5 ∧ (∀ a, a < 50 ∨ 58 ≤ a → m5 a = m4 a) ∧ ∀ k, k < itS S 0 → ∀ j, j ≤ 8 → m5 (50 + k) j = nI (wys S k j (b + 1)) := by
      refine loop_X (fun p i (y : zM) => f_X3_countWays_L76 34 (nI b) (nI (cn S - pcN b)) (fun μ => vI (nI b + (1 : Int32)) fun x22 => f_X3_countWays_L42 34 (fun μ => pI μ 47 1 (1 : Int32) fun μ => some ((), μ)) q x22 μ) p i y) (fun R => ∃ m5, R = f_X3_countWays_L42 34 (fun μ => pI μ 47 1 (1 : Int32) fun μ => some ((), μ)) q (nI (b + 1)) m5 ∧ (∀ a, a < 50 ∨ 58 ≤ a → m5 a = m4 a) ∧ ∀ k, k < itS S 0 → ∀ j, j ≤ 8 → m5 (50 + k) j = nI (wys S k j (b + 1))) (itS S 0) (fun i y => (∀ a, a < 50 ∨ 58 ≤ a → y a = m4 a) ∧ ∀ k, k < itS S 0 → ∀ j, j ≤ 8 → y (50 + k) j = nI (wys S k j (if k < i then b + 1 else b))) ?_ ?_ 400 0 m4 (by omega) (by omega) ⟨fun _ _ => rfl, fun k hk j hj => by rw [if_neg (by omega), d4 _ (by omega)]; exact g3 k hk j hj⟩
      · intro p y ⟨p1, p2⟩
        refine ⟨y, ?_, p1, fun k hk j hj => by rw [p2 k hk j hj, if_pos hk]⟩
        show f_X3_countWays_L76 _ _ _ _ (p + 1) _ _ = _
        rw [f_X3_countWays_L76, ev_g, p1 34 (by omega), hn4, if_pos (nI_le (Nat.le_refl _) (by omega)), ev_v, nI_1]
      · intro p i y hi ⟨p1, p2⟩
        have hz50 := zWy (i := i) (by omega)
        have hpi : y (50 + i) (cn S - pcN b) = nI (wys S i (cn S - pcN b) b) := by rw [p2 i hi _ (by omega), if_neg (Nat.lt_irrefl _)]
        show ∃ s' : zM, f_X3_countWays_L76 _ _ _ _ (p + 1) _ _ = f_X3_countWays_L76 _ _ _ _ p _ _ ∧ _
        rw [f_X3_countWays_L76, ev_g, p1 34 (by omega), hn4, if_neg (nI_ge hi (by omega)), ev_ld (by omega) (by omega), p1 (34 + 10) (by omega), hci i hi]
        cases e : (sim (tolB S (nI b)) 24).1 i with
        | none =>
          have hcm : ¬ cmB S (nI b) i = true := by unfold cmB; rw [e]; decide
          rw [if_pos (show oI none = -1 from rfl), ev_v, nI_1 i]
          refine ⟨y, rfl, p1, fun k hk j hj => ?_⟩
          rw [p2 k hk j hj]
          by_cases c : k = i
          · rw [c, if_neg (Nat.lt_irrefl _), if_pos (Nat.lt_succ_self _), wys_s, if_neg (fun z => hcm z.1)]
          · by_cases c2 : k < i
            · rw [if_pos c2, if_pos (by omega)]
            · rw [if_neg c2, if_neg (by omega)]
        | some d =>
          have hcm : cmB S (nI b) i = true := by unfold cmB; rw [e]; rfl
          have hd : d < 24 := (d3.2.2.2.2 i hi).1 d e
          rw [if_neg (show ¬ oI (some d) = -1 from nI_m1 (by omega)), within_e, show wi (nI (cn S - pcN b)) 0 8 = true from wi_t (n := 8) (by omega) (by omega), ev_c, if_neg nb0, ev_ldR (by omega) (by omega), show zrf 48 i = 50 + i from rfl, ev_ld (by omega) (by omega), hpi, ev_st (by omega) (by omega), nI_1 (wys S i (cn S - pcN b) b), ev_v, nI_1 i]
          refine ⟨zup y (50 + i) (cn S - pcN b) (nI (wys S i (cn S - pcN b) b + 1)), rfl, fun a ha => by rw [zup_n (by omega)]; exact p1 a ha, fun k hk j hj => ?_⟩
          by_cases c : k = i
          · rw [c, if_pos (Nat.lt_succ_self _), wys_s]
            by_cases c2 : j = cn S - pcN b
            · rw [c2, zup_e, if_pos ⟨hcm, rfl⟩]
            · rw [zup_o c2, p2 i hi j hj, if_neg (Nat.lt_irrefl _), if_neg (fun z => c2 z.2.symm)]
          · rw [zup_n (by omega), p2 k hk j hj]
            by_cases c2 : k < i
            · rw [if_pos c2, if_pos (by omega)]
            · rw [if_neg c2, if_neg (by omega)]
    obtain ⟨m5, x1, x2, x3⟩ := row
    obtain ⟨f, t1, t2⟩ := d5
    exact ⟨m5, x1, fun a ha => by rw [x2 a (by omega), d4 a (by omega)]; exact g1 a ha, ⟨f, t1, HT_eq t2 (fun a _ _ => x2 a (by omega))⟩, x3⟩
def vChance (S : zM) (c k w : Nat) : Int64 := lN ((if w = 0 then smC S k c (2 ^ cn S) else 2 ^ (4 * cn S)) / Nat.gcd (smC S k c (2 ^ cn S)) (2 ^ (4 * cn S)))
theorem ways_e {m : zM} (hw : wfS S) (h : CS S m) (h2 : HC 21 m (tolT S) (sim (tolT S) 24)) (h3 : m 0 7 = 1) (h4 : m 47 1 = 0 ∨ m 47 1 = 1 ∧ cOd S m) : ∃ m', CS S m' ∧ cOd S m' ∧ ∀ J : zM → Option (Int64 × zM), jn J (fun j => (if ¬ m 47 1 = 0 then j m else cl (f_X2_become 34 21 m) fun _ μ => cl (f_X3_countWays 34 μ) fun _ μ => j μ)) = J m' := by
  rcases h4 with h4 | ⟨h4, h5⟩
  · obtain ⟨m2, e2, b1, b2⟩ := become_e (wT_told hw 0) h2.2.2.1
    have hC2 := CS_K hw h (fK_C b2)
    obtain ⟨m3, e3, f3, s3, o3⟩ := countW_e hw hC2 b1
    refine ⟨m3, ?_, o3, fun J => by rw [ev_j, if_neg (fun q => q h4), e2, ev_c, e3, ev_c]⟩
    obtain ⟨p1, p2, p3, p4, p5, p6⟩ := hC2
    refine ⟨cT_eq p1 (fun a _ _ => f3 a (by omega)), crd_eq p2 (fun a _ _ => f3 a (by omega)), cFe_eq p3 (fun a _ _ => f3 a (by omega)), cSh_eq p4 (fun a _ _ => f3 a (by omega)), by rw [f3 0 (by omega)]; exact p5, Or.inr ⟨by rw [f3 0 (by omega), b2 0 (by omega)]; exact h3, HC_eq h2 (fun a _ _ => by rw [f3 a (by omega), b2 a (by omega)]), Or.inr ⟨s3, o3⟩⟩⟩
  · exact ⟨m, h, h5, fun J => by rw [ev_j, if_pos (show ¬ m 47 1 = 0 by rw [h4]; decide)]⟩
theorem cq_chance (hw : wfS S) (h : CS S μ) {c k w : Nat} (hc : c ≤ 16) (hk : k < itS S 0) (hwh : w < 2) : ∃ μ', f_X6_chance (nI c) (nI k) (nI w) μ = some (vChance S c k w, μ') ∧ CS S μ' := by
  have h8 : itS S 0 ≤ 8 := (wT_told hw 0).1
  have hn : cn S ≤ 8 := hw.2.2.1.2
  unfold f_X6_chance
  obtain ⟨m1, e1, c1, c2, c3, c4⟩ := told_e hw h
  obtain ⟨m2, k1, k2, k3⟩ := ways_e hw c1 c2 c3 c4
  have h6 : m2 6 2 = nI (cn S) := by rw [k1.2.1.1]; exact hw.2.2.1.1
  rw [e1, ev_c, within_e, show wi (nI c) 0 16 = true from wi_t (n := 16) hc (by omega), ev_c, if_neg nb0, hasCaller_e c2, show wi (nI k) 0 (nI (tolT S 0 0) - (1 : Int32)) = true from wi_k (n := itS S 0) hk (by omega), ev_c, if_neg nb0, within_e, show wi (nI w) 0 1 = true from wi_t (n := 1) (by omega) (by omega), ev_c, if_pos nb0, ev_g, k3, ev_g, h6, above_e hw k2 hc hk, ev_c, ev_g, h6, q_mul_4, shlL (cn S) (by omega), ev_w, red_e (sm_lt hn hc) hn h6]
  refine ⟨m2, ?_, k1⟩
  unfold vChance
  have : w = 0 ∨ w = 1 := by omega
  rcases this with rfl | rfl
  · rw [if_neg (fun q => q rfl), if_pos rfl]
  · rw [if_pos (show ¬ nI 1 = 0 by decide), if_neg (show ¬ 1 = 0 by omega)]
theorem weight_e {m : zM} {n c b : Nat} (hn : n ≤ 8) (hc : c ≤ 16) (h11 : m 100 11 = nI n) (v2 v3 : Int32) (v4 : Int64) (K : Int64 → zM → Option (Int64 × zM)) : f_X7_chanceOf_L27 (nI c) v2 v3 v4 (nI b) K 400 1 0 m = K (lN (wtC c b n)) m := by
  refine loop_X (fun q i (s : Int64) => f_X7_chanceOf_L27 (nI c) v2 v3 v4 (nI b) K q s i m) (fun R => R = K (lN (wtC c b n)) m) n (fun i s => s = lN (wtC c b i)) ?_ ?_ 400 0 1 (by omega) (by omega) rfl
  · intro q s hs
    show f_X7_chanceOf_L27 _ _ _ _ _ _ (q + 1) _ _ _ = _
    rw [f_X7_chanceOf_L27, ev_g, h11, if_pos (nI_le (Nat.le_refl _) (by omega)), hs]
  · intro q i s hi hs
    refine ⟨_, ?_, rfl⟩
    show f_X7_chanceOf_L27 _ _ _ _ _ _ (q + 1) _ _ _ = f_X7_chanceOf_L27 _ _ _ _ _ _ q (lN (wtC c b i * (if tb (nI b) i = true then 16 - c else c))) _ _
    rw [f_X7_chanceOf_L27, ev_g, h11, if_neg (nI_ge hi (by omega)), isInM_e _ (by omega), ev_c, hs]
    cases e : tb (nI b) i with
    | true => rw [if_neg nb0, if_pos rfl, ev_w, ev_v, nI_1, show (16 : Int32) - nI c = nI (16 - c) from pk_sub (a := 16) hc, nI_l (by omega), lN_mul]
    | false => rw [if_pos (show bI false = 0 from rfl), if_neg (by decide), ev_w, ev_v, nI_1, nI_l (by omega), lN_mul]
theorem chanceOf_e (hw : wfS S) (h : frM S μ) {c k w : Nat} (hc : c ≤ 16) (hk : k < itS S 0) (hwh : w < 2) : ∃ μ', f_X7_chanceOf (nI c) (nI k) (nI w) μ = some (vChance S c k w, μ') ∧ MB S μ' := by
  have zm := zMt
  have h8 : itS S 0 ≤ 8 := (wT_told hw 0).1
  have hcn := hw.2.2.1
  have hn : cn S ≤ 8 := hcn.2
  have h256 : 2 ^ cn S ≤ 2 ^ 8 := Nat.pow_le_pow_right (by omega) hn
  have h32 : 2 ^ (4 * cn S) ≤ 2 ^ 32 := Nat.pow_le_pow_right (by omega) (by omega)
  unfold f_X7_chanceOf
  obtain ⟨m1, e1, b1, b3⟩ := asTold_e hw h
  rw [e1, ev_c]
  refine loop_X (fun q i (s : Int64 × zM) => f_X7_chanceOf_L10 (nI c) (nI k) (nI w) (fun (x20 : Int64) μ => gI μ 100 11 fun x21 => cl (f_X7_lowest x20 ((1 : Int64) <<< (Int32.toInt64 ((4 : Int32) * x21) &&& 63)) (nI w) μ) fun x22 μ => some (x22, μ)) q s.1 i s.2) (fun R => ∃ μ', R = some (vChance S c k w, μ') ∧ MB S μ') (2 ^ cn S) (fun b s => s.1 = lN (smC S k c b) ∧ MBu S s.2) ?_ ?_ 400 0 (0, m1) (Nat.zero_le _) (by omega) ⟨rfl, b1, _, b3⟩
  · intro q s ⟨g1, g2⟩
    refine ⟨s.2, ?_, g2.1⟩
    show f_X7_chanceOf_L10 _ _ _ _ (q + 1) _ _ _ = _
    rw [f_X7_chanceOf_L10, ev_g, g2.1.1.2.1, hcn.1, shl1 (cn S) (by omega), if_pos (nI_le (Nat.le_refl _) (by omega)), ev_g, g2.1.1.2.1, hcn.1, q_mul_4, shlL (cn S) (by omega), g1, lowest_e (sm_lt hn hc) (Nat.two_pow_pos _) (by omega) hwh, ev_c]
    rfl
  · intro q b s hb ⟨g1, g2⟩
    have h11 : s.2 100 11 = nI (cn S) := by rw [g2.1.1.2.1]; exact hcn.1
    have hwt := wtC_le hc b (cn S)
    have h168 : 16 ^ cn S ≤ 16 ^ 8 := Nat.pow_le_pow_right (by omega) hn
    have hwl : wtC c b (cn S) < 2 ^ 63 := Nat.lt_of_le_of_lt (Nat.le_trans hwt h168) (by decide)
    show ∃ s' : Int64 × zM, f_X7_chanceOf_L10 _ _ _ _ (q + 1) _ _ _ = f_X7_chanceOf_L10 _ _ _ _ q _ _ _ ∧ _
    rw [f_X7_chanceOf_L10, ev_g, h11, shl1 (cn S) (by omega), if_neg (nI_ge hb (by omega)), weight_e hn hc h11]
    by_cases hz0 : wtC c b (cn S) = 0
    · rw [if_pos (show lg_cmp (lN (wtC c b (cn S))) (0 : Int64) ≤ 0 from (lg_cmp_le _ _).mpr ((pk_lLE (b := 0) hwl (by omega)).mpr (by omega))), ev_v, nI_1]
      refine ⟨s, rfl, ?_, g2⟩
      show s.1 = lN (smC S k c b + (if cmB S (nI b) k = true then wtC c b (cn S) else 0))
      rw [hz0, ite_self, Nat.add_zero]; exact g1
    · rw [if_neg (show ¬ lg_cmp (lN (wtC c b (cn S))) (0 : Int64) ≤ 0 from fun z => hz0 (Nat.le_zero.mp ((pk_lLE (b := 0) hwl (by omega)).mp ((lg_cmp_le _ _).mp z))))]
      obtain ⟨q1, q2⟩ := MBu_b g2 (nI b)
      obtain ⟨m4, e4, l1, l2⟩ := runs_e (MT_of hw q1.2 q2)
      have hMB : MBu S m4 := ⟨MB_R q1 l2, _, MN_fr q2 l2⟩
      have h121 : m4 121 k = oI ((sim (tolB S (nI b)) 24).2.2 k) := (l1.1 k hk).2
      have hnm := nm_ci (wT_told hw (nI b)) k
      rw [ev_p, e4, ev_c, ev_ld (by omega) (by omega), h121]
      cases e : (sim (tolB S (nI b)) 24).2.2 k with
      | none =>
        have hcm : cmB S (nI b) k = false := by unfold cmB; rw [← hnm, e]; rfl
        rw [if_pos (show oI none = -1 from rfl), ev_w, ev_v, nI_1]
        refine ⟨(s.1 + 0, m4), rfl, ?_, hMB⟩
        show s.1 + 0 = lN (smC S k c b + (if cmB S (nI b) k = true then wtC c b (cn S) else 0))
        rw [hcm, if_neg (by decide), Nat.add_zero, g1, Int64.add_zero]
      | some v =>
        have hv := (sim_I2 (wT_told hw (nI b)) 24 k).2.2.1 v e
        have hcm : cmB S (nI b) k = true := by unfold cmB; rw [← hnm, e]; rfl
        rw [if_neg (show ¬ oI (some v) = -1 from nI_m1 (by omega)), ev_w, ev_v, nI_1]
        refine ⟨(s.1 + lN (wtC c b (cn S)), m4), rfl, ?_, hMB⟩
        show s.1 + lN (wtC c b (cn S)) = lN (smC S k c b + (if cmB S (nI b) k = true then wtC c b (cn S) else 0))
        rw [hcm, if_pos rfl, g1, lN_add]
end CHN
section CHo
variable {μC μM : zM}
theorem no_e (μ : zM) : f_X7_no (-2) μ = some ((-9223372036854775806 : Int64), μ) := rfl
theorem op_chance (a1 a2 a3 : Int32) (h : zRel μC μM) : ∃ (r : Int64) (μC1 μM1 : zM), f_X6_chance a1 a2 a3 μC = some (r, μC1) ∧ f_X7_chance a1 a2 a3 μM = some (r, μM1) ∧ zRel μC1 μM1 := by
  have h8 : itS μM 0 ≤ 8 := (wT_told h.1 0).1
  obtain ⟨m, e, h1, h2, -⟩ := told_e h.1 h.2
  rcases wi_cases a1 (n := 16) (by omega) with c | ⟨x, hx, rfl⟩
  · refine ask2 (r := -9223372036854775806) h ⟨m, ?_, h1⟩ ⟨μM, ?_, frM_rf⟩
    · unfold f_X6_chance
      rw [e, ev_c, within_e, show wi a1 0 16 = false from c, ev_c, if_pos (show bI false = 0 from rfl)]
    · unfold f_X7_chance
      rw [in_e, show wi a1 0 16 = false from c, ev_c, if_pos (show bI false = 0 from rfl), no_e, ev_c]
  · have hxw : wi (nI x) 0 16 = true := wi_t (n := 16) hx (by omega)
    obtain ⟨m2, e2, hB⟩ := isCallerM_e h.1 frM_rf a2
    rcases wi_cases1 a2 (n := itS μM 0) (by omega) with c | ⟨k, hk, rfl⟩
    · refine ask2 (r := -9223372036854775806) h ⟨m, ?_, h1⟩ ⟨m2, ?_, hB.1⟩
      · unfold f_X6_chance
        rw [e, ev_c, within_e, hxw, ev_c, if_neg nb0, hasCaller_e h2, show wi a2 0 (nI (tolT μM 0 0) - (1 : Int32)) = false from c, ev_c, if_pos (show bI false = 0 from rfl)]
      · unfold f_X7_chance
        rw [in_e, hxw, ev_c, if_neg nb0, e2, ev_c, c, if_pos (show bI false = 0 from rfl), no_e, ev_c]
    · have hkw : wi (nI k) 0 (nI (itS μM 0) - (1 : Int32)) = true := wi_k hk (by omega)
      rcases wi_cases a3 (n := 1) (by omega) with c | ⟨w, hwv, rfl⟩
      · refine ask2 (r := -9223372036854775806) h ⟨m, ?_, h1⟩ ⟨m2, ?_, hB.1⟩
        · unfold f_X6_chance
          rw [e, ev_c, within_e, hxw, ev_c, if_neg nb0, hasCaller_e h2, show wi (nI k) 0 (nI (tolT μM 0 0) - (1 : Int32)) = true from hkw, ev_c, if_neg nb0, within_e, show wi a3 0 1 = false from c, ev_c, if_neg (fun q => q rfl)]
        · unfold f_X7_chance
          rw [in_e, hxw, ev_c, if_neg nb0, e2, ev_c, hkw, if_neg nb0, isTwoM_e, show wi a3 0 1 = false from c, ev_c, if_pos (show bI false = 0 from rfl), no_e, ev_c]
      · refine ask2 h (cq_chance h.1 h.2 (c := x) (k := k) (w := w) hx hk (by omega)) ?_
        obtain ⟨m3, e3, hB3⟩ := chanceOf_e h.1 hB.1 (c := x) (k := k) (w := w) hx hk (by omega)
        refine ⟨m3, ?_, hB3.1⟩
        unfold f_X7_chance
        rw [in_e, hxw, ev_c, if_neg nb0, e2, ev_c, hkw, if_neg nb0, isTwoM_e, show wi (nI w) 0 1 = true from wi_t (n := 1) (by omega) (by omega), ev_c, if_neg nb0, e3, ev_c]
end CHo
