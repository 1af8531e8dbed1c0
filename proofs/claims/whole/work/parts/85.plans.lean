-- PURE: trials: one thing told otherwise
theorem wT_set1 {T : zT2} (h : wT T) {i v : Nat} (hv : v < 4) : wT (setT T 1 i v) := ⟨h.1, h.2.1, fun k hk => by
    obtain ⟨a, b, c, d, e, f, g⟩ := h.2.2.1 k hk
    refine ⟨?_, b, c, d, e, f, g⟩
    by_cases q : k = i
    · subst q; rw [setT_e]; exact hv
    · rw [setT_k q]; exact a, h.2.2.2⟩
theorem wT_set2 {T : zT2} (h : wT T) {i v : Nat} (h1 : 1 ≤ v) (hv : v ≤ 9) : wT (setT T 2 i v) := ⟨h.1, h.2.1, fun k hk => by
    obtain ⟨a, b, c, d, e, f, g⟩ := h.2.2.1 k hk
    by_cases q : k = i
    · subst q
      refine ⟨a, ?_, ?_, d, e, f, g⟩
      · rw [setT_e]; exact h1
      · rw [setT_e]; exact hv
    · refine ⟨a, ?_, ?_, d, e, f, g⟩
      · rw [setT_k q]; exact b
      · rw [setT_k q]; exact c, h.2.2.2⟩
theorem wT_set5 {T : zT2} (h : wT T) {i v : Nat} (hv : v ≤ 24) : wT (setT T 5 i v) := ⟨h.1, h.2.1, fun k hk => by
    obtain ⟨a, b, c, d, e, f, g⟩ := h.2.2.1 k hk
    refine ⟨a, b, c, d, e, f, ?_⟩
    by_cases q : k = i
    · subst q; rw [setT_e]; exact hv
    · rw [setT_k q]; exact g, h.2.2.2⟩
theorem wT_set7 {T : zT2} (h : wT T) {i v : Nat} (hv : v < 24) : wT (setT T 7 i v) := ⟨h.1, h.2.1, h.2.2.1, fun m hm => by
    obtain ⟨a, b, c⟩ := h.2.2.2 m hm
    refine ⟨a, ?_, c⟩
    by_cases q : m = i
    · subst q; rw [setT_e]; exact hv
    · rw [setT_k q]; exact b⟩
theorem setT_id (T : zT2) (j i : Nat) : setT T j i (T j i) = T := by
  funext a k
  unfold setT
  by_cases c : a = j ∧ k = i
  · rw [if_pos c, c.1, c.2]
  · rw [if_neg c]
def agr (j i : Nat) (T T' : zT2) : Prop := ∀ a k, ¬ (a = j ∧ k = i) → T' a k = T a k
theorem agr_rf {j i : Nat} {T : zT2} : agr j i T T := fun _ _ _ => rfl
theorem agr_set {j i v : Nat} {T : zT2} : agr j i T (setT T j i v) := fun _ _ h => if_neg h
theorem HT_up {r : Nat} {m : zM} {T T' : zT2} {j i v : Nat} (h : HT r m T') (ha : agr j i T T') (h1 : 1 ≤ j) (h8 : j ≤ 8) : HT r (zup m (r + j) i (nI v)) (setT T j i v) := by
  obtain ⟨a, b, c, d⟩ := h
  have e0 : T' 0 0 = T 0 0 := ha 0 0 (by omega)
  have e1 : T' 0 1 = T 0 1 := ha 0 1 (by omega)
  have s0 : setT T j i v 0 0 = T 0 0 := if_neg (by omega)
  have s1 : setT T j i v 0 1 = T 0 1 := if_neg (by omega)
  have hval : ∀ x k, m (r + x) k = nI (T' x k) → zup m (r + j) i (nI v) (r + x) k = nI (setT T j i v x k) := by
    intro x k hx
    by_cases q : x = j
    · subst q
      by_cases q2 : k = i
      · subst q2; rw [zup_e, setT_e]
      · rw [zup_o q2, setT_k q2, hx, ha x k (by omega)]
    · rw [zup_n (by omega), setT_a q, hx, ha x k (by omega)]
  refine ⟨?_, ?_, fun x x1 x2 k hk => ?_, fun x x1 x2 k hk => ?_⟩
  · rw [zup_n (by omega), s0, ← e0]; exact a
  · rw [zup_n (by omega), s1, ← e1]; exact b
  · rw [s0, ← e0] at hk; exact hval x k (c x x1 x2 k hk)
  · rw [s1, ← e1] at hk; exact hval x k (d x x1 x2 k hk)
theorem MA_up1 {m : zM} {T T' : zT2} {i v : Nat} (h : MA m T') (ha : agr 1 i T T') : MA (zup m 104 i (nI v)) (setT T 1 i v) := by
  obtain ⟨a, b, c, d⟩ := h
  have e0 : T' 0 0 = T 0 0 := ha 0 0 (by omega)
  have e1 : T' 0 1 = T 0 1 := ha 0 1 (by omega)
  refine ⟨by rw [zup_n (by omega)]; exact a.trans (by rw [e0]; rfl), by rw [zup_n (by omega)]; exact b.trans (by rw [e1]; rfl), fun k hk => ?_, fun q hq => ?_⟩
  · have hk : k < T 0 0 := hk
    obtain ⟨c1, c2, c3, c4⟩ := c k (by omega)
    rw [zup_n (show 105 ≠ 104 by omega), zup_n (show 106 ≠ 104 by omega), zup_n (show 107 ≠ 104 by omega), setT_a (show 2 ≠ 1 by omega), setT_a (show 3 ≠ 1 by omega), setT_a (show 4 ≠ 1 by omega), ← ha 2 k (by omega), ← ha 3 k (by omega), ← ha 4 k (by omega)]
    refine ⟨?_, c2, c3, c4⟩
    by_cases q : k = i
    · subst q; rw [zup_e, setT_e]
    · rw [zup_o q, setT_k q, ← ha 1 k (by omega)]; exact c1
  · have hq : q < T 0 1 := hq
    rw [zup_n (show 109 ≠ 104 by omega), zup_n (show 110 ≠ 104 by omega), zup_n (show 111 ≠ 104 by omega), setT_a (show 6 ≠ 1 by omega), setT_a (show 7 ≠ 1 by omega), setT_a (show 8 ≠ 1 by omega), ← ha 6 q (by omega), ← ha 7 q (by omega), ← ha 8 q (by omega)]
    exact d q (by omega)
theorem MA_up2 {m : zM} {T T' : zT2} {i v : Nat} (h : MA m T') (ha : agr 2 i T T') : MA (zup m 105 i (nI v)) (setT T 2 i v) := by
  obtain ⟨a, b, c, d⟩ := h
  have e0 : T' 0 0 = T 0 0 := ha 0 0 (by omega)
  have e1 : T' 0 1 = T 0 1 := ha 0 1 (by omega)
  refine ⟨by rw [zup_n (by omega)]; exact a.trans (by rw [e0]; rfl), by rw [zup_n (by omega)]; exact b.trans (by rw [e1]; rfl), fun k hk => ?_, fun q hq => ?_⟩
  · have hk : k < T 0 0 := hk
    obtain ⟨c1, c2, c3, c4⟩ := c k (by omega)
    rw [zup_n (show 104 ≠ 105 by omega), zup_n (show 106 ≠ 105 by omega), zup_n (show 107 ≠ 105 by omega), setT_a (show 1 ≠ 2 by omega), setT_a (show 3 ≠ 2 by omega), setT_a (show 4 ≠ 2 by omega), ← ha 1 k (by omega), ← ha 3 k (by omega), ← ha 4 k (by omega)]
    refine ⟨c1, ?_, c3, c4⟩
    by_cases q : k = i
    · subst q; rw [zup_e, setT_e]
    · rw [zup_o q, setT_k q, ← ha 2 k (by omega)]; exact c2
  · have hq : q < T 0 1 := hq
    rw [zup_n (show 109 ≠ 105 by omega), zup_n (show 110 ≠ 105 by omega), zup_n (show 111 ≠ 105 by omega), setT_a (show 6 ≠ 2 by omega), setT_a (show 7 ≠ 2 by omega), setT_a (show 8 ≠ 2 by omega), ← ha 6 q (by omega), ← ha 7 q (by omega), ← ha 8 q (by omega)]
    exact d q (by omega)
theorem MA_up7 {m : zM} {T T' : zT2} {i v : Nat} (h : MA m T') (ha : agr 7 i T T') : MA (zup m 110 i (nI v)) (setT T 7 i v) := by
  obtain ⟨a, b, c, d⟩ := h
  have e0 : T' 0 0 = T 0 0 := ha 0 0 (by omega)
  have e1 : T' 0 1 = T 0 1 := ha 0 1 (by omega)
  refine ⟨by rw [zup_n (by omega)]; exact a.trans (by rw [e0]; rfl), by rw [zup_n (by omega)]; exact b.trans (by rw [e1]; rfl), fun k hk => ?_, fun q hq => ?_⟩
  · have hk : k < T 0 0 := hk
    rw [zup_n (show 104 ≠ 110 by omega), zup_n (show 105 ≠ 110 by omega), zup_n (show 106 ≠ 110 by omega), zup_n (show 107 ≠ 110 by omega), setT_a (show 1 ≠ 7 by omega), setT_a (show 2 ≠ 7 by omega), setT_a (show 3 ≠ 7 by omega), setT_a (show 4 ≠ 7 by omega), ← ha 1 k (by omega), ← ha 2 k (by omega), ← ha 3 k (by omega), ← ha 4 k (by omega)]
    exact c k (by omega)
  · have hq : q < T 0 1 := hq
    obtain ⟨c1, c2, c3⟩ := d q (by omega)
    rw [zup_n (show 109 ≠ 110 by omega), zup_n (show 111 ≠ 110 by omega), setT_a (show 6 ≠ 7 by omega), setT_a (show 8 ≠ 7 by omega), ← ha 6 q (by omega), ← ha 8 q (by omega)]
    refine ⟨c1, ?_, c3⟩
    by_cases q2 : q = i
    · subst q2; rw [zup_e, setT_e]
    · rw [zup_o q2, setT_k q2, ← ha 7 q (by omega)]; exact c2
theorem frM_up {S m : zM} (h : frM S m) {a i : Nat} {v : Int32} (ha : 103 ≤ a ∧ a ≤ 111 ∨ a = 116 ∨ a = 117 ∨ a = 128 ∨ a = 132) : frM S (zup m a i v) := ⟨fun b hb => by rw [zup_n (by omega)]; exact h.1 b hb, by rw [zup_n (by omega)]; exact h.2.1, by rw [zup_n (by omega)]; exact h.2.2.1, by rw [zup_n (by omega)]; exact h.2.2.2⟩
theorem frM_u1 {S m : zM} (h : frM S m) {i : Nat} {v : Int32} (h1 : i ≠ 11) (h2 : i ≠ 28) (h3 : i ≠ 37) : frM S (zup m 100 i v) := ⟨fun b hb => by rw [zup_n (by omega)]; exact h.1 b hb, by rw [zup_o (by omega)]; exact h.2.1, by rw [zup_o (by omega)]; exact h.2.2.1, by rw [zup_o (by omega)]; exact h.2.2.2⟩
theorem MN_up {m : zM} {n : Nat} {dd ff : Nat → Nat} {b : Int32} (h : MN m n dd ff b) {a i : Nat} {v : Int32} (ha : a ≠ 100) (h1 : a ≠ 116) (h2 : a ≠ 117) : MN (zup m a i v) n dd ff b := by
  unfold MN
  rw [zup_n (Ne.symm ha), zup_n (Ne.symm h1), zup_n (Ne.symm h2)]
  exact h
section PL
variable {S μ : zM}
def vIns (T : zT2) : Int32 := cntI (fun k => ((sim T 24).1 k).isSome) (T 0 0)
def vTot (T : zT2) : Int32 := tsum T (sim T 24) (T 0 0)
-- when a man had better begin
def bgR (v : Nat → Int32) : Nat → Int32 × Int32
  | 0 => (-1, -1)
  | d + 1 => if (bgR v d).2 < v d then (nI d, v d) else bgR v d
def bgV (S : zM) (m d : Nat) : Int32 := vIns (setT (tolT S) 7 m d)
def vBegin (S : zM) (m w : Nat) : Int32 := if w = 0 then (bgR (bgV S m) 24).1 else (bgR (bgV S m) 24).2
theorem cq_begin (hw : wfS S) (h : CS S μ) {m w : Nat} (hm : m < itS S 1) (hwh : w < 2) : ∃ μ', f_X6_begin (nI m) (nI w) μ = some (vBegin S m w, μ') ∧ CS S μ' := by
  have zz := zC
  have hwT := wT_told hw 0
  have h8 : itS S 0 ≤ 8 := hwT.1
  have h4 : itS S 1 ≤ 4 := hwT.2.1
  unfold f_X6_begin
  obtain ⟨m1, e1, c1, c2, -⟩ := told_e hw h
  obtain ⟨m2, e2, b1, b2⟩ := become_e hwT c2.2.2.1
  rw [e1, ev_c, hasMan_e c2, show wi (nI m) 0 (nI (tolT S 0 1) - (1 : Int32)) = true from wi_k (n := itS S 1) hm (by omega), ev_c, if_neg nb0, within_e, show wi (nI w) 0 1 = true from wi_t (n := 1) (by omega) (by omega), ev_c, if_pos nb0, e2, ev_c]
  refine loop_X (fun n i (s : (Int32 × Int32) × zM) => f_X6_begin_L42 (nI m) (nI w) (fun (x11 : Int32) (x12 : Int32) μ => (if ¬ nI w = 0 then some (x12, μ) else some (x11, μ))) n s.1.1 s.1.2 i s.2) (fun R => ∃ μ', R = some (vBegin S m w, μ') ∧ CS S μ') 24 (fun d s => s.1 = bgR (bgV S m) d ∧ fC m1 s.2 ∧ ∃ T', HT 34 s.2 T' ∧ agr 7 m (tolT S) T') ?_ ?_ 400 0 ((-1, -1), m2) (by omega) (by omega) ⟨rfl, b2, tolT S, b1, agr_rf⟩
  · intro n s ⟨g1, g2, _⟩
    refine ⟨s.2, ?_, CS_K hw c1 (fK_C g2)⟩
    show f_X6_begin_L42 _ _ _ (n + 1) _ _ _ _ = _
    rw [f_X6_begin_L42, if_pos (show (24 : Int32) ≤ nI 24 from nI_le (Nat.le_refl _) (by omega)), g1]
    unfold vBegin
    have : w = 0 ∨ w = 1 := by omega
    rcases this with rfl | rfl
    · rw [if_neg (fun q => q rfl), if_pos rfl]
    · rw [if_pos (show ¬ nI 1 = 0 by decide), if_neg (show ¬ 1 = 0 by omega)]
  · intro n d s hd ⟨g1, g2, T', g3, g4⟩
    have hT := HT_up (v := d) g3 g4 (by omega) (by omega)
    obtain ⟨m4, e4, l1, l2⟩ := run_e (Or.inr rfl) (wT_set7 hwT hd) hT
    show ∃ s' : (Int32 × Int32) × zM, f_X6_begin_L42 _ _ _ (n + 1) _ _ _ _ = f_X6_begin_L42 _ _ _ n _ _ _ _ ∧ _
    rw [f_X6_begin_L42, if_neg (show ¬ (24 : Int32) ≤ nI d from nI_ge (b := 24) hd (by omega)), ev_st (by omega) (by omega), show f_X2_live 34 (zup s.2 41 m (nI d)) = _ from e4, ev_c, everIn_e l1, ev_c, show f_J6_bitCount_0f7a4 (bits (fun k => ((sim (setT (tolT S) 7 m d) 24).1 k).isSome) (setT (tolT S) 7 m d 0 0)) m4 = some (bgV S m d, m4) from bitCount_e _ h8 m4, ev_c, g1]
    refine ⟨(bgR (bgV S m) (d + 1), m4), ?_, rfl, fC_tr g2 (fC_tr (fun a ha => by rw [zup_n (by omega)]) (fC_4 l2)), _, l1.2.2.1, agr_set⟩
    show _ = f_X6_begin_L42 _ _ _ n (if (bgR (bgV S m) d).2 < bgV S m d then (nI d, bgV S m d) else bgR (bgV S m) d).1 (if (bgR (bgV S m) d).2 < bgV S m d then (nI d, bgV S m d) else bgR (bgV S m) d).2 _ _
    by_cases c : (bgR (bgV S m) d).2 < bgV S m d
    · rw [if_pos c, if_neg (Int32.not_le.mpr c), ev_v, nI_1]
    · rw [if_neg c, if_pos (Int32.not_lt.mp c), ev_v, nI_1]
theorem beginOf_e (hw : wfS S) (h : frM S μ) {m w : Nat} (hm : m < itS S 1) (hwh : w < 2) : ∃ μ', f_X7_beginOf (nI m) (nI w) μ = some (vBegin S m w, μ') ∧ MB S μ' := by
  have zm := zMt
  have hwT := wT_told hw 0
  have h8 : itS S 0 ≤ 8 := hwT.1
  have h4 : itS S 1 ≤ 4 := hwT.2.1
  unfold f_X7_beginOf
  obtain ⟨m1, e1, ⟨b1, b2⟩, b3⟩ := asTold_e hw h
  have e110 : m1 110 m = nI (tolT S 7 m) := (b2.2.2.2 m hm).2.1
  rw [e1, ev_c, ev_ld (by omega) (by omega), e110]
  refine loop_X (fun n i (s : (Int32 × Int32) × zM) => f_X7_beginOf_L20 (nI m) (nI w) (nI (tolT S 7 m)) (fun (x9 : Int32) (x10 : Int32) μ => stI μ 110 (nI m) (nI (tolT S 7 m)) fun μ => (if ¬ nI w = 0 then some (x10, μ) else some (x9, μ))) n s.1.1 s.1.2 i s.2) (fun R => ∃ μ', R = some (vBegin S m w, μ') ∧ MB S μ') 24 (fun d s => s.1 = bgR (bgV S m) d ∧ frM S s.2 ∧ MN s.2 (cn S) (cd S) (cf S) 0 ∧ ∃ T', MA s.2 T' ∧ agr 7 m (tolT S) T') ?_ ?_ 400 0 ((-1, -1), m1) (by omega) (by omega) ⟨rfl, b1, b3, tolT S, b2, agr_rf⟩
  · intro n s ⟨g1, g2, g3, T', g4, g5⟩
    show ∃ μ', f_X7_beginOf_L20 _ _ _ _ (n + 1) _ _ _ _ = _ ∧ _
    rw [f_X7_beginOf_L20, if_pos (show (24 : Int32) ≤ nI 24 from nI_le (Nat.le_refl _) (by omega)), ev_st (by omega) (by omega), g1]
    have hA := MA_up7 (v := tolT S 7 m) g4 g5
    rw [setT_id] at hA
    refine ⟨_, ?_, frM_up g2 (by omega), hA⟩
    unfold vBegin
    have : w = 0 ∨ w = 1 := by omega
    rcases this with rfl | rfl
    · rw [if_neg (fun q => q rfl), if_pos rfl]
    · rw [if_pos (show ¬ nI 1 = 0 by decide), if_neg (show ¬ 1 = 0 by omega)]
  · intro n d s hd ⟨g1, g2, g3, T', g4, g5⟩
    have hA := MA_up7 (v := d) g4 g5
    have hT : MT (zup s.2 110 m (nI d)) (setT (tolT S) 7 m d) := ⟨wT_set7 hwT hd, hA, cn S, cd S, cf S, 0, MN_up g3 (by omega) (by omega) (by omega), fun _ _ => rfl⟩
    obtain ⟨m4, e4, l1, l2⟩ := runs_e hT
    show ∃ s' : (Int32 × Int32) × zM, f_X7_beginOf_L20 _ _ _ _ (n + 1) _ _ _ _ = f_X7_beginOf_L20 _ _ _ _ n _ _ _ _ ∧ _
    have hi : f_X7_insNow m4 = some (bgV S m d, m4) := insNow_e (wT_set7 hwT hd) (MA_fr hA l2).1 l1
    rw [f_X7_beginOf_L20, if_neg (show ¬ (24 : Int32) ≤ nI d from nI_ge (b := 24) hd (by omega)), ev_st (by omega) (by omega), e4, ev_c, hi, ev_c, g1, ev_j]
    refine ⟨(bgR (bgV S m) (d + 1), m4), ?_, rfl, frM_R (frM_up g2 (by omega)) l2, MN_fr (MN_up g3 (by omega) (by omega) (by omega)) l2, _, MA_fr hA l2, agr_set⟩
    show _ = f_X7_beginOf_L20 _ _ _ _ n (if (bgR (bgV S m) d).2 < bgV S m d then (nI d, bgV S m d) else bgR (bgV S m) d).1 (if (bgR (bgV S m) d).2 < bgV S m d then (nI d, bgV S m d) else bgR (bgV S m) d).2 _ _
    by_cases c : (bgR (bgV S m) d).2 < bgV S m d
    · rw [if_pos c, if_neg (Int32.not_le.mpr c)]
      dsimp only
      rw [if_neg (Int32.not_le.mpr c), ev_v, nI_1]
    · rw [if_neg c, if_pos (Int32.not_lt.mp c)]
      dsimp only
      rw [if_pos (Int32.not_lt.mp c), ev_v, nI_1]
-- how long one must wait
def paP (S : zM) (k v : Nat) : Bool := decide (1 ≤ v) && ((sim (setT (tolT S) 2 k v) 24).1 k).isSome
def vPat (S : zM) (k : Nat) : Int32 := oI (fstP (paP S k) 10)
theorem cq_patience (hw : wfS S) (h : CS S μ) {k : Nat} (hk : k < itS S 0) : ∃ μ', f_X6_patience (nI k) μ = some (vPat S k, μ') ∧ CS S μ' := by
  have zz := zC
  have hwT := wT_told hw 0
  have h8 : itS S 0 ≤ 8 := hwT.1
  unfold f_X6_patience
  obtain ⟨m1, e1, c1, c2, -⟩ := told_e hw h
  obtain ⟨m2, e2, b1, b2⟩ := become_e hwT c2.2.2.1
  rw [e1, ev_c, hasCaller_e c2, show wi (nI k) 0 (nI (tolT S 0 0) - (1 : Int32)) = true from wi_k (n := itS S 0) hk (by omega), ev_c, if_pos nb0, e2, ev_c]
  refine loop_P (fun n i (s : zM) => f_X6_patience_L26 (nI k) (fun μ => some ((-1 : Int32), μ)) n i s) (fun R => ∃ μ', R = some (vPat S k, μ') ∧ CS S μ') 10 (fun v s => 1 ≤ v ∧ fstP (paP S k) v = none ∧ fC m1 s ∧ ∃ T', HT 34 s T' ∧ agr 2 k (tolT S) T') ?_ ?_ 400 1 m2 (by omega) (by omega) ⟨by omega, rfl, b2, tolT S, b1, agr_rf⟩
  · intro n s ⟨_, g1, g2, _⟩
    refine ⟨s, ?_, CS_K hw c1 (fK_C g2)⟩
    show f_X6_patience_L26 _ _ (n + 1) _ _ = _
    rw [f_X6_patience_L26, if_pos (show (9 : Int32) < nI 10 from nI_lt (a := 9) (by omega) (by omega))]
    unfold vPat
    rw [g1]; rfl
  · intro n v s hv ⟨g0, g1, g2, T', g3, g4⟩
    have hwv := wT_set2 (i := k) hwT (v := v) (by omega) (by omega)
    have hT := HT_up (v := v) g3 g4 (by omega) (by omega)
    obtain ⟨m4, e4, l1, l2⟩ := run_e (Or.inr rfl) hwv hT
    have hF := fC_tr g2 (fC_tr (μ2 := m4) (fun a ha => by rw [zup_n (by omega)]) (fC_4 l2))
    have hx : m4 44 k = oI ((sim (setT (tolT S) 2 k v) 24).1 k) := (l1.2.2.2.1 k hk).1
    show (∃ μ', f_X6_patience_L26 _ _ (n + 1) _ _ = _ ∧ _) ∨ ∃ s' : zM, f_X6_patience_L26 _ _ (n + 1) _ _ = f_X6_patience_L26 _ _ n _ _ ∧ _
    rw [f_X6_patience_L26, if_neg (show ¬ (9 : Int32) < nI v from nI_nlt (a := 9) (by omega) (by omega)), ev_st (by omega) (by omega), show f_X2_live 34 (zup s 36 k (nI v)) = _ from e4, ev_c, ev_ld (by omega) (by omega), hx]
    cases hc : (sim (setT (tolT S) 2 k v) 24).1 k with
    | none =>
      right
      refine ⟨m4, by rw [if_pos (show oI none = -1 from rfl), ev_v, nI_1], by omega, ?_, hF, _, l1.2.2.1, agr_set⟩
      show fstP _ (v + 1) = none
      unfold fstP
      rw [g1]
      have : paP S k v = false := by unfold paP; rw [hc]; simp
      rw [this]; rfl
    | some c =>
      left
      have hc24 := (sim_I2 hwv 24 k).1 c hc
      refine ⟨m4, ?_, CS_K hw c1 (fK_C hF)⟩
      rw [if_neg (show ¬ oI (some c) = -1 from nI_m1 (by omega))]
      unfold vPat
      rw [fstP_at g1 (by unfold paP; rw [hc]; simp [g0]) (by omega)]; rfl
theorem waitOf_e (hw : wfS S) (h : frM S μ) {k : Nat} (hk : k < itS S 0) : ∃ μ', f_X7_waitOf (nI k) μ = some (vPat S k, μ') ∧ MB S μ' := by
  have zm := zMt
  have hwT := wT_told hw 0
  have h8 : itS S 0 ≤ 8 := hwT.1
  unfold f_X7_waitOf
  obtain ⟨m1, e1, ⟨b1, b2⟩, b3⟩ := asTold_e hw h
  have e105 : m1 105 k = nI (tolT S 2 k) := (b2.2.2.1 k hk).2.1
  rw [e1, ev_c, ev_ld (by omega) (by omega), e105]
  have hfin : ∀ (x : Int32) (s : zM), frM S s → (∃ T', MA s T' ∧ agr 2 k (tolT S) T') → x = vPat S k → ∃ μ', (fun (x8 : Int32) (μ : zM) => stI μ 105 (nI k) (nI (tolT S 2 k)) fun μ => some (x8, μ)) x s = some (vPat S k, μ') ∧ MB S μ' := by
    intro x s g2 ⟨T', g4, g5⟩ hx
    have hA := MA_up2 (v := tolT S 2 k) g4 g5
    rw [setT_id] at hA
    refine ⟨_, ?_, frM_up (a := 105) (i := k) (v := nI (tolT S 2 k)) g2 (by omega), hA⟩
    dsimp only
    rw [ev_st (by omega) (by omega), hx]
  refine loop_P (fun n i (s : Int32 × zM) => f_X7_waitOf_L16 (nI k) (nI (tolT S 2 k)) (fun (x8 : Int32) μ => stI μ 105 (nI k) (nI (tolT S 2 k)) fun μ => some (x8, μ)) n s.1 i s.2) (fun R => ∃ μ', R = some (vPat S k, μ') ∧ MB S μ') 10 (fun v s => 1 ≤ v ∧ s.1 = oI (fstP (paP S k) v) ∧ frM S s.2 ∧ MN s.2 (cn S) (cd S) (cf S) 0 ∧ ∃ T', MA s.2 T' ∧ agr 2 k (tolT S) T') ?_ ?_ 400 1 (-1, m1) (by omega) (by omega) ⟨by omega, rfl, b1, b3, tolT S, b2, agr_rf⟩
  · intro n s ⟨_, g1, g2, g3, g4⟩
    show ∃ μ', f_X7_waitOf_L16 _ _ _ (n + 1) _ _ _ = _ ∧ _
    rw [f_X7_waitOf_L16, if_pos (show (10 : Int32) ≤ nI 10 from nI_le (Nat.le_refl _) (by omega))]
    exact hfin _ _ g2 g4 g1
  · intro n v s hv ⟨g0, g1, g2, g3, T', g4, g5⟩
    show (∃ μ', f_X7_waitOf_L16 _ _ _ (n + 1) _ _ _ = _ ∧ _) ∨ ∃ s' : Int32 × zM, f_X7_waitOf_L16 _ _ _ (n + 1) _ _ _ = f_X7_waitOf_L16 _ _ _ n _ _ _ ∧ _
    rw [f_X7_waitOf_L16, if_neg (show ¬ (10 : Int32) ≤ nI v from nI_ge (b := 10) hv (by omega)), g1]
    cases hf : fstP (paP S k) v with
    | some w =>
      left
      obtain ⟨f1, f2, f3⟩ := fstP_lt hf
      rw [if_pos (show ¬ oI (some w) = -1 from nI_m1 (by omega))]
      refine hfin _ _ g2 ⟨T', g4, g5⟩ ?_
      unfold vPat
      have hn : fstP (paP S k) w = none := by
        cases hq : fstP (paP S k) w with
        | none => rfl
        | some x =>
          obtain ⟨q1, q2, -⟩ := fstP_lt hq
          rw [f3 x q1] at q2; cases q2
      rw [fstP_at hn f2 (by omega)]
    | none =>
      right
      have hwv := wT_set2 (i := k) hwT (v := v) (by omega) (by omega)
      have hA := MA_up2 (v := v) g4 g5
      have hT : MT (zup s.2 105 k (nI v)) (setT (tolT S) 2 k v) := ⟨hwv, hA, cn S, cd S, cf S, 0, MN_up g3 (by omega) (by omega) (by omega), fun _ _ => rfl⟩
      obtain ⟨m4, e4, l1, l2⟩ := runs_e hT
      have hnm := (l1.1 k hk).2
      rw [if_neg (show ¬ ¬ oI none = -1 from fun q => q rfl), ev_st (by omega) (by omega), e4, ev_c, ev_ld (by omega) (by omega), hnm]
      have hI := (sim_I2 hwv 24 k)
      have hst : ∀ x : Int32, x = oI (fstP (paP S k) (v + 1)) → 1 ≤ v + 1 ∧ x = oI (fstP (paP S k) (v + 1)) ∧ frM S m4 ∧ MN m4 (cn S) (cd S) (cf S) 0 ∧ ∃ T', MA m4 T' ∧ agr 2 k (tolT S) T' := fun x hx => ⟨by omega, hx, frM_R (frM_up g2 (by omega)) l2, MN_fr (MN_up g3 (by omega) (by omega) (by omega)) l2, _, MA_fr hA l2, agr_set⟩
      cases hc : (sim (setT (tolT S) 2 k v) 24).2.2 k with
      | none =>
        refine ⟨(-1, m4), by rw [if_pos (show oI none = -1 from rfl), ev_v, nI_1], hst _ ?_⟩
        have : paP S k v = false := by unfold paP; rw [hI.2.2.2.mpr hc]; simp
        show (-1 : Int32) = oI (match fstP (paP S k) v with | some m => some m | none => if paP S k v = true then some v else none)
        rw [hf, this]; rfl
      | some c =>
        have := hI.2.2.1 c hc
        refine ⟨(nI v, m4), by rw [if_neg (show ¬ oI (some c) = -1 from nI_m1 (by omega)), ev_v, nI_1], hst _ ?_⟩
        have : paP S k v = true := by
          unfold paP
          cases hci : (sim (setT (tolT S) 2 k v) 24).1 k with
          | none => rw [hI.2.2.2.mp hci] at hc; cases hc
          | some _ => simp [g0]
        show nI v = oI (match fstP (paP S k) v with | some m => some m | none => if paP S k v = true then some v else none)
        rw [hf, this]; rfl
end PL
section PLo
variable {μC μM : zM}
theorem op_begin (a1 a2 : Int32) (h : zRel μC μM) : ∃ (r : Int32) (μC1 μM1 : zM), f_X6_begin a1 a2 μC = some (r, μC1) ∧ f_X7_begin a1 a2 μM = some (r, μM1) ∧ zRel μC1 μM1 := by
  have h4 : itS μM 1 ≤ 4 := (wT_told h.1 0).2.1
  obtain ⟨m, e, h1, h2, -⟩ := told_e h.1 h.2
  obtain ⟨m2, e2, hB⟩ := isManM_e h.1 frM_rf a1
  rcases wi_cases1 a1 (n := itS μM 1) (by omega) with c | ⟨k, hk, rfl⟩
  · refine ask2 (r := -2) h ⟨m, ?_, h1⟩ ⟨m2, ?_, hB.1⟩
    · unfold f_X6_begin
      rw [e, ev_c, hasMan_e h2, show wi a1 0 (nI (tolT μM 0 1) - (1 : Int32)) = false from c, ev_c, if_pos (show bI false = 0 from rfl)]
    · unfold f_X7_begin
      rw [e2, ev_c, c, if_pos (show bI false = 0 from rfl)]
  · have hkw : wi (nI k) 0 (nI (itS μM 1) - (1 : Int32)) = true := wi_k hk (by omega)
    rcases wi_cases a2 (n := 1) (by omega) with c | ⟨w, hwv, rfl⟩
    · refine ask2 (r := -2) h ⟨m, ?_, h1⟩ ⟨m2, ?_, hB.1⟩
      · unfold f_X6_begin
        rw [e, ev_c, hasMan_e h2, show wi (nI k) 0 (nI (tolT μM 0 1) - (1 : Int32)) = true from hkw, ev_c, if_neg nb0, within_e, show wi a2 0 1 = false from c, ev_c, if_neg (fun q => q rfl)]
      · unfold f_X7_begin
        rw [e2, ev_c, hkw, if_neg nb0, isTwoM_e, show wi a2 0 1 = false from c, ev_c, if_pos (show bI false = 0 from rfl)]
    · refine ask2 h (cq_begin h.1 h.2 hk (w := w) (by omega)) ?_
      obtain ⟨m3, e3, hB3⟩ := beginOf_e h.1 hB.1 hk (w := w) (by omega)
      refine ⟨m3, ?_, hB3.1⟩
      unfold f_X7_begin
      rw [e2, ev_c, hkw, if_neg nb0, isTwoM_e, show wi (nI w) 0 1 = true from wi_t (n := 1) (by omega) (by omega), ev_c, if_neg nb0, e3, ev_c]
theorem op_patience (a1 : Int32) (h : zRel μC μM) : ∃ (r : Int32) (μC1 μM1 : zM), f_X6_patience a1 μC = some (r, μC1) ∧ f_X7_patience a1 μM = some (r, μM1) ∧ zRel μC1 μM1 := by
  have h8 : itS μM 0 ≤ 8 := (wT_told h.1 0).1
  obtain ⟨m, e, h1, h2, -⟩ := told_e h.1 h.2
  obtain ⟨m2, e2, hB⟩ := isCallerM_e h.1 frM_rf a1
  rcases wi_cases1 a1 (n := itS μM 0) (by omega) with c | ⟨k, hk, rfl⟩
  · refine ask2 (r := -2) h ⟨m, ?_, h1⟩ ⟨m2, ?_, hB.1⟩
    · unfold f_X6_patience
      rw [e, ev_c, hasCaller_e h2, show wi a1 0 (nI (tolT μM 0 0) - (1 : Int32)) = false from c, ev_c, if_neg (fun q => q rfl)]
    · unfold f_X7_patience
      rw [e2, ev_c, c, if_pos (show bI false = 0 from rfl)]
  · refine ask2 h (cq_patience h.1 h.2 hk) ?_
    obtain ⟨m3, e3, hB3⟩ := waitOf_e h.1 hB.1 hk
    refine ⟨m3, ?_, hB3.1⟩
    unfold f_X7_patience
    rw [e2, ev_c, show wi (nI k) 0 (nI (itS μM 0) - (1 : Int32)) = true from wi_k hk (by omega), if_neg nb0, e3, ev_c]
end PLo
