-- PURE: trials: other cards
theorem iv_congr {b : Int32} {dd ff dd' ff' : Nat → Nat} {k : Nat} : ∀ n, (∀ i, i < n → dd' i = dd i ∧ ff' i = ff i) → iv b dd' ff' n k = iv b dd ff n k
  | 0, _ => rfl
  | n + 1, h => by
    obtain ⟨h1, h2⟩ := h n (by omega)
    rw [iv_s, iv_s, iv_congr n (fun i hi => h i (by omega)), h1, h2]
section TRI
variable {S μ : zM} {T : zT2}
-- the card that had better be left
def lvT (T : zT2) (d c : Nat) : zT2 := setT T 5 c (if d < T 5 c then d else T 5 c)
def lvR (v : Nat → Int32) : Nat → Option (Nat × Int32)
  | 0 => none
  | c + 1 => match lvR v c with
    | none => some (c, v c)
    | some x => if x.2 < v c then some (c, v c) else some x
def lvV (S : zM) (d c : Nat) : Int32 := vTot (lvT (tolT S) d c)
def lvO (x : Option (Nat × Int32)) (w : Nat) : Int32 := match x with
  | none => -2147483647
  | some x => if w = 0 then nI x.1 else x.2
def vLeave (S : zM) (d w : Nat) : Int32 := lvO (lvR (lvV S d) (itS S 0)) w
def lvI (x : Option (Nat × Int32)) (a b : Int32) : Prop := match x with
  | none => a = -1
  | some y => a = nI y.1 ∧ b = y.2 ∧ y.1 < 8
theorem lv_step {v : Nat → Int32} {c : Nat} {a b : Int32} (hc : c < 8) (h : lvI (lvR v c) a b) : (a = -1 ∧ lvI (lvR v (c + 1)) (nI c) (v c)) ∨ (¬ a = -1 ∧ ((b < v c ∧ lvI (lvR v (c + 1)) (nI c) (v c)) ∨ (¬ b < v c ∧ lvI (lvR v (c + 1)) a b))) := by
  show (a = -1 ∧ lvI (match lvR v c with | none => some (c, v c) | some x => if x.2 < v c then some (c, v c) else some x) (nI c) (v c)) ∨ (¬ a = -1 ∧ ((b < v c ∧ lvI (match lvR v c with | none => some (c, v c) | some x => if x.2 < v c then some (c, v c) else some x) (nI c) (v c)) ∨ (¬ b < v c ∧ lvI (match lvR v c with | none => some (c, v c) | some x => if x.2 < v c then some (c, v c) else some x) a b)))
  cases e : lvR v c with
  | none =>
    rw [e] at h
    exact Or.inl ⟨h, rfl, rfl, hc⟩
  | some x =>
    rw [e] at h
    obtain ⟨h1, h2, h3⟩ := h
    right
    refine ⟨by rw [h1]; exact nI_m1 (by omega), ?_⟩
    by_cases q : x.2 < v c
    · left
      refine ⟨by rw [h2]; exact q, ?_⟩
      show lvI (if x.2 < v c then some (c, v c) else some x) _ _
      rw [if_pos q]
      exact ⟨rfl, rfl, hc⟩
    · right
      refine ⟨by rw [h2]; exact q, ?_⟩
      show lvI (if x.2 < v c then some (c, v c) else some x) _ _
      rw [if_neg q]
      exact ⟨h1, h2, h3⟩
theorem lv_end {x : Option (Nat × Int32)} {a b : Int32} {w : Nat} (hw : w < 2) (h : lvI x a b) (μ : zM) : (if ¬ a = (-1 : Int32) then (if ¬ nI w = 0 then some (b, μ) else some (a, μ)) else some ((-2147483647 : Int32), μ)) = some (lvO x w, μ) := by
  cases x with
  | none => rw [if_neg (fun q => q h)]; rfl
  | some x =>
    obtain ⟨h1, h2, h3⟩ := h
    rw [if_pos (by rw [h1]; exact nI_m1 (by omega))]
    have : w = 0 ∨ w = 1 := by omega
    rcases this with rfl | rfl
    · rw [if_neg (fun q => q rfl), h1]; rfl
    · rw [if_pos (show ¬ nI 1 = 0 by decide), h2]; rfl
theorem wT_lv (h : wT T) {d c : Nat} (hd : d < 24) (hc : c < T 0 0) : wT (lvT T d c) := wT_set5 h (by
  have := (h.2.2.1 c hc).2.2.2.2.2.2
  split <;> omega)
theorem cq_leave (hw : wfS S) (h : CS S μ) {d w : Nat} (hd : d < 24) (hwh : w < 2) : ∃ μ', f_X6_leave (nI d) (nI w) μ = some (vLeave S d w, μ') ∧ CS S μ' := by
  have zz := zC
  have hwT := wT_told hw 0
  have h8 : itS S 0 ≤ 8 := hwT.1
  unfold f_X6_leave
  obtain ⟨m1, e1, c1, c2, -⟩ := told_e hw h
  rw [isDayC_e, show wi (nI d) 0 23 = true from wi_t (n := 23) (by omega) (by omega), ev_c, if_neg nb0, within_e, show wi (nI w) 0 1 = true from wi_t (n := 1) (by omega) (by omega), ev_c, if_pos nb0, e1, ev_c]
  refine loop_X (fun n i (s : (Int32 × Int32) × zM) => f_X6_leave_L34 (nI d) (nI w) (fun (x13 : Int32) (x14 : Int32) μ => (if ¬ x13 = (-1 : Int32) then (if ¬ nI w = 0 then some (x14, μ) else some (x13, μ)) else some ((-2147483647 : Int32), μ))) n s.1.1 s.1.2 i s.2) (fun R => ∃ μ', R = some (vLeave S d w, μ') ∧ CS S μ') (itS S 0) (fun c s => lvI (lvR (lvV S d) c) s.1.1 s.1.2 ∧ fC m1 s.2) ?_ ?_ 400 0 ((-1, -2147483648), m1) (by omega) (by omega) ⟨rfl, fC_rf⟩
  · intro n s ⟨g1, g2⟩
    refine ⟨s.2, ?_, CS_K hw c1 (fK_C g2)⟩
    show f_X6_leave_L34 _ _ _ (n + 1) _ _ _ _ = _
    rw [f_X6_leave_L34, ev_g, g2 21 (by omega), show m1 21 0 = nI (itS S 0) from c2.2.2.1.1, if_pos (nI_le (Nat.le_refl _) (by omega))]
    exact lv_end hwh g1 _
  · intro n c s hc ⟨g1, g2⟩
    have hT21 : HT 21 s.2 (tolT S) := HT_eq c2.2.2.1 (fun a _ _ => g2 a (by omega))
    obtain ⟨m2, e2, b1, b2⟩ := become_e hwT hT21
    have h5 : m2 39 c = nI (tolT S 5 c) := b1.2.2.1 5 (by omega) (by omega) c hc
    have hle := iv_le 0 (cd S) (cf S) (cn S) c
    have hle5 : tolT S 5 c ≤ 24 := hle
    have hi := invite_e (r0 := 34) (Or.inr rfl) (d := d) (k := c) (q := tolT S 5 c) (by omega) (by omega) (by omega) h5
    have hT := HT_up (j := 5) (i := c) (v := if d < tolT S 5 c then d else tolT S 5 c) b1 agr_rf (by omega) (by omega)
    obtain ⟨m4, e4, l1, l2⟩ := run_e (Or.inr rfl) (wT_lv hwT hd hc) hT
    show ∃ s' : (Int32 × Int32) × zM, f_X6_leave_L34 _ _ _ (n + 1) _ _ _ _ = f_X6_leave_L34 _ _ _ n _ _ _ _ ∧ _
    have ht : f_X2_total 34 m4 = some (lvV S d c, m4) := total_e l1
    rw [f_X6_leave_L34, ev_g, g2 21 (by omega), show m1 21 0 = nI (itS S 0) from c2.2.2.1.1, if_neg (nI_ge hc (by omega)), e2, ev_c, hi, ev_c, show f_X2_live 34 (zup m2 (34 + 5) c (nI (if d < tolT S 5 c then d else tolT S 5 c))) = _ from e4, ev_c, ht, ev_c]
    have hF := fC_tr g2 (fC_tr b2 (fC_tr (μ2 := m4) (fun a ha => by rw [zup_n (by omega)]) (fC_4 l2)))
    rcases lv_step (by omega) g1 with ⟨q1, q2⟩ | ⟨q1, ⟨q2, q3⟩ | ⟨q2, q3⟩⟩
    · rw [if_pos q1, ev_v, nI_1]
      exact ⟨((nI c, lvV S d c), m4), rfl, q2, hF⟩
    · rw [if_neg q1, if_neg (Int32.not_le.mpr q2), ev_v, nI_1]
      exact ⟨((nI c, lvV S d c), m4), rfl, q3, hF⟩
    · rw [if_neg q1, if_pos (Int32.not_lt.mp q2), ev_v, nI_1]
      exact ⟨(s.1, m4), rfl, q3, hF⟩
theorem leaveOf_e (hw : wfS S) (h : frM S μ) {d w : Nat} (hd : d < 24) (hwh : w < 2) : ∃ μ', f_X7_leaveOf (nI d) (nI w) μ = some (vLeave S d w, μ') ∧ MB S μ' := by
  have zm := zMt
  have hwT := wT_told hw 0
  have h8 : itS S 0 ≤ 8 := hwT.1
  unfold f_X7_leaveOf
  obtain ⟨m1, e1, ⟨b1, b2⟩, b3⟩ := asTold_e hw h
  obtain ⟨-, -, ⟨w1, w2⟩, w3, -⟩ := hw
  rw [e1, ev_c, ev_g, b1.2.1, w1, ev_p, nI_1, ev_g, zup_o (by omega), b1.2.1, w1, ev_st (by omega) (by omega)]
  generalize hm2 : zup (zup m1 100 14 (nI (cn S + 1))) 116 (cn S) (nI d) = m2
  have x0 : ∀ a, a ≠ 100 → a ≠ 116 → m2 a = m1 a := fun a p q => by rw [← hm2, zup_n q, zup_n p]
  have x1 : ∀ i, i ≠ 14 → m2 100 i = m1 100 i := fun i p => by rw [← hm2, zup_n (by omega), zup_o p]
  have x2 : m2 100 14 = nI (cn S + 1) := by rw [← hm2, zup_n (by omega), zup_e]
  have x3 : ∀ i, i < cn S → m2 116 i = nI (cd S i) := fun i hi => by rw [← hm2, zup_o (by omega), zup_n (by omega)]; exact (b3.2.2.2 i hi).1
  have x4 : m2 116 (cn S) = nI d := by rw [← hm2, zup_e]
  have hA2 : MA m2 (tolT S) := by
    unfold MA
    rw [x1 2 (by omega), x1 7 (by omega), x0 104 (by omega) (by omega), x0 105 (by omega) (by omega), x0 106 (by omega) (by omega), x0 107 (by omega) (by omega), x0 109 (by omega) (by omega), x0 110 (by omega) (by omega), x0 111 (by omega) (by omega)]
    exact b2
  have hf2 : frM S m2 := ⟨fun a ha => by rw [x0 a (by omega) (by omega)]; exact b1.1 a ha, by rw [x1 11 (by omega)]; exact b1.2.1, by rw [x1 28 (by omega)]; exact b1.2.2.1, by rw [x1 37 (by omega)]; exact b1.2.2.2⟩
  -- what the loop keeps
  refine loop_X (fun n i (s : (Int32 × Int32) × zM) => f_X7_leaveOf_L32 (nI w) (fun (x15 : Int32) (x16 : Int32) μ => (if ¬ x15 = (-1 : Int32) then (if ¬ nI w = 0 then some (x16, μ) else some (x15, μ)) else some ((-2147483647 : Int32), μ))) n s.1.1 s.1.2 i s.2) (fun R => ∃ μ', R = some (vLeave S d w, μ') ∧ MB S μ') (itS S 0) (fun c s => lvI (lvR (lvV S d) c) s.1.1 s.1.2 ∧ frM S s.2 ∧ MA s.2 (tolT S) ∧ s.2 100 14 = nI (cn S + 1) ∧ s.2 100 17 = 0 ∧ s.2 116 = m2 116 ∧ ∀ i, i < cn S → s.2 117 i = nI (cf S i)) ?_ ?_ 400 0 ((-1, 0), m2) (by omega) (by omega) ⟨rfl, hf2, hA2, x2, by show m2 100 17 = 0; rw [x1 17 (by omega)]; exact b3.2.2.1, rfl, fun i hi => by show m2 117 i = _; rw [x0 117 (by omega) (by omega)]; exact (b3.2.2.2 i hi).2.2.1⟩
  · intro n s ⟨g1, g2, g3, _, _, _, _⟩
    refine ⟨s.2, ?_, g2, g3⟩
    show f_X7_leaveOf_L32 _ _ (n + 1) _ _ _ _ = _
    rw [f_X7_leaveOf_L32, ev_g, show s.2 100 2 = nI (itS S 0) from g3.1, if_pos (nI_le (Nat.le_refl _) (by omega))]
    exact lv_end hwh g1 _
  · intro n c s hc ⟨g1, g2, g3, g4, g5, g6, g7⟩
    have hMN : MN (zup s.2 117 (cn S) (nI c)) (cn S + 1) (fun i => if i = cn S then d else cd S i) (fun i => if i = cn S then c else cf S i) 0 := by
      refine ⟨by omega, by rw [zup_n (by omega)]; exact g4, by rw [zup_n (by omega)]; exact g5, fun i hi => ?_⟩
      rw [zup_n (show 116 ≠ 117 by omega), g6]
      dsimp only
      by_cases q : i = cn S
      · subst q
        rw [if_pos rfl, if_pos rfl, zup_e]
        exact ⟨x4, hd, rfl, by omega⟩
      · rw [if_neg q, if_neg q, zup_o q]
        obtain ⟨-, v2, -, v4⟩ := w3 i (by omega)
        exact ⟨x3 i (by omega), v2, g7 i (by omega), v4⟩
    have hA' : MA (zup s.2 117 (cn S) (nI c)) (tolT S) := by
      unfold MA
      rw [zup_n (show 100 ≠ 117 by omega), zup_n (show 104 ≠ 117 by omega), zup_n (show 105 ≠ 117 by omega), zup_n (show 106 ≠ 117 by omega), zup_n (show 107 ≠ 117 by omega), zup_n (show 109 ≠ 117 by omega), zup_n (show 110 ≠ 117 by omega), zup_n (show 111 ≠ 117 by omega)]
      exact g3
    have hT : MT (zup s.2 117 (cn S) (nI c)) (lvT (tolT S) d c) := by
      refine ⟨wT_lv hwT hd hc, hA', _, _, _, _, hMN, fun k hk => ?_⟩
      rw [iv_s, iv_congr (dd := cd S) (ff := cf S) (cn S) (fun i hi => ⟨if_neg (by omega), if_neg (by omega)⟩), if_pos rfl, if_pos rfl]
      unfold lvT
      have e5 : tolT S 5 k = iv 0 (cd S) (cf S) (cn S) k := rfl
      by_cases q : k = c
      · subst q
        rw [setT_e, ← e5]
        by_cases q2 : d < tolT S 5 k
        · rw [if_pos q2, if_pos ⟨tb_0 _, rfl, q2⟩]
        · rw [if_neg q2, if_neg (fun x => q2 x.2.2)]
      · rw [setT_k q, if_neg (fun x => q x.2.1.symm), e5]
    obtain ⟨m4, e4, l1, l2⟩ := runs_e hT
    have ht : f_X7_sumNow m4 = some (lvV S d c, m4) := sumNow_e l1
    show ∃ s' : (Int32 × Int32) × zM, f_X7_leaveOf_L32 _ _ (n + 1) _ _ _ _ = f_X7_leaveOf_L32 _ _ n _ _ _ _ ∧ _
    rw [f_X7_leaveOf_L32, ev_g, show s.2 100 2 = nI (itS S 0) from g3.1, if_neg (nI_ge hc (by omega)), ev_g, g2.2.1, w1, ev_st (by omega) (by omega), e4, ev_c, ht, ev_c, ev_j]
    have hst : frM S m4 ∧ MA m4 (tolT S) ∧ m4 100 14 = nI (cn S + 1) ∧ m4 100 17 = 0 ∧ m4 116 = m2 116 ∧ ∀ i, i < cn S → m4 117 i = nI (cf S i) := by
      refine ⟨frM_R (frM_up g2 (by omega)) l2, MA_fr hA' l2, ?_, ?_, ?_, fun i hi => ?_⟩
      · rw [l2.2 14 (by omega) (by omega), zup_n (by omega)]; exact g4
      · rw [l2.2 17 (by omega) (by omega), zup_n (by omega)]; exact g5
      · rw [frR_at l2 (by omega) (by omega), zup_n (by omega)]; exact g6
      · rw [frR_at l2 (by omega) (by omega), zup_o (by omega)]; exact g7 i hi
    rcases lv_step (by omega) g1 with ⟨q1, q2⟩ | ⟨q1, ⟨q2, q3⟩ | ⟨q2, q3⟩⟩
    · refine ⟨((nI c, lvV S d c), m4), ?_, q2, hst⟩
      rw [if_pos q1]
      dsimp only
      rw [ev_j, if_neg (show ¬ (1 : Int32) = 0 by decide)]
      dsimp only
      rw [if_neg (show ¬ (1 : Int32) = 0 by decide), ev_v, nI_1]
    · refine ⟨((nI c, lvV S d c), m4), ?_, q3, hst⟩
      rw [if_neg q1, if_neg (Int32.not_le.mpr q2)]
      dsimp only
      rw [ev_j, if_neg (show ¬ (1 : Int32) = 0 by decide)]
      dsimp only
      rw [if_neg (show ¬ (1 : Int32) = 0 by decide), ev_v, nI_1]
    · refine ⟨(s.1, m4), ?_, q3, hst⟩
      rw [if_neg q1, if_pos (Int32.not_lt.mp q2)]
      dsimp only
      rw [ev_j, if_pos (show (0 : Int32) = 0 from rfl)]
      dsimp only
      rw [if_pos (show (0 : Int32) = 0 from rfl), ev_v, nI_1]
-- does it feel as was felt
theorem isFelt_e (hw : wfS S) (hf : frM S μ) (h : MT μ T) : ∃ μ', f_X7_isFelt μ = some (bI (fitS S T), μ') ∧ MRn μ' T ∧ frR μ μ' := by
  have zm := zMt
  obtain ⟨m1, e1, h1, h2⟩ := runs_e h
  have hf1 := frM_R hf h2
  obtain ⟨-, -, -, -, ⟨w1, w2⟩, w3, -⟩ := hw
  unfold f_X7_isFelt
  rw [e1, ev_c]
  refine ⟨m1, ?_, h1, h2⟩
  refine loop_P (fun n i (a : Int32) => f_X7_isFelt_L8 (fun (x10 : Int32) μ => gd (x10 = 0 ∨ x10 = 1) (some (x10, μ))) n a i m1) (fun R => R = some (bI (fitS S T), m1)) (fn S) (fun k a => a = bI (fstP (fun i => !fitP S T i) k).isNone) ?_ ?_ 400 0 1 (by omega) (by omega) rfl
  · intro n a ha
    show f_X7_isFelt_L8 _ (n + 1) _ _ _ = _
    rw [f_X7_isFelt_L8, ev_g, hf1.2.2.1, w1, if_pos (nI_le (Nat.le_refl _) (by omega)), ha, ev_gb]; rfl
  · intro n k a hk ha
    obtain ⟨v1, v2⟩ := w3 k hk
    show f_X7_isFelt_L8 _ (n + 1) _ _ _ = _ ∨ ∃ s' : Int32, f_X7_isFelt_L8 _ (n + 1) _ _ _ = f_X7_isFelt_L8 _ n _ _ _ ∧ _
    rw [f_X7_isFelt_L8, ev_g, hf1.2.2.1, w1, if_neg (nI_ge hk (by omega)), ha]
    cases e : fstP (fun i => !fitP S T i) k with
    | some j =>
      left
      rw [if_pos (show bI (some j).isNone = 0 from rfl)]
      obtain ⟨f1, f2, f3⟩ := fstP_lt e
      have hn : fstP (fun i => !fitP S T i) j = none := by
        cases hq : fstP (fun i => !fitP S T i) j with
        | none => rfl
        | some x =>
          obtain ⟨q1, q2, -⟩ := fstP_lt hq
          rw [f3 x q1] at q2; cases q2
      unfold fitS
      rw [fstP_at hn f2 (by omega)]; rfl
    | none =>
      right
      have hv : m1 127 (fd S k) = wsum T (sim T 24) (fd S k) (T 0 0) := (h1.2.2.2 (fd S k) v2).2.1
      rw [if_neg (show ¬ bI (none : Option Nat).isNone = 0 from nb0), ev_ld (by omega) (by omega), hf1.1 130 (by omega), v1, ev_ld (by omega) (by omega), hv, ev_ld (by omega) (by omega), hf1.1 131 (by omega)]
      refine ⟨_, ?_, rfl⟩
      show _ = f_X7_isFelt_L8 _ n (bI (match fstP (fun i => !fitP S T i) k with | some m => some m | none => if (!fitP S T k) = true then some k else none).isNone) _ _
      rw [e]
      by_cases c : wsum T (sim T 24) (fd S k) (T 0 0) = S 131 k
      · have : fitP S T k = true := by unfold fitP; simp [c]
        rw [if_neg (fun q => q c), ev_v, nI_1, this]; rfl
      · have : fitP S T k = false := by unfold fitP; simp [c]
        rw [if_pos c, ev_v, nI_1, this]; rfl
-- the trial house, whatever its cards
def TR (S m : zM) : Prop := ∃ f : Nat → Nat, wT (setF (tolA S) f) ∧ HT 34 m (setF (tolA S) f)
theorem TR_of (hw : wfS S) {m : zM} (h : HT 34 m (tolT S)) : TR S m := ⟨_, wT_told hw 0, h⟩
theorem trial_e (hw : wfS S) {m : zM} (hc : crd S m) (h : TR S m) (b : Int32) : ∃ m1 m2, f_X0_inviteAllBut b 34 m = some ((), m1) ∧ f_X2_live 34 m1 = some ((), m2) ∧ HC 34 m2 (tolB S b) (sim (tolB S b) 24) ∧ fC m m2 ∧ TR S m2 := by
  obtain ⟨f, h1, h2⟩ := h
  obtain ⟨m1, d1, d2, d3⟩ := inviteAllBut_e (r0 := 34) (Or.inr rfl) (cdR_of hw hc) b
  have hT := HT_F (Or.inr rfl) h1 h2 d2 d3
  rw [setF_F] at hT
  obtain ⟨m2, e2, l1, l2⟩ := run_e (Or.inr rfl) (wT_told hw b) hT
  exact ⟨m1, m2, d1, e2, l1, fC_tr (fun a ha => d2 a (by omega)) (fC_4 l2), _, wT_told hw b, l1.2.2.1⟩
/-- the reference with the cards of b burnt -/
def MBu (S m : zM) : Prop := MB S m ∧ ∃ b, MN m (cn S) (cd S) (cf S) b
theorem MBu_b {m : zM} (h : MBu S m) (b : Int32) : MB S (zup m 100 17 b) ∧ MN (zup m 100 17 b) (cn S) (cd S) (cf S) b := by
  obtain ⟨⟨h1, h2⟩, b', h3⟩ := h
  refine ⟨⟨frM_u1 h1 (by omega) (by omega) (by omega), ?_⟩, h3.1, by rw [zup_o (by omega)]; exact h3.2.1, by rw [zup_e], fun i hi => ?_⟩
  · unfold MA
    rw [zup_o (show 2 ≠ 17 by omega), zup_o (show 7 ≠ 17 by omega), zup_n (show 104 ≠ 100 by omega), zup_n (show 105 ≠ 100 by omega), zup_n (show 106 ≠ 100 by omega), zup_n (show 107 ≠ 100 by omega), zup_n (show 109 ≠ 100 by omega), zup_n (show 110 ≠ 100 by omega), zup_n (show 111 ≠ 100 by omega)]
    exact h2
  · rw [zup_n (show 116 ≠ 100 by omega), zup_n (show 117 ≠ 100 by omega)]
    exact h3.2.2.2 i hi
-- the cards that never were
def nvP (S : zM) (i : Nat) : Bool := fitS S (tolB S ((1 : Int32) <<< (nI i &&& 31)))
def vNever (S : zM) : Int32 := bits (nvP S) (cn S)
theorem cq_never (hw : wfS S) (h : CS S μ) : ∃ μ', f_X6_never μ = some (vNever S, μ') ∧ CS S μ' := by
  have hwT := wT_told hw 0
  unfold f_X6_never
  obtain ⟨m1, e1, c1, c2, -⟩ := told_e hw h
  obtain ⟨m2, e2, b1, b2⟩ := become_e hwT c2.2.2.1
  have hcn := hw.2.2.1
  rw [e1, ev_c, e2, ev_c]
  refine loop_X (fun n i (s : Int32 × zM) => f_X6_never_L15 (fun (x8 : Int32) μ => some (x8, μ)) n s.1 i s.2) (fun R => ∃ μ', R = some (vNever S, μ') ∧ CS S μ') (cn S) (fun i s => s.1 = bits (nvP S) i ∧ fC m1 s.2 ∧ TR S s.2) ?_ ?_ 400 0 (0, m2) (by omega) (by omega) ⟨rfl, b2, TR_of hw b1⟩
  · intro n s ⟨g1, g2, _⟩
    refine ⟨s.2, ?_, CS_K hw c1 (fK_C g2)⟩
    show f_X6_never_L15 _ (n + 1) _ _ _ = _
    rw [f_X6_never_L15, ev_g, g2 6 (by omega), c1.2.1.1, hcn.1, if_pos (nI_le (Nat.le_refl _) (by omega)), g1]; rfl
  · intro n i s hi ⟨g1, g2, g3⟩
    have hC := CS_K hw c1 (fK_C g2)
    obtain ⟨m3, m4, d1, d2, d3, d4, d5⟩ := trial_e hw hC.2.1 g3 ((1 : Int32) <<< (nI i &&& 31))
    have hF := fC_tr g2 d4
    have hC4 := CS_K hw c1 (fK_C hF)
    have hft : f_X1_fits 34 m4 = some (bI (nvP S i), m4) := fits_e hw hC4.2.2.1 d3
    show ∃ s' : Int32 × zM, f_X6_never_L15 _ (n + 1) _ _ _ = f_X6_never_L15 _ n _ _ _ ∧ _
    rw [f_X6_never_L15, ev_g, g2 6 (by omega), c1.2.1.1, hcn.1, if_neg (nI_ge hi (by omega)), d1, ev_c, d2, ev_c, hft, ev_c, g1]
    refine ⟨(bits (nvP S) (i + 1), m4), ?_, rfl, hF, d5⟩
    show _ = f_X6_never_L15 _ n (if nvP S i = true then bits (nvP S) i ||| ((1 : Int32) <<< (nI i &&& 31)) else bits (nvP S) i) _ _
    cases c : nvP S i with
    | true => rw [if_neg nb0, ev_v, ev_v, nI_1, if_pos rfl]
    | false => rw [if_pos (show bI false = 0 from rfl), ev_v, nI_1, if_neg (by decide)]
theorem neverNow_e (hw : wfS S) (h : frM S μ) : ∃ μ', f_X7_neverNow μ = some (vNever S, μ') ∧ MB S μ' := by
  unfold f_X7_neverNow
  obtain ⟨m1, e1, b1, b3⟩ := asTold_e hw h
  have hcn := hw.2.2.1
  rw [e1, ev_c]
  refine loop_X (fun n i (s : Int32 × zM) => f_X7_neverNow_L8 (fun (x9 : Int32) μ => some (x9, μ)) n s.1 i s.2) (fun R => ∃ μ', R = some (vNever S, μ') ∧ MB S μ') (cn S) (fun i s => s.1 = bits (nvP S) i ∧ MBu S s.2) ?_ ?_ 400 0 (0, m1) (by omega) (by omega) ⟨rfl, b1, _, b3⟩
  · intro n s ⟨g1, g2⟩
    refine ⟨s.2, ?_, g2.1⟩
    show f_X7_neverNow_L8 _ (n + 1) _ _ _ = _
    rw [f_X7_neverNow_L8, ev_g, g2.1.1.2.1, hcn.1, if_pos (nI_le (Nat.le_refl _) (by omega)), g1]; rfl
  · intro n i s hi ⟨g1, g2⟩
    obtain ⟨q1, q2⟩ := MBu_b g2 ((1 : Int32) <<< (nI i &&& 31))
    obtain ⟨m4, e4, l1, l2⟩ := isFelt_e hw q1.1 (MT_of hw q1.2 q2)
    show ∃ s' : Int32 × zM, f_X7_neverNow_L8 _ (n + 1) _ _ _ = f_X7_neverNow_L8 _ n _ _ _ ∧ _
    rw [f_X7_neverNow_L8, ev_g, g2.1.1.2.1, hcn.1, if_neg (nI_ge hi (by omega)), ev_p, e4, ev_c, g1]
    refine ⟨(bits (nvP S) (i + 1), m4), ?_, rfl, MB_R q1 l2, _, MN_fr q2 l2⟩
    show (if bI (nvP S i) = 0 then _ else _) = f_X7_neverNow_L8 _ n (if nvP S i = true then bits (nvP S) i ||| ((1 : Int32) <<< (nI i &&& 31)) else bits (nvP S) i) _ _
    cases c : nvP S i with
    | true => rw [if_neg nb0, ev_v, ev_v, nI_1, if_pos rfl]
    | false => rw [if_pos (show bI false = 0 from rfl), ev_v, ev_v, nI_1, if_neg (by decide), or0]
end TRI
section TRo
variable {μC μM : zM}
theorem op_leave (a1 a2 : Int32) (h : zRel μC μM) : ∃ (r : Int32) (μC1 μM1 : zM), f_X6_leave a1 a2 μC = some (r, μC1) ∧ f_X7_leave a1 a2 μM = some (r, μM1) ∧ zRel μC1 μM1 := by
  rcases wi_cases a1 (n := 23) (by omega) with c | ⟨d, hd, rfl⟩
  · refine ask2 (r := -2147483648) h ⟨μC, ?_, h.2⟩ ⟨μM, ?_, frM_rf⟩
    · unfold f_X6_leave
      rw [isDayC_e, show wi a1 0 23 = false from c, ev_c, if_pos (show bI false = 0 from rfl)]
    · unfold f_X7_leave
      rw [isDayM_e, show wi a1 0 23 = false from c, ev_c, if_pos (show bI false = 0 from rfl)]
  · have hdw : wi (nI d) 0 23 = true := wi_t (n := 23) (by omega) (by omega)
    rcases wi_cases a2 (n := 1) (by omega) with c | ⟨w, hwv, rfl⟩
    · refine ask2 (r := -2147483648) h ⟨μC, ?_, h.2⟩ ⟨μM, ?_, frM_rf⟩
      · unfold f_X6_leave
        rw [isDayC_e, hdw, ev_c, if_neg nb0, within_e, show wi a2 0 1 = false from c, ev_c, if_neg (fun q => q rfl)]
      · unfold f_X7_leave
        rw [isDayM_e, hdw, ev_c, if_neg nb0, isTwoM_e, show wi a2 0 1 = false from c, ev_c, if_pos (show bI false = 0 from rfl)]
    · refine ask2 h (cq_leave h.1 h.2 (d := d) (w := w) (by omega) (by omega)) ?_
      obtain ⟨m3, e3, hB3⟩ := leaveOf_e h.1 frM_rf (d := d) (w := w) (by omega) (by omega)
      refine ⟨m3, ?_, hB3.1⟩
      unfold f_X7_leave
      rw [isDayM_e, hdw, ev_c, if_neg nb0, isTwoM_e, show wi (nI w) 0 1 = true from wi_t (n := 1) (by omega) (by omega), ev_c, if_neg nb0, e3, ev_c]
theorem op_never (h : zRel μC μM) : ∃ (r : Int32) (μC1 μM1 : zM), f_X6_never μC = some (r, μC1) ∧ f_X7_never μM = some (r, μM1) ∧ zRel μC1 μM1 := by
  refine ask2 h (cq_never h.1 h.2) ?_
  obtain ⟨m3, e3, hB3⟩ := neverNow_e h.1 frM_rf
  exact ⟨m3, by unfold f_X7_never; rw [e3, ev_c], hB3.1⟩
end TRo
