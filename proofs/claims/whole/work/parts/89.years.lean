-- PURE: years by a seed
def hb (u : Int32) : Int32 := (Int32.toUInt32 u >>> (Int32.toUInt32 (16 : Int32) &&& Int32.toUInt32 31)).toInt32
def qd (u : Int32) : Nat := u.toBitVec.toNat / 2 ^ 16
theorem qd_lt (u : Int32) : qd u < 65536 := by
  unfold qd
  have := u.toBitVec.isLt
  omega
theorem hb_n (u : Int32) : hb u = nI (qd u) := by
  have h1 : (hb u).toBitVec.toNat = qd u := pk_ushr u 16 16 (by decide)
  have h2 := qd_lt u
  apply Int32.toBitVec_inj.mp
  apply BitVec.eq_of_toNat_eq
  rw [h1, pk_tn (by omega)]
def nxS (u : Int32) : Int32 := ((1103515245 : Int32) * u) + (12345 : Int32)
def sqS (seed : Int32) : Nat → Int32
  | 0 => seed
  | i + 1 => nxS (nxS (sqS seed i))
def ydS (seed : Int32) (i : Nat) : Nat := qd (nxS (sqS seed i)) % 24
def yfS (seed : Int32) (c i : Nat) : Nat := qd (nxS (nxS (sqS seed i))) % c
theorem rem24 (u : Int32) : hb u - hb u / (24 : Int32) * (24 : Int32) = nI (qd u % 24) := by
  have := qd_lt u
  rw [hb_n]
  exact pk_rem (d := 24) (by omega) (by omega) (by omega)
theorem remc (u : Int32) {c : Nat} (h0 : 0 < c) (hc : c ≤ 8) : hb u - hb u / nI c * nI c = nI (qd u % c) := by
  have := qd_lt u
  rw [hb_n]
  exact pk_rem (by omega) (by omega) (by omega)
section YR
variable {S μ : zM}
def yN (S : zM) (n : Nat) : Nat := if itS S 0 = 0 then 0 else n
def yT (S : zM) (seed : Int32) (n : Nat) : zT2 := setF (tolA S) (iv 0 (ydS seed) (yfS seed (itS S 0)) (yN S n))
def vYears (S : zM) (seed : Int32) (n w : Nat) : Int32 := if w = 0 then vIns (yT S seed n) else vTot (yT S seed n)
theorem wT_y (hw : wfS S) (seed : Int32) (n : Nat) : wT (yT S seed n) := wT_F (wT_A hw) (fun _ _ => iv_le _ _ _ _ _)
theorem cq_years (hw : wfS S) (h : CS S μ) (seed : Int32) {n w : Nat} (hn : n ≤ 8) (hwh : w < 2) : ∃ μ', f_X6_years seed (nI n) (nI w) μ = some (vYears S seed n w, μ') ∧ CS S μ' := by
  have zz := zC
  have hwT := wT_told hw 0
  have h8 : itS S 0 ≤ 8 := hwT.1
  unfold f_X6_years
  obtain ⟨m1, e1, c1, c2, -⟩ := told_e hw h
  obtain ⟨m2, e2, b1, b2⟩ := become_e hwT c2.2.2.1
  obtain ⟨m3, e3, u1, u2⟩ := uninvite_e (r0 := 34) (μ := m2) (Or.inr rfl)
  have F3 : fC m1 m3 := fC_tr b2 (fun a ha => u1 a (by omega))
  have hT3 : HT 34 m3 (setF (tolA S) (iv 0 (ydS seed) (yfS seed (itS S 0)) 0)) := by
    have := HT_F (Or.inr rfl) hwT b1 (f := iv 0 (ydS seed) (yfS seed (itS S 0)) 0) u1 u2
    unfold tolT tolB at this
    rw [setF_F] at this
    exact this
  rw [within_e, show wi (nI n) 0 8 = true from wi_t (n := 8) hn (by omega), ev_c, if_neg nb0, within_e, show wi (nI w) 0 1 = true from wi_t (n := 1) (by omega) (by omega), ev_c, if_pos nb0, e1, ev_c, e2, ev_c, e3, ev_c, ev_g, show m3 34 0 = nI (itS S 0) from hT3.1]
  -- the cards by lots
  have lots : ∃ m4, (if nI (itS S 0) ≤ 0 then (fun (μ : zM) => cl (f_X2_live 34 μ) fun _ μ => (if ¬ nI w = 0 then cl (f_X2_total 34 μ) fun x7 μ => some (x7, μ) else cl (f_X2_everIn 34 μ) fun x8 μ => cl (f_J6_bitCount_0f7a4 x8 μ) fun x9 μ => some (x9, μ))) m3 else cl (f_X6_inviteByLots seed (nI n) m3) fun _ μ => (fun (μ : zM) => cl (f_X2_live 34 μ) fun _ μ => (if ¬ nI w = 0 then cl (f_X2_total 34 μ) fun x7 μ => some (x7, μ) else cl (f_X2_everIn 34 μ) fun x8 μ => cl (f_J6_bitCount_0f7a4 x8 μ) fun x9 μ => some (x9, μ))) μ) = (cl (f_X2_live 34 m4) fun _ μ => (if ¬ nI w = 0 then cl (f_X2_total 34 μ) fun x7 μ => some (x7, μ) else cl (f_X2_everIn 34 μ) fun x8 μ => cl (f_J6_bitCount_0f7a4 x8 μ) fun x9 μ => some (x9, μ))) ∧ fC m1 m4 ∧ HT 34 m4 (yT S seed n) := by
    by_cases hz0 : itS S 0 = 0
    · refine ⟨m3, ?_, F3, ?_⟩
      · rw [if_pos (show nI (itS S 0) ≤ 0 by rw [hz0]; decide)]
      · unfold yT yN; rw [if_pos hz0]; exact hT3
    · have hil : ∃ m4, f_X6_inviteByLots seed (nI n) m3 = some ((), m4) ∧ fC m1 m4 ∧ HT 34 m4 (setF (tolA S) (iv 0 (ydS seed) (yfS seed (itS S 0)) n)) := by
        unfold f_X6_inviteByLots
        refine loop_X (fun q i (s : Int32 × zM) => f_X6_inviteByLots_L5 (nI n) (fun μ => some ((), μ)) q s.1 i s.2) (fun R => ∃ m4, R = some ((), m4) ∧ fC m1 m4 ∧ HT 34 m4 (setF (tolA S) (iv 0 (ydS seed) (yfS seed (itS S 0)) n))) n (fun i s => s.1 = sqS seed i ∧ fC m1 s.2 ∧ HT 34 s.2 (setF (tolA S) (iv 0 (ydS seed) (yfS seed (itS S 0)) i)) ∧ ∀ k, k < 8 → s.2 39 k = nI (iv 0 (ydS seed) (yfS seed (itS S 0)) i k)) ?_ ?_ 400 0 (seed, m3) (by omega) (by omega) ⟨rfl, F3, hT3, u2⟩
        · intro q s ⟨_, g2, g3, _⟩
          refine ⟨s.2, ?_, g2, g3⟩
          show f_X6_inviteByLots_L5 _ _ (q + 1) _ _ _ = _
          rw [f_X6_inviteByLots_L5, if_pos (nI_le (Nat.le_refl _) (by omega))]
        · intro q i s hi ⟨g1, g2, g3, g4⟩
          have hn0 : s.2 34 0 = nI (itS S 0) := g3.1
          have hd : ydS seed i < 24 := Nat.mod_lt _ (by omega)
          have hc : yfS seed (itS S 0) i < itS S 0 := Nat.mod_lt _ (by omega)
          have hle := iv_le 0 (ydS seed) (yfS seed (itS S 0)) i (yfS seed (itS S 0) i)
          have hi5 := invite_e (r0 := 34) (μ := s.2) (Or.inr rfl) (d := ydS seed i) (k := yfS seed (itS S 0) i) (q := iv 0 (ydS seed) (yfS seed (itS S 0)) i (yfS seed (itS S 0) i)) (by omega) (by omega) (by omega) (g4 _ (by omega))
          show ∃ s' : Int32 × zM, f_X6_inviteByLots_L5 _ _ (q + 1) _ _ _ = f_X6_inviteByLots_L5 _ _ q _ _ _ ∧ _
          rw [f_X6_inviteByLots_L5, if_neg (nI_ge hi (by omega)), ev_g, hn0, if_neg (nI_nle (by omega) (by omega)), g1, show f_X6_nextSeed (sqS seed i) s.2 = some (nxS (sqS seed i), s.2) from rfl, ev_c, show f_X6_upperBits (nxS (sqS seed i)) s.2 = some (hb (nxS (sqS seed i)), s.2) from rfl, ev_c, ev_gd (by decide), ev_v, rem24, show f_X6_nextSeed (nxS (sqS seed i)) s.2 = some (nxS (nxS (sqS seed i)), s.2) from rfl, ev_c, show f_X6_upperBits (nxS (nxS (sqS seed i))) s.2 = some (hb (nxS (nxS (sqS seed i))), s.2) from rfl, ev_c, ev_g, hn0, ev_gd (nI_ne0 (by omega) (by omega)), remc _ (by omega) h8]
          rw [show f_X2_invite 34 (nI (qd (nxS (sqS seed i)) % 24)) (nI (qd (nxS (nxS (sqS seed i))) % itS S 0)) s.2 = _ from hi5, ev_c, ev_v, nI_1]
          have hval : ∀ k, k < 8 → zup s.2 (34 + 5) (yfS seed (itS S 0) i) (nI (if ydS seed i < iv 0 (ydS seed) (yfS seed (itS S 0)) i (yfS seed (itS S 0) i) then ydS seed i else iv 0 (ydS seed) (yfS seed (itS S 0)) i (yfS seed (itS S 0) i))) (34 + 5) k = nI (iv 0 (ydS seed) (yfS seed (itS S 0)) (i + 1) k) := by
            intro k hk
            rw [iv_s]
            by_cases q : k = yfS seed (itS S 0) i
            · subst q
              rw [zup_e]
              by_cases q2 : ydS seed i < iv 0 (ydS seed) (yfS seed (itS S 0)) i (yfS seed (itS S 0) i)
              · rw [if_pos q2, if_pos ⟨tb_0 _, rfl, q2⟩]
              · rw [if_neg q2, if_neg (fun x => q2 x.2.2)]
            · rw [zup_o q, if_neg (fun x => q x.2.1.symm)]
              exact g4 k hk
          have hT' := HT_F (Or.inr rfl) (wT_F (wT_A hw) (fun _ _ => iv_le 0 (ydS seed) (yfS seed (itS S 0)) i _)) g3 (f := iv 0 (ydS seed) (yfS seed (itS S 0)) (i + 1)) (fun a ha => by rw [zup_n ha]) hval
          rw [setF_F] at hT'
          exact ⟨(sqS seed (i + 1), zup s.2 (34 + 5) (yfS seed (itS S 0) i) (nI (if ydS seed i < iv 0 (ydS seed) (yfS seed (itS S 0)) i (yfS seed (itS S 0) i) then ydS seed i else iv 0 (ydS seed) (yfS seed (itS S 0)) i (yfS seed (itS S 0) i)))), rfl, rfl, fC_tr g2 (fun a ha => by show zup _ _ _ _ a = _; rw [zup_n (by omega)]), hT', hval⟩
      obtain ⟨m4, x1, x2, x3⟩ := hil
      refine ⟨m4, ?_, x2, ?_⟩
      · rw [if_neg (nI_nle (by omega) (by omega)), x1, ev_c]
      · unfold yT yN; rw [if_neg hz0]; exact x3
  obtain ⟨m4, x1, x2, x3⟩ := lots
  rw [ev_j, x1]
  obtain ⟨m5, e5, l1, l2⟩ := run_e (Or.inr rfl) (wT_y hw seed n) x3
  have hF := fC_tr x2 (fC_4 l2)
  rw [e5, ev_c, total_e l1, ev_c, everIn_e l1, ev_c, bitCount_e _ (wT_y hw seed n).1, ev_c]
  refine ⟨m5, ?_, CS_K hw c1 (fK_C hF)⟩
  unfold vYears
  have : w = 0 ∨ w = 1 := by omega
  rcases this with rfl | rfl
  · rw [if_neg (fun q => q rfl), if_pos rfl]; rfl
  · rw [if_pos (show ¬ nI 1 = 0 by decide), if_neg (show ¬ 1 = 0 by omega)]; rfl
theorem yearsOf_e (hw : wfS S) (h : frM S μ) (seed : Int32) {n w : Nat} (hn : n ≤ 8) (hwh : w < 2) : ∃ μ', f_X7_yearsOf seed (nI n) (nI w) μ = some (vYears S seed n w, μ') ∧ MB S μ' := by
  have zm := zMt
  have hwT := wT_told hw 0
  have h8 : itS S 0 ≤ 8 := hwT.1
  unfold f_X7_yearsOf
  obtain ⟨m1, e1, ⟨b1, b2⟩, b3⟩ := asTold_e hw h
  have hcal : m1 100 2 = nI (itS S 0) := b2.1
  have hN8 : yN S n ≤ 8 := by unfold yN; split <;> omega
  have key : ∀ J : Int32 → zM → Option (Int32 × zM), jn J (fun j20_1 => (if ¬ nI (itS S 0) = 0 then j20_1 (nI n) m1 else j20_1 (0 : Int32) m1)) = J (nI (yN S n)) m1 := by
    intro J
    rw [ev_j]
    unfold yN
    by_cases q : itS S 0 = 0
    · rw [if_pos q, if_neg (fun x => x (by rw [q]; rfl))]; rfl
    · rw [if_neg q, if_pos (nI_ne0 (by omega) (by omega))]
  rw [e1, ev_c, ev_g, hcal, key, ev_p]
  generalize hm2 : zup m1 100 14 (nI (yN S n)) = m2
  have x0 : ∀ a, a ≠ 100 → m2 a = m1 a := fun a p => by rw [← hm2, zup_n p]
  have x1 : ∀ i, i ≠ 14 → m2 100 i = m1 100 i := fun i p => by rw [← hm2, zup_o p]
  have x2 : m2 100 14 = nI (yN S n) := by rw [← hm2, zup_e]
  refine loop_X (fun q i (s : Int32 × zM) => f_X7_yearsOf_L26 (nI w) (fun μ => cl (f_X7_runs μ) fun _ μ => (if ¬ nI w = 0 then cl (f_X7_sumNow μ) fun x10 μ => some (x10, μ) else cl (f_X7_insNow μ) fun x11 μ => some (x11, μ))) q s.1 i s.2) (fun R => ∃ μ', R = some (vYears S seed n w, μ') ∧ MB S μ') (yN S n) (fun i s => s.1 = sqS seed i ∧ (∀ a, a ≠ 116 → a ≠ 117 → s.2 a = m2 a) ∧ ∀ j, j < i → s.2 116 j = nI (ydS seed j) ∧ s.2 117 j = nI (yfS seed (itS S 0) j)) ?_ ?_ 400 0 (seed, m2) (by omega) (by omega) ⟨rfl, fun _ _ _ => rfl, fun j hj => by omega⟩
  · intro q s ⟨_, g2, g3⟩
    show ∃ μ', f_X7_yearsOf_L26 _ _ (q + 1) _ _ _ = _ ∧ _
    rw [f_X7_yearsOf_L26, ev_g, g2 100 (by omega) (by omega), x2, if_pos (nI_le (Nat.le_refl _) (by omega))]
    have hA : MA s.2 (tolA S) := by
      unfold MA
      rw [g2 100 (by omega) (by omega), x1 2 (by omega), x1 7 (by omega), g2 104 (by omega) (by omega), g2 105 (by omega) (by omega), g2 106 (by omega) (by omega), g2 107 (by omega) (by omega), g2 109 (by omega) (by omega), g2 110 (by omega) (by omega), g2 111 (by omega) (by omega), x0 104 (by omega), x0 105 (by omega), x0 106 (by omega), x0 107 (by omega), x0 109 (by omega), x0 110 (by omega), x0 111 (by omega)]
      exact b2
    have hf : frM S s.2 := ⟨fun a ha => by rw [g2 a (by omega) (by omega), x0 a (by omega)]; exact b1.1 a ha, by rw [g2 100 (by omega) (by omega), x1 11 (by omega)]; exact b1.2.1, by rw [g2 100 (by omega) (by omega), x1 28 (by omega)]; exact b1.2.2.1, by rw [g2 100 (by omega) (by omega), x1 37 (by omega)]; exact b1.2.2.2⟩
    have hMN : MN s.2 (yN S n) (ydS seed) (yfS seed (itS S 0)) 0 := by
      refine ⟨by omega, by rw [g2 100 (by omega) (by omega)]; exact x2, by rw [g2 100 (by omega) (by omega), x1 17 (by omega)]; exact b3.2.2.1, fun i hi => ?_⟩
      have hi0 : 0 < itS S 0 := by
        unfold yN at hi
        by_cases q : itS S 0 = 0
        · rw [if_pos q] at hi; omega
        · omega
      have hc : yfS seed (itS S 0) i < itS S 0 := Nat.mod_lt _ hi0
      exact ⟨(g3 i hi).1, Nat.mod_lt _ (by omega), (g3 i hi).2, by omega⟩
    have hT : MT s.2 (yT S seed n) := ⟨wT_y hw seed n, hA, _, _, _, _, hMN, fun _ _ => rfl⟩
    obtain ⟨m5, e5, l1, l2⟩ := runs_e hT
    have hA5 : MA m5 (yT S seed n) := MA_fr (show MA s.2 (yT S seed n) from hA) l2
    rw [e5, ev_c, sumNow_e l1, ev_c, insNow_e (wT_y hw seed n) hA5.1 l1, ev_c]
    refine ⟨m5, ?_, frM_R hf l2, MA_fr hA l2⟩
    unfold vYears
    have : w = 0 ∨ w = 1 := by omega
    rcases this with rfl | rfl
    · rw [if_neg (fun q => q rfl), if_pos rfl]; rfl
    · rw [if_pos (show ¬ nI 1 = 0 by decide), if_neg (show ¬ 1 = 0 by omega)]; rfl
  · intro q i s hi ⟨g1, g2, g3⟩
    have hi0 : 0 < itS S 0 := by
      unfold yN at hi
      by_cases q : itS S 0 = 0
      · rw [if_pos q] at hi; omega
      · omega
    show ∃ s' : Int32 × zM, f_X7_yearsOf_L26 _ _ (q + 1) _ _ _ = f_X7_yearsOf_L26 _ _ q _ _ _ ∧ _
    rw [f_X7_yearsOf_L26, ev_g, g2 100 (by omega) (by omega), x2, if_neg (nI_ge hi (by omega)), ev_v, g1, ev_gd (by decide)]
    have r1 : (Int32.toUInt32 (((1103515245 : Int32) * sqS seed i) + (12345 : Int32)) >>> (Int32.toUInt32 (16 : Int32) &&& Int32.toUInt32 31)).toInt32 - (Int32.toUInt32 (((1103515245 : Int32) * sqS seed i) + (12345 : Int32)) >>> (Int32.toUInt32 (16 : Int32) &&& Int32.toUInt32 31)).toInt32 / (24 : Int32) * (24 : Int32) = nI (ydS seed i) := rem24 (nxS (sqS seed i))
    rw [r1, ev_st (by omega) (by omega), ev_v, ev_g, zup_n (by omega), g2 100 (by omega) (by omega), x1 2 (by omega), hcal, ev_gd (nI_ne0 (by omega) (by omega))]
    have r2 : (Int32.toUInt32 (((1103515245 : Int32) * (((1103515245 : Int32) * sqS seed i) + (12345 : Int32))) + (12345 : Int32)) >>> (Int32.toUInt32 (16 : Int32) &&& Int32.toUInt32 31)).toInt32 - (Int32.toUInt32 (((1103515245 : Int32) * (((1103515245 : Int32) * sqS seed i) + (12345 : Int32))) + (12345 : Int32)) >>> (Int32.toUInt32 (16 : Int32) &&& Int32.toUInt32 31)).toInt32 / nI (itS S 0) * nI (itS S 0) = nI (yfS seed (itS S 0) i) := remc (nxS (nxS (sqS seed i))) hi0 h8
    rw [r2, ev_st (by omega) (by omega), ev_v, nI_1]
    refine ⟨(sqS seed (i + 1), zup (zup s.2 116 i (nI (ydS seed i))) 117 i (nI (yfS seed (itS S 0) i))), rfl, rfl, fun a p q => by show zup _ _ _ _ a = _; rw [zup_n q, zup_n p]; exact g2 a p q, fun j hj => ?_⟩
    show zup (zup s.2 116 i (nI (ydS seed i))) 117 i (nI (yfS seed (itS S 0) i)) 116 j = _ ∧ zup (zup s.2 116 i (nI (ydS seed i))) 117 i (nI (yfS seed (itS S 0) i)) 117 j = _
    rw [zup_n (show 116 ≠ 117 by omega)]
    by_cases c : j = i
    · subst c; rw [zup_e, zup_e]; exact ⟨rfl, rfl⟩
    · rw [zup_o c, zup_o c, zup_n (show 117 ≠ 116 by omega)]
      exact g3 j (by omega)
end YR
section YRo
variable {μC μM : zM}
theorem op_years (a1 a2 a3 : Int32) (h : zRel μC μM) : ∃ (r : Int32) (μC1 μM1 : zM), f_X6_years a1 a2 a3 μC = some (r, μC1) ∧ f_X7_years a1 a2 a3 μM = some (r, μM1) ∧ zRel μC1 μM1 := by
  rcases wi_cases a2 (n := 8) (by omega) with c | ⟨n, hn, rfl⟩
  · refine ask2 (r := -2147483648) h ⟨μC, ?_, h.2⟩ ⟨μM, ?_, frM_rf⟩
    · unfold f_X6_years
      rw [within_e, show wi a2 0 8 = false from c, ev_c, if_pos (show bI false = 0 from rfl)]
    · unfold f_X7_years
      rw [in_e, show wi a2 0 8 = false from c, ev_c, if_pos (show bI false = 0 from rfl)]
  · have hdw : wi (nI n) 0 8 = true := wi_t (n := 8) hn (by omega)
    rcases wi_cases a3 (n := 1) (by omega) with c | ⟨w, hwv, rfl⟩
    · refine ask2 (r := -2147483648) h ⟨μC, ?_, h.2⟩ ⟨μM, ?_, frM_rf⟩
      · unfold f_X6_years
        rw [within_e, hdw, ev_c, if_neg nb0, within_e, show wi a3 0 1 = false from c, ev_c, if_neg (fun q => q rfl)]
      · unfold f_X7_years
        rw [in_e, hdw, ev_c, if_neg nb0, isTwoM_e, show wi a3 0 1 = false from c, ev_c, if_pos (show bI false = 0 from rfl)]
    · refine ask2 h (cq_years h.1 h.2 a1 (n := n) (w := w) hn (by omega)) ?_
      obtain ⟨m3, e3, hB3⟩ := yearsOf_e h.1 frM_rf a1 (n := n) (w := w) hn (by omega)
      refine ⟨m3, ?_, hB3.1⟩
      unfold f_X7_years
      rw [in_e, hdw, ev_c, if_neg nb0, isTwoM_e, show wi (nI w) 0 1 = true from wi_t (n := 1) (by omega) (by omega), ev_c, if_neg nb0, e3, ev_c]
end YRo
