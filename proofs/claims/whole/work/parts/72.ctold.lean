-- PURE: the class's told house, and what stands in the class
section CT2
variable {S μ : zM}
theorem takeCallers_e (h : cText S μ 0 2) : ∃ μ', f_X2_takeCallers 21 2 (nI (itS S 0)) μ = some ((), μ') ∧ (∀ a, a ≠ 21 → a ≠ 22 → a ≠ 23 → a ≠ 24 → a ≠ 25 → μ' a = μ a) ∧ μ' 21 0 = nI (itS S 0) ∧ (∀ i, i ≠ 0 → μ' 21 i = μ 21 i) ∧ ∀ j, 1 ≤ j → j ≤ 4 → ∀ k, k < itS S 0 → μ' (21 + j) k = nI (tolA S j k) := by
  obtain ⟨z1, z2, z3, z4, z5, z6, z7, z8, z9, z10, z11, z12⟩ := hz (r0 := 21) (Or.inl rfl)
  have hle : itS S 0 ≤ 8 := it_le (t := 0) h.2.2.1 h.2.2.2.1 (by omega)
  have hval : ∀ (m : zM), m 2 = μ 2 → m 3 = μ 3 → ∀ k, k < itS S 0 → ∀ j, j < 4 → f_X5_value 2 (nI k) (nI j) m = some (nI (vlS S 0 k j), m) := fun m m2 m3 k hk j hj => value_e h hk (show j < 4 from hj) ⟨m2, m3⟩
  unfold f_X2_takeCallers
  have e8 : (if (8 : Int32) < nI (itS S 0) then (8 : Int32) else nI (itS S 0)) = nI (itS S 0) := if_neg (show ¬ nI 8 < nI (itS S 0) from nI_nlt hle (by omega))
  rw [ev_v, ev_p, e8]
  generalize hμ0 : zup μ 21 0 (nI (itS S 0)) = μ0
  have i0 : μ0 21 0 = nI (itS S 0) := by rw [← hμ0, zup_e]
  have iF : ∀ a, a ≠ 21 → μ0 a = μ a := fun a ha => by rw [← hμ0, zup_n ha]
  have iO : ∀ i, i ≠ 0 → μ0 21 i = μ 21 i := fun i hi => by rw [← hμ0, zup_o hi]
  refine loop_X (fun n i (m : zM) => f_X2_takeCallers_L12 21 2 (fun μ => some ((), μ)) n i m) (fun R => ∃ μ', R = some ((), μ') ∧ (∀ a, a ≠ 21 → a ≠ 22 → a ≠ 23 → a ≠ 24 → a ≠ 25 → μ' a = μ a) ∧ μ' 21 0 = nI (itS S 0) ∧ (∀ i, i ≠ 0 → μ' 21 i = μ 21 i) ∧ ∀ j, 1 ≤ j → j ≤ 4 → ∀ k, k < itS S 0 → μ' (21 + j) k = nI (tolA S j k)) (itS S 0) (fun i m => (∀ a, a ≠ 21 → a ≠ 22 → a ≠ 23 → a ≠ 24 → a ≠ 25 → m a = μ a) ∧ m 21 = μ0 21 ∧ ∀ j, 1 ≤ j → j ≤ 4 → ∀ k, k < i → m (21 + j) k = nI (tolA S j k)) ?_ ?_ 400 0 μ0 (by omega) (by omega) ⟨fun a ha _ _ _ _ => iF a ha, rfl, fun _ _ _ k hk => by omega⟩
  · intro n m ⟨g1, g2, g3⟩
    refine ⟨m, ?_, g1, by rw [g2, i0], fun i hi => by rw [g2, iO i hi], g3⟩
    show f_X2_takeCallers_L12 _ _ _ (n + 1) _ _ = _
    rw [f_X2_takeCallers_L12, ev_g, g2, i0, if_pos (nI_le (Nat.le_refl _) (by omega))]
  · intro n i m hi ⟨g1, g2, g3⟩
    have m2 := g1 2 (by omega) (by omega) (by omega) (by omega) (by omega)
    have m3 := g1 3 (by omega) (by omega) (by omega) (by omega) (by omega)
    refine ⟨zup (zup (zup (zup m 22 i (nI (vlS S 0 i 0))) 23 i (nI (vlS S 0 i 1))) 24 i (nI (vlS S 0 i 2))) 25 i (nI (vlS S 0 i 3)), ?_, ?_, ?_, ?_⟩
    · show f_X2_takeCallers_L12 _ _ _ (n + 1) _ _ = f_X2_takeCallers_L12 _ _ _ n _ _
      rw [f_X2_takeCallers_L12, ev_g, g2, i0, if_neg (nI_ge hi (by omega))]
      rw [k_0, hval m m2 m3 i hi 0 (by omega), ev_c, ev_st (by omega) (by omega)]
      rw [show (1 : Int32) = nI 1 from rfl, hval _ (by rw [zup_n (by omega)]; exact m2) (by rw [zup_n (by omega)]; exact m3) i hi 1 (by omega), ev_c, ev_st (by omega) (by omega)]
      rw [show (2 : Int32) = nI 2 from rfl, hval _ (by rw [zup_n (by omega), zup_n (by omega)]; exact m2) (by rw [zup_n (by omega), zup_n (by omega)]; exact m3) i hi 2 (by omega), ev_c, ev_st (by omega) (by omega)]
      rw [show (3 : Int32) = nI 3 from rfl, hval _ (by rw [zup_n (by omega), zup_n (by omega), zup_n (by omega)]; exact m2) (by rw [zup_n (by omega), zup_n (by omega), zup_n (by omega)]; exact m3) i hi 3 (by omega), ev_c, ev_st (by omega) (by omega), ev_v, nI_add]
    · exact fun a a0 a1 a2 a3 a4 => by rw [zup_n a4, zup_n a3, zup_n a2, zup_n a1]; exact g1 a a0 a1 a2 a3 a4
    · rw [zup_n (by omega), zup_n (by omega), zup_n (by omega), zup_n (by omega)]; exact g2
    · intro j j1 j2 k hk
      have : j = 1 ∨ j = 2 ∨ j = 3 ∨ j = 4 := by omega
      by_cases c : k = i
      · subst c
        rcases this with rfl | rfl | rfl | rfl
        · rw [zup_n (by omega), zup_n (by omega), zup_n (by omega), zup_e]; rfl
        · rw [zup_n (by omega), zup_n (by omega), zup_e]; rfl
        · rw [zup_n (by omega), zup_e]; rfl
        · rw [zup_e]; rfl
      · have hk2 := g3 j j1 j2 k (by omega)
        rcases this with rfl | rfl | rfl | rfl
        · rw [zup_n (by omega), zup_n (by omega), zup_n (by omega), zup_o c]; exact hk2
        · rw [zup_n (by omega), zup_n (by omega), zup_o c, zup_n (by omega)]; exact hk2
        · rw [zup_n (by omega), zup_o c, zup_n (by omega), zup_n (by omega)]; exact hk2
        · rw [zup_o c, zup_n (by omega), zup_n (by omega), zup_n (by omega)]; exact hk2
theorem takeMen_e (h : cText S μ 1 4) : ∃ μ', f_X2_takeMen 21 4 (nI (itS S 1)) μ = some ((), μ') ∧ (∀ a, a ≠ 21 → a ≠ 27 → a ≠ 28 → a ≠ 29 → μ' a = μ a) ∧ μ' 21 6 = nI (itS S 1) ∧ (∀ i, i ≠ 6 → μ' 21 i = μ 21 i) ∧ ∀ j, 6 ≤ j → j ≤ 8 → ∀ k, k < itS S 1 → μ' (21 + j) k = nI (tolA S j k) := by
  obtain ⟨z1, z2, z3, z4, z5, z6, z7, z8, z9, z10, z11, z12⟩ := hz (r0 := 21) (Or.inl rfl)
  have hle : itS S 1 ≤ 4 := it_le (t := 1) h.2.2.1 h.2.2.2.1 (by omega)
  have hval : ∀ (m : zM), m 4 = μ 4 → m 5 = μ 5 → ∀ k, k < itS S 1 → ∀ j, j < 3 → f_X5_value 4 (nI k) (nI j) m = some (nI (vlS S 1 k j), m) := fun m m2 m3 k hk j hj => value_e h hk (show j < 3 from hj) ⟨m2, m3⟩
  unfold f_X2_takeMen
  have e8 : (if (4 : Int32) < nI (itS S 1) then (4 : Int32) else nI (itS S 1)) = nI (itS S 1) := if_neg (show ¬ nI 4 < nI (itS S 1) from nI_nlt hle (by omega))
  rw [ev_v, ev_p, e8]
  generalize hμ0 : zup μ 21 6 (nI (itS S 1)) = μ0
  have i0 : μ0 21 6 = nI (itS S 1) := by rw [← hμ0, zup_e]
  have iF : ∀ a, a ≠ 21 → μ0 a = μ a := fun a ha => by rw [← hμ0, zup_n ha]
  have iO : ∀ i, i ≠ 6 → μ0 21 i = μ 21 i := fun i hi => by rw [← hμ0, zup_o hi]
  refine loop_X (fun n i (m : zM) => f_X2_takeMen_L11 21 4 (fun μ => some ((), μ)) n i m) (fun R => ∃ μ', R = some ((), μ') ∧ (∀ a, a ≠ 21 → a ≠ 27 → a ≠ 28 → a ≠ 29 → μ' a = μ a) ∧ μ' 21 6 = nI (itS S 1) ∧ (∀ i, i ≠ 6 → μ' 21 i = μ 21 i) ∧ ∀ j, 6 ≤ j → j ≤ 8 → ∀ k, k < itS S 1 → μ' (21 + j) k = nI (tolA S j k)) (itS S 1) (fun i m => (∀ a, a ≠ 21 → a ≠ 27 → a ≠ 28 → a ≠ 29 → m a = μ a) ∧ m 21 = μ0 21 ∧ ∀ j, 6 ≤ j → j ≤ 8 → ∀ k, k < i → m (21 + j) k = nI (tolA S j k)) ?_ ?_ 400 0 μ0 (by omega) (by omega) ⟨fun a ha _ _ _ => iF a ha, rfl, fun _ _ _ k hk => by omega⟩
  · intro n m ⟨g1, g2, g3⟩
    refine ⟨m, ?_, g1, by rw [g2, i0], fun i hi => by rw [g2, iO i hi], g3⟩
    show f_X2_takeMen_L11 _ _ _ (n + 1) _ _ = _
    rw [f_X2_takeMen_L11, ev_g, g2, i0, if_pos (nI_le (Nat.le_refl _) (by omega))]
  · intro n i m hi ⟨g1, g2, g3⟩
    have m2 := g1 4 (by omega) (by omega) (by omega) (by omega)
    have m3 := g1 5 (by omega) (by omega) (by omega) (by omega)
    refine ⟨zup (zup (zup m 27 i (nI (vlS S 1 i 0))) 28 i (nI (vlS S 1 i 1))) 29 i (nI (vlS S 1 i 2)), ?_, ?_, ?_, ?_⟩
    · show f_X2_takeMen_L11 _ _ _ (n + 1) _ _ = f_X2_takeMen_L11 _ _ _ n _ _
      rw [f_X2_takeMen_L11, ev_g, g2, i0, if_neg (nI_ge hi (by omega))]
      rw [k_0, hval m m2 m3 i hi 0 (by omega), ev_c, ev_st (by omega) (by omega)]
      rw [show (1 : Int32) = nI 1 from rfl, hval _ (by rw [zup_n (by omega)]; exact m2) (by rw [zup_n (by omega)]; exact m3) i hi 1 (by omega), ev_c, ev_st (by omega) (by omega)]
      rw [show (2 : Int32) = nI 2 from rfl, hval _ (by rw [zup_n (by omega), zup_n (by omega)]; exact m2) (by rw [zup_n (by omega), zup_n (by omega)]; exact m3) i hi 2 (by omega), ev_c, ev_st (by omega) (by omega), ev_v, nI_add]
    · exact fun a a0 a1 a2 a3 => by rw [zup_n a3, zup_n a2, zup_n a1]; exact g1 a a0 a1 a2 a3
    · rw [zup_n (by omega), zup_n (by omega), zup_n (by omega)]; exact g2
    · intro j j1 j2 k hk
      have : j = 6 ∨ j = 7 ∨ j = 8 := by omega
      by_cases c : k = i
      · subst c
        rcases this with rfl | rfl | rfl
        · rw [zup_n (by omega), zup_n (by omega), zup_e]; rfl
        · rw [zup_n (by omega), zup_e]; rfl
        · rw [zup_e]; rfl
      · have hk2 := g3 j j1 j2 k (by omega)
        rcases this with rfl | rfl | rfl
        · rw [zup_n (by omega), zup_n (by omega), zup_o c]; exact hk2
        · rw [zup_n (by omega), zup_o c, zup_n (by omega)]; exact hk2
        · rw [zup_o c, zup_n (by omega), zup_n (by omega)]; exact hk2
end CT2
/-- does k come in, with the cards of b burnt -/
def cmB (S : zM) (b : Int32) (k : Nat) : Bool := ((sim (tolB S b) 24).1 k).isSome
/-- by how many of the first N choices of n cards left k comes in -/
def wys (S : zM) (k n : Nat) : Nat → Nat
  | 0 => 0
  | b + 1 => if cmB S (nI b) k = true ∧ cn S - pcN b = n then wys S k n b + 1 else wys S k n b
def cFe (S μ : zM) : Prop := μ 9 2 = S 100 28 ∧ ∀ i, i < fn S → μ 10 i = S 130 i ∧ μ 11 i = S 131 i
def cSh (S μ : zM) : Prop := ∀ s, s < 4 → (S 133 s = 0 → μ (13 + 2 * s) 0 = -1) ∧ (S 133 s = 1 → μ (13 + 2 * s) 0 = S 134 s ∧ μ (13 + 2 * s) 1 = S 135 s ∧ ∀ i, i < 60 → μ (14 + 2 * s) i = S 136 (60 * s + i))
def cOd (S μ : zM) : Prop := ∀ k, k < itS S 0 → ∀ n, n ≤ 8 → μ (50 + k) n = nI (wys S k n (2 ^ cn S))
/-- the class's memory holds what the reference's told cells hold -/
def CS (S μ : zM) : Prop := cTx S μ ∧ crd S μ ∧ cFe S μ ∧ cSh S μ ∧ μ 0 8 = S 100 37 ∧ (μ 0 7 = 0 ∨ μ 0 7 = 1 ∧ HC 21 μ (tolT S) (sim (tolT S) 24) ∧ (μ 47 1 = 0 ∨ μ 47 1 = 1 ∧ cOd S μ))
def fK (μ μ' : zM) : Prop := ∀ a, a < 34 ∨ 47 ≤ a ∧ a < 58 → μ' a = μ a
theorem fK_C {μ μ' : zM} (h : fC μ μ') : fK μ μ' := fun a ha => h a (by omega)
theorem HT_eq {r0 : Nat} {μ μ' : zM} {T : zT2} (h : HT r0 μ T) (he : ∀ a, r0 ≤ a → a ≤ r0 + 12 → μ' a = μ a) : HT r0 μ' T := by
  obtain ⟨h1, h2, h3, h4⟩ := h
  exact ⟨by rw [he r0 (by omega) (by omega)]; exact h1, by rw [he r0 (by omega) (by omega)]; exact h2, fun j a b k hk => by rw [he _ (by omega) (by omega)]; exact h3 j a b k hk, fun j a b k hk => by rw [he _ (by omega) (by omega)]; exact h4 j a b k hk⟩
theorem HC_eq {r0 : Nat} {μ μ' : zM} {T : zT2} {σ : zSS} (h : HC r0 μ T σ) (he : ∀ a, r0 ≤ a → a ≤ r0 + 12 → μ' a = μ a) : HC r0 μ' T σ := by
  obtain ⟨h1, h2, h3, h4, h5⟩ := h
  refine ⟨h1, h2, HT_eq h3 he, fun k hk => ?_, h5⟩
  rw [he (r0 + 10) (by omega) (by omega), he (r0 + 11) (by omega) (by omega), he (r0 + 12) (by omega) (by omega)]
  exact h4 k hk
theorem cT_eq {S μ μ' : zM} (h : cTx S μ) (he : ∀ a, 2 ≤ a → a ≤ 5 → μ' a = μ a) : cTx S μ' := by
  unfold cTx
  rw [he 2 (by omega) (by omega), he 3 (by omega) (by omega), he 4 (by omega) (by omega), he 5 (by omega) (by omega)]
  exact h
theorem crd_eq {S μ μ' : zM} (h : crd S μ) (he : ∀ a, 6 ≤ a → a ≤ 8 → μ' a = μ a) : crd S μ' := by
  unfold crd
  rw [he 6 (by omega) (by omega), he 7 (by omega) (by omega), he 8 (by omega) (by omega)]
  exact h
theorem cFe_eq {S μ μ' : zM} (h : cFe S μ) (he : ∀ a, 9 ≤ a → a ≤ 11 → μ' a = μ a) : cFe S μ' := by
  unfold cFe
  rw [he 9 (by omega) (by omega), he 10 (by omega) (by omega), he 11 (by omega) (by omega)]
  exact h
theorem cSh_eq {S μ μ' : zM} (h : cSh S μ) (he : ∀ a, 13 ≤ a → a ≤ 20 → μ' a = μ a) : cSh S μ' := by
  intro s hs
  rw [he (13 + 2 * s) (by omega) (by omega), he (14 + 2 * s) (by omega) (by omega)]
  exact h s hs
theorem cOd_eq {S μ μ' : zM} (hw : wfS S) (h : cOd S μ) (he : ∀ a, 50 ≤ a → a < 58 → μ' a = μ a) : cOd S μ' := by
  have hle : itS S 0 ≤ 8 := it_le (t := 0) hw.1.2 (by omega) (by omega)
  intro k hk n hn
  rw [he _ (by omega) (by omega)]
  exact h k hk n hn
theorem CS_K {S μ μ' : zM} (hw : wfS S) (h : CS S μ) (he : fK μ μ') : CS S μ' := by
  obtain ⟨h1, h2, h3, h4, h5, h6⟩ := h
  refine ⟨cT_eq h1 (fun a _ _ => he a (by omega)), crd_eq h2 (fun a _ _ => he a (by omega)), cFe_eq h3 (fun a _ _ => he a (by omega)), cSh_eq h4 (fun a _ _ => he a (by omega)), by rw [he 0 (by omega)]; exact h5, ?_⟩
  rw [he 0 (by omega), he 47 (by omega)]
  rcases h6 with h6 | ⟨h6, h7, h8⟩
  · exact Or.inl h6
  · refine Or.inr ⟨h6, HC_eq h7 (fun a _ _ => he a (by omega)), ?_⟩
    rcases h8 with h8 | ⟨h8, h9⟩
    · exact Or.inl h8
    · exact Or.inr ⟨h8, cOd_eq hw h9 (fun a _ _ => he a (by omega))⟩
theorem told_e {S μ : zM} (hw : wfS S) (h : CS S μ) : ∃ μ', f_X6_told μ = some ((), μ') ∧ CS S μ' ∧ HC 21 μ' (tolT S) (sim (tolT S) 24) ∧ μ' 0 7 = 1 ∧ (μ' 47 1 = 0 ∨ μ' 47 1 = 1 ∧ cOd S μ') := by
  have zz := zC
  have h0 := h
  obtain ⟨h1, h2, h3, h4, h5, h6⟩ := h
  unfold f_X6_told
  rw [ev_g]
  rcases h6 with h6 | ⟨h6, h7, h8⟩
  · rw [h6, if_neg (fun q => q rfl), k_0, ev_ldR (by omega) (by omega), show (1 : Int32) = nI 1 from rfl, ev_ldR (by omega) (by omega)]
    show ∃ μ', cl (f_X5_itemCount 2 μ) _ = _ ∧ _
    have t0 := cText_of hw h1 (t := 0) (by omega)
    rw [itemCount_e (t := 0) t0, ev_c]
    obtain ⟨μ1, a1, a2, a3, a4, a5⟩ := takeCallers_e t0
    show ∃ μ', cl (f_X2_takeCallers 21 2 (nI (itS S 0)) μ) _ = _ ∧ _
    rw [a1, ev_c]
    have c1 : cTx S μ1 := cT_eq h1 (fun a _ _ => a2 a (by omega) (by omega) (by omega) (by omega) (by omega))
    have t1 := cText_of hw c1 (t := 1) (by omega)
    show ∃ μ', cl (f_X5_itemCount 4 μ1) _ = _ ∧ _
    rw [itemCount_e (t := 1) t1, ev_c]
    obtain ⟨μ2, b1, b2, b3, b4, b5⟩ := takeMen_e t1
    show ∃ μ', cl (f_X2_takeMen 21 4 (nI (itS S 1)) μ1) _ = _ ∧ _
    rw [b1, ev_c]
    have F2 : ∀ a, a < 21 ∨ 30 ≤ a → μ2 a = μ a := fun a ha => by rw [b2 a (by omega) (by omega) (by omega) (by omega), a2 a (by omega) (by omega) (by omega) (by omega) (by omega)]
    have cr2 : crd S μ2 := crd_eq h2 (fun a _ _ => F2 a (by omega))
    obtain ⟨μ3, d1, d2, d3⟩ := inviteAllBut_e (r0 := 21) (Or.inl rfl) (cdR_of hw cr2) 0
    rw [show f_X0_inviteAllBut (nI 0) 21 μ2 = _ from d1, ev_c]
    have hT3 : HT 21 μ3 (tolT S) := by
      have hle : itS S 0 ≤ 8 := it_le (t := 0) hw.1.2 (by omega) (by omega)
      refine ⟨?_, ?_, fun j j1 j2 k hk => ?_, fun j j1 j2 k hk => ?_⟩
      · rw [d2 21 (by omega), b4 0 (by omega)]; exact a3
      · rw [d2 21 (by omega)]; exact b3
      · have hk : k < itS S 0 := hk
        by_cases c : j = 5
        · subst c; exact d3 k (by omega)
        · rw [d2 _ (by omega), b2 _ (by omega) (by omega) (by omega) (by omega), a5 j j1 (by omega) k hk]
          unfold tolT tolB
          rw [setF_n c]
      · rw [d2 _ (by omega), b5 j j1 j2 k hk]
        unfold tolT tolB
        rw [setF_n (by omega)]
    obtain ⟨μ4, e1, e2, e3⟩ := run_e (Or.inl rfl) (wT_told hw 0) hT3
    rw [e1, ev_c, ev_p, ev_p]
    have F4 : ∀ a, a < 21 ∨ 34 ≤ a → μ4 a = μ a := fun a ha => by rw [e3 a (by omega) (by omega) (by omega) (by omega), d2 a (by omega), F2 a (by omega)]
    have hH : HC 21 (zup (zup μ4 47 1 (nI 0)) 0 7 (nI 1)) (tolT S) (sim (tolT S) 24) := HC_eq e2 (fun a _ _ => by rw [zup_n (by omega), zup_n (by omega)])
    have e7 : zup (zup μ4 47 1 (nI 0)) 0 7 (nI 1) 0 7 = 1 := by rw [zup_e]; rfl
    have e4 : zup (zup μ4 47 1 (nI 0)) 0 7 (nI 1) 47 1 = 0 := by rw [zup_n (by omega), zup_e]; rfl
    refine ⟨zup (zup μ4 47 1 (nI 0)) 0 7 (nI 1), rfl, ⟨?_, ?_, ?_, ?_, ?_, Or.inr ⟨e7, hH, Or.inl e4⟩⟩, hH, e7, Or.inl e4⟩
    · exact cT_eq h1 (fun a _ _ => by rw [zup_n (by omega), zup_n (by omega)]; exact F4 a (by omega))
    · exact crd_eq h2 (fun a _ _ => by rw [zup_n (by omega), zup_n (by omega)]; exact F4 a (by omega))
    · exact cFe_eq h3 (fun a _ _ => by rw [zup_n (by omega), zup_n (by omega)]; exact F4 a (by omega))
    · exact cSh_eq h4 (fun a _ _ => by rw [zup_n (by omega), zup_n (by omega)]; exact F4 a (by omega))
    · rw [zup_o (by omega), zup_n (by omega), F4 0 (by omega)]; exact h5
  · rw [h6, if_pos (show ¬ (1 : Int32) = 0 by decide)]
    exact ⟨μ, rfl, h0, h7, h6, h8⟩
/-- does the house feel as was felt -/
def fitP (S : zM) (T : zT2) (i : Nat) : Bool := decide (wsum T (sim T 24) (fd S i) (T 0 0) = S 131 i)
def fitS (S : zM) (T : zT2) : Bool := (fstP (fun i => !fitP S T i) (fn S)).isNone
theorem fits_e {S μ : zM} {r : Nat} {T : zT2} (hw : wfS S) (hf : cFe S μ) (h : HC r μ T (sim T 24)) : f_X1_fits r μ = some (bI (fitS S T), μ) := by
  obtain ⟨-, -, -, -, ⟨w1, w2⟩, w3, -⟩ := hw
  have zz := zC
  unfold f_X1_fits
  refine loop_P (fun n i (_ : Unit) => f_X1_fits_L2 r (fun μ => gd ((1 : Int32) = 0 ∨ (1 : Int32) = 1) (some ((1 : Int32), μ))) n i μ) (fun R => R = some (bI (fitS S T), μ)) (fn S) (fun k _ => fstP (fun i => !fitP S T i) k = none) ?_ ?_ 400 0 () (by omega) (by omega) rfl
  · intro n _ ha
    show f_X1_fits_L2 _ _ (n + 1) _ _ = _
    rw [f_X1_fits_L2, ev_g, hf.1, w1, if_pos (nI_le (Nat.le_refl _) (by omega))]
    unfold fitS
    rw [ha]; rfl
  · intro n k _ hk ha
    obtain ⟨v1, v2⟩ := w3 k hk
    obtain ⟨f1, f2⟩ := hf.2 k hk
    show f_X1_fits_L2 _ _ (n + 1) _ _ = _ ∨ ∃ s' : Unit, f_X1_fits_L2 _ _ (n + 1) _ _ = f_X1_fits_L2 _ _ n _ _ ∧ _
    rw [f_X1_fits_L2, ev_g, hf.1, w1, if_neg (nI_ge hk (by omega)), ev_ld (by omega) (by omega), f1, v1, warmthOn_e h v2, ev_c, ev_ld (by omega) (by omega), f2]
    by_cases c : wsum T (sim T 24) (fd S k) (T 0 0) = S 131 k
    · right
      refine ⟨(), by rw [if_pos c, ev_v, nI_1], ?_⟩
      show fstP _ (k + 1) = none
      unfold fstP
      rw [ha]
      simp [fitP, c]
    · left
      rw [if_neg c]
      unfold fitS
      rw [fstP_at ha (by simp [fitP, c]) hk]; rfl
