set_option maxHeartbeats 8000000 in
set_option maxRecDepth 100000 in
theorem whole_start {p : Program} {e : Env} {s : State} {m : MethodId} {below : List Frame} {meth : Method} {c : Code} (l : Launch) {b L : Nat} {xs : Nat → Int32} (hL : L ≤ 384) (C0 : lw_At p s m meth c b L xs) : W p l e room_1 s m #[Value.ref b] below meth c s.heap [] 0 0 (lw_Z below #[Value.ref b] s) (entryFrame m ([Value.ref b] : List Value).toArray 4) := by
  obtain ⟨hx, hb, hr, hml, hown, htsL, hX, hbl, hlocks, hgv⟩ := id C0
  have hts := fun (w : Cond) (hw : w ∈ GT) => htsL w (gt_in hw)
  have hA : ∀ q : Nat, s.heap.size ≤ q → zL_A s q := fun _ h => h
  have hbA : ¬ zL_A s b := Nat.not_le.mpr hbl
  obtain ⟨c0, iS0, hKn0⟩ := u_known (C := RX0) (T := TX0) (N := 3) (n := 3) hts lay_0 (hts _ kw_118)
  obtain ⟨c1, iS1, hKn1⟩ := u_known (C := RX1) (T := TX1) (N := 3) (n := 3) hts lay_1 (hts _ kw_136)
  obtain ⟨c2, iS2, hKn2⟩ := u_known (C := RX2) (T := TX2) (N := 14) (n := 14) hts lay_2 (hts _ kw_173)
  obtain ⟨c3, iS3, hKn3⟩ := u_known (C := RX3) (T := TX3) (N := 3) (n := 3) hts lay_3 (hts _ kw_236)
  obtain ⟨c4, iS4, hKn4⟩ := u_known (C := RX4) (T := TX4) (N := 3) (n := 3) hts lay_4 (hts _ kw_154)
  obtain ⟨c5, iS5, hKn5⟩ := u_known (C := RX5) (T := TX5) (N := 4) (n := 4) hts lay_5 (hts _ kw_93)
  obtain ⟨c6, iS6, hKn6⟩ := u_known (C := RX6) (T := TX6) (N := 9) (n := 9) hts lay_6 (hts _ kw_84)
  obtain ⟨c7, iS7, hKn7⟩ := u_known (C := RX7) (T := TX7) (N := 38) (n := 38) hts lay_7 (hts _ kw_777)
  obtain ⟨D, hKc⟩ : ∃ D : va_G, ∀ (k : Nat) (q : vw_C), vwCl[k]? = some q → u_Kn s q.1 q.2.1 q.2.2 (D.1 k) (D.2 k) := by
    refine ⟨(fun k => if k = 0 then c0 else if k = 1 then c1 else if k = 2 then c2 else if k = 3 then c3 else if k = 4 then c4 else if k = 5 then c5 else if k = 6 then c6 else c7, fun k => if k = 0 then iS0 else if k = 1 then iS1 else if k = 2 then iS2 else if k = 3 then iS3 else if k = 4 then iS4 else if k = 5 then iS5 else if k = 6 then iS6 else iS7), ?_⟩
    intro k q hq
    match k, hq with
    | 0, hq => cases hq; exact hKn0
    | 1, hq => cases hq; exact hKn1
    | 2, hq => cases hq; exact hKn2
    | 3, hq => cases hq; exact hKn3
    | 4, hq => cases hq; exact hKn4
    | 5, hq => cases hq; exact hKn5
    | 6, hq => cases hq; exact hKn6
    | 7, hq => cases hq; exact hKn7
    | k + 8, hq => simp [vwCl] at hq
  obtain ⟨t0, t1, t2, hT0, hT1, hT2, hZ0, hZ1, hZ2⟩ := st_all htsL hgv
  have hS : va_S (zL_A s) s.heap s.heap [] := va_S.rf
  have hK : va_K D vwCl [] s := ⟨hKc, fun k q h => by simp at h⟩
  have hP : va_P D vwCl [] s.heap := fun k q h => by simp at h
  have hD : va_D (zL_A s) [] := ⟨fun i j p q h => by simp at h, fun k q h => by simp at h⟩
  have hl := lv_entry ([.ref b]) (n := 4) (Nat.le_of_ble_eq_true rfl)
  rw [lg_entry_eq]
  generalize (lg_sl ([.ref b]) ++ List.replicate (4 - (lg_sl ([.ref b])).length) Slot.unset).toArray = ls at hl ⊢
  have hl : lv_has ls 4 [(0, .ref b)] := hl
  refine va_new (ci := 6) (fs := [.null, .null, .null, .null, .null, .null, .null, .int 0, .int 0]) (C := RX6) (T := TX6) (N := 9) hx hb hts lay_6 tyX6 tyX6_ok hown (hts _ kw_83) (hts _ kw_84) (hts _ kw_72) hK hP hD hS hA rfl (fun j hj => match j, hj with | 0, _ => rfl | 1, _ => rfl | 2, _ => rfl | 3, _ => rfl | 4, _ => rfl | 5, _ => rfl | 6, _ => rfl | 7, _ => rfl | 8, _ => rfl | n + 9, h => absurd h (by omega)) (Nat.le_of_ble_eq_true rfl) (Nat.le_of_ble_eq_true rfl) dL_law_0 (fun q6 H hP hD hS => ?_)
  have hP : va_P D vwCl [(q6, .inr (6, [.null, .null, .null, .null, .null, .null, .null, .int 0, .int 0]))] H := hP
  have hD : va_D (zL_A s) [(q6, .inr (6, [.null, .null, .null, .null, .null, .null, .null, .int 0, .int 0]))] := hD
  refine W.widen (k := 1) (n := 9) (by omega) (by omega) ?_
  refine lv_dup hx hb dL_law_3 rfl ?_
  have hFc := va_free (wc := [(q6, .inr (6, [.null, .null, .null, .null, .null, .null, .null, .int 0, .int 0]))]) hD hS hA [0] rfl
  have hN27 := nl_X6_27 htsL
  have hN34 := nl_X6_34 htsL
  have hN45 := nl_X6_45 htsL
  have hN48 := nl_X6_48 htsL
  have hN58 := nl_X6_58 htsL
  have hAO5 : va_AO "ButlerWeather$Text" s := va_AO.of (htsL (.arrayOver (.object "ButlerWeather$Text")) (List.mem_of_getElem? (i := 92) (by decide +kernel)))
  have hAO4 : va_AO "ButlerWeather$Sheet" s := va_AO.of (htsL (.arrayOver (.object "ButlerWeather$Sheet")) (List.mem_of_getElem? (i := 153) (by decide +kernel)))
  have hAOA : va_AOA .int s := htsL (.arrayOver (.array .int)) (List.mem_of_getElem? (i := 242) (by decide +kernel))
  refine va_callv (va_runI (As := []) (rest := [.ref q6]) ⟨hx, hb, hml, hown, hts⟩ (i_X6 l D q6 H.size t0 t1 t2 (fun j => .int (zsv 70 j)) (fun j => .int (zsv 71 j))) (cwI 0 hts (gt_goodIn (fun w hw => (List.mem_cons.mp hw).elim (fun e => by rw [e]; exact kw_87) (fun h9 => h9))) rfl rfl rfl (hts _ kw_72) (hts _ kw_85) (hts _ kw_86) rfl ⟨by decide +kernel, by decide +kernel, by decide +kernel⟩ ⟨Nat.le_of_ble_eq_true rfl, Nat.le_of_ble_eq_true rfl⟩) ⟨fun a U g mk q => by obtain ⟨q0, q1, qP, qK, qD, z0, s0, z1, s1, a5, a4, aa, n27, n34, n45, n48, n58⟩ := q; exact ⟨q0, q1, qP, va_K.moved (u := U) (U := U.calling g mk a) (Vm.Alike.refl U.vm) qK, qD, z0.moved (u := U) (U := U.calling g mk a) (Vm.Alike.refl U.vm), s0.moved (u := U) (U := U.calling g mk a) (Vm.Alike.refl U.vm), z1.moved (u := U) (U := U.calling g mk a) (Vm.Alike.refl U.vm), s1.moved (u := U) (U := U.calling g mk a) (Vm.Alike.refl U.vm), a5.moved (u := U) (U := U.calling g mk a) (Vm.Alike.refl U.vm), a4.moved (u := U) (U := U.calling g mk a) (Vm.Alike.refl U.vm), va_AOA.moved (u := U) (U := U.calling g mk a) (Vm.Alike.refl U.vm) aa, n27.warmM (s := U) (U := U.calling g mk a) (State.WarmedH.refl U), n34.warmM (s := U) (U := U.calling g mk a) (State.WarmedH.refl U), n45.warmM (s := U) (U := U.calling g mk a) (State.WarmedH.refl U), n48.warmM (s := U) (U := U.calling g mk a) (State.WarmedH.refl U), n58.warmM (s := U) (U := U.calling g mk a) (State.WarmedH.refl U)⟩, fun U hU hW => ⟨rfl, by rw [hU], by rw [hU]; exact hP, va_K.moved hW.alike hK, hD.weaken (fun _ _ _ _ => trivial), by rw [hU]; exact ((hZ0.kept hS.2.1).narrow hFc).moved hW.alike, by rw [hU]; exact ((hT0.kept hS.2.1).narrow hFc).moved hW.alike, by rw [hU]; exact ((hZ1.kept hS.2.1).narrow hFc).moved hW.alike, by rw [hU]; exact ((hT1.kept hS.2.1).narrow hFc).moved hW.alike, hAO5.moved hW.alike, hAO4.moved hW.alike, hAOA.moved hW.alike, hN27.warmM hW, hN34.warmM hW, hN45.warmM hW, hN48.warmM hW, hN58.warmM hW⟩⟩ rfl rfl hl.1 rfl (lv_room (Nat.le_of_ble_eq_true rfl)) dL_law_4 ⟨Nat.le_of_ble_eq_true rfl, Nat.le_of_ble_eq_true rfl⟩) hS (fun q _ h => hFc q h) hFc (fun u t H1 locs ht hvm hw hB hz1 hk1 hS => ?_)
  obtain ⟨aC, kC⟩ := u
  obtain ⟨hPC, hKC, hIC, hAC, hs0, hs1, hs2, hq6⟩ := hB
  rw [ht] at hPC
  have hKC := hKC.moved hvm.symm
  dsimp only at hPC hKC hIC hAC hs0 hs1 hs2 hq6
  have hAC2 : ∀ id, id ∈ zS true → zL_A s (aC id) := fun id h => hFc _ (hAC id h)
  refine W.widen (k := 67) (n := 903) (by omega) (by omega) ?_
  refine lv_astore_n (lv' := [(1, .ref q6), (0, .ref b)]) hx hb dL_law_7 rfl hl (by decide) rfl (fun ls hl => ?_)
  have hP7 : va_P D vwCl [] H1 := fun k q h => by simp at h
  have hD7 : va_D (fun q : Nat => H1.size ≤ q) [] := ⟨fun i j p q h => by simp at h, fun k q h => by simp at h⟩
  have hDW := zD_of hIC kC zM0C
  have hDA : va_D (zL_A s) (zW true aC kC zM0C) := hDW.weaken (fun k q hk _ => by obtain ⟨id, h1, -, rfl⟩ := zW_of hk; exact hAC2 id h1)
  refine va_new (ci := 7) (fs := [.null, .null, .int 0, .null, .null, .null, .null, .int 0, .null, .null, .null, .int 0, .null, .null, .int 0, .null, .null, .int 0, .null, .null, .null, .int 0, .int 0, .null, .null, .null, .null, .null, .int 0, .null, .null, .null, .null, .null, .null, .null, .null, .int 0]) (C := RX7) (T := TX7) (N := 38) hx hb hts lay_7 tyX7 tyX7_ok hown (hts _ kw_776) (hts _ kw_777) (hts _ kw_79) hK hPC hDA hS hA rfl (fun j hj => match j, hj with | 0, _ => rfl | 1, _ => rfl | 2, _ => rfl | 3, _ => rfl | 4, _ => rfl | 5, _ => rfl | 6, _ => rfl | 7, _ => rfl | 8, _ => rfl | 9, _ => rfl | 10, _ => rfl | 11, _ => rfl | 12, _ => rfl | 13, _ => rfl | 14, _ => rfl | 15, _ => rfl | 16, _ => rfl | 17, _ => rfl | 18, _ => rfl | 19, _ => rfl | 20, _ => rfl | 21, _ => rfl | 22, _ => rfl | 23, _ => rfl | 24, _ => rfl | 25, _ => rfl | 26, _ => rfl | 27, _ => rfl | 28, _ => rfl | 29, _ => rfl | 30, _ => rfl | 31, _ => rfl | 32, _ => rfl | 33, _ => rfl | 34, _ => rfl | 35, _ => rfl | 36, _ => rfl | 37, _ => rfl | n + 38, h => absurd h (by omega)) (Nat.le_of_ble_eq_true rfl) (Nat.le_of_ble_eq_true rfl) dL_law_8 (fun q7 H hP hD hS => ?_)
  refine W.widen (k := 68) (n := 941) (by omega) (by omega) ?_
  refine lv_dup hx hb dL_law_11 rfl ?_
  have hPC : va_P D vwCl (zW true aC kC zM0C) H := fun k q hk => hP k q (by rw [List.getElem?_append_left (List.getElem?_eq_some_iff.mp hk).1]; exact hk)
  have hl7 : (zW true aC kC zM0C ++ [(q7, .inr (7, [.null, .null, .int 0, .null, .null, .null, .null, .int 0, .null, .null, .null, .int 0, .null, .null, .int 0, .null, .null, .int 0, .null, .null, .null, .int 0, .int 0, .null, .null, .null, .null, .null, .int 0, .null, .null, .null, .null, .null, .null, .null, .null, .int 0]))])[67]? = some (q7, .inr (7, [.null, .null, .int 0, .null, .null, .null, .null, .int 0, .null, .null, .null, .int 0, .null, .null, .int 0, .null, .null, .int 0, .null, .null, .null, .int 0, .int 0, .null, .null, .null, .null, .null, .int 0, .null, .null, .null, .null, .null, .null, .null, .null, .int 0])) := by
    have hn : (zW true aC kC zM0C).length = 67 := by unfold zW; rw [List.length_map]; rfl
    rw [List.getElem?_append_right (by omega), hn]; rfl
  have hP7 : va_P D vwCl [(q7, .inr (7, [.null, .null, .int 0, .null, .null, .null, .null, .int 0, .null, .null, .null, .int 0, .null, .null, .int 0, .null, .null, .int 0, .null, .null, .null, .int 0, .int 0, .null, .null, .null, .null, .null, .int 0, .null, .null, .null, .null, .null, .null, .null, .null, .int 0]))] H := fun k q hk => by
    match k, hk with
    | 0, hk => exact hP 67 q (by rw [hl7]; exact hk)
    | k + 1, hk => simp at hk
  have hD7 : va_D (zL_A s) [(q7, .inr (7, [.null, .null, .int 0, .null, .null, .null, .null, .int 0, .null, .null, .null, .int 0, .null, .null, .int 0, .null, .null, .int 0, .null, .null, .null, .int 0, .int 0, .null, .null, .null, .null, .null, .int 0, .null, .null, .null, .null, .null, .null, .null, .null, .int 0]))] := ⟨fun i j x y h1 h2 _ => by have a1 := (List.getElem?_eq_some_iff.mp h1).1; have a2 := (List.getElem?_eq_some_iff.mp h2).1; simp at a1 a2; omega, fun k q hk => by
    match k, hk with
    | 0, hk => exact hD.2 67 q (by rw [hl7]; exact hk)
    | k + 1, hk => simp at hk⟩
  have hne7 : ∀ id, id ∈ zS true → aC id ≠ q7 := fun id h e => by
    obtain ⟨k, h1, h2⟩ := zW_at (ad := aC) (cA := kC) (μ := zM0C) h
    have hlt := (List.getElem?_eq_some_iff.mp h2).1
    have hn : (zW true aC kC zM0C).length = 67 := by unfold zW; rw [List.length_map]; rfl
    have := hD.1 k 67 _ _ (by rw [List.getElem?_append_left hlt]; exact h2) hl7 e
    omega
  have hFc := va_free (wc := [(q7, .inr (7, [.null, .null, .int 0, .null, .null, .null, .null, .int 0, .null, .null, .null, .int 0, .null, .null, .int 0, .null, .null, .int 0, .null, .null, .null, .int 0, .int 0, .null, .null, .null, .null, .null, .int 0, .null, .null, .null, .null, .null, .null, .null, .null, .int 0]))]) hD7 hS hA [0] rfl
  refine va_callv (va_runI (As := []) (rest := [.ref q7]) ⟨hx, hb, hml, hown, hts⟩ (i_X7 l D q7 H.size) (cwI 0 hts (gt_goodIn (fun w hw => (List.mem_cons.mp hw).elim (fun e => by rw [e]; exact kw_780) (fun h9 => h9))) rfl rfl rfl (hts _ kw_79) (hts _ kw_778) (hts _ kw_779) rfl ⟨by decide +kernel, by decide +kernel, by decide +kernel⟩ ⟨Nat.le_of_ble_eq_true rfl, Nat.le_of_ble_eq_true rfl⟩) ⟨fun a U g mk q => by obtain ⟨q0, q1, qP, qK, qD⟩ := q; exact ⟨q0, q1, qP, va_K.moved (u := U) (U := U.calling g mk a) (Vm.Alike.refl U.vm) qK, qD⟩, fun U hU hW => ⟨rfl, by rw [hU], by rw [hU]; exact hP7, va_K.moved hW.alike hK, hD7.weaken (fun _ _ _ _ => trivial)⟩⟩ rfl rfl hl.1 rfl (lv_room (Nat.le_of_ble_eq_true rfl)) dL_law_12 ⟨Nat.le_of_ble_eq_true rfl, Nat.le_of_ble_eq_true rfl⟩) hS (fun q _ h => hFc q h) hFc (fun u t H2 locs ht hvm hw hB hz2 hk2 hS => ?_)
  obtain ⟨qM, cM⟩ := u
  obtain ⟨hPM, hKM, hDM⟩ := hB
  rw [ht] at hPM
  have hKM := va_K.moved hvm.symm hKM
  dsimp only at hPM hKM hDM
  have hPCold := hPC
  have hPC : va_P D vwCl (zW true aC kC zM0C) H2 := hPC.kept (fun k q hq => hk2 _ (hPC k q hq).lt (fun z => by
    obtain ⟨id, h1, -, rfl⟩ := zW_of hq
    rcases z with ⟨k9, e9, z⟩ | z
    · match k9, z with
      | 0, z => cases z; exact hne7 id h1 rfl
      | k9 + 1, z => simp at z
    · exact absurd (hPC k _ hq).lt (Nat.not_lt.mpr z)))
  obtain ⟨aM, kM, hPM2, hKM2, hIM, hAM, haM⟩ := m_asm hPM hKM hDM
  obtain ⟨ad, had⟩ : ∃ ad : Nat → Nat, ad = fun id => if id < 100 then aC id else aM id := ⟨_, rfl⟩
  obtain ⟨cA, hcA⟩ : ∃ cA : Nat → ClassId, cA = fun id => if id < 100 then kC id else kM id := ⟨_, rfl⟩
  have eC : ∀ id, id < 100 → ad id = aC id ∧ cA id = kC id := fun id h => by rw [had, hcA]; exact ⟨if_pos h, if_pos h⟩
  have eM : ∀ id, ¬ id < 100 → ad id = aM id ∧ cA id = kM id := fun id h => by rw [had, hcA]; exact ⟨if_neg h, if_neg h⟩
  have hWC : zW true ad cA zM0C = zW true aC kC zM0C := z_congr (fun id h => eC id (z_ltC h)) (fun id k h hk => (eC _ (z_rfC h hk)).1)
  have hWM : zW false ad cA zM0M = zW false aM kM zM0M := z_congr (fun id h => eM id (z_geM h)) (fun id k h hk => (eM _ (z_rfM h hk)).1)
  have Nn : zN D ad cA s := by
    refine ⟨fun b id h => ?_, fun i hi j hj e => ?_⟩
    · cases b with
      | true => rw [(eC id (z_ltC h)).1]; exact hAC2 id h
      | false => rw [(eM id (z_geM h)).1]; exact hFc _ (hAM id h)
    · rw [(eC i (z_ltC hi)).1, (eM j (z_geM hj)).1] at e
      have hz := hAM j hj
      rw [← e] at hz
      obtain ⟨k, h1, h2⟩ := zW_at (ad := aC) (cA := kC) (μ := zM0C) hi
      rcases hz with ⟨k9, e9, z⟩ | z
      · match k9, z with
        | 0, z => cases z; exact hne7 i hi rfl
        | k9 + 1, z => simp at z
      · exact absurd (hPCold k _ h2).lt (Nat.not_lt.mpr z)
  have hIC2 : zInj true ad := fun i hi j hj e => hIC i hi j hj (by rw [← (eC i (z_ltC hi)).1, ← (eC j (z_ltC hj)).1]; exact e)
  have hIM2 : zInj false ad := fun i hi j hj e => hIM i hi j hj (by rw [← (eM i (z_geM hi)).1, ← (eM j (z_geM hj)).1]; exact e)
  have hKC2 : zK true D cA s := ⟨hKC.1, fun id h1 h2 => by rw [(eC id (z_ltC h1)).2]; exact hKC.2 id h1 h2⟩
  have hKM3 : zK false D cA s := ⟨hKM2.1, fun id h1 h2 => by rw [(eM id (z_geM h1)).2]; exact hKM2.2 id h1 h2⟩
  have hSt : zSt true ad s s.heap := by
    intro _
    refine ⟨fun id hid => ?_, ?_, fun w hw => ?_, ?_⟩
    · have h3 : id = 70 ∨ id = 71 ∨ id = 72 := z_st20 hid
      rcases h3 with rfl | rfl | rfl
      · rw [(eC 70 (by decide)).1, hs0]; exact hT0.narrow (zN_A Nn true)
      · rw [(eC 71 (by decide)).1, hs1]; exact hT1.narrow (zN_A Nn true)
      · rw [(eC 72 (by decide)).1, hs2]; exact hT2.narrow (zN_A Nn true)
    · rw [(eC 72 (by decide)).1, hs2]; exact hZ2.narrow (zN_A Nn true)
    · simp only [zNw, List.mem_cons, List.not_mem_nil, or_false] at hw
      rcases hw with rfl | rfl | rfl | rfl
      · exact nl_X5_37 htsL
      · exact nl_X2_52 htsL
      · exact nl_X3_47 htsL
      · exact nl_X4_26 htsL
    · exact nl_fl htsL
  have XC : zX true D ad cA p s m #[Value.ref b] c code "ButlerWeatherLaw" 4 := ⟨hx, hb, hml, hown, hts, hKC2, hSt, hIC2⟩
  have XM : zX false D ad cA p s m #[Value.ref b] c code "ButlerWeatherLaw" 4 := ⟨hx, hb, hml, hown, hts, hKM3, (fun h => by cases h), hIM2⟩
  have G : zG2 D ad cA s zM0C zM0M H2 locs := ⟨by rw [hWC]; exact hPC, by rw [hWM]; exact hPM2, hS⟩
  have e6 : q6 = ad 0 := by rw [(eC 0 (by decide)).1]; exact hq6.symm
  have e7 : q7 = ad 100 := by rw [(eM 100 (by decide)).1]; exact haM.symm
  rw [e7]
  rw [e6] at hl
  refine W.widen (k := 600000) (n := 7302250) (by omega) (by omega) ?_
  refine lv_astore_n (lv' := [(2, .ref (ad 100)), (1, .ref (ad 0)), (0, .ref b)]) hx hb dL_law_15 rfl hl (by decide) rfl (fun ls hl => ?_)
  refine lv_iconst (v := (0 : Int32)) hx hb dL_law_16 (by decide) ?_
  refine lv_istore_n (lv' := [(3, .int (0 : Int32)), (2, .ref (ad 100)), (1, .ref (ad 0)), (0, .ref b)]) hx hb dL_law_17 rfl hl (by decide) rfl (fun ls hl => ?_)
  exact law_loop hL C0 XC XM Nn (L + 1) 0 zM0C zM0M H2 locs ls (by omega) (by omega) zRel_0 G (lv_sub hl [3, 2, 1, 0] rfl)
