-- CONTRACTS, by program
set_option maxHeartbeats 4000000 in
set_option maxRecDepth 100000 in
theorem c_X6_sent (l : Launch) (D : va_G) (ad : Nat → Nat) (cA : Nat → ClassId)  {μ : zM} {r : Int32} {μ' : zM} (h : f_X6_sent μ = some (r, μ')) : zMet true D ad cA l yX6_sent cX6_sent 1 (some .int) ({ frames := 4, cells := 0, slots := 0, locals := 94 } : Room) [.ref (ad 0)] μ (zQi true D ad cA r μ') := by
  refine zMet_of "ButlerWeather" ⟨by decide, rfl⟩ (Nat.le_of_ble_eq_true rfl) ?_
  intro p e s m args below meth c X G hr hlk ls hl
  have hl : lv_has ls 1 [(0, .ref (ad 0))] := hl
  obtain ⟨hx, hb, hml, hown, hts, -, -, -⟩ := id X
  obtain ⟨Q, hQ⟩ : ∃ Q, Q = MQ below (zQi true D ad cA r μ') args s 0 0 (zA true ad) := ⟨_, rfl⟩
  rw [← hQ]
  unfold f_X6_sent at h
  refine lv_aload_n hx hb dX6_sent_0 rfl (lv_at hl 0 rfl) ?_
  refine zz_cr (rest := []) G h (fun r μ1 hf => zz_runV X G rc_6 tl_0 cv_X6_told kw_332 (c_X6_told l D ad cA  hf) ⟨rfl, rfl, Nat.le_of_ble_eq_true rfl, Nat.le_of_ble_eq_true rfl⟩ rfl rfl hl.1 (Nat.le_of_ble_eq_true rfl) dX6_sent_1) (fun _ μ H locs G h => ?_)
  refine zz_ci (rest := []) G h (fun r μ1 hf => zz_runV X G rc_2 tl_21 cv_X2_sentBits kw_517 (c_X2_sentBits l D ad cA tl_21 hf) ⟨rfl, rfl, Nat.le_of_ble_eq_true rfl, Nat.le_of_ble_eq_true rfl⟩ rfl rfl hl.1 (Nat.le_of_ble_eq_true rfl) dX6_sent_4) (fun x1 μ H locs G h => ?_)
  rw [hQ]
  exact zz_iret X G hr hlk dX6_sent_7 h
set_option maxHeartbeats 4000000 in
set_option maxRecDepth 100000 in
theorem c_X6_wrong (l : Launch) (D : va_G) (ad : Nat → Nat) (cA : Nat → ClassId)  {μ : zM} {r : Int32} {μ' : zM} (h : f_X6_wrong μ = some (r, μ')) : zMet true D ad cA l yX6_wrong cX6_wrong 1 (some .int) ({ frames := 4, cells := 0, slots := 0, locals := 94 } : Room) [.ref (ad 0)] μ (zQi true D ad cA r μ') := by
  refine zMet_of "ButlerWeather" ⟨by decide, rfl⟩ (Nat.le_of_ble_eq_true rfl) ?_
  intro p e s m args below meth c X G hr hlk ls hl
  have hl : lv_has ls 1 [(0, .ref (ad 0))] := hl
  obtain ⟨hx, hb, hml, hown, hts, -, -, -⟩ := id X
  obtain ⟨Q, hQ⟩ : ∃ Q, Q = MQ below (zQi true D ad cA r μ') args s 0 0 (zA true ad) := ⟨_, rfl⟩
  rw [← hQ]
  unfold f_X6_wrong at h
  refine lv_aload_n hx hb dX6_wrong_0 rfl (lv_at hl 0 rfl) ?_
  refine zz_cr (rest := []) G h (fun r μ1 hf => zz_runV X G rc_6 tl_0 cv_X6_told kw_332 (c_X6_told l D ad cA  hf) ⟨rfl, rfl, Nat.le_of_ble_eq_true rfl, Nat.le_of_ble_eq_true rfl⟩ rfl rfl hl.1 (Nat.le_of_ble_eq_true rfl) dX6_wrong_1) (fun _ μ H locs G h => ?_)
  refine zz_ci (rest := []) G h (fun r μ1 hf => zz_runV X G rc_2 tl_21 cv_X2_misnamed kw_529 (c_X2_misnamed l D ad cA tl_21 hf) ⟨rfl, rfl, Nat.le_of_ble_eq_true rfl, Nat.le_of_ble_eq_true rfl⟩ rfl rfl hl.1 (Nat.le_of_ble_eq_true rfl) dX6_wrong_4) (fun x1 μ H locs G h => ?_)
  rw [hQ]
  exact zz_iret X G hr hlk dX6_wrong_7 h
set_option maxHeartbeats 4000000 in
set_option maxRecDepth 100000 in
theorem c_X6_sum (l : Launch) (D : va_G) (ad : Nat → Nat) (cA : Nat → ClassId)  {μ : zM} {r : Int32} {μ' : zM} (h : f_X6_sum μ = some (r, μ')) : zMet true D ad cA l yX6_sum cX6_sum 1 (some .int) ({ frames := 4, cells := 0, slots := 0, locals := 94 } : Room) [.ref (ad 0)] μ (zQi true D ad cA r μ') := by
  refine zMet_of "ButlerWeather" ⟨by decide, rfl⟩ (Nat.le_of_ble_eq_true rfl) ?_
  intro p e s m args below meth c X G hr hlk ls hl
  have hl : lv_has ls 1 [(0, .ref (ad 0))] := hl
  obtain ⟨hx, hb, hml, hown, hts, -, -, -⟩ := id X
  obtain ⟨Q, hQ⟩ : ∃ Q, Q = MQ below (zQi true D ad cA r μ') args s 0 0 (zA true ad) := ⟨_, rfl⟩
  rw [← hQ]
  unfold f_X6_sum at h
  refine lv_aload_n hx hb dX6_sum_0 rfl (lv_at hl 0 rfl) ?_
  refine zz_cr (rest := []) G h (fun r μ1 hf => zz_runV X G rc_6 tl_0 cv_X6_told kw_332 (c_X6_told l D ad cA  hf) ⟨rfl, rfl, Nat.le_of_ble_eq_true rfl, Nat.le_of_ble_eq_true rfl⟩ rfl rfl hl.1 (Nat.le_of_ble_eq_true rfl) dX6_sum_1) (fun _ μ H locs G h => ?_)
  refine zz_ci (rest := []) G h (fun r μ1 hf => zz_runV X G rc_2 tl_21 cv_X2_total kw_537 (c_X2_total l D ad cA tl_21 hf) ⟨rfl, rfl, Nat.le_of_ble_eq_true rfl, Nat.le_of_ble_eq_true rfl⟩ rfl rfl hl.1 (Nat.le_of_ble_eq_true rfl) dX6_sum_4) (fun x1 μ H locs G h => ?_)
  rw [hQ]
  exact zz_iret X G hr hlk dX6_sum_7 h
set_option maxHeartbeats 4000000 in
set_option maxRecDepth 100000 in
theorem w_X6_leave_L34 {p : Program} {l : Launch} {e : Env} {s : State} {m : MethodId} {args : Array Value} {below : List Frame} {meth : Method} {c : Code} {Q : State → Prop} {D : va_G} {ad : Nat → Nat} {cA : Nat → ClassId} {r : Int32} {μ' : zM} (X : zX true D ad cA p s m args c cX6_leave "ButlerWeather" 8) (hQ : Q = MQ below (zQi true D ad cA r μ') args s 0 0 (zA true ad)) (hr : meth.sig.returnType = (some .int)) (hlk : meth.locks = false) {v1 : Int32} {v2 : Int32} {kx : Int32 → Int32 → zM → Option (Int32 × zM)} (HX : ∀ (w4 : Int32) (w5 : Int32) (μ : zM) (H : Heap) (locs : List Loc) (ls : Array Slot), lv_has ls 8 [(2, .int v2), (4, .int w4), (5, .int w5)] → zG true D ad cA s μ H locs → kx w4 w5 μ = some (r, μ') → W p l e ({ frames := 4, cells := 0, slots := 0, locals := 94 } : Room) s m args below meth c H locs 0 0 Q (F0 m 104 ls [])) : ∀ (n : Nat) (v4 : Int32) (v5 : Int32) (v6 : Int32) (μ : zM) (H : Heap) (locs : List Loc) (ls : Array Slot), lv_has ls 8 [(0, .ref (ad 0)), (1, .int v1), (2, .int v2), (3, .ref (ad 21)), (4, .int v4), (5, .int v5), (6, .int v6)] → zG true D ad cA s μ H locs → f_X6_leave_L34 v1 v2 kx n v4 v5 v6 μ = some (r, μ') → W p l e ({ frames := 4, cells := 0, slots := 0, locals := 94 } : Room) s m args below meth c H locs 0 0 Q (F0 m 34 ls []) := by
  obtain ⟨hx, hb, hml, hown, hts, -, -, -⟩ := id X
  intro n
  induction n with
  | zero =>
    intro v4 v5 v6 μ H locs ls hl G h
    cases (show (none : Option (Int32 × zM)) = some (r, μ') from h)
  | succ n ih =>
    intro v4 v5 v6 μ H locs ls hl G h
    rw [f_X6_leave_L34] at h
    refine lv_iload hx hb dX6_leave_34 (lv_at hl 6 rfl) ?_
    refine lv_aload_n hx hb dX6_leave_36 rfl (lv_at hl 3 rfl) ?_
    refine zz_geti X G fi_2_0 tl_21 kw_180 dX6_leave_37 h (fun x5 h => ?_)
    refine lv_icmp_ge (tgt := 104) hx hb dX6_leave_40 (by decide) (fun c6 => ?_) (fun c6 => ?_)
    · have h := (zz_br h).1 c6
      exact HX v4 v5 μ _ _ _ (lv_sub hl [2, 4, 5] rfl) G h
    have h := (zz_br h).2 c6
    refine lv_aload_n hx hb dX6_leave_43 rfl (lv_at hl 0 rfl) ?_
    refine zz_getr X G fr_6_5 tl_0 rl_0_5 kw_259 dX6_leave_44 ?_
    refine lv_aload_n hx hb dX6_leave_47 rfl (lv_at hl 3 rfl) ?_
    refine zz_cv (rest := []) G h (fun r μ1 hf => zz_runV X G rc_2 tl_34 cv_X2_become kw_545 (c_X2_become l D ad cA tl_34 tl_21 hf) ⟨rfl, rfl, Nat.le_of_ble_eq_true rfl, Nat.le_of_ble_eq_true rfl⟩ rfl rfl hl.1 (Nat.le_of_ble_eq_true rfl) dX6_leave_48) (fun _ μ H locs G h => ?_)
    refine lv_aload_n hx hb dX6_leave_51 rfl (lv_at hl 0 rfl) ?_
    refine zz_getr X G fr_6_5 tl_0 rl_0_5 kw_259 dX6_leave_52 ?_
    refine lv_iload_n hx hb dX6_leave_55 rfl (lv_at hl 1 rfl) ?_
    refine lv_iload hx hb dX6_leave_56 (lv_at hl 6 rfl) ?_
    refine zz_cv (rest := []) G h (fun r μ1 hf => zz_runV X G rc_2 tl_34 cv_X2_invite kw_549 (c_X2_invite l D ad cA tl_34 hf) ⟨rfl, rfl, Nat.le_of_ble_eq_true rfl, Nat.le_of_ble_eq_true rfl⟩ rfl rfl hl.1 (Nat.le_of_ble_eq_true rfl) dX6_leave_58) (fun _ μ H locs G h => ?_)
    refine lv_aload_n hx hb dX6_leave_61 rfl (lv_at hl 0 rfl) ?_
    refine zz_getr X G fr_6_5 tl_0 rl_0_5 kw_259 dX6_leave_62 ?_
    refine zz_cv (rest := []) G h (fun r μ1 hf => zz_runV X G rc_2 tl_34 cv_X2_live kw_370 (c_X2_live l D ad cA tl_34 hf) ⟨rfl, rfl, Nat.le_of_ble_eq_true rfl, Nat.le_of_ble_eq_true rfl⟩ rfl rfl hl.1 (Nat.le_of_ble_eq_true rfl) dX6_leave_65) (fun _ μ H locs G h => ?_)
    refine lv_aload_n hx hb dX6_leave_68 rfl (lv_at hl 0 rfl) ?_
    refine zz_getr X G fr_6_5 tl_0 rl_0_5 kw_259 dX6_leave_69 ?_
    refine zz_ci (rest := []) G h (fun r μ1 hf => zz_runV X G rc_2 tl_34 cv_X2_total kw_537 (c_X2_total l D ad cA tl_34 hf) ⟨rfl, rfl, Nat.le_of_ble_eq_true rfl, Nat.le_of_ble_eq_true rfl⟩ rfl rfl hl.1 (Nat.le_of_ble_eq_true rfl) dX6_leave_72) (fun x7 μ H locs G h => ?_)
    refine lv_istore (lv' := [(7, .int x7), (0, .ref (ad 0)), (1, .int v1), (2, .int v2), (3, .ref (ad 21)), (4, .int v4), (5, .int v5), (6, .int v6)]) hx hb dX6_leave_75 hl (by decide) rfl (fun ls hl => ?_)
    refine lv_iload hx hb dX6_leave_77 (lv_at hl 5 rfl) ?_
    refine lv_iconst (v := (-1 : Int32)) hx hb dX6_leave_79 (by decide) ?_
    refine lv_icmp_eq (tgt := 90) hx hb dX6_leave_80 (by decide) (fun c8 => ?_) (fun c8 => ?_)
    · have h := (zz_br h).1 c8
      refine lv_iload hx hb dX6_leave_90 (lv_at hl 7 rfl) ?_
      refine lv_istore (lv' := [(4, .int v6), (7, .int x7), (0, .ref (ad 0)), (1, .int v1), (2, .int v2), (3, .ref (ad 21)), (5, .int v5), (6, .int v6)]) hx hb dX6_leave_92 hl (by decide) rfl (fun ls hl => ?_)
      refine lv_iload hx hb dX6_leave_94 (lv_at hl 1 rfl) ?_
      refine lv_istore (lv' := [(5, .int x7), (4, .int v6), (7, .int x7), (0, .ref (ad 0)), (1, .int v1), (2, .int v2), (3, .ref (ad 21)), (6, .int v6)]) hx hb dX6_leave_96 hl (by decide) rfl (fun ls hl => ?_)
      obtain ⟨x9, ex9, h⟩ := zz_let h
      refine lv_iinc (v := x9) (lv' := [(6, .int x9), (5, .int x7), (4, .int v6), (7, .int x7), (0, .ref (ad 0)), (1, .int v1), (2, .int v2), (3, .ref (ad 21))]) hx hb dX6_leave_98 hl (k := 7) rfl (by rw [← ex9]; rfl) (by decide) rfl (fun ls hl => ?_)
      refine lv_goto (tgt := 34) hx hb dX6_leave_101 (by decide) ?_
      exact ih v6 x7 x9 μ _ _ _ (lv_sub hl [4, 5, 6, 7, 2, 1, 0] rfl) G h
    have h := (zz_br h).2 c8
    refine lv_iload hx hb dX6_leave_83 (lv_at hl 0 rfl) ?_
    refine lv_iload hx hb dX6_leave_85 (lv_at hl 6 rfl) ?_
    refine lv_icmp_le (tgt := 98) hx hb dX6_leave_87 (by decide) (fun c10 => ?_) (fun c10 => ?_)
    · have h := (zz_br h).1 c10
      obtain ⟨x11, ex11, h⟩ := zz_let h
      refine lv_iinc (v := x11) (lv' := [(6, .int x11), (7, .int x7), (0, .ref (ad 0)), (1, .int v1), (2, .int v2), (3, .ref (ad 21)), (4, .int v4), (5, .int v5)]) hx hb dX6_leave_98 hl (k := 7) rfl (by rw [← ex11]; rfl) (by decide) rfl (fun ls hl => ?_)
      refine lv_goto (tgt := 34) hx hb dX6_leave_101 (by decide) ?_
      exact ih v4 v5 x11 μ _ _ _ (lv_sub hl [2, 3, 4, 5, 6, 7, 0] rfl) G h
    have h := (zz_br h).2 c10
    refine lv_iload hx hb dX6_leave_90 (lv_at hl 7 rfl) ?_
    refine lv_istore (lv' := [(4, .int v6), (7, .int x7), (0, .ref (ad 0)), (1, .int v1), (2, .int v2), (3, .ref (ad 21)), (5, .int v5), (6, .int v6)]) hx hb dX6_leave_92 hl (by decide) rfl (fun ls hl => ?_)
    refine lv_iload hx hb dX6_leave_94 (lv_at hl 1 rfl) ?_
    refine lv_istore (lv' := [(5, .int x7), (4, .int v6), (7, .int x7), (0, .ref (ad 0)), (1, .int v1), (2, .int v2), (3, .ref (ad 21)), (6, .int v6)]) hx hb dX6_leave_96 hl (by decide) rfl (fun ls hl => ?_)
    obtain ⟨x12, ex12, h⟩ := zz_let h
    refine lv_iinc (v := x12) (lv' := [(6, .int x12), (5, .int x7), (4, .int v6), (7, .int x7), (0, .ref (ad 0)), (1, .int v1), (2, .int v2), (3, .ref (ad 21))]) hx hb dX6_leave_98 hl (k := 7) rfl (by rw [← ex12]; rfl) (by decide) rfl (fun ls hl => ?_)
    refine lv_goto (tgt := 34) hx hb dX6_leave_101 (by decide) ?_
    exact ih v6 x7 x12 μ _ _ _ (lv_sub hl [4, 5, 6, 7, 2, 1, 0] rfl) G h
set_option maxHeartbeats 4000000 in
set_option maxRecDepth 100000 in
theorem c_X6_leave (l : Launch) (D : va_G) (ad : Nat → Nat) (cA : Nat → ClassId) {a1 : Int32} {a2 : Int32} {μ : zM} {r : Int32} {μ' : zM} (h : f_X6_leave a1 a2 μ = some (r, μ')) : zMet true D ad cA l yX6_leave cX6_leave 8 (some .int) ({ frames := 4, cells := 0, slots := 0, locals := 94 } : Room) [.ref (ad 0), .int a1, .int a2] μ (zQi true D ad cA r μ') := by
  refine zMet_of "ButlerWeather" ⟨by decide, rfl⟩ (Nat.le_of_ble_eq_true rfl) ?_
  intro p e s m args below meth c X G hr hlk ls hl
  have hl : lv_has ls 8 [(0, .ref (ad 0)), (1, .int a1), (2, .int a2)] := hl
  obtain ⟨hx, hb, hml, hown, hts, -, -, -⟩ := id X
  obtain ⟨Q, hQ⟩ : ∃ Q, Q = MQ below (zQi true D ad cA r μ') args s 0 0 (zA true ad) := ⟨_, rfl⟩
  rw [← hQ]
  unfold f_X6_leave at h
  refine lv_iload_n hx hb dX6_leave_0 rfl (lv_at hl 1 rfl) ?_
  refine zz_ci (rest := []) G h (fun r μ1 hf => zz_runS X G cs_X6_isDay kw_426 (c_X6_isDay l D ad cA  hf) ⟨rfl, rfl, Nat.le_of_ble_eq_true rfl, Nat.le_of_ble_eq_true rfl⟩ rfl rfl hl.1 (Nat.le_of_ble_eq_true rfl) dX6_leave_1) (fun x1 μ H locs G h => ?_)
  refine lv_if_eq (tgt := 16) hx hb dX6_leave_4 (by decide) (fun c2 => ?_) (fun c2 => ?_)
  · have h := (zz_br h).1 c2
    refine lv_ldc hx hb hown (hts _ kw_500) dX6_leave_16 ?_
    rw [hQ]
    exact zz_iret X G hr hlk dX6_leave_18 h
  have h := (zz_br h).2 c2
  refine lv_iload_n hx hb dX6_leave_7 rfl (lv_at hl 2 rfl) ?_
  refine lv_iconst (v := (0 : Int32)) hx hb dX6_leave_8 (by decide) ?_
  refine lv_iconst (v := (1 : Int32)) hx hb dX6_leave_9 (by decide) ?_
  refine zz_ci (rest := []) G h (fun r μ1 hf => zz_runS X G cs_X6_within kw_289 (c_X6_within l D ad cA  hf) ⟨rfl, rfl, Nat.le_of_ble_eq_true rfl, Nat.le_of_ble_eq_true rfl⟩ rfl rfl hl.1 (Nat.le_of_ble_eq_true rfl) dX6_leave_10) (fun x3 μ H locs G h => ?_)
  refine lv_if_ne (tgt := 19) hx hb dX6_leave_13 (by decide) (fun c4 => ?_) (fun c4 => ?_)
  · have h := (zz_br h).1 c4
    refine lv_aload_n hx hb dX6_leave_19 rfl (lv_at hl 0 rfl) ?_
    refine zz_cr (rest := []) G h (fun r μ1 hf => zz_runV X G rc_6 tl_0 cv_X6_told kw_332 (c_X6_told l D ad cA  hf) ⟨rfl, rfl, Nat.le_of_ble_eq_true rfl, Nat.le_of_ble_eq_true rfl⟩ rfl rfl hl.1 (Nat.le_of_ble_eq_true rfl) dX6_leave_20) (fun _ μ H locs G h => ?_)
    refine lv_astore_n (lv' := [(3, .ref (ad 21)), (0, .ref (ad 0)), (1, .int a1), (2, .int a2)]) hx hb dX6_leave_23 rfl hl (by decide) rfl (fun ls hl => ?_)
    refine lv_iconst (v := (-1 : Int32)) hx hb dX6_leave_24 (by decide) ?_
    refine lv_istore (lv' := [(4, .int (-1 : Int32)), (3, .ref (ad 21)), (0, .ref (ad 0)), (1, .int a1), (2, .int a2)]) hx hb dX6_leave_25 hl (by decide) rfl (fun ls hl => ?_)
    refine lv_ldc hx hb hown (hts _ kw_500) dX6_leave_27 ?_
    refine lv_istore (lv' := [(5, .int (-2147483648 : Int32)), (4, .int (-1 : Int32)), (3, .ref (ad 21)), (0, .ref (ad 0)), (1, .int a1), (2, .int a2)]) hx hb dX6_leave_29 hl (by decide) rfl (fun ls hl => ?_)
    refine lv_iconst (v := (0 : Int32)) hx hb dX6_leave_31 (by decide) ?_
    refine lv_istore (lv' := [(6, .int (0 : Int32)), (5, .int (-2147483648 : Int32)), (4, .int (-1 : Int32)), (3, .ref (ad 21)), (0, .ref (ad 0)), (1, .int a1), (2, .int a2)]) hx hb dX6_leave_32 hl (by decide) rfl (fun ls hl => ?_)
    refine w_X6_leave_L34 X hQ hr hlk  (fun x13 x14 μ H locs ls hl G h => ?_) 400 (-1 : Int32) (-2147483648 : Int32) (0 : Int32) μ _ _ _ (lv_sub hl [4, 5, 6, 3, 2, 1, 0] rfl) G h
    refine lv_iload hx hb dX6_leave_104 (lv_at hl 1 rfl) ?_
    refine lv_iconst (v := (-1 : Int32)) hx hb dX6_leave_106 (by decide) ?_
    refine lv_icmp_ne (tgt := 113) hx hb dX6_leave_107 (by decide) (fun c15 => ?_) (fun c15 => ?_)
    · have h := (zz_br h).1 c15
      refine lv_iload_n hx hb dX6_leave_113 rfl (lv_at hl 0 rfl) ?_
      refine lv_if_ne (tgt := 122) hx hb dX6_leave_114 (by decide) (fun c16 => ?_) (fun c16 => ?_)
      · have h := (zz_br h).1 c16
        refine lv_iload hx hb dX6_leave_122 (lv_at hl 2 rfl) ?_
        rw [hQ]
        exact zz_iret X G hr hlk dX6_leave_124 h
      have h := (zz_br h).2 (fun q => q c16)
      refine lv_iload hx hb dX6_leave_117 (lv_at hl 1 rfl) ?_
      refine lv_goto (tgt := 124) hx hb dX6_leave_119 (by decide) ?_
      rw [hQ]
      exact zz_iret X G hr hlk dX6_leave_124 h
    have h := (zz_br h).2 (fun q => q c15)
    refine lv_ldc hx hb hown (hts _ kw_550) dX6_leave_110 ?_
    rw [hQ]
    exact zz_iret X G hr hlk dX6_leave_112 h
  have h := (zz_br h).2 (fun q => q c4)
  refine lv_ldc hx hb hown (hts _ kw_500) dX6_leave_16 ?_
  rw [hQ]
  exact zz_iret X G hr hlk dX6_leave_18 h
set_option maxHeartbeats 4000000 in
set_option maxRecDepth 100000 in
theorem w_X6_begin_L42 {p : Program} {l : Launch} {e : Env} {s : State} {m : MethodId} {args : Array Value} {below : List Frame} {meth : Method} {c : Code} {Q : State → Prop} {D : va_G} {ad : Nat → Nat} {cA : Nat → ClassId} {r : Int32} {μ' : zM} (X : zX true D ad cA p s m args c cX6_begin "ButlerWeather" 8) (hQ : Q = MQ below (zQi true D ad cA r μ') args s 0 0 (zA true ad)) (hr : meth.sig.returnType = (some .int)) (hlk : meth.locks = false) {v1 : Int32} {v2 : Int32} {kx : Int32 → Int32 → zM → Option (Int32 × zM)} (HX : ∀ (w4 : Int32) (w5 : Int32) (μ : zM) (H : Heap) (locs : List Loc) (ls : Array Slot), lv_has ls 8 [(2, .int v2), (4, .int w4), (5, .int w5)] → zG true D ad cA s μ H locs → kx w4 w5 μ = some (r, μ') → W p l e ({ frames := 4, cells := 0, slots := 0, locals := 94 } : Room) s m args below meth c H locs 0 0 Q (F0 m 100 ls [])) : ∀ (n : Nat) (v4 : Int32) (v5 : Int32) (v6 : Int32) (μ : zM) (H : Heap) (locs : List Loc) (ls : Array Slot), lv_has ls 8 [(0, .ref (ad 0)), (1, .int v1), (2, .int v2), (4, .int v4), (5, .int v5), (6, .int v6)] → zG true D ad cA s μ H locs → f_X6_begin_L42 v1 v2 kx n v4 v5 v6 μ = some (r, μ') → W p l e ({ frames := 4, cells := 0, slots := 0, locals := 94 } : Room) s m args below meth c H locs 0 0 Q (F0 m 42 ls []) := by
  obtain ⟨hx, hb, hml, hown, hts, -, -, -⟩ := id X
  intro n
  induction n with
  | zero =>
    intro v4 v5 v6 μ H locs ls hl G h
    cases (show (none : Option (Int32 × zM)) = some (r, μ') from h)
  | succ n ih =>
    intro v4 v5 v6 μ H locs ls hl G h
    rw [f_X6_begin_L42] at h
    refine lv_iload hx hb dX6_begin_42 (lv_at hl 5 rfl) ?_
    refine lv_bipush (v := (24 : Int32)) hx hb dX6_begin_44 (by decide) ?_
    refine lv_icmp_ge (tgt := 100) hx hb dX6_begin_46 (by decide) (fun c5 => ?_) (fun c5 => ?_)
    · have h := (zz_br h).1 c5
      exact HX v4 v5 μ _ _ _ (lv_sub hl [2, 3, 4] rfl) G h
    have h := (zz_br h).2 c5
    refine lv_aload_n hx hb dX6_begin_49 rfl (lv_at hl 0 rfl) ?_
    refine zz_getr X G fr_6_5 tl_0 rl_0_5 kw_259 dX6_begin_50 ?_
    refine zz_getr X G fr_2_8 tl_34 rl_34_8 kw_196 dX6_begin_53 ?_
    refine lv_iload_n hx hb dX6_begin_56 rfl (lv_at hl 1 rfl) ?_
    refine lv_iload hx hb dX6_begin_57 (lv_at hl 5 rfl) ?_
    refine zz_iast X G ia_10 tl_41 dX6_begin_59 h (fun μ H locs G h => ?_)
    refine lv_aload_n hx hb dX6_begin_60 rfl (lv_at hl 0 rfl) ?_
    refine zz_getr X G fr_6_5 tl_0 rl_0_5 kw_259 dX6_begin_61 ?_
    refine zz_cv (rest := []) G h (fun r μ1 hf => zz_runV X G rc_2 tl_34 cv_X2_live kw_370 (c_X2_live l D ad cA tl_34 hf) ⟨rfl, rfl, Nat.le_of_ble_eq_true rfl, Nat.le_of_ble_eq_true rfl⟩ rfl rfl hl.1 (Nat.le_of_ble_eq_true rfl) dX6_begin_64) (fun _ μ H locs G h => ?_)
    refine lv_aload_n hx hb dX6_begin_67 rfl (lv_at hl 0 rfl) ?_
    refine zz_getr X G fr_6_5 tl_0 rl_0_5 kw_259 dX6_begin_68 ?_
    refine zz_ci (rest := []) G h (fun r μ1 hf => zz_runV X G rc_2 tl_34 cv_X2_everIn kw_555 (c_X2_everIn l D ad cA tl_34 hf) ⟨rfl, rfl, Nat.le_of_ble_eq_true rfl, Nat.le_of_ble_eq_true rfl⟩ rfl rfl hl.1 (Nat.le_of_ble_eq_true rfl) dX6_begin_71) (fun x6 μ H locs G h => ?_)
    refine zz_ci (rest := []) G h (fun r μ1 hf => zz_runS X G cs_J6_bitCount_0f7a4 kw_559 (c_J6_bitCount_0f7a4 l D ad cA  hf) ⟨rfl, rfl, Nat.le_of_ble_eq_true rfl, Nat.le_of_ble_eq_true rfl⟩ rfl rfl hl.1 (Nat.le_of_ble_eq_true rfl) dX6_begin_74) (fun x7 μ H locs G h => ?_)
    refine lv_istore (lv' := [(7, .int x7), (0, .ref (ad 0)), (1, .int v1), (2, .int v2), (4, .int v4), (5, .int v5), (6, .int v6)]) hx hb dX6_begin_77 hl (by decide) rfl (fun ls hl => ?_)
    refine lv_iload hx hb dX6_begin_79 (lv_at hl 0 rfl) ?_
    refine lv_iload hx hb dX6_begin_81 (lv_at hl 5 rfl) ?_
    refine lv_icmp_le (tgt := 94) hx hb dX6_begin_83 (by decide) (fun c8 => ?_) (fun c8 => ?_)
    · have h := (zz_br h).1 c8
      obtain ⟨x9, ex9, h⟩ := zz_let h
      refine lv_iinc (v := x9) (lv' := [(6, .int x9), (7, .int x7), (0, .ref (ad 0)), (1, .int v1), (2, .int v2), (4, .int v4), (5, .int v5)]) hx hb dX6_begin_94 hl (k := 6) rfl (by rw [← ex9]; rfl) (by decide) rfl (fun ls hl => ?_)
      refine lv_goto (tgt := 42) hx hb dX6_begin_97 (by decide) ?_
      exact ih v4 v5 x9 μ _ _ _ (lv_sub hl [2, 3, 4, 5, 6, 0] rfl) G h
    have h := (zz_br h).2 c8
    refine lv_iload hx hb dX6_begin_86 (lv_at hl 6 rfl) ?_
    refine lv_istore (lv' := [(4, .int v6), (7, .int x7), (0, .ref (ad 0)), (1, .int v1), (2, .int v2), (5, .int v5), (6, .int v6)]) hx hb dX6_begin_88 hl (by decide) rfl (fun ls hl => ?_)
    refine lv_iload hx hb dX6_begin_90 (lv_at hl 1 rfl) ?_
    refine lv_istore (lv' := [(5, .int x7), (4, .int v6), (7, .int x7), (0, .ref (ad 0)), (1, .int v1), (2, .int v2), (6, .int v6)]) hx hb dX6_begin_92 hl (by decide) rfl (fun ls hl => ?_)
    obtain ⟨x10, ex10, h⟩ := zz_let h
    refine lv_iinc (v := x10) (lv' := [(6, .int x10), (5, .int x7), (4, .int v6), (7, .int x7), (0, .ref (ad 0)), (1, .int v1), (2, .int v2)]) hx hb dX6_begin_94 hl (k := 6) rfl (by rw [← ex10]; rfl) (by decide) rfl (fun ls hl => ?_)
    refine lv_goto (tgt := 42) hx hb dX6_begin_97 (by decide) ?_
    exact ih v6 x7 x10 μ _ _ _ (lv_sub hl [4, 5, 6, 2, 1, 0] rfl) G h
set_option maxHeartbeats 4000000 in
set_option maxRecDepth 100000 in
theorem c_X6_begin (l : Launch) (D : va_G) (ad : Nat → Nat) (cA : Nat → ClassId) {a1 : Int32} {a2 : Int32} {μ : zM} {r : Int32} {μ' : zM} (h : f_X6_begin a1 a2 μ = some (r, μ')) : zMet true D ad cA l yX6_begin cX6_begin 8 (some .int) ({ frames := 4, cells := 0, slots := 0, locals := 94 } : Room) [.ref (ad 0), .int a1, .int a2] μ (zQi true D ad cA r μ') := by
  refine zMet_of "ButlerWeather" ⟨by decide, rfl⟩ (Nat.le_of_ble_eq_true rfl) ?_
  intro p e s m args below meth c X G hr hlk ls hl
  have hl : lv_has ls 8 [(0, .ref (ad 0)), (1, .int a1), (2, .int a2)] := hl
  obtain ⟨hx, hb, hml, hown, hts, -, -, -⟩ := id X
  obtain ⟨Q, hQ⟩ : ∃ Q, Q = MQ below (zQi true D ad cA r μ') args s 0 0 (zA true ad) := ⟨_, rfl⟩
  rw [← hQ]
  unfold f_X6_begin at h
  refine lv_aload_n hx hb dX6_begin_0 rfl (lv_at hl 0 rfl) ?_
  refine zz_cr (rest := []) G h (fun r μ1 hf => zz_runV X G rc_6 tl_0 cv_X6_told kw_332 (c_X6_told l D ad cA  hf) ⟨rfl, rfl, Nat.le_of_ble_eq_true rfl, Nat.le_of_ble_eq_true rfl⟩ rfl rfl hl.1 (Nat.le_of_ble_eq_true rfl) dX6_begin_1) (fun _ μ H locs G h => ?_)
  refine lv_astore_n (lv' := [(3, .ref (ad 21)), (0, .ref (ad 0)), (1, .int a1), (2, .int a2)]) hx hb dX6_begin_4 rfl hl (by decide) rfl (fun ls hl => ?_)
  refine lv_aload_n hx hb dX6_begin_5 rfl (lv_at hl 0 rfl) ?_
  refine lv_iload_n hx hb dX6_begin_6 rfl (lv_at hl 2 rfl) ?_
  refine zz_ci (rest := []) G h (fun r μ1 hf => zz_runV X G rc_2 tl_21 cv_X2_hasMan kw_414 (c_X2_hasMan l D ad cA tl_21 hf) ⟨rfl, rfl, Nat.le_of_ble_eq_true rfl, Nat.le_of_ble_eq_true rfl⟩ rfl rfl hl.1 (Nat.le_of_ble_eq_true rfl) dX6_begin_7) (fun x1 μ H locs G h => ?_)
  refine lv_if_eq (tgt := 22) hx hb dX6_begin_10 (by decide) (fun c2 => ?_) (fun c2 => ?_)
  · have h := (zz_br h).1 c2
    refine lv_bipush (v := (-2 : Int32)) hx hb dX6_begin_22 (by decide) ?_
    rw [hQ]
    exact zz_iret X G hr hlk dX6_begin_24 h
  have h := (zz_br h).2 c2
  refine lv_iload_n hx hb dX6_begin_13 rfl (lv_at hl 3 rfl) ?_
  refine lv_iconst (v := (0 : Int32)) hx hb dX6_begin_14 (by decide) ?_
  refine lv_iconst (v := (1 : Int32)) hx hb dX6_begin_15 (by decide) ?_
  refine zz_ci (rest := []) G h (fun r μ1 hf => zz_runS X G cs_X6_within kw_289 (c_X6_within l D ad cA  hf) ⟨rfl, rfl, Nat.le_of_ble_eq_true rfl, Nat.le_of_ble_eq_true rfl⟩ rfl rfl hl.1 (Nat.le_of_ble_eq_true rfl) dX6_begin_16) (fun x3 μ H locs G h => ?_)
  refine lv_if_ne (tgt := 25) hx hb dX6_begin_19 (by decide) (fun c4 => ?_) (fun c4 => ?_)
  · have h := (zz_br h).1 c4
    refine lv_aload_n hx hb dX6_begin_25 rfl (lv_at hl 1 rfl) ?_
    refine zz_getr X G fr_6_5 tl_0 rl_0_5 kw_259 dX6_begin_26 ?_
    refine lv_aload_n hx hb dX6_begin_29 rfl (lv_at hl 0 rfl) ?_
    refine zz_cv (rest := []) G h (fun r μ1 hf => zz_runV X G rc_2 tl_34 cv_X2_become kw_545 (c_X2_become l D ad cA tl_34 tl_21 hf) ⟨rfl, rfl, Nat.le_of_ble_eq_true rfl, Nat.le_of_ble_eq_true rfl⟩ rfl rfl hl.1 (Nat.le_of_ble_eq_true rfl) dX6_begin_30) (fun _ μ H locs G h => ?_)
    refine lv_iconst (v := (-1 : Int32)) hx hb dX6_begin_33 (by decide) ?_
    refine lv_istore (lv' := [(4, .int (-1 : Int32)), (3, .ref (ad 21)), (0, .ref (ad 0)), (1, .int a1), (2, .int a2)]) hx hb dX6_begin_34 hl (by decide) rfl (fun ls hl => ?_)
    refine lv_iconst (v := (-1 : Int32)) hx hb dX6_begin_36 (by decide) ?_
    refine lv_istore (lv' := [(5, .int (-1 : Int32)), (4, .int (-1 : Int32)), (3, .ref (ad 21)), (0, .ref (ad 0)), (1, .int a1), (2, .int a2)]) hx hb dX6_begin_37 hl (by decide) rfl (fun ls hl => ?_)
    refine lv_iconst (v := (0 : Int32)) hx hb dX6_begin_39 (by decide) ?_
    refine lv_istore (lv' := [(6, .int (0 : Int32)), (5, .int (-1 : Int32)), (4, .int (-1 : Int32)), (3, .ref (ad 21)), (0, .ref (ad 0)), (1, .int a1), (2, .int a2)]) hx hb dX6_begin_40 hl (by decide) rfl (fun ls hl => ?_)
    refine w_X6_begin_L42 X hQ hr hlk  (fun x11 x12 μ H locs ls hl G h => ?_) 400 (-1 : Int32) (-1 : Int32) (0 : Int32) μ _ _ _ (lv_sub hl [4, 5, 6, 2, 1, 0] rfl) G h
    refine lv_iload_n hx hb dX6_begin_100 rfl (lv_at hl 0 rfl) ?_
    refine lv_if_ne (tgt := 109) hx hb dX6_begin_101 (by decide) (fun c13 => ?_) (fun c13 => ?_)
    · have h := (zz_br h).1 c13
      refine lv_iload hx hb dX6_begin_109 (lv_at hl 2 rfl) ?_
      rw [hQ]
      exact zz_iret X G hr hlk dX6_begin_111 h
    have h := (zz_br h).2 (fun q => q c13)
    refine lv_iload hx hb dX6_begin_104 (lv_at hl 1 rfl) ?_
    refine lv_goto (tgt := 111) hx hb dX6_begin_106 (by decide) ?_
    rw [hQ]
    exact zz_iret X G hr hlk dX6_begin_111 h
  have h := (zz_br h).2 (fun q => q c4)
  refine lv_bipush (v := (-2 : Int32)) hx hb dX6_begin_22 (by decide) ?_
  rw [hQ]
  exact zz_iret X G hr hlk dX6_begin_24 h
set_option maxHeartbeats 4000000 in
set_option maxRecDepth 100000 in
theorem w_X6_patience_L26 {p : Program} {l : Launch} {e : Env} {s : State} {m : MethodId} {args : Array Value} {below : List Frame} {meth : Method} {c : Code} {Q : State → Prop} {D : va_G} {ad : Nat → Nat} {cA : Nat → ClassId} {r : Int32} {μ' : zM} (X : zX true D ad cA p s m args c cX6_patience "ButlerWeather" 4) (hQ : Q = MQ below (zQi true D ad cA r μ') args s 0 0 (zA true ad)) (hr : meth.sig.returnType = (some .int)) (hlk : meth.locks = false) {v1 : Int32} {kx : zM → Option (Int32 × zM)} (HX : ∀ (μ : zM) (H : Heap) (locs : List Loc) (ls : Array Slot), lv_has ls 4 [] → zG true D ad cA s μ H locs → kx  μ = some (r, μ') → W p l e ({ frames := 4, cells := 0, slots := 0, locals := 94 } : Room) s m args below meth c H locs 0 0 Q (F0 m 70 ls [])) : ∀ (n : Nat) (v3 : Int32) (μ : zM) (H : Heap) (locs : List Loc) (ls : Array Slot), lv_has ls 4 [(0, .ref (ad 0)), (1, .int v1), (3, .int v3)] → zG true D ad cA s μ H locs → f_X6_patience_L26 v1 kx n v3 μ = some (r, μ') → W p l e ({ frames := 4, cells := 0, slots := 0, locals := 94 } : Room) s m args below meth c H locs 0 0 Q (F0 m 26 ls []) := by
  obtain ⟨hx, hb, hml, hown, hts, -, -, -⟩ := id X
  intro n
  induction n with
  | zero =>
    intro v3 μ H locs ls hl G h
    cases (show (none : Option (Int32 × zM)) = some (r, μ') from h)
  | succ n ih =>
    intro v3 μ H locs ls hl G h
    rw [f_X6_patience_L26] at h
    refine lv_iload_n hx hb dX6_patience_26 rfl (lv_at hl 2 rfl) ?_
    refine lv_bipush (v := (9 : Int32)) hx hb dX6_patience_27 (by decide) ?_
    refine lv_icmp_gt (tgt := 70) hx hb dX6_patience_29 (by decide) (fun c3 => ?_) (fun c3 => ?_)
    · have h := (zz_br h).1 c3
      exact HX  μ _ _ _ (lv_sub hl [] rfl) G h
    have h := (zz_br h).2 c3
    refine lv_aload_n hx hb dX6_patience_32 rfl (lv_at hl 0 rfl) ?_
    refine zz_getr X G fr_6_5 tl_0 rl_0_5 kw_259 dX6_patience_33 ?_
    refine zz_getr X G fr_2_2 tl_34 rl_34_2 kw_185 dX6_patience_36 ?_
    refine lv_iload_n hx hb dX6_patience_39 rfl (lv_at hl 1 rfl) ?_
    refine lv_iload_n hx hb dX6_patience_40 rfl (lv_at hl 2 rfl) ?_
    refine zz_iast X G ia_10 tl_36 dX6_patience_41 h (fun μ H locs G h => ?_)
    refine lv_aload_n hx hb dX6_patience_42 rfl (lv_at hl 0 rfl) ?_
    refine zz_getr X G fr_6_5 tl_0 rl_0_5 kw_259 dX6_patience_43 ?_
    refine zz_cv (rest := []) G h (fun r μ1 hf => zz_runV X G rc_2 tl_34 cv_X2_live kw_370 (c_X2_live l D ad cA tl_34 hf) ⟨rfl, rfl, Nat.le_of_ble_eq_true rfl, Nat.le_of_ble_eq_true rfl⟩ rfl rfl hl.1 (Nat.le_of_ble_eq_true rfl) dX6_patience_46) (fun _ μ H locs G h => ?_)
    refine lv_aload_n hx hb dX6_patience_49 rfl (lv_at hl 0 rfl) ?_
    refine zz_getr X G fr_6_5 tl_0 rl_0_5 kw_259 dX6_patience_50 ?_
    refine zz_getr X G fr_2_11 tl_34 rl_34_11 kw_202 dX6_patience_53 ?_
    refine lv_iload_n hx hb dX6_patience_56 rfl (lv_at hl 1 rfl) ?_
    refine zz_iald X G ia_10 tl_44 dX6_patience_57 h (fun x4 h => ?_)
    refine lv_iconst (v := (-1 : Int32)) hx hb dX6_patience_58 (by decide) ?_
    refine lv_icmp_eq (tgt := 64) hx hb dX6_patience_59 (by decide) (fun c5 => ?_) (fun c5 => ?_)
    · have h := (zz_br h).1 c5
      obtain ⟨x6, ex6, h⟩ := zz_let h
      refine lv_iinc (v := x6) (lv' := [(3, .int x6), (0, .ref (ad 0)), (1, .int v1)]) hx hb dX6_patience_64 hl (k := 2) rfl (by rw [← ex6]; rfl) (by decide) rfl (fun ls hl => ?_)
      refine lv_goto (tgt := 26) hx hb dX6_patience_67 (by decide) ?_
      exact ih x6 μ _ _ _ (lv_sub hl [1, 2, 0] rfl) G h
    have h := (zz_br h).2 c5
    refine lv_iload_n hx hb dX6_patience_62 rfl (lv_at hl 2 rfl) ?_
    rw [hQ]
    exact zz_iret X G hr hlk dX6_patience_63 h
set_option maxHeartbeats 4000000 in
set_option maxRecDepth 100000 in
theorem c_X6_patience (l : Launch) (D : va_G) (ad : Nat → Nat) (cA : Nat → ClassId) {a1 : Int32} {μ : zM} {r : Int32} {μ' : zM} (h : f_X6_patience a1 μ = some (r, μ')) : zMet true D ad cA l yX6_patience cX6_patience 4 (some .int) ({ frames := 4, cells := 0, slots := 0, locals := 94 } : Room) [.ref (ad 0), .int a1] μ (zQi true D ad cA r μ') := by
  refine zMet_of "ButlerWeather" ⟨by decide, rfl⟩ (Nat.le_of_ble_eq_true rfl) ?_
  intro p e s m args below meth c X G hr hlk ls hl
  have hl : lv_has ls 4 [(0, .ref (ad 0)), (1, .int a1)] := hl
  obtain ⟨hx, hb, hml, hown, hts, -, -, -⟩ := id X
  obtain ⟨Q, hQ⟩ : ∃ Q, Q = MQ below (zQi true D ad cA r μ') args s 0 0 (zA true ad) := ⟨_, rfl⟩
  rw [← hQ]
  unfold f_X6_patience at h
  refine lv_aload_n hx hb dX6_patience_0 rfl (lv_at hl 0 rfl) ?_
  refine zz_cr (rest := []) G h (fun r μ1 hf => zz_runV X G rc_6 tl_0 cv_X6_told kw_332 (c_X6_told l D ad cA  hf) ⟨rfl, rfl, Nat.le_of_ble_eq_true rfl, Nat.le_of_ble_eq_true rfl⟩ rfl rfl hl.1 (Nat.le_of_ble_eq_true rfl) dX6_patience_1) (fun _ μ H locs G h => ?_)
  refine lv_astore_n (lv' := [(2, .ref (ad 21)), (0, .ref (ad 0)), (1, .int a1)]) hx hb dX6_patience_4 rfl hl (by decide) rfl (fun ls hl => ?_)
  refine lv_aload_n hx hb dX6_patience_5 rfl (lv_at hl 0 rfl) ?_
  refine lv_iload_n hx hb dX6_patience_6 rfl (lv_at hl 2 rfl) ?_
  refine zz_ci (rest := []) G h (fun r μ1 hf => zz_runV X G rc_2 tl_21 cv_X2_hasCaller kw_406 (c_X2_hasCaller l D ad cA tl_21 hf) ⟨rfl, rfl, Nat.le_of_ble_eq_true rfl, Nat.le_of_ble_eq_true rfl⟩ rfl rfl hl.1 (Nat.le_of_ble_eq_true rfl) dX6_patience_7) (fun x1 μ H locs G h => ?_)
  refine lv_if_ne (tgt := 16) hx hb dX6_patience_10 (by decide) (fun c2 => ?_) (fun c2 => ?_)
  · have h := (zz_br h).1 c2
    refine lv_aload_n hx hb dX6_patience_16 rfl (lv_at hl 1 rfl) ?_
    refine zz_getr X G fr_6_5 tl_0 rl_0_5 kw_259 dX6_patience_17 ?_
    refine lv_aload_n hx hb dX6_patience_20 rfl (lv_at hl 0 rfl) ?_
    refine zz_cv (rest := []) G h (fun r μ1 hf => zz_runV X G rc_2 tl_34 cv_X2_become kw_545 (c_X2_become l D ad cA tl_34 tl_21 hf) ⟨rfl, rfl, Nat.le_of_ble_eq_true rfl, Nat.le_of_ble_eq_true rfl⟩ rfl rfl hl.1 (Nat.le_of_ble_eq_true rfl) dX6_patience_21) (fun _ μ H locs G h => ?_)
    refine lv_iconst (v := (1 : Int32)) hx hb dX6_patience_24 (by decide) ?_
    refine lv_istore_n (lv' := [(3, .int (1 : Int32)), (2, .ref (ad 21)), (0, .ref (ad 0)), (1, .int a1)]) hx hb dX6_patience_25 rfl hl (by decide) rfl (fun ls hl => ?_)
    refine w_X6_patience_L26 X hQ hr hlk  (fun  μ H locs ls hl G h => ?_) 400 (1 : Int32) μ _ _ _ (lv_sub hl [2, 3, 0] rfl) G h
    refine lv_iconst (v := (-1 : Int32)) hx hb dX6_patience_70 (by decide) ?_
    rw [hQ]
    exact zz_iret X G hr hlk dX6_patience_71 h
  have h := (zz_br h).2 (fun q => q c2)
  refine lv_bipush (v := (-2 : Int32)) hx hb dX6_patience_13 (by decide) ?_
  rw [hQ]
  exact zz_iret X G hr hlk dX6_patience_15 h
set_option maxHeartbeats 4000000 in
set_option maxRecDepth 100000 in
theorem c_X6_noFrostWithout (l : Launch) (D : va_G) (ad : Nat → Nat) (cA : Nat → ClassId) {a1 : Int32} {μ : zM} {r : Int32} {μ' : zM} (h : f_X6_noFrostWithout a1 μ = some (r, μ')) : zMet true D ad cA l yX6_noFrostWithout cX6_noFrostWithout 2 (some .boolean) ({ frames := 3, cells := 0, slots := 0, locals := 72 } : Room) [.ref (ad 0), .int a1] μ (zQi true D ad cA r μ') := by
  refine zMet_of "ButlerWeather" ⟨by decide, rfl⟩ (Nat.le_of_ble_eq_true rfl) ?_
  intro p e s m args below meth c X G hr hlk ls hl
  have hl : lv_has ls 2 [(0, .ref (ad 0)), (1, .int a1)] := hl
  obtain ⟨hx, hb, hml, hown, hts, -, -, -⟩ := id X
  obtain ⟨Q, hQ⟩ : ∃ Q, Q = MQ below (zQi true D ad cA r μ') args s 0 0 (zA true ad) := ⟨_, rfl⟩
  rw [← hQ]
  unfold f_X6_noFrostWithout at h
  refine lv_aload_n hx hb dX6_noFrostWithout_0 rfl (lv_at hl 0 rfl) ?_
  refine zz_getr X G fr_6_1 tl_0 rl_0_1 kw_255 dX6_noFrostWithout_1 ?_
  refine lv_iload_n hx hb dX6_noFrostWithout_4 rfl (lv_at hl 1 rfl) ?_
  refine lv_aload_n hx hb dX6_noFrostWithout_5 rfl (lv_at hl 0 rfl) ?_
  refine zz_getr X G fr_6_5 tl_0 rl_0_5 kw_259 dX6_noFrostWithout_6 ?_
  refine zz_cv (rest := []) G h (fun r μ1 hf => zz_runV X G rc_0 tl_6 cv_X0_inviteAllBut kw_357 (c_X0_inviteAllBut l D ad cA tl_34 hf) ⟨rfl, rfl, Nat.le_of_ble_eq_true rfl, Nat.le_of_ble_eq_true rfl⟩ rfl rfl hl.1 (Nat.le_of_ble_eq_true rfl) dX6_noFrostWithout_9) (fun _ μ H locs G h => ?_)
  refine lv_aload_n hx hb dX6_noFrostWithout_12 rfl (lv_at hl 0 rfl) ?_
  refine zz_getr X G fr_6_5 tl_0 rl_0_5 kw_259 dX6_noFrostWithout_13 ?_
  refine zz_cv (rest := []) G h (fun r μ1 hf => zz_runV X G rc_2 tl_34 cv_X2_live kw_370 (c_X2_live l D ad cA tl_34 hf) ⟨rfl, rfl, Nat.le_of_ble_eq_true rfl, Nat.le_of_ble_eq_true rfl⟩ rfl rfl hl.1 (Nat.le_of_ble_eq_true rfl) dX6_noFrostWithout_16) (fun _ μ H locs G h => ?_)
  refine lv_aload_n hx hb dX6_noFrostWithout_19 rfl (lv_at hl 0 rfl) ?_
  refine zz_getr X G fr_6_5 tl_0 rl_0_5 kw_259 dX6_noFrostWithout_20 ?_
  refine lv_iconst (v := (1 : Int32)) hx hb dX6_noFrostWithout_23 (by decide) ?_
  refine zz_ci (rest := []) G h (fun r μ1 hf => zz_runV X G rc_2 tl_34 cv_X2_hasNamed kw_581 (c_X2_hasNamed l D ad cA tl_34 hf) ⟨rfl, rfl, Nat.le_of_ble_eq_true rfl, Nat.le_of_ble_eq_true rfl⟩ rfl rfl hl.1 (Nat.le_of_ble_eq_true rfl) dX6_noFrostWithout_24) (fun x1 μ H locs G h => ?_)
  refine lv_if_ne (tgt := 34) hx hb dX6_noFrostWithout_27 (by decide) (fun c2 => ?_) (fun c2 => ?_)
  · have h := (zz_br h).1 c2
    refine lv_iconst (v := (0 : Int32)) hx hb dX6_noFrostWithout_34 (by decide) ?_
    rw [hQ]
    exact zz_zret X G hr hlk dX6_noFrostWithout_35 h
  have h := (zz_br h).2 (fun q => q c2)
  refine lv_iconst (v := (1 : Int32)) hx hb dX6_noFrostWithout_30 (by decide) ?_
  refine lv_goto (tgt := 35) hx hb dX6_noFrostWithout_31 (by decide) ?_
  rw [hQ]
  exact zz_zret X G hr hlk dX6_noFrostWithout_35 h
set_option maxHeartbeats 4000000 in
set_option maxRecDepth 100000 in
theorem w_X6_cardsToBurn_L20 {p : Program} {l : Launch} {e : Env} {s : State} {m : MethodId} {args : Array Value} {below : List Frame} {meth : Method} {c : Code} {Q : State → Prop} {D : va_G} {ad : Nat → Nat} {cA : Nat → ClassId} {r : Int32} {μ' : zM} (X : zX true D ad cA p s m args c cX6_cardsToBurn "ButlerWeather" 4) (hQ : Q = MQ below (zQi true D ad cA r μ') args s 0 0 (zA true ad)) (hr : meth.sig.returnType = (some .int)) (hlk : meth.locks = false)  {kx : zM → Option (Int32 × zM)} (HX : ∀ (μ : zM) (H : Heap) (locs : List Loc) (ls : Array Slot), lv_has ls 4 [(0, .ref (ad 0))] → zG true D ad cA s μ H locs → kx  μ = some (r, μ') → W p l e ({ frames := 4, cells := 0, slots := 0, locals := 93 } : Room) s m args below meth c H locs 0 0 Q (F0 m 51 ls [])) : ∀ (n : Nat) (v2 : Int32) (μ : zM) (H : Heap) (locs : List Loc) (ls : Array Slot), lv_has ls 4 [(0, .ref (ad 0)), (2, .int v2)] → zG true D ad cA s μ H locs → f_X6_cardsToBurn_L20 kx n v2 μ = some (r, μ') → W p l e ({ frames := 4, cells := 0, slots := 0, locals := 93 } : Room) s m args below meth c H locs 0 0 Q (F0 m 20 ls []) := by
  obtain ⟨hx, hb, hml, hown, hts, -, -, -⟩ := id X
  intro n
  induction n with
  | zero =>
    intro v2 μ H locs ls hl G h
    cases (show (none : Option (Int32 × zM)) = some (r, μ') from h)
  | succ n ih =>
    intro v2 μ H locs ls hl G h
    rw [f_X6_cardsToBurn_L20] at h
    refine lv_iload_n hx hb dX6_cardsToBurn_20 rfl (lv_at hl 1 rfl) ?_
    refine lv_aload_n hx hb dX6_cardsToBurn_21 rfl (lv_at hl 0 rfl) ?_
    refine zz_getr X G fr_6_1 tl_0 rl_0_1 kw_255 dX6_cardsToBurn_22 ?_
    refine zz_geti X G fi_0_2 tl_6 kw_127 dX6_cardsToBurn_25 h (fun x3 h => ?_)
    refine lv_icmp_ge (tgt := 51) hx hb dX6_cardsToBurn_28 (by decide) (fun c4 => ?_) (fun c4 => ?_)
    · have h := (zz_br h).1 c4
      exact HX  μ _ _ _ (lv_sub hl [0] rfl) G h
    have h := (zz_br h).2 c4
    refine lv_aload_n hx hb dX6_cardsToBurn_31 rfl (lv_at hl 0 rfl) ?_
    refine lv_iconst (v := (1 : Int32)) hx hb dX6_cardsToBurn_32 (by decide) ?_
    refine lv_iload_n hx hb dX6_cardsToBurn_33 rfl (lv_at hl 1 rfl) ?_
    refine lv_ishl hx hb dX6_cardsToBurn_34 ?_
    refine zz_ci (rest := []) G h (fun r μ1 hf => zz_runV X G rc_6 tl_0 cv_X6_noFrostWithout kw_577 (c_X6_noFrostWithout l D ad cA  hf) ⟨rfl, rfl, Nat.le_of_ble_eq_true rfl, Nat.le_of_ble_eq_true rfl⟩ rfl rfl hl.1 (Nat.le_of_ble_eq_true rfl) dX6_cardsToBurn_35) (fun x5 μ H locs G h => ?_)
    refine lv_if_eq (tgt := 45) hx hb dX6_cardsToBurn_38 (by decide) (fun c6 => ?_) (fun c6 => ?_)
    · have h := (zz_br h).1 c6
      obtain ⟨x7, ex7, h⟩ := zz_let h
      refine lv_iinc (v := x7) (lv' := [(2, .int x7), (0, .ref (ad 0))]) hx hb dX6_cardsToBurn_45 hl (k := 1) rfl (by rw [← ex7]; rfl) (by decide) rfl (fun ls hl => ?_)
      refine lv_goto (tgt := 20) hx hb dX6_cardsToBurn_48 (by decide) ?_
      exact ih x7 μ _ _ _ (lv_sub hl [1, 0] rfl) G h
    have h := (zz_br h).2 c6
    refine lv_iconst (v := (1 : Int32)) hx hb dX6_cardsToBurn_41 (by decide) ?_
    refine lv_iload_n hx hb dX6_cardsToBurn_42 rfl (lv_at hl 1 rfl) ?_
    refine lv_ishl hx hb dX6_cardsToBurn_43 ?_
    rw [hQ]
    exact zz_iret X G hr hlk dX6_cardsToBurn_44 h
set_option maxHeartbeats 4000000 in
set_option maxRecDepth 100000 in
theorem w_X6_cardsToBurn_L68 {p : Program} {l : Launch} {e : Env} {s : State} {m : MethodId} {args : Array Value} {below : List Frame} {meth : Method} {c : Code} {Q : State → Prop} {D : va_G} {ad : Nat → Nat} {cA : Nat → ClassId} {r : Int32} {μ' : zM} (X : zX true D ad cA p s m args c cX6_cardsToBurn "ButlerWeather" 4) (hQ : Q = MQ below (zQi true D ad cA r μ') args s 0 0 (zA true ad)) (hr : meth.sig.returnType = (some .int)) (hlk : meth.locks = false) {v2 : Int32} {kx : zM → Option (Int32 × zM)} (HX : ∀ (μ : zM) (H : Heap) (locs : List Loc) (ls : Array Slot), lv_has ls 4 [(0, .ref (ad 0)), (2, .int v2)] → zG true D ad cA s μ H locs → kx  μ = some (r, μ') → W p l e ({ frames := 4, cells := 0, slots := 0, locals := 93 } : Room) s m args below meth c H locs 0 0 Q (F0 m 107 ls [])) : ∀ (n : Nat) (v3 : Int32) (μ : zM) (H : Heap) (locs : List Loc) (ls : Array Slot), lv_has ls 4 [(0, .ref (ad 0)), (2, .int v2), (3, .int v3)] → zG true D ad cA s μ H locs → f_X6_cardsToBurn_L68 v2 kx n v3 μ = some (r, μ') → W p l e ({ frames := 4, cells := 0, slots := 0, locals := 93 } : Room) s m args below meth c H locs 0 0 Q (F0 m 68 ls []) := by
  obtain ⟨hx, hb, hml, hown, hts, -, -, -⟩ := id X
  intro n
  induction n with
  | zero =>
    intro v3 μ H locs ls hl G h
    cases (show (none : Option (Int32 × zM)) = some (r, μ') from h)
  | succ n ih =>
    intro v3 μ H locs ls hl G h
    rw [f_X6_cardsToBurn_L68] at h
    refine lv_iload_n hx hb dX6_cardsToBurn_68 rfl (lv_at hl 2 rfl) ?_
    refine lv_aload_n hx hb dX6_cardsToBurn_69 rfl (lv_at hl 0 rfl) ?_
    refine zz_getr X G fr_6_1 tl_0 rl_0_1 kw_255 dX6_cardsToBurn_70 ?_
    refine zz_geti X G fi_0_2 tl_6 kw_127 dX6_cardsToBurn_73 h (fun x11 h => ?_)
    refine lv_icmp_ge (tgt := 107) hx hb dX6_cardsToBurn_76 (by decide) (fun c12 => ?_) (fun c12 => ?_)
    · have h := (zz_br h).1 c12
      exact HX  μ _ _ _ (lv_sub hl [0, 1] rfl) G h
    have h := (zz_br h).2 c12
    refine lv_aload_n hx hb dX6_cardsToBurn_79 rfl (lv_at hl 0 rfl) ?_
    refine lv_iconst (v := (1 : Int32)) hx hb dX6_cardsToBurn_80 (by decide) ?_
    refine lv_iload_n hx hb dX6_cardsToBurn_81 rfl (lv_at hl 1 rfl) ?_
    refine lv_ishl hx hb dX6_cardsToBurn_82 ?_
    refine lv_iconst (v := (1 : Int32)) hx hb dX6_cardsToBurn_83 (by decide) ?_
    refine lv_iload_n hx hb dX6_cardsToBurn_84 rfl (lv_at hl 2 rfl) ?_
    refine lv_ishl hx hb dX6_cardsToBurn_85 ?_
    refine lv_ior hx hb dX6_cardsToBurn_86 ?_
    refine zz_ci (rest := []) G h (fun r μ1 hf => zz_runV X G rc_6 tl_0 cv_X6_noFrostWithout kw_577 (c_X6_noFrostWithout l D ad cA  hf) ⟨rfl, rfl, Nat.le_of_ble_eq_true rfl, Nat.le_of_ble_eq_true rfl⟩ rfl rfl hl.1 (Nat.le_of_ble_eq_true rfl) dX6_cardsToBurn_87) (fun x13 μ H locs G h => ?_)
    refine lv_if_eq (tgt := 101) hx hb dX6_cardsToBurn_90 (by decide) (fun c14 => ?_) (fun c14 => ?_)
    · have h := (zz_br h).1 c14
      obtain ⟨x15, ex15, h⟩ := zz_let h
      refine lv_iinc (v := x15) (lv' := [(3, .int x15), (0, .ref (ad 0)), (2, .int v2)]) hx hb dX6_cardsToBurn_101 hl (k := 2) rfl (by rw [← ex15]; rfl) (by decide) rfl (fun ls hl => ?_)
      refine lv_goto (tgt := 68) hx hb dX6_cardsToBurn_104 (by decide) ?_
      exact ih x15 μ _ _ _ (lv_sub hl [1, 2, 0] rfl) G h
    have h := (zz_br h).2 c14
    refine lv_iconst (v := (1 : Int32)) hx hb dX6_cardsToBurn_93 (by decide) ?_
    refine lv_iload_n hx hb dX6_cardsToBurn_94 rfl (lv_at hl 1 rfl) ?_
    refine lv_ishl hx hb dX6_cardsToBurn_95 ?_
    refine lv_iconst (v := (1 : Int32)) hx hb dX6_cardsToBurn_96 (by decide) ?_
    refine lv_iload_n hx hb dX6_cardsToBurn_97 rfl (lv_at hl 2 rfl) ?_
    refine lv_ishl hx hb dX6_cardsToBurn_98 ?_
    refine lv_ior hx hb dX6_cardsToBurn_99 ?_
    rw [hQ]
    exact zz_iret X G hr hlk dX6_cardsToBurn_100 h
set_option maxHeartbeats 4000000 in
set_option maxRecDepth 100000 in
theorem w_X6_cardsToBurn_L53 {p : Program} {l : Launch} {e : Env} {s : State} {m : MethodId} {args : Array Value} {below : List Frame} {meth : Method} {c : Code} {Q : State → Prop} {D : va_G} {ad : Nat → Nat} {cA : Nat → ClassId} {r : Int32} {μ' : zM} (X : zX true D ad cA p s m args c cX6_cardsToBurn "ButlerWeather" 4) (hQ : Q = MQ below (zQi true D ad cA r μ') args s 0 0 (zA true ad)) (hr : meth.sig.returnType = (some .int)) (hlk : meth.locks = false)  {kx : zM → Option (Int32 × zM)} (HX : ∀ (μ : zM) (H : Heap) (locs : List Loc) (ls : Array Slot), lv_has ls 4 [] → zG true D ad cA s μ H locs → kx  μ = some (r, μ') → W p l e ({ frames := 4, cells := 0, slots := 0, locals := 93 } : Room) s m args below meth c H locs 0 0 Q (F0 m 113 ls [])) : ∀ (n : Nat) (v2 : Int32) (μ : zM) (H : Heap) (locs : List Loc) (ls : Array Slot), lv_has ls 4 [(0, .ref (ad 0)), (2, .int v2)] → zG true D ad cA s μ H locs → f_X6_cardsToBurn_L53 kx n v2 μ = some (r, μ') → W p l e ({ frames := 4, cells := 0, slots := 0, locals := 93 } : Room) s m args below meth c H locs 0 0 Q (F0 m 53 ls []) := by
  obtain ⟨hx, hb, hml, hown, hts, -, -, -⟩ := id X
  intro n
  induction n with
  | zero =>
    intro v2 μ H locs ls hl G h
    cases (show (none : Option (Int32 × zM)) = some (r, μ') from h)
  | succ n ih =>
    intro v2 μ H locs ls hl G h
    rw [f_X6_cardsToBurn_L53] at h
    refine lv_iload_n hx hb dX6_cardsToBurn_53 rfl (lv_at hl 1 rfl) ?_
    refine lv_aload_n hx hb dX6_cardsToBurn_54 rfl (lv_at hl 0 rfl) ?_
    refine zz_getr X G fr_6_1 tl_0 rl_0_1 kw_255 dX6_cardsToBurn_55 ?_
    refine zz_geti X G fi_0_2 tl_6 kw_127 dX6_cardsToBurn_58 h (fun x8 h => ?_)
    refine lv_icmp_ge (tgt := 113) hx hb dX6_cardsToBurn_61 (by decide) (fun c9 => ?_) (fun c9 => ?_)
    · have h := (zz_br h).1 c9
      exact HX  μ _ _ _ (lv_sub hl [] rfl) G h
    have h := (zz_br h).2 c9
    refine lv_iload_n hx hb dX6_cardsToBurn_64 rfl (lv_at hl 1 rfl) ?_
    refine lv_iconst (v := (1 : Int32)) hx hb dX6_cardsToBurn_65 (by decide) ?_
    refine lv_iadd hx hb dX6_cardsToBurn_66 ?_
    refine zz_vi h (fun x10 h => ?_)
    refine lv_istore_n (lv' := [(3, .int x10), (0, .ref (ad 0)), (2, .int v2)]) hx hb dX6_cardsToBurn_67 rfl hl (by decide) rfl (fun ls hl => ?_)
    refine w_X6_cardsToBurn_L68 X hQ hr hlk  (fun  μ H locs ls hl G h => ?_) 400 x10 μ _ _ _ (lv_sub hl [1, 2, 0] rfl) G h
    obtain ⟨x16, ex16, h⟩ := zz_let h
    refine lv_iinc (v := x16) (lv' := [(2, .int x16), (0, .ref (ad 0))]) hx hb dX6_cardsToBurn_107 hl (k := 1) rfl (by rw [← ex16]; rfl) (by decide) rfl (fun ls hl => ?_)
    refine lv_goto (tgt := 53) hx hb dX6_cardsToBurn_110 (by decide) ?_
    exact ih x16 μ _ _ _ (lv_sub hl [1, 0] rfl) G h
set_option maxHeartbeats 4000000 in
set_option maxRecDepth 100000 in
theorem c_X6_cardsToBurn (l : Launch) (D : va_G) (ad : Nat → Nat) (cA : Nat → ClassId) {r1 : Nat} (t_r1 : zty r1 = 2) {μ : zM} {r : Int32} {μ' : zM} (h : f_X6_cardsToBurn r1 μ = some (r, μ')) : zMet true D ad cA l yX6_cardsToBurn cX6_cardsToBurn 4 (some .int) ({ frames := 4, cells := 0, slots := 0, locals := 93 } : Room) [.ref (ad 0), .ref (ad r1)] μ (zQi true D ad cA r μ') := by
  refine zMet_of "ButlerWeather" ⟨by decide, rfl⟩ (Nat.le_of_ble_eq_true rfl) ?_
  intro p e s m args below meth c X G hr hlk ls hl
  have hl : lv_has ls 4 [(0, .ref (ad 0)), (1, .ref (ad r1))] := hl
  obtain ⟨hx, hb, hml, hown, hts, -, -, -⟩ := id X
  obtain ⟨Q, hQ⟩ : ∃ Q, Q = MQ below (zQi true D ad cA r μ') args s 0 0 (zA true ad) := ⟨_, rfl⟩
  rw [← hQ]
  unfold f_X6_cardsToBurn at h
  refine lv_aload_n hx hb dX6_cardsToBurn_0 rfl (lv_at hl 0 rfl) ?_
  refine zz_getr X G fr_6_5 tl_0 rl_0_5 kw_259 dX6_cardsToBurn_1 ?_
  refine lv_aload_n hx hb dX6_cardsToBurn_4 rfl (lv_at hl 1 rfl) ?_
  refine zz_cv (rest := []) G h (fun r μ1 hf => zz_runV X G rc_2 tl_34 cv_X2_become kw_545 (c_X2_become l D ad cA tl_34 t_r1 hf) ⟨rfl, rfl, Nat.le_of_ble_eq_true rfl, Nat.le_of_ble_eq_true rfl⟩ rfl rfl hl.1 (Nat.le_of_ble_eq_true rfl) dX6_cardsToBurn_5) (fun _ μ H locs G h => ?_)
  refine lv_aload_n hx hb dX6_cardsToBurn_8 rfl (lv_at hl 0 rfl) ?_
  refine lv_iconst (v := (0 : Int32)) hx hb dX6_cardsToBurn_9 (by decide) ?_
  refine zz_ci (rest := []) G h (fun r μ1 hf => zz_runV X G rc_6 tl_0 cv_X6_noFrostWithout kw_577 (c_X6_noFrostWithout l D ad cA  hf) ⟨rfl, rfl, Nat.le_of_ble_eq_true rfl, Nat.le_of_ble_eq_true rfl⟩ rfl rfl hl.1 (Nat.le_of_ble_eq_true rfl) dX6_cardsToBurn_10) (fun x1 μ H locs G h => ?_)
  refine lv_if_eq (tgt := 18) hx hb dX6_cardsToBurn_13 (by decide) (fun c2 => ?_) (fun c2 => ?_)
  · have h := (zz_br h).1 c2
    refine lv_iconst (v := (0 : Int32)) hx hb dX6_cardsToBurn_18 (by decide) ?_
    refine lv_istore_n (lv' := [(2, .int (0 : Int32)), (0, .ref (ad 0)), (1, .ref (ad r1))]) hx hb dX6_cardsToBurn_19 rfl hl (by decide) rfl (fun ls hl => ?_)
    refine w_X6_cardsToBurn_L20 X hQ hr hlk  (fun  μ H locs ls hl G h => ?_) 400 (0 : Int32) μ _ _ _ (lv_sub hl [1, 0] rfl) G h
    refine lv_iconst (v := (0 : Int32)) hx hb dX6_cardsToBurn_51 (by decide) ?_
    refine lv_istore_n (lv' := [(2, .int (0 : Int32)), (0, .ref (ad 0))]) hx hb dX6_cardsToBurn_52 rfl hl (by decide) rfl (fun ls hl => ?_)
    refine w_X6_cardsToBurn_L53 X hQ hr hlk  (fun  μ H locs ls hl G h => ?_) 400 (0 : Int32) μ _ _ _ (lv_sub hl [1, 0] rfl) G h
    refine lv_iconst (v := (-1 : Int32)) hx hb dX6_cardsToBurn_113 (by decide) ?_
    rw [hQ]
    exact zz_iret X G hr hlk dX6_cardsToBurn_114 h
  have h := (zz_br h).2 c2
  refine lv_iconst (v := (0 : Int32)) hx hb dX6_cardsToBurn_16 (by decide) ?_
  rw [hQ]
  exact zz_iret X G hr hlk dX6_cardsToBurn_17 h
set_option maxHeartbeats 4000000 in
set_option maxRecDepth 100000 in
theorem w_X6_placeOfBit_L4 {p : Program} {l : Launch} {e : Env} {s : State} {m : MethodId} {args : Array Value} {below : List Frame} {meth : Method} {c : Code} {Q : State → Prop} {D : va_G} {ad : Nat → Nat} {cA : Nat → ClassId} {r : Int32} {μ' : zM} (X : zX true D ad cA p s m args c cX6_placeOfBit "ButlerWeather" 4) (hQ : Q = MQ below (zQi true D ad cA r μ') args s 0 0 (zA true ad)) (hr : meth.sig.returnType = (some .int)) (hlk : meth.locks = false) {v0 : Int32} {v1 : Int32} {kx : zM → Option (Int32 × zM)} (HX : ∀ (μ : zM) (H : Heap) (locs : List Loc) (ls : Array Slot), lv_has ls 4 [] → zG true D ad cA s μ H locs → kx  μ = some (r, μ') → W p l e ({ frames := 0, cells := 0, slots := 0, locals := 0 } : Room) s m args below meth c H locs 0 0 Q (F0 m 34 ls [])) : ∀ (n : Nat) (v2 : Int32) (v3 : Int32) (μ : zM) (H : Heap) (locs : List Loc) (ls : Array Slot), lv_has ls 4 [(0, .int v0), (1, .int v1), (2, .int v2), (3, .int v3)] → zG true D ad cA s μ H locs → f_X6_placeOfBit_L4 v0 v1 kx n v2 v3 μ = some (r, μ') → W p l e ({ frames := 0, cells := 0, slots := 0, locals := 0 } : Room) s m args below meth c H locs 0 0 Q (F0 m 4 ls []) := by
  obtain ⟨hx, hb, hml, hown, hts, -, -, -⟩ := id X
  intro n
  induction n with
  | zero =>
    intro v2 v3 μ H locs ls hl G h
    cases (show (none : Option (Int32 × zM)) = some (r, μ') from h)
  | succ n ih =>
    intro v2 v3 μ H locs ls hl G h
    rw [f_X6_placeOfBit_L4] at h
    refine lv_iload_n hx hb dX6_placeOfBit_4 rfl (lv_at hl 3 rfl) ?_
    refine lv_bipush (v := (8 : Int32)) hx hb dX6_placeOfBit_5 (by decide) ?_
    refine lv_icmp_ge (tgt := 34) hx hb dX6_placeOfBit_7 (by decide) (fun c1 => ?_) (fun c1 => ?_)
    · have h := (zz_br h).1 c1
      exact HX  μ _ _ _ (lv_sub hl [] rfl) G h
    have h := (zz_br h).2 c1
    refine lv_iload_n hx hb dX6_placeOfBit_10 rfl (lv_at hl 0 rfl) ?_
    refine lv_iload_n hx hb dX6_placeOfBit_11 rfl (lv_at hl 3 rfl) ?_
    refine lv_ishr hx hb dX6_placeOfBit_12 ?_
    refine lv_iconst (v := (1 : Int32)) hx hb dX6_placeOfBit_13 (by decide) ?_
    refine lv_iand hx hb dX6_placeOfBit_14 ?_
    refine lv_if_eq (tgt := 28) hx hb dX6_placeOfBit_15 (by decide) (fun c2 => ?_) (fun c2 => ?_)
    · have h := (zz_br h).1 c2
      obtain ⟨x3, ex3, h⟩ := zz_let h
      refine lv_iinc (v := x3) (lv' := [(3, .int x3), (0, .int v0), (1, .int v1), (2, .int v2)]) hx hb dX6_placeOfBit_28 hl (k := 3) rfl (by rw [← ex3]; rfl) (by decide) rfl (fun ls hl => ?_)
      refine lv_goto (tgt := 4) hx hb dX6_placeOfBit_31 (by decide) ?_
      exact ih v2 x3 μ _ _ _ (lv_sub hl [1, 2, 3, 0] rfl) G h
    have h := (zz_br h).2 c2
    refine lv_iload_n hx hb dX6_placeOfBit_18 rfl (lv_at hl 2 rfl) ?_
    refine lv_iload_n hx hb dX6_placeOfBit_19 rfl (lv_at hl 1 rfl) ?_
    refine lv_icmp_ne (tgt := 25) hx hb dX6_placeOfBit_20 (by decide) (fun c4 => ?_) (fun c4 => ?_)
    · have h := (zz_br h).1 c4
      obtain ⟨x5, ex5, h⟩ := zz_let h
      refine lv_iinc (v := x5) (lv' := [(2, .int x5), (0, .int v0), (1, .int v1), (3, .int v3)]) hx hb dX6_placeOfBit_25 hl (k := 2) rfl (by rw [← ex5]; rfl) (by decide) rfl (fun ls hl => ?_)
      obtain ⟨x6, ex6, h⟩ := zz_let h
      refine lv_iinc (v := x6) (lv' := [(3, .int x6), (2, .int x5), (0, .int v0), (1, .int v1)]) hx hb dX6_placeOfBit_28 hl (k := 3) rfl (by rw [← ex6]; rfl) (by decide) rfl (fun ls hl => ?_)
      refine lv_goto (tgt := 4) hx hb dX6_placeOfBit_31 (by decide) ?_
      exact ih x5 x6 μ _ _ _ (lv_sub hl [2, 3, 1, 0] rfl) G h
    have h := (zz_br h).2 (fun q => q c4)
    refine lv_iload_n hx hb dX6_placeOfBit_23 rfl (lv_at hl 3 rfl) ?_
    rw [hQ]
    exact zz_iret X G hr hlk dX6_placeOfBit_24 h
set_option maxHeartbeats 4000000 in
set_option maxRecDepth 100000 in
theorem c_X6_placeOfBit (l : Launch) (D : va_G) (ad : Nat → Nat) (cA : Nat → ClassId) {a0 : Int32} {a1 : Int32} {μ : zM} {r : Int32} {μ' : zM} (h : f_X6_placeOfBit a0 a1 μ = some (r, μ')) : zMet true D ad cA l yX6_placeOfBit cX6_placeOfBit 4 (some .int) ({ frames := 0, cells := 0, slots := 0, locals := 0 } : Room) [.int a0, .int a1] μ (zQi true D ad cA r μ') := by
  refine zMet_of "ButlerWeather" ⟨by decide, rfl⟩ (Nat.le_of_ble_eq_true rfl) ?_
  intro p e s m args below meth c X G hr hlk ls hl
  have hl : lv_has ls 4 [(0, .int a0), (1, .int a1)] := hl
  obtain ⟨hx, hb, hml, hown, hts, -, -, -⟩ := id X
  obtain ⟨Q, hQ⟩ : ∃ Q, Q = MQ below (zQi true D ad cA r μ') args s 0 0 (zA true ad) := ⟨_, rfl⟩
  rw [← hQ]
  unfold f_X6_placeOfBit at h
  refine lv_iconst (v := (0 : Int32)) hx hb dX6_placeOfBit_0 (by decide) ?_
  refine lv_istore_n (lv' := [(2, .int (0 : Int32)), (0, .int a0), (1, .int a1)]) hx hb dX6_placeOfBit_1 rfl hl (by decide) rfl (fun ls hl => ?_)
  refine lv_iconst (v := (0 : Int32)) hx hb dX6_placeOfBit_2 (by decide) ?_
  refine lv_istore_n (lv' := [(3, .int (0 : Int32)), (2, .int (0 : Int32)), (0, .int a0), (1, .int a1)]) hx hb dX6_placeOfBit_3 rfl hl (by decide) rfl (fun ls hl => ?_)
  refine w_X6_placeOfBit_L4 X hQ hr hlk  (fun  μ H locs ls hl G h => ?_) 400 (0 : Int32) (0 : Int32) μ _ _ _ (lv_sub hl [2, 3, 1, 0] rfl) G h
  refine lv_iconst (v := (-1 : Int32)) hx hb dX6_placeOfBit_34 (by decide) ?_
  rw [hQ]
  exact zz_iret X G hr hlk dX6_placeOfBit_35 h
set_option maxHeartbeats 4000000 in
set_option maxRecDepth 100000 in
theorem c_X6_burn (l : Launch) (D : va_G) (ad : Nat → Nat) (cA : Nat → ClassId) {a1 : Int32} {μ : zM} {r : Int32} {μ' : zM} (h : f_X6_burn a1 μ = some (r, μ')) : zMet true D ad cA l yX6_burn cX6_burn 3 (some .int) ({ frames := 5, cells := 0, slots := 0, locals := 116 } : Room) [.ref (ad 0), .int a1] μ (zQi true D ad cA r μ') := by
  refine zMet_of "ButlerWeather" ⟨by decide, rfl⟩ (Nat.le_of_ble_eq_true rfl) ?_
  intro p e s m args below meth c X G hr hlk ls hl
  have hl : lv_has ls 3 [(0, .ref (ad 0)), (1, .int a1)] := hl
  obtain ⟨hx, hb, hml, hown, hts, -, -, -⟩ := id X
  obtain ⟨Q, hQ⟩ : ∃ Q, Q = MQ below (zQi true D ad cA r μ') args s 0 0 (zA true ad) := ⟨_, rfl⟩
  rw [← hQ]
  unfold f_X6_burn at h
  refine lv_iload_n hx hb dX6_burn_0 rfl (lv_at hl 1 rfl) ?_
  refine lv_iconst (v := (-1 : Int32)) hx hb dX6_burn_1 (by decide) ?_
  refine lv_iconst (v := (1 : Int32)) hx hb dX6_burn_2 (by decide) ?_
  refine zz_ci (rest := []) G h (fun r μ1 hf => zz_runS X G cs_X6_within kw_289 (c_X6_within l D ad cA  hf) ⟨rfl, rfl, Nat.le_of_ble_eq_true rfl, Nat.le_of_ble_eq_true rfl⟩ rfl rfl hl.1 (Nat.le_of_ble_eq_true rfl) dX6_burn_3) (fun x1 μ H locs G h => ?_)
  refine lv_if_ne (tgt := 12) hx hb dX6_burn_6 (by decide) (fun c2 => ?_) (fun c2 => ?_)
  · have h := (zz_br h).1 c2
    refine lv_aload_n hx hb dX6_burn_12 rfl (lv_at hl 0 rfl) ?_
    refine lv_aload_n hx hb dX6_burn_13 rfl (lv_at hl 0 rfl) ?_
    refine zz_cr (rest := [.ref (ad 0)]) G h (fun r μ1 hf => zz_runV X G rc_6 tl_0 cv_X6_told kw_332 (c_X6_told l D ad cA  hf) ⟨rfl, rfl, Nat.le_of_ble_eq_true rfl, Nat.le_of_ble_eq_true rfl⟩ rfl rfl hl.1 (Nat.le_of_ble_eq_true rfl) dX6_burn_14) (fun _ μ H locs G h => ?_)
    refine zz_ci (rest := []) G h (fun r μ1 hf => zz_runV X G rc_6 tl_0 cv_X6_cardsToBurn kw_573 (c_X6_cardsToBurn l D ad cA tl_21 hf) ⟨rfl, rfl, Nat.le_of_ble_eq_true rfl, Nat.le_of_ble_eq_true rfl⟩ rfl rfl hl.1 (Nat.le_of_ble_eq_true rfl) dX6_burn_17) (fun x3 μ H locs G h => ?_)
    refine lv_istore_n (lv' := [(2, .int x3), (0, .ref (ad 0)), (1, .int a1)]) hx hb dX6_burn_20 rfl hl (by decide) rfl (fun ls hl => ?_)
    refine lv_iload_n hx hb dX6_burn_21 rfl (lv_at hl 0 rfl) ?_
    refine lv_iconst (v := (-1 : Int32)) hx hb dX6_burn_22 (by decide) ?_
    refine lv_icmp_ne (tgt := 28) hx hb dX6_burn_23 (by decide) (fun c4 => ?_) (fun c4 => ?_)
    · have h := (zz_br h).1 c4
      refine lv_iload_n hx hb dX6_burn_28 rfl (lv_at hl 2 rfl) ?_
      refine lv_iconst (v := (-1 : Int32)) hx hb dX6_burn_29 (by decide) ?_
      refine lv_icmp_ne (tgt := 40) hx hb dX6_burn_30 (by decide) (fun c5 => ?_) (fun c5 => ?_)
      · have h := (zz_br h).1 c5
        refine lv_iload_n hx hb dX6_burn_40 rfl (lv_at hl 0 rfl) ?_
        refine lv_iload_n hx hb dX6_burn_41 rfl (lv_at hl 2 rfl) ?_
        refine zz_ci (rest := []) G h (fun r μ1 hf => zz_runS X G cs_X6_placeOfBit kw_585 (c_X6_placeOfBit l D ad cA  hf) ⟨rfl, rfl, Nat.le_of_ble_eq_true rfl, Nat.le_of_ble_eq_true rfl⟩ rfl rfl hl.1 (Nat.le_of_ble_eq_true rfl) dX6_burn_42) (fun x6 μ H locs G h => ?_)
        rw [hQ]
        exact zz_iret X G hr hlk dX6_burn_45 h
      have h := (zz_br h).2 (fun q => q c5)
      refine lv_iload_n hx hb dX6_burn_33 rfl (lv_at hl 0 rfl) ?_
      refine zz_ci (rest := []) G h (fun r μ1 hf => zz_runS X G cs_J6_bitCount_0f7a4 kw_559 (c_J6_bitCount_0f7a4 l D ad cA  hf) ⟨rfl, rfl, Nat.le_of_ble_eq_true rfl, Nat.le_of_ble_eq_true rfl⟩ rfl rfl hl.1 (Nat.le_of_ble_eq_true rfl) dX6_burn_34) (fun x7 μ H locs G h => ?_)
      refine lv_goto (tgt := 45) hx hb dX6_burn_37 (by decide) ?_
      rw [hQ]
      exact zz_iret X G hr hlk dX6_burn_45 h
    have h := (zz_br h).2 (fun q => q c4)
    refine lv_iconst (v := (-1 : Int32)) hx hb dX6_burn_26 (by decide) ?_
    rw [hQ]
    exact zz_iret X G hr hlk dX6_burn_27 h
  have h := (zz_br h).2 (fun q => q c2)
  refine lv_bipush (v := (-2 : Int32)) hx hb dX6_burn_9 (by decide) ?_
  rw [hQ]
  exact zz_iret X G hr hlk dX6_burn_11 h
set_option maxHeartbeats 4000000 in
set_option maxRecDepth 100000 in
theorem c_X6_feel (l : Launch) (D : va_G) (ad : Nat → Nat) (cA : Nat → ClassId) {a1 : Int32} {a2 : Int32} {μ : zM} {r : Int32} {μ' : zM} (h : f_X6_feel a1 a2 μ = some (r, μ')) : zMet true D ad cA l yX6_feel cX6_feel 3 (some .int) ({ frames := 2, cells := 0, slots := 0, locals := 42 } : Room) [.ref (ad 0), .int a1, .int a2] μ (zQi true D ad cA r μ') := by
  refine zMet_of "ButlerWeather" ⟨by decide, rfl⟩ (Nat.le_of_ble_eq_true rfl) ?_
  intro p e s m args below meth c X G hr hlk ls hl
  have hl : lv_has ls 3 [(0, .ref (ad 0)), (1, .int a1), (2, .int a2)] := hl
  obtain ⟨hx, hb, hml, hown, hts, -, -, -⟩ := id X
  obtain ⟨Q, hQ⟩ : ∃ Q, Q = MQ below (zQi true D ad cA r μ') args s 0 0 (zA true ad) := ⟨_, rfl⟩
  rw [← hQ]
  unfold f_X6_feel at h
  refine lv_iload_n hx hb dX6_feel_0 rfl (lv_at hl 1 rfl) ?_
  refine zz_ci (rest := []) G h (fun r μ1 hf => zz_runS X G cs_X6_isDay kw_426 (c_X6_isDay l D ad cA  hf) ⟨rfl, rfl, Nat.le_of_ble_eq_true rfl, Nat.le_of_ble_eq_true rfl⟩ rfl rfl hl.1 (Nat.le_of_ble_eq_true rfl) dX6_feel_1) (fun x1 μ H locs G h => ?_)
  refine lv_if_eq (tgt := 18) hx hb dX6_feel_4 (by decide) (fun c2 => ?_) (fun c2 => ?_)
  · have h := (zz_br h).1 c2
    refine lv_bipush (v := (-2 : Int32)) hx hb dX6_feel_18 (by decide) ?_
    rw [hQ]
    exact zz_iret X G hr hlk dX6_feel_20 h
  have h := (zz_br h).2 c2
  refine lv_iload_n hx hb dX6_feel_7 rfl (lv_at hl 2 rfl) ?_
  refine lv_bipush (v := (-40 : Int32)) hx hb dX6_feel_8 (by decide) ?_
  refine lv_bipush (v := (40 : Int32)) hx hb dX6_feel_10 (by decide) ?_
  refine zz_ci (rest := []) G h (fun r μ1 hf => zz_runS X G cs_X6_within kw_289 (c_X6_within l D ad cA  hf) ⟨rfl, rfl, Nat.le_of_ble_eq_true rfl, Nat.le_of_ble_eq_true rfl⟩ rfl rfl hl.1 (Nat.le_of_ble_eq_true rfl) dX6_feel_12) (fun x3 μ H locs G h => ?_)
  refine lv_if_ne (tgt := 21) hx hb dX6_feel_15 (by decide) (fun c4 => ?_) (fun c4 => ?_)
  · have h := (zz_br h).1 c4
    refine lv_aload_n hx hb dX6_feel_21 rfl (lv_at hl 0 rfl) ?_
    refine zz_getr X G fr_6_2 tl_0 rl_0_2 kw_256 dX6_feel_22 ?_
    refine zz_geti X G fi_1_2 tl_9 kw_144 dX6_feel_25 h (fun x5 h => ?_)
    refine lv_bipush (v := (8 : Int32)) hx hb dX6_feel_28 (by decide) ?_
    refine lv_icmp_ge (tgt := 45) hx hb dX6_feel_30 (by decide) (fun c6 => ?_) (fun c6 => ?_)
    · have h := (zz_br h).1 c6
      refine lv_bipush (v := (-4 : Int32)) hx hb dX6_feel_45 (by decide) ?_
      rw [hQ]
      exact zz_iret X G hr hlk dX6_feel_47 h
    have h := (zz_br h).2 c6
    refine lv_aload_n hx hb dX6_feel_33 rfl (lv_at hl 0 rfl) ?_
    refine zz_getr X G fr_6_2 tl_0 rl_0_2 kw_256 dX6_feel_34 ?_
    refine lv_iload_n hx hb dX6_feel_37 rfl (lv_at hl 1 rfl) ?_
    refine lv_iload_n hx hb dX6_feel_38 rfl (lv_at hl 2 rfl) ?_
    refine zz_ci (rest := []) G h (fun r μ1 hf => zz_runV X G rc_1 tl_9 cv_X1_append kw_592 (c_X1_append l D ad cA  hf) ⟨rfl, rfl, Nat.le_of_ble_eq_true rfl, Nat.le_of_ble_eq_true rfl⟩ rfl rfl hl.1 (Nat.le_of_ble_eq_true rfl) dX6_feel_39) (fun x7 μ H locs G h => ?_)
    refine lv_goto (tgt := 47) hx hb dX6_feel_42 (by decide) ?_
    rw [hQ]
    exact zz_iret X G hr hlk dX6_feel_47 h
  have h := (zz_br h).2 (fun q => q c4)
  refine lv_bipush (v := (-2 : Int32)) hx hb dX6_feel_18 (by decide) ?_
  rw [hQ]
  exact zz_iret X G hr hlk dX6_feel_20 h
set_option maxHeartbeats 4000000 in
set_option maxRecDepth 100000 in
theorem c_X6_forget (l : Launch) (D : va_G) (ad : Nat → Nat) (cA : Nat → ClassId)  {μ : zM} {r : Int32} {μ' : zM} (h : f_X6_forget μ = some (r, μ')) : zMet true D ad cA l yX6_forget cX6_forget 1 (some .int) ({ frames := 1, cells := 0, slots := 0, locals := 21 } : Room) [.ref (ad 0)] μ (zQi true D ad cA r μ') := by
  refine zMet_of "ButlerWeather" ⟨by decide, rfl⟩ (Nat.le_of_ble_eq_true rfl) ?_
  intro p e s m args below meth c X G hr hlk ls hl
  have hl : lv_has ls 1 [(0, .ref (ad 0))] := hl
  obtain ⟨hx, hb, hml, hown, hts, -, -, -⟩ := id X
  obtain ⟨Q, hQ⟩ : ∃ Q, Q = MQ below (zQi true D ad cA r μ') args s 0 0 (zA true ad) := ⟨_, rfl⟩
  rw [← hQ]
  unfold f_X6_forget at h
  refine lv_aload_n hx hb dX6_forget_0 rfl (lv_at hl 0 rfl) ?_
  refine zz_getr X G fr_6_2 tl_0 rl_0_2 kw_256 dX6_forget_1 ?_
  refine zz_ci (rest := []) G h (fun r μ1 hf => zz_runV X G rc_1 tl_9 cv_X1_clear kw_600 (c_X1_clear l D ad cA  hf) ⟨rfl, rfl, Nat.le_of_ble_eq_true rfl, Nat.le_of_ble_eq_true rfl⟩ rfl rfl hl.1 (Nat.le_of_ble_eq_true rfl) dX6_forget_4) (fun x1 μ H locs G h => ?_)
  rw [hQ]
  exact zz_iret X G hr hlk dX6_forget_7 h
set_option maxHeartbeats 4000000 in
set_option maxRecDepth 100000 in
theorem w_X6_never_L15 {p : Program} {l : Launch} {e : Env} {s : State} {m : MethodId} {args : Array Value} {below : List Frame} {meth : Method} {c : Code} {Q : State → Prop} {D : va_G} {ad : Nat → Nat} {cA : Nat → ClassId} {r : Int32} {μ' : zM} (X : zX true D ad cA p s m args c cX6_never "ButlerWeather" 3) (hQ : Q = MQ below (zQi true D ad cA r μ') args s 0 0 (zA true ad)) (hr : meth.sig.returnType = (some .int)) (hlk : meth.locks = false)  {kx : Int32 → zM → Option (Int32 × zM)} (HX : ∀ (w1 : Int32) (μ : zM) (H : Heap) (locs : List Loc) (ls : Array Slot), lv_has ls 3 [(1, .int w1)] → zG true D ad cA s μ H locs → kx w1 μ = some (r, μ') → W p l e ({ frames := 4, cells := 0, slots := 0, locals := 94 } : Room) s m args below meth c H locs 0 0 Q (F0 m 73 ls [])) : ∀ (n : Nat) (v1 : Int32) (v2 : Int32) (μ : zM) (H : Heap) (locs : List Loc) (ls : Array Slot), lv_has ls 3 [(0, .ref (ad 0)), (1, .int v1), (2, .int v2)] → zG true D ad cA s μ H locs → f_X6_never_L15 kx n v1 v2 μ = some (r, μ') → W p l e ({ frames := 4, cells := 0, slots := 0, locals := 94 } : Room) s m args below meth c H locs 0 0 Q (F0 m 15 ls []) := by
  obtain ⟨hx, hb, hml, hown, hts, -, -, -⟩ := id X
  intro n
  induction n with
  | zero =>
    intro v1 v2 μ H locs ls hl G h
    cases (show (none : Option (Int32 × zM)) = some (r, μ') from h)
  | succ n ih =>
    intro v1 v2 μ H locs ls hl G h
    rw [f_X6_never_L15] at h
    refine lv_iload_n hx hb dX6_never_15 rfl (lv_at hl 2 rfl) ?_
    refine lv_aload_n hx hb dX6_never_16 rfl (lv_at hl 0 rfl) ?_
    refine zz_getr X G fr_6_1 tl_0 rl_0_1 kw_255 dX6_never_17 ?_
    refine zz_geti X G fi_0_2 tl_6 kw_127 dX6_never_20 h (fun x1 h => ?_)
    refine lv_icmp_ge (tgt := 73) hx hb dX6_never_23 (by decide) (fun c2 => ?_) (fun c2 => ?_)
    · have h := (zz_br h).1 c2
      exact HX v1 μ _ _ _ (lv_sub hl [1] rfl) G h
    have h := (zz_br h).2 c2
    refine lv_aload_n hx hb dX6_never_26 rfl (lv_at hl 0 rfl) ?_
    refine zz_getr X G fr_6_1 tl_0 rl_0_1 kw_255 dX6_never_27 ?_
    refine lv_iconst (v := (1 : Int32)) hx hb dX6_never_30 (by decide) ?_
    refine lv_iload_n hx hb dX6_never_31 rfl (lv_at hl 2 rfl) ?_
    refine lv_ishl hx hb dX6_never_32 ?_
    refine lv_aload_n hx hb dX6_never_33 rfl (lv_at hl 0 rfl) ?_
    refine zz_getr X G fr_6_5 tl_0 rl_0_5 kw_259 dX6_never_34 ?_
    refine zz_cv (rest := []) G h (fun r μ1 hf => zz_runV X G rc_0 tl_6 cv_X0_inviteAllBut kw_357 (c_X0_inviteAllBut l D ad cA tl_34 hf) ⟨rfl, rfl, Nat.le_of_ble_eq_true rfl, Nat.le_of_ble_eq_true rfl⟩ rfl rfl hl.1 (Nat.le_of_ble_eq_true rfl) dX6_never_37) (fun _ μ H locs G h => ?_)
    refine lv_aload_n hx hb dX6_never_40 rfl (lv_at hl 0 rfl) ?_
    refine zz_getr X G fr_6_5 tl_0 rl_0_5 kw_259 dX6_never_41 ?_
    refine zz_cv (rest := []) G h (fun r μ1 hf => zz_runV X G rc_2 tl_34 cv_X2_live kw_370 (c_X2_live l D ad cA tl_34 hf) ⟨rfl, rfl, Nat.le_of_ble_eq_true rfl, Nat.le_of_ble_eq_true rfl⟩ rfl rfl hl.1 (Nat.le_of_ble_eq_true rfl) dX6_never_44) (fun _ μ H locs G h => ?_)
    refine lv_aload_n hx hb dX6_never_47 rfl (lv_at hl 0 rfl) ?_
    refine zz_getr X G fr_6_2 tl_0 rl_0_2 kw_256 dX6_never_48 ?_
    refine lv_aload_n hx hb dX6_never_51 rfl (lv_at hl 0 rfl) ?_
    refine zz_getr X G fr_6_5 tl_0 rl_0_5 kw_259 dX6_never_52 ?_
    refine zz_ci (rest := []) G h (fun r μ1 hf => zz_runV X G rc_1 tl_9 cv_X1_fits kw_608 (c_X1_fits l D ad cA tl_34 hf) ⟨rfl, rfl, Nat.le_of_ble_eq_true rfl, Nat.le_of_ble_eq_true rfl⟩ rfl rfl hl.1 (Nat.le_of_ble_eq_true rfl) dX6_never_55) (fun x3 μ H locs G h => ?_)
    refine lv_if_eq (tgt := 67) hx hb dX6_never_58 (by decide) (fun c4 => ?_) (fun c4 => ?_)
    · have h := (zz_br h).1 c4
      obtain ⟨x5, ex5, h⟩ := zz_let h
      refine lv_iinc (v := x5) (lv' := [(2, .int x5), (0, .ref (ad 0)), (1, .int v1)]) hx hb dX6_never_67 hl (k := 2) rfl (by rw [← ex5]; rfl) (by decide) rfl (fun ls hl => ?_)
      refine lv_goto (tgt := 15) hx hb dX6_never_70 (by decide) ?_
      exact ih v1 x5 μ _ _ _ (lv_sub hl [1, 2, 0] rfl) G h
    have h := (zz_br h).2 c4
    refine lv_iload_n hx hb dX6_never_61 rfl (lv_at hl 1 rfl) ?_
    refine lv_iconst (v := (1 : Int32)) hx hb dX6_never_62 (by decide) ?_
    refine lv_iload_n hx hb dX6_never_63 rfl (lv_at hl 2 rfl) ?_
    refine lv_ishl hx hb dX6_never_64 ?_
    refine lv_ior hx hb dX6_never_65 ?_
    refine zz_vi h (fun x6 h => ?_)
    refine lv_istore_n (lv' := [(1, .int x6), (0, .ref (ad 0)), (2, .int v2)]) hx hb dX6_never_66 rfl hl (by decide) rfl (fun ls hl => ?_)
    obtain ⟨x7, ex7, h⟩ := zz_let h
    refine lv_iinc (v := x7) (lv' := [(2, .int x7), (1, .int x6), (0, .ref (ad 0))]) hx hb dX6_never_67 hl (k := 2) rfl (by rw [← ex7]; rfl) (by decide) rfl (fun ls hl => ?_)
    refine lv_goto (tgt := 15) hx hb dX6_never_70 (by decide) ?_
    exact ih x6 x7 μ _ _ _ (lv_sub hl [2, 1, 0] rfl) G h
set_option maxHeartbeats 4000000 in
set_option maxRecDepth 100000 in
theorem c_X6_never (l : Launch) (D : va_G) (ad : Nat → Nat) (cA : Nat → ClassId)  {μ : zM} {r : Int32} {μ' : zM} (h : f_X6_never μ = some (r, μ')) : zMet true D ad cA l yX6_never cX6_never 3 (some .int) ({ frames := 4, cells := 0, slots := 0, locals := 94 } : Room) [.ref (ad 0)] μ (zQi true D ad cA r μ') := by
  refine zMet_of "ButlerWeather" ⟨by decide, rfl⟩ (Nat.le_of_ble_eq_true rfl) ?_
  intro p e s m args below meth c X G hr hlk ls hl
  have hl : lv_has ls 3 [(0, .ref (ad 0))] := hl
  obtain ⟨hx, hb, hml, hown, hts, -, -, -⟩ := id X
  obtain ⟨Q, hQ⟩ : ∃ Q, Q = MQ below (zQi true D ad cA r μ') args s 0 0 (zA true ad) := ⟨_, rfl⟩
  rw [← hQ]
  unfold f_X6_never at h
  refine lv_aload_n hx hb dX6_never_0 rfl (lv_at hl 0 rfl) ?_
  refine zz_getr X G fr_6_5 tl_0 rl_0_5 kw_259 dX6_never_1 ?_
  refine lv_aload_n hx hb dX6_never_4 rfl (lv_at hl 0 rfl) ?_
  refine zz_cr (rest := [.ref (ad 34)]) G h (fun r μ1 hf => zz_runV X G rc_6 tl_0 cv_X6_told kw_332 (c_X6_told l D ad cA  hf) ⟨rfl, rfl, Nat.le_of_ble_eq_true rfl, Nat.le_of_ble_eq_true rfl⟩ rfl rfl hl.1 (Nat.le_of_ble_eq_true rfl) dX6_never_5) (fun _ μ H locs G h => ?_)
  refine zz_cv (rest := []) G h (fun r μ1 hf => zz_runV X G rc_2 tl_34 cv_X2_become kw_545 (c_X2_become l D ad cA tl_34 tl_21 hf) ⟨rfl, rfl, Nat.le_of_ble_eq_true rfl, Nat.le_of_ble_eq_true rfl⟩ rfl rfl hl.1 (Nat.le_of_ble_eq_true rfl) dX6_never_8) (fun _ μ H locs G h => ?_)
  refine lv_iconst (v := (0 : Int32)) hx hb dX6_never_11 (by decide) ?_
  refine lv_istore_n (lv' := [(1, .int (0 : Int32)), (0, .ref (ad 0))]) hx hb dX6_never_12 rfl hl (by decide) rfl (fun ls hl => ?_)
  refine lv_iconst (v := (0 : Int32)) hx hb dX6_never_13 (by decide) ?_
  refine lv_istore_n (lv' := [(2, .int (0 : Int32)), (1, .int (0 : Int32)), (0, .ref (ad 0))]) hx hb dX6_never_14 rfl hl (by decide) rfl (fun ls hl => ?_)
  refine w_X6_never_L15 X hQ hr hlk  (fun x8 μ H locs ls hl G h => ?_) 400 (0 : Int32) (0 : Int32) μ _ _ _ (lv_sub hl [2, 1, 0] rfl) G h
  refine lv_iload_n hx hb dX6_never_73 rfl (lv_at hl 0 rfl) ?_
  rw [hQ]
  exact zz_iret X G hr hlk dX6_never_74 h
set_option maxHeartbeats 4000000 in
set_option maxRecDepth 100000 in
theorem w_X6_waitsThatFit_L4 {p : Program} {l : Launch} {e : Env} {s : State} {m : MethodId} {args : Array Value} {below : List Frame} {meth : Method} {c : Code} {Q : State → Prop} {D : va_G} {ad : Nat → Nat} {cA : Nat → ClassId} {r : Int32} {μ' : zM} (X : zX true D ad cA p s m args c cX6_waitsThatFit "ButlerWeather" 4) (hQ : Q = MQ below (zQi true D ad cA r μ') args s 0 0 (zA true ad)) (hr : meth.sig.returnType = (some .int)) (hlk : meth.locks = false) {v1 : Int32} {kx : Int32 → zM → Option (Int32 × zM)} (HX : ∀ (w2 : Int32) (μ : zM) (H : Heap) (locs : List Loc) (ls : Array Slot), lv_has ls 4 [(2, .int w2)] → zG true D ad cA s μ H locs → kx w2 μ = some (r, μ') → W p l e ({ frames := 3, cells := 0, slots := 0, locals := 72 } : Room) s m args below meth c H locs 0 0 Q (F0 m 53 ls [])) : ∀ (n : Nat) (v2 : Int32) (v3 : Int32) (μ : zM) (H : Heap) (locs : List Loc) (ls : Array Slot), lv_has ls 4 [(0, .ref (ad 0)), (1, .int v1), (2, .int v2), (3, .int v3)] → zG true D ad cA s μ H locs → f_X6_waitsThatFit_L4 v1 kx n v2 v3 μ = some (r, μ') → W p l e ({ frames := 3, cells := 0, slots := 0, locals := 72 } : Room) s m args below meth c H locs 0 0 Q (F0 m 4 ls []) := by
  obtain ⟨hx, hb, hml, hown, hts, -, -, -⟩ := id X
  intro n
  induction n with
  | zero =>
    intro v2 v3 μ H locs ls hl G h
    cases (show (none : Option (Int32 × zM)) = some (r, μ') from h)
  | succ n ih =>
    intro v2 v3 μ H locs ls hl G h
    rw [f_X6_waitsThatFit_L4] at h
    refine lv_iload_n hx hb dX6_waitsThatFit_4 rfl (lv_at hl 3 rfl) ?_
    refine lv_bipush (v := (9 : Int32)) hx hb dX6_waitsThatFit_5 (by decide) ?_
    refine lv_icmp_gt (tgt := 53) hx hb dX6_waitsThatFit_7 (by decide) (fun c1 => ?_) (fun c1 => ?_)
    · have h := (zz_br h).1 c1
      exact HX v2 μ _ _ _ (lv_sub hl [2] rfl) G h
    have h := (zz_br h).2 c1
    refine lv_aload_n hx hb dX6_waitsThatFit_10 rfl (lv_at hl 0 rfl) ?_
    refine zz_getr X G fr_6_5 tl_0 rl_0_5 kw_259 dX6_waitsThatFit_11 ?_
    refine zz_getr X G fr_2_2 tl_34 rl_34_2 kw_185 dX6_waitsThatFit_14 ?_
    refine lv_iload_n hx hb dX6_waitsThatFit_17 rfl (lv_at hl 1 rfl) ?_
    refine lv_iload_n hx hb dX6_waitsThatFit_18 rfl (lv_at hl 3 rfl) ?_
    refine zz_iast X G ia_10 tl_36 dX6_waitsThatFit_19 h (fun μ H locs G h => ?_)
    refine lv_aload_n hx hb dX6_waitsThatFit_20 rfl (lv_at hl 0 rfl) ?_
    refine zz_getr X G fr_6_5 tl_0 rl_0_5 kw_259 dX6_waitsThatFit_21 ?_
    refine zz_cv (rest := []) G h (fun r μ1 hf => zz_runV X G rc_2 tl_34 cv_X2_live kw_370 (c_X2_live l D ad cA tl_34 hf) ⟨rfl, rfl, Nat.le_of_ble_eq_true rfl, Nat.le_of_ble_eq_true rfl⟩ rfl rfl hl.1 (Nat.le_of_ble_eq_true rfl) dX6_waitsThatFit_24) (fun _ μ H locs G h => ?_)
    refine lv_aload_n hx hb dX6_waitsThatFit_27 rfl (lv_at hl 0 rfl) ?_
    refine zz_getr X G fr_6_2 tl_0 rl_0_2 kw_256 dX6_waitsThatFit_28 ?_
    refine lv_aload_n hx hb dX6_waitsThatFit_31 rfl (lv_at hl 0 rfl) ?_
    refine zz_getr X G fr_6_5 tl_0 rl_0_5 kw_259 dX6_waitsThatFit_32 ?_
    refine zz_ci (rest := []) G h (fun r μ1 hf => zz_runV X G rc_1 tl_9 cv_X1_fits kw_608 (c_X1_fits l D ad cA tl_34 hf) ⟨rfl, rfl, Nat.le_of_ble_eq_true rfl, Nat.le_of_ble_eq_true rfl⟩ rfl rfl hl.1 (Nat.le_of_ble_eq_true rfl) dX6_waitsThatFit_35) (fun x2 μ H locs G h => ?_)
    refine lv_if_eq (tgt := 47) hx hb dX6_waitsThatFit_38 (by decide) (fun c3 => ?_) (fun c3 => ?_)
    · have h := (zz_br h).1 c3
      obtain ⟨x4, ex4, h⟩ := zz_let h
      refine lv_iinc (v := x4) (lv' := [(3, .int x4), (0, .ref (ad 0)), (1, .int v1), (2, .int v2)]) hx hb dX6_waitsThatFit_47 hl (k := 3) rfl (by rw [← ex4]; rfl) (by decide) rfl (fun ls hl => ?_)
      refine lv_goto (tgt := 4) hx hb dX6_waitsThatFit_50 (by decide) ?_
      exact ih v2 x4 μ _ _ _ (lv_sub hl [1, 2, 3, 0] rfl) G h
    have h := (zz_br h).2 c3
    refine lv_iload_n hx hb dX6_waitsThatFit_41 rfl (lv_at hl 2 rfl) ?_
    refine lv_iconst (v := (1 : Int32)) hx hb dX6_waitsThatFit_42 (by decide) ?_
    refine lv_iload_n hx hb dX6_waitsThatFit_43 rfl (lv_at hl 3 rfl) ?_
    refine lv_ishl hx hb dX6_waitsThatFit_44 ?_
    refine lv_ior hx hb dX6_waitsThatFit_45 ?_
    refine zz_vi h (fun x5 h => ?_)
    refine lv_istore_n (lv' := [(2, .int x5), (0, .ref (ad 0)), (1, .int v1), (3, .int v3)]) hx hb dX6_waitsThatFit_46 rfl hl (by decide) rfl (fun ls hl => ?_)
    obtain ⟨x6, ex6, h⟩ := zz_let h
    refine lv_iinc (v := x6) (lv' := [(3, .int x6), (2, .int x5), (0, .ref (ad 0)), (1, .int v1)]) hx hb dX6_waitsThatFit_47 hl (k := 3) rfl (by rw [← ex6]; rfl) (by decide) rfl (fun ls hl => ?_)
    refine lv_goto (tgt := 4) hx hb dX6_waitsThatFit_50 (by decide) ?_
    exact ih x5 x6 μ _ _ _ (lv_sub hl [2, 3, 1, 0] rfl) G h
set_option maxHeartbeats 4000000 in
set_option maxRecDepth 100000 in
theorem c_X6_waitsThatFit (l : Launch) (D : va_G) (ad : Nat → Nat) (cA : Nat → ClassId) {a1 : Int32} {μ : zM} {r : Int32} {μ' : zM} (h : f_X6_waitsThatFit a1 μ = some (r, μ')) : zMet true D ad cA l yX6_waitsThatFit cX6_waitsThatFit 4 (some .int) ({ frames := 3, cells := 0, slots := 0, locals := 72 } : Room) [.ref (ad 0), .int a1] μ (zQi true D ad cA r μ') := by
  refine zMet_of "ButlerWeather" ⟨by decide, rfl⟩ (Nat.le_of_ble_eq_true rfl) ?_
  intro p e s m args below meth c X G hr hlk ls hl
  have hl : lv_has ls 4 [(0, .ref (ad 0)), (1, .int a1)] := hl
  obtain ⟨hx, hb, hml, hown, hts, -, -, -⟩ := id X
  obtain ⟨Q, hQ⟩ : ∃ Q, Q = MQ below (zQi true D ad cA r μ') args s 0 0 (zA true ad) := ⟨_, rfl⟩
  rw [← hQ]
  unfold f_X6_waitsThatFit at h
  refine lv_iconst (v := (0 : Int32)) hx hb dX6_waitsThatFit_0 (by decide) ?_
  refine lv_istore_n (lv' := [(2, .int (0 : Int32)), (0, .ref (ad 0)), (1, .int a1)]) hx hb dX6_waitsThatFit_1 rfl hl (by decide) rfl (fun ls hl => ?_)
  refine lv_iconst (v := (1 : Int32)) hx hb dX6_waitsThatFit_2 (by decide) ?_
  refine lv_istore_n (lv' := [(3, .int (1 : Int32)), (2, .int (0 : Int32)), (0, .ref (ad 0)), (1, .int a1)]) hx hb dX6_waitsThatFit_3 rfl hl (by decide) rfl (fun ls hl => ?_)
  refine w_X6_waitsThatFit_L4 X hQ hr hlk  (fun x7 μ H locs ls hl G h => ?_) 400 (0 : Int32) (1 : Int32) μ _ _ _ (lv_sub hl [2, 3, 1, 0] rfl) G h
  refine lv_iload_n hx hb dX6_waitsThatFit_53 rfl (lv_at hl 0 rfl) ?_
  rw [hQ]
  exact zz_iret X G hr hlk dX6_waitsThatFit_54 h
set_option maxHeartbeats 4000000 in
set_option maxRecDepth 100000 in
theorem w_X6_sortsThatFit_L4 {p : Program} {l : Launch} {e : Env} {s : State} {m : MethodId} {args : Array Value} {below : List Frame} {meth : Method} {c : Code} {Q : State → Prop} {D : va_G} {ad : Nat → Nat} {cA : Nat → ClassId} {r : Int32} {μ' : zM} (X : zX true D ad cA p s m args c cX6_sortsThatFit "ButlerWeather" 4) (hQ : Q = MQ below (zQi true D ad cA r μ') args s 0 0 (zA true ad)) (hr : meth.sig.returnType = (some .int)) (hlk : meth.locks = false) {v1 : Int32} {kx : Int32 → zM → Option (Int32 × zM)} (HX : ∀ (w2 : Int32) (μ : zM) (H : Heap) (locs : List Loc) (ls : Array Slot), lv_has ls 4 [(2, .int w2)] → zG true D ad cA s μ H locs → kx w2 μ = some (r, μ') → W p l e ({ frames := 3, cells := 0, slots := 0, locals := 72 } : Room) s m args below meth c H locs 0 0 Q (F0 m 52 ls [])) : ∀ (n : Nat) (v2 : Int32) (v3 : Int32) (μ : zM) (H : Heap) (locs : List Loc) (ls : Array Slot), lv_has ls 4 [(0, .ref (ad 0)), (1, .int v1), (2, .int v2), (3, .int v3)] → zG true D ad cA s μ H locs → f_X6_sortsThatFit_L4 v1 kx n v2 v3 μ = some (r, μ') → W p l e ({ frames := 3, cells := 0, slots := 0, locals := 72 } : Room) s m args below meth c H locs 0 0 Q (F0 m 4 ls []) := by
  obtain ⟨hx, hb, hml, hown, hts, -, -, -⟩ := id X
  intro n
  induction n with
  | zero =>
    intro v2 v3 μ H locs ls hl G h
    cases (show (none : Option (Int32 × zM)) = some (r, μ') from h)
  | succ n ih =>
    intro v2 v3 μ H locs ls hl G h
    rw [f_X6_sortsThatFit_L4] at h
    refine lv_iload_n hx hb dX6_sortsThatFit_4 rfl (lv_at hl 3 rfl) ?_
    refine lv_iconst (v := (4 : Int32)) hx hb dX6_sortsThatFit_5 (by decide) ?_
    refine lv_icmp_ge (tgt := 52) hx hb dX6_sortsThatFit_6 (by decide) (fun c1 => ?_) (fun c1 => ?_)
    · have h := (zz_br h).1 c1
      exact HX v2 μ _ _ _ (lv_sub hl [2] rfl) G h
    have h := (zz_br h).2 c1
    refine lv_aload_n hx hb dX6_sortsThatFit_9 rfl (lv_at hl 0 rfl) ?_
    refine zz_getr X G fr_6_5 tl_0 rl_0_5 kw_259 dX6_sortsThatFit_10 ?_
    refine zz_getr X G fr_2_1 tl_34 rl_34_1 kw_182 dX6_sortsThatFit_13 ?_
    refine lv_iload_n hx hb dX6_sortsThatFit_16 rfl (lv_at hl 1 rfl) ?_
    refine lv_iload_n hx hb dX6_sortsThatFit_17 rfl (lv_at hl 3 rfl) ?_
    refine zz_iast X G ia_10 tl_35 dX6_sortsThatFit_18 h (fun μ H locs G h => ?_)
    refine lv_aload_n hx hb dX6_sortsThatFit_19 rfl (lv_at hl 0 rfl) ?_
    refine zz_getr X G fr_6_5 tl_0 rl_0_5 kw_259 dX6_sortsThatFit_20 ?_
    refine zz_cv (rest := []) G h (fun r μ1 hf => zz_runV X G rc_2 tl_34 cv_X2_live kw_370 (c_X2_live l D ad cA tl_34 hf) ⟨rfl, rfl, Nat.le_of_ble_eq_true rfl, Nat.le_of_ble_eq_true rfl⟩ rfl rfl hl.1 (Nat.le_of_ble_eq_true rfl) dX6_sortsThatFit_23) (fun _ μ H locs G h => ?_)
    refine lv_aload_n hx hb dX6_sortsThatFit_26 rfl (lv_at hl 0 rfl) ?_
    refine zz_getr X G fr_6_2 tl_0 rl_0_2 kw_256 dX6_sortsThatFit_27 ?_
    refine lv_aload_n hx hb dX6_sortsThatFit_30 rfl (lv_at hl 0 rfl) ?_
    refine zz_getr X G fr_6_5 tl_0 rl_0_5 kw_259 dX6_sortsThatFit_31 ?_
    refine zz_ci (rest := []) G h (fun r μ1 hf => zz_runV X G rc_1 tl_9 cv_X1_fits kw_608 (c_X1_fits l D ad cA tl_34 hf) ⟨rfl, rfl, Nat.le_of_ble_eq_true rfl, Nat.le_of_ble_eq_true rfl⟩ rfl rfl hl.1 (Nat.le_of_ble_eq_true rfl) dX6_sortsThatFit_34) (fun x2 μ H locs G h => ?_)
    refine lv_if_eq (tgt := 46) hx hb dX6_sortsThatFit_37 (by decide) (fun c3 => ?_) (fun c3 => ?_)
    · have h := (zz_br h).1 c3
      obtain ⟨x4, ex4, h⟩ := zz_let h
      refine lv_iinc (v := x4) (lv' := [(3, .int x4), (0, .ref (ad 0)), (1, .int v1), (2, .int v2)]) hx hb dX6_sortsThatFit_46 hl (k := 3) rfl (by rw [← ex4]; rfl) (by decide) rfl (fun ls hl => ?_)
      refine lv_goto (tgt := 4) hx hb dX6_sortsThatFit_49 (by decide) ?_
      exact ih v2 x4 μ _ _ _ (lv_sub hl [1, 2, 3, 0] rfl) G h
    have h := (zz_br h).2 c3
    refine lv_iload_n hx hb dX6_sortsThatFit_40 rfl (lv_at hl 2 rfl) ?_
    refine lv_iconst (v := (1 : Int32)) hx hb dX6_sortsThatFit_41 (by decide) ?_
    refine lv_iload_n hx hb dX6_sortsThatFit_42 rfl (lv_at hl 3 rfl) ?_
    refine lv_ishl hx hb dX6_sortsThatFit_43 ?_
    refine lv_ior hx hb dX6_sortsThatFit_44 ?_
    refine zz_vi h (fun x5 h => ?_)
    refine lv_istore_n (lv' := [(2, .int x5), (0, .ref (ad 0)), (1, .int v1), (3, .int v3)]) hx hb dX6_sortsThatFit_45 rfl hl (by decide) rfl (fun ls hl => ?_)
    obtain ⟨x6, ex6, h⟩ := zz_let h
    refine lv_iinc (v := x6) (lv' := [(3, .int x6), (2, .int x5), (0, .ref (ad 0)), (1, .int v1)]) hx hb dX6_sortsThatFit_46 hl (k := 3) rfl (by rw [← ex6]; rfl) (by decide) rfl (fun ls hl => ?_)
    refine lv_goto (tgt := 4) hx hb dX6_sortsThatFit_49 (by decide) ?_
    exact ih x5 x6 μ _ _ _ (lv_sub hl [2, 3, 1, 0] rfl) G h
set_option maxHeartbeats 4000000 in
set_option maxRecDepth 100000 in
theorem c_X6_sortsThatFit (l : Launch) (D : va_G) (ad : Nat → Nat) (cA : Nat → ClassId) {a1 : Int32} {μ : zM} {r : Int32} {μ' : zM} (h : f_X6_sortsThatFit a1 μ = some (r, μ')) : zMet true D ad cA l yX6_sortsThatFit cX6_sortsThatFit 4 (some .int) ({ frames := 3, cells := 0, slots := 0, locals := 72 } : Room) [.ref (ad 0), .int a1] μ (zQi true D ad cA r μ') := by
  refine zMet_of "ButlerWeather" ⟨by decide, rfl⟩ (Nat.le_of_ble_eq_true rfl) ?_
  intro p e s m args below meth c X G hr hlk ls hl
  have hl : lv_has ls 4 [(0, .ref (ad 0)), (1, .int a1)] := hl
  obtain ⟨hx, hb, hml, hown, hts, -, -, -⟩ := id X
  obtain ⟨Q, hQ⟩ : ∃ Q, Q = MQ below (zQi true D ad cA r μ') args s 0 0 (zA true ad) := ⟨_, rfl⟩
  rw [← hQ]
  unfold f_X6_sortsThatFit at h
  refine lv_iconst (v := (0 : Int32)) hx hb dX6_sortsThatFit_0 (by decide) ?_
  refine lv_istore_n (lv' := [(2, .int (0 : Int32)), (0, .ref (ad 0)), (1, .int a1)]) hx hb dX6_sortsThatFit_1 rfl hl (by decide) rfl (fun ls hl => ?_)
  refine lv_iconst (v := (0 : Int32)) hx hb dX6_sortsThatFit_2 (by decide) ?_
  refine lv_istore_n (lv' := [(3, .int (0 : Int32)), (2, .int (0 : Int32)), (0, .ref (ad 0)), (1, .int a1)]) hx hb dX6_sortsThatFit_3 rfl hl (by decide) rfl (fun ls hl => ?_)
  refine w_X6_sortsThatFit_L4 X hQ hr hlk  (fun x7 μ H locs ls hl G h => ?_) 400 (0 : Int32) (0 : Int32) μ _ _ _ (lv_sub hl [2, 3, 1, 0] rfl) G h
  refine lv_iload_n hx hb dX6_sortsThatFit_52 rfl (lv_at hl 0 rfl) ?_
  rw [hQ]
  exact zz_iret X G hr hlk dX6_sortsThatFit_53 h
set_option maxHeartbeats 4000000 in
set_option maxRecDepth 100000 in
theorem c_X6_was (l : Launch) (D : va_G) (ad : Nat → Nat) (cA : Nat → ClassId) {a1 : Int32} {a2 : Int32} {μ : zM} {r : Int32} {μ' : zM} (h : f_X6_was a1 a2 μ = some (r, μ')) : zMet true D ad cA l yX6_was cX6_was 4 (some .int) ({ frames := 4, cells := 0, slots := 0, locals := 95 } : Room) [.ref (ad 0), .int a1, .int a2] μ (zQi true D ad cA r μ') := by
  refine zMet_of "ButlerWeather" ⟨by decide, rfl⟩ (Nat.le_of_ble_eq_true rfl) ?_
  intro p e s m args below meth c X G hr hlk ls hl
  have hl : lv_has ls 4 [(0, .ref (ad 0)), (1, .int a1), (2, .int a2)] := hl
  obtain ⟨hx, hb, hml, hown, hts, -, -, -⟩ := id X
  obtain ⟨Q, hQ⟩ : ∃ Q, Q = MQ below (zQi true D ad cA r μ') args s 0 0 (zA true ad) := ⟨_, rfl⟩
  rw [← hQ]
  unfold f_X6_was at h
  refine lv_aload_n hx hb dX6_was_0 rfl (lv_at hl 0 rfl) ?_
  refine zz_cr (rest := []) G h (fun r μ1 hf => zz_runV X G rc_6 tl_0 cv_X6_told kw_332 (c_X6_told l D ad cA  hf) ⟨rfl, rfl, Nat.le_of_ble_eq_true rfl, Nat.le_of_ble_eq_true rfl⟩ rfl rfl hl.1 (Nat.le_of_ble_eq_true rfl) dX6_was_1) (fun _ μ H locs G h => ?_)
  refine lv_astore_n (lv' := [(3, .ref (ad 21)), (0, .ref (ad 0)), (1, .int a1), (2, .int a2)]) hx hb dX6_was_4 rfl hl (by decide) rfl (fun ls hl => ?_)
  refine lv_aload_n hx hb dX6_was_5 rfl (lv_at hl 0 rfl) ?_
  refine lv_iload_n hx hb dX6_was_6 rfl (lv_at hl 2 rfl) ?_
  refine zz_ci (rest := []) G h (fun r μ1 hf => zz_runV X G rc_2 tl_21 cv_X2_hasCaller kw_406 (c_X2_hasCaller l D ad cA tl_21 hf) ⟨rfl, rfl, Nat.le_of_ble_eq_true rfl, Nat.le_of_ble_eq_true rfl⟩ rfl rfl hl.1 (Nat.le_of_ble_eq_true rfl) dX6_was_7) (fun x1 μ H locs G h => ?_)
  refine lv_if_eq (tgt := 22) hx hb dX6_was_10 (by decide) (fun c2 => ?_) (fun c2 => ?_)
  · have h := (zz_br h).1 c2
    refine lv_bipush (v := (-2 : Int32)) hx hb dX6_was_22 (by decide) ?_
    rw [hQ]
    exact zz_iret X G hr hlk dX6_was_24 h
  have h := (zz_br h).2 c2
  refine lv_iload_n hx hb dX6_was_13 rfl (lv_at hl 3 rfl) ?_
  refine lv_iconst (v := (0 : Int32)) hx hb dX6_was_14 (by decide) ?_
  refine lv_iconst (v := (1 : Int32)) hx hb dX6_was_15 (by decide) ?_
  refine zz_ci (rest := []) G h (fun r μ1 hf => zz_runS X G cs_X6_within kw_289 (c_X6_within l D ad cA  hf) ⟨rfl, rfl, Nat.le_of_ble_eq_true rfl, Nat.le_of_ble_eq_true rfl⟩ rfl rfl hl.1 (Nat.le_of_ble_eq_true rfl) dX6_was_16) (fun x3 μ H locs G h => ?_)
  refine lv_if_ne (tgt := 25) hx hb dX6_was_19 (by decide) (fun c4 => ?_) (fun c4 => ?_)
  · have h := (zz_br h).1 c4
    refine lv_aload_n hx hb dX6_was_25 rfl (lv_at hl 1 rfl) ?_
    refine zz_getr X G fr_6_5 tl_0 rl_0_5 kw_259 dX6_was_26 ?_
    refine lv_aload_n hx hb dX6_was_29 rfl (lv_at hl 0 rfl) ?_
    refine zz_cv (rest := []) G h (fun r μ1 hf => zz_runV X G rc_2 tl_34 cv_X2_become kw_545 (c_X2_become l D ad cA tl_34 tl_21 hf) ⟨rfl, rfl, Nat.le_of_ble_eq_true rfl, Nat.le_of_ble_eq_true rfl⟩ rfl rfl hl.1 (Nat.le_of_ble_eq_true rfl) dX6_was_30) (fun _ μ H locs G h => ?_)
    refine lv_iload_n hx hb dX6_was_33 rfl (lv_at hl 3 rfl) ?_
    refine lv_if_ne (tgt := 45) hx hb dX6_was_34 (by decide) (fun c5 => ?_) (fun c5 => ?_)
    · have h := (zz_br h).1 c5
      refine lv_aload_n hx hb dX6_was_45 rfl (lv_at hl 1 rfl) ?_
      refine lv_iload_n hx hb dX6_was_46 rfl (lv_at hl 2 rfl) ?_
      refine zz_ci (rest := []) G h (fun r μ1 hf => zz_runV X G rc_6 tl_0 cv_X6_waitsThatFit kw_621 (c_X6_waitsThatFit l D ad cA  hf) ⟨rfl, rfl, Nat.le_of_ble_eq_true rfl, Nat.le_of_ble_eq_true rfl⟩ rfl rfl hl.1 (Nat.le_of_ble_eq_true rfl) dX6_was_47) (fun x6 μ H locs G h => ?_)
      rw [hQ]
      exact zz_iret X G hr hlk dX6_was_50 h
    have h := (zz_br h).2 (fun q => q c5)
    refine lv_aload_n hx hb dX6_was_37 rfl (lv_at hl 1 rfl) ?_
    refine lv_iload_n hx hb dX6_was_38 rfl (lv_at hl 2 rfl) ?_
    refine zz_ci (rest := []) G h (fun r μ1 hf => zz_runV X G rc_6 tl_0 cv_X6_sortsThatFit kw_617 (c_X6_sortsThatFit l D ad cA  hf) ⟨rfl, rfl, Nat.le_of_ble_eq_true rfl, Nat.le_of_ble_eq_true rfl⟩ rfl rfl hl.1 (Nat.le_of_ble_eq_true rfl) dX6_was_39) (fun x7 μ H locs G h => ?_)
    refine lv_goto (tgt := 50) hx hb dX6_was_42 (by decide) ?_
    rw [hQ]
    exact zz_iret X G hr hlk dX6_was_50 h
  have h := (zz_br h).2 (fun q => q c4)
  refine lv_bipush (v := (-2 : Int32)) hx hb dX6_was_22 (by decide) ?_
  rw [hQ]
  exact zz_iret X G hr hlk dX6_was_24 h
set_option maxHeartbeats 4000000 in
set_option maxRecDepth 100000 in
theorem w_X6_ask_L58 {p : Program} {l : Launch} {e : Env} {s : State} {m : MethodId} {args : Array Value} {below : List Frame} {meth : Method} {c : Code} {Q : State → Prop} {D : va_G} {ad : Nat → Nat} {cA : Nat → ClassId} {r : Int32} {μ' : zM} (X : zX true D ad cA p s m args c cX6_ask "ButlerWeather" 8) (hQ : Q = MQ below (zQi true D ad cA r μ') args s 0 0 (zA true ad)) (hr : meth.sig.returnType = (some .int)) (hlk : meth.locks = false) {v3 : Int32} {kx : Int32 → zM → Option (Int32 × zM)} (HX : ∀ (w4 : Int32) (μ : zM) (H : Heap) (locs : List Loc) (ls : Array Slot), lv_has ls 8 [(4, .int w4)] → zG true D ad cA s μ H locs → kx w4 μ = some (r, μ') → W p l e ({ frames := 4, cells := 0, slots := 0, locals := 98 } : Room) s m args below meth c H locs 0 0 Q (F0 m 98 ls [])) : ∀ (n : Nat) (v4 : Int32) (v5 : Int32) (v6 : Int32) (μ : zM) (H : Heap) (locs : List Loc) (ls : Array Slot), lv_has ls 8 [(0, .ref (ad 0)), (3, .int v3), (4, .int v4), (5, .int v5), (6, .int v6)] → zG true D ad cA s μ H locs → f_X6_ask_L58 v3 kx n v4 v5 v6 μ = some (r, μ') → W p l e ({ frames := 4, cells := 0, slots := 0, locals := 98 } : Room) s m args below meth c H locs 0 0 Q (F0 m 58 ls []) := by
  obtain ⟨hx, hb, hml, hown, hts, -, -, -⟩ := id X
  intro n
  induction n with
  | zero =>
    intro v4 v5 v6 μ H locs ls hl G h
    cases (show (none : Option (Int32 × zM)) = some (r, μ') from h)
  | succ n ih =>
    intro v4 v5 v6 μ H locs ls hl G h
    rw [f_X6_ask_L58] at h
    refine lv_iload hx hb dX6_ask_58 (lv_at hl 4 rfl) ?_
    refine lv_bipush (v := (24 : Int32)) hx hb dX6_ask_60 (by decide) ?_
    refine lv_icmp_ge (tgt := 98) hx hb dX6_ask_62 (by decide) (fun c5 => ?_) (fun c5 => ?_)
    · have h := (zz_br h).1 c5
      exact HX v4 μ _ _ _ (lv_sub hl [2] rfl) G h
    have h := (zz_br h).2 c5
    refine lv_aload_n hx hb dX6_ask_65 rfl (lv_at hl 0 rfl) ?_
    refine zz_getr X G fr_6_6 tl_0 rl_0_6 kw_260 dX6_ask_66 ?_
    refine lv_iload_n hx hb dX6_ask_69 rfl (lv_at hl 1 rfl) ?_
    refine lv_iload hx hb dX6_ask_70 (lv_at hl 4 rfl) ?_
    refine zz_ci (rest := []) G h (fun r μ1 hf => zz_runV X G rc_3 tl_47 cv_X3_greatestAlike kw_636 (c_X3_greatestAlike l D ad cA  hf) ⟨rfl, rfl, Nat.le_of_ble_eq_true rfl, Nat.le_of_ble_eq_true rfl⟩ rfl rfl hl.1 (Nat.le_of_ble_eq_true rfl) dX6_ask_72) (fun x6 μ H locs G h => ?_)
    refine lv_istore (lv' := [(7, .int x6), (0, .ref (ad 0)), (3, .int v3), (4, .int v4), (5, .int v5), (6, .int v6)]) hx hb dX6_ask_75 hl (by decide) rfl (fun ls hl => ?_)
    refine lv_iload hx hb dX6_ask_77 (lv_at hl 0 rfl) ?_
    refine lv_iload hx hb dX6_ask_79 (lv_at hl 4 rfl) ?_
    refine lv_icmp_ge (tgt := 92) hx hb dX6_ask_81 (by decide) (fun c7 => ?_) (fun c7 => ?_)
    · have h := (zz_br h).1 c7
      obtain ⟨x8, ex8, h⟩ := zz_let h
      refine lv_iinc (v := x8) (lv' := [(6, .int x8), (7, .int x6), (0, .ref (ad 0)), (3, .int v3), (4, .int v4), (5, .int v5)]) hx hb dX6_ask_92 hl (k := 5) rfl (by rw [← ex8]; rfl) (by decide) rfl (fun ls hl => ?_)
      refine lv_goto (tgt := 58) hx hb dX6_ask_95 (by decide) ?_
      exact ih v4 v5 x8 μ _ _ _ (lv_sub hl [2, 3, 4, 5, 0] rfl) G h
    have h := (zz_br h).2 c7
    refine lv_iload hx hb dX6_ask_84 (lv_at hl 5 rfl) ?_
    refine lv_istore (lv' := [(4, .int v6), (7, .int x6), (0, .ref (ad 0)), (3, .int v3), (5, .int v5), (6, .int v6)]) hx hb dX6_ask_86 hl (by decide) rfl (fun ls hl => ?_)
    refine lv_iload hx hb dX6_ask_88 (lv_at hl 1 rfl) ?_
    refine lv_istore (lv' := [(5, .int x6), (4, .int v6), (7, .int x6), (0, .ref (ad 0)), (3, .int v3), (6, .int v6)]) hx hb dX6_ask_90 hl (by decide) rfl (fun ls hl => ?_)
    obtain ⟨x9, ex9, h⟩ := zz_let h
    refine lv_iinc (v := x9) (lv' := [(6, .int x9), (5, .int x6), (4, .int v6), (7, .int x6), (0, .ref (ad 0)), (3, .int v3)]) hx hb dX6_ask_92 hl (k := 5) rfl (by rw [← ex9]; rfl) (by decide) rfl (fun ls hl => ?_)
    refine lv_goto (tgt := 58) hx hb dX6_ask_95 (by decide) ?_
    exact ih v6 x6 x9 μ _ _ _ (lv_sub hl [4, 5, 2, 1, 0] rfl) G h
set_option maxHeartbeats 4000000 in
set_option maxRecDepth 100000 in
theorem c_X6_ask (l : Launch) (D : va_G) (ad : Nat → Nat) (cA : Nat → ClassId) {a1 : Int32} {μ : zM} {r : Int32} {μ' : zM} (h : f_X6_ask a1 μ = some (r, μ')) : zMet true D ad cA l yX6_ask cX6_ask 8 (some .int) ({ frames := 4, cells := 0, slots := 0, locals := 98 } : Room) [.ref (ad 0), .int a1] μ (zQi true D ad cA r μ') := by
  refine zMet_of "ButlerWeather" ⟨by decide, rfl⟩ (Nat.le_of_ble_eq_true rfl) ?_
  intro p e s m args below meth c X G hr hlk ls hl
  have hl : lv_has ls 8 [(0, .ref (ad 0)), (1, .int a1)] := hl
  obtain ⟨hx, hb, hml, hown, hts, -, -, -⟩ := id X
  obtain ⟨Q, hQ⟩ : ∃ Q, Q = MQ below (zQi true D ad cA r μ') args s 0 0 (zA true ad) := ⟨_, rfl⟩
  rw [← hQ]
  unfold f_X6_ask at h
  refine lv_aload_n hx hb dX6_ask_0 rfl (lv_at hl 0 rfl) ?_
  refine zz_cr (rest := []) G h (fun r μ1 hf => zz_runV X G rc_6 tl_0 cv_X6_told kw_332 (c_X6_told l D ad cA  hf) ⟨rfl, rfl, Nat.le_of_ble_eq_true rfl, Nat.le_of_ble_eq_true rfl⟩ rfl rfl hl.1 (Nat.le_of_ble_eq_true rfl) dX6_ask_1) (fun _ μ H locs G h => ?_)
  refine lv_astore_n (lv' := [(2, .ref (ad 21)), (0, .ref (ad 0)), (1, .int a1)]) hx hb dX6_ask_4 rfl hl (by decide) rfl (fun ls hl => ?_)
  refine lv_aload_n hx hb dX6_ask_5 rfl (lv_at hl 0 rfl) ?_
  refine lv_iload_n hx hb dX6_ask_6 rfl (lv_at hl 2 rfl) ?_
  refine zz_ci (rest := []) G h (fun r μ1 hf => zz_runV X G rc_2 tl_21 cv_X2_hasCaller kw_406 (c_X2_hasCaller l D ad cA tl_21 hf) ⟨rfl, rfl, Nat.le_of_ble_eq_true rfl, Nat.le_of_ble_eq_true rfl⟩ rfl rfl hl.1 (Nat.le_of_ble_eq_true rfl) dX6_ask_7) (fun x1 μ H locs G h => ?_)
  refine lv_if_ne (tgt := 16) hx hb dX6_ask_10 (by decide) (fun c2 => ?_) (fun c2 => ?_)
  · have h := (zz_br h).1 c2
    refine lv_aload_n hx hb dX6_ask_16 rfl (lv_at hl 1 rfl) ?_
    refine zz_getr X G fr_6_5 tl_0 rl_0_5 kw_259 dX6_ask_17 ?_
    refine lv_aload_n hx hb dX6_ask_20 rfl (lv_at hl 0 rfl) ?_
    refine zz_cv (rest := []) G h (fun r μ1 hf => zz_runV X G rc_2 tl_34 cv_X2_become kw_545 (c_X2_become l D ad cA tl_34 tl_21 hf) ⟨rfl, rfl, Nat.le_of_ble_eq_true rfl, Nat.le_of_ble_eq_true rfl⟩ rfl rfl hl.1 (Nat.le_of_ble_eq_true rfl) dX6_ask_21) (fun _ μ H locs G h => ?_)
    refine lv_aload_n hx hb dX6_ask_24 rfl (lv_at hl 1 rfl) ?_
    refine zz_getr X G fr_6_6 tl_0 rl_0_6 kw_260 dX6_ask_25 ?_
    refine lv_aload_n hx hb dX6_ask_28 rfl (lv_at hl 1 rfl) ?_
    refine zz_getr X G fr_6_5 tl_0 rl_0_5 kw_259 dX6_ask_29 ?_
    refine lv_aload_n hx hb dX6_ask_32 rfl (lv_at hl 1 rfl) ?_
    refine zz_getr X G fr_6_2 tl_0 rl_0_2 kw_256 dX6_ask_33 ?_
    refine lv_iload_n hx hb dX6_ask_36 rfl (lv_at hl 2 rfl) ?_
    refine zz_ci (rest := []) G h (fun r μ1 hf => zz_runV X G rc_3 tl_47 cv_X3_keepFitting kw_629 (c_X3_keepFitting l D ad cA tl_34 hf) ⟨rfl, rfl, Nat.le_of_ble_eq_true rfl, Nat.le_of_ble_eq_true rfl⟩ rfl rfl hl.1 (Nat.le_of_ble_eq_true rfl) dX6_ask_37) (fun x3 μ H locs G h => ?_)
    refine lv_istore_n (lv' := [(3, .int x3), (2, .ref (ad 21)), (0, .ref (ad 0)), (1, .int a1)]) hx hb dX6_ask_40 rfl hl (by decide) rfl (fun ls hl => ?_)
    refine lv_iconst (v := (0 : Int32)) hx hb dX6_ask_41 (by decide) ?_
    refine lv_istore (lv' := [(4, .int (0 : Int32)), (3, .int x3), (2, .ref (ad 21)), (0, .ref (ad 0)), (1, .int a1)]) hx hb dX6_ask_42 hl (by decide) rfl (fun ls hl => ?_)
    refine lv_aload_n hx hb dX6_ask_44 rfl (lv_at hl 3 rfl) ?_
    refine zz_getr X G fr_6_6 tl_0 rl_0_6 kw_260 dX6_ask_45 ?_
    refine lv_iload_n hx hb dX6_ask_48 rfl (lv_at hl 1 rfl) ?_
    refine lv_iconst (v := (0 : Int32)) hx hb dX6_ask_49 (by decide) ?_
    refine zz_ci (rest := []) G h (fun r μ1 hf => zz_runV X G rc_3 tl_47 cv_X3_greatestAlike kw_636 (c_X3_greatestAlike l D ad cA  hf) ⟨rfl, rfl, Nat.le_of_ble_eq_true rfl, Nat.le_of_ble_eq_true rfl⟩ rfl rfl hl.1 (Nat.le_of_ble_eq_true rfl) dX6_ask_50) (fun x4 μ H locs G h => ?_)
    refine lv_istore (lv' := [(5, .int x4), (4, .int (0 : Int32)), (3, .int x3), (2, .ref (ad 21)), (0, .ref (ad 0)), (1, .int a1)]) hx hb dX6_ask_53 hl (by decide) rfl (fun ls hl => ?_)
    refine lv_iconst (v := (1 : Int32)) hx hb dX6_ask_55 (by decide) ?_
    refine lv_istore (lv' := [(6, .int (1 : Int32)), (5, .int x4), (4, .int (0 : Int32)), (3, .int x3), (2, .ref (ad 21)), (0, .ref (ad 0)), (1, .int a1)]) hx hb dX6_ask_56 hl (by decide) rfl (fun ls hl => ?_)
    refine w_X6_ask_L58 X hQ hr hlk  (fun x10 μ H locs ls hl G h => ?_) 400 (0 : Int32) x4 (1 : Int32) μ _ _ _ (lv_sub hl [5, 3, 2, 1, 0] rfl) G h
    refine lv_iload hx hb dX6_ask_98 (lv_at hl 0 rfl) ?_
    rw [hQ]
    exact zz_iret X G hr hlk dX6_ask_100 h
  have h := (zz_br h).2 (fun q => q c2)
  refine lv_bipush (v := (-2 : Int32)) hx hb dX6_ask_13 (by decide) ?_
  rw [hQ]
  exact zz_iret X G hr hlk dX6_ask_15 h
