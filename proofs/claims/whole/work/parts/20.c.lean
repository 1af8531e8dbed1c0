-- CONTRACTS, by program
set_option maxHeartbeats 4000000 in
set_option maxRecDepth 100000 in
theorem c_X7_sent (l : Launch) (D : va_G) (ad : Nat → Nat) (cA : Nat → ClassId)  {μ : zM} {r : Int32} {μ' : zM} (h : f_X7_sent μ = some (r, μ')) : zMet false D ad cA l yX7_sent cX7_sent 1 (some .int) ({ frames := 8, cells := 0, slots := 0, locals := 178 } : Room) [.ref (ad 100)] μ (zQi false D ad cA r μ') := by
  refine zMet_of "ButlerWeatherModel" ⟨by decide, rfl⟩ (Nat.le_of_ble_eq_true rfl) ?_
  intro p e s m args below meth c X G hr hlk ls hl
  have hl : lv_has ls 1 [(0, .ref (ad 100))] := hl
  obtain ⟨hx, hb, hml, hown, hts, -, -, -⟩ := id X
  obtain ⟨Q, hQ⟩ : ∃ Q, Q = MQ below (zQi false D ad cA r μ') args s 0 0 (zA false ad) := ⟨_, rfl⟩
  rw [← hQ]
  unfold f_X7_sent at h
  refine lv_aload_n hx hb dX7_sent_0 rfl (lv_at hl 0 rfl) ?_
  refine zz_ci (rest := []) G h (fun r μ1 hf => zz_runV X G rc_7 tl_100 cv_X7_sentOf kw_1092 (c_X7_sentOf l D ad cA  hf) ⟨rfl, rfl, Nat.le_of_ble_eq_true rfl, Nat.le_of_ble_eq_true rfl⟩ rfl rfl hl.1 (Nat.le_of_ble_eq_true rfl) dX7_sent_1) (fun x1 μ H locs G h => ?_)
  rw [hQ]
  exact zz_iret X G hr hlk dX7_sent_4 h
set_option maxHeartbeats 4000000 in
set_option maxRecDepth 100000 in
theorem w_X7_wrongOf_L8 {p : Program} {l : Launch} {e : Env} {s : State} {m : MethodId} {args : Array Value} {below : List Frame} {meth : Method} {c : Code} {Q : State → Prop} {D : va_G} {ad : Nat → Nat} {cA : Nat → ClassId} {r : Int32} {μ' : zM} (X : zX false D ad cA p s m args c cX7_wrongOf "ButlerWeatherModel" 3) (hQ : Q = MQ below (zQi false D ad cA r μ') args s 0 0 (zA false ad)) (hr : meth.sig.returnType = (some .int)) (hlk : meth.locks = false)  {kx : Int32 → zM → Option (Int32 × zM)} (HX : ∀ (w1 : Int32) (μ : zM) (H : Heap) (locs : List Loc) (ls : Array Slot), lv_has ls 3 [(1, .int w1)] → zG false D ad cA s μ H locs → kx w1 μ = some (r, μ') → W p l e ({ frames := 7, cells := 0, slots := 0, locals := 158 } : Room) s m args below meth c H locs 0 0 Q (F0 m 57 ls [])) : ∀ (n : Nat) (v1 : Int32) (v2 : Int32) (μ : zM) (H : Heap) (locs : List Loc) (ls : Array Slot), lv_has ls 3 [(0, .ref (ad 100)), (1, .int v1), (2, .int v2)] → zG false D ad cA s μ H locs → f_X7_wrongOf_L8 kx n v1 v2 μ = some (r, μ') → W p l e ({ frames := 7, cells := 0, slots := 0, locals := 158 } : Room) s m args below meth c H locs 0 0 Q (F0 m 8 ls []) := by
  obtain ⟨hx, hb, hml, hown, hts, -, -, -⟩ := id X
  intro n
  induction n with
  | zero =>
    intro v1 v2 μ H locs ls hl G h
    cases (show (none : Option (Int32 × zM)) = some (r, μ') from h)
  | succ n ih =>
    intro v1 v2 μ H locs ls hl G h
    rw [f_X7_wrongOf_L8] at h
    refine lv_iload_n hx hb dX7_wrongOf_8 rfl (lv_at hl 2 rfl) ?_
    refine lv_aload_n hx hb dX7_wrongOf_9 rfl (lv_at hl 0 rfl) ?_
    refine zz_geti X G fi_7_2 tl_100 kw_784 dX7_wrongOf_10 h (fun x1 h => ?_)
    refine lv_icmp_ge (tgt := 57) hx hb dX7_wrongOf_13 (by decide) (fun c2 => ?_) (fun c2 => ?_)
    · have h := (zz_br h).1 c2
      exact HX v1 μ _ _ _ (lv_sub hl [1] rfl) G h
    have h := (zz_br h).2 c2
    refine lv_iload_n hx hb dX7_wrongOf_16 rfl (lv_at hl 1 rfl) ?_
    refine lv_aload_n hx hb dX7_wrongOf_17 rfl (lv_at hl 0 rfl) ?_
    refine zz_getr X G fr_7_20 tl_100 rl_100_20 kw_802 dX7_wrongOf_18 ?_
    refine lv_iload_n hx hb dX7_wrongOf_21 rfl (lv_at hl 2 rfl) ?_
    refine zz_iald X G ia_30 tl_121 dX7_wrongOf_22 h (fun x3 h => ?_)
    refine lv_iconst (v := (-1 : Int32)) hx hb dX7_wrongOf_23 (by decide) ?_
    refine lv_icmp_eq (tgt := 48) hx hb dX7_wrongOf_24 (by decide) (fun c4 => ?_) (fun c4 => ?_)
    · have h := (zz_br h).1 c4
      refine lv_iconst (v := (0 : Int32)) hx hb dX7_wrongOf_48 (by decide) ?_
      refine lv_ior hx hb dX7_wrongOf_49 ?_
      refine zz_vi h (fun x5 h => ?_)
      refine lv_istore_n (lv' := [(1, .int x5), (0, .ref (ad 100)), (2, .int v2)]) hx hb dX7_wrongOf_50 rfl hl (by decide) rfl (fun ls hl => ?_)
      obtain ⟨x6, ex6, h⟩ := zz_let h
      refine lv_iinc (v := x6) (lv' := [(2, .int x6), (1, .int x5), (0, .ref (ad 100))]) hx hb dX7_wrongOf_51 hl (k := 2) rfl (by rw [← ex6]; rfl) (by decide) rfl (fun ls hl => ?_)
      refine lv_goto (tgt := 8) hx hb dX7_wrongOf_54 (by decide) ?_
      exact ih x5 x6 μ _ _ _ (lv_sub hl [2, 1, 0] rfl) G h
    have h := (zz_br h).2 c4
    refine lv_aload_n hx hb dX7_wrongOf_27 rfl (lv_at hl 0 rfl) ?_
    refine zz_getr X G fr_7_20 tl_100 rl_100_20 kw_802 dX7_wrongOf_28 ?_
    refine lv_iload_n hx hb dX7_wrongOf_31 rfl (lv_at hl 2 rfl) ?_
    refine zz_iald X G ia_30 tl_121 dX7_wrongOf_32 h (fun x7 h => ?_)
    refine lv_aload_n hx hb dX7_wrongOf_33 rfl (lv_at hl 0 rfl) ?_
    refine zz_getr X G fr_7_3 tl_100 rl_100_3 kw_785 dX7_wrongOf_34 ?_
    refine lv_iload_n hx hb dX7_wrongOf_37 rfl (lv_at hl 2 rfl) ?_
    refine zz_iald X G ia_30 tl_104 dX7_wrongOf_38 h (fun x8 h => ?_)
    refine lv_icmp_eq (tgt := 48) hx hb dX7_wrongOf_39 (by decide) (fun c9 => ?_) (fun c9 => ?_)
    · have h := (zz_br h).1 c9
      refine lv_iconst (v := (0 : Int32)) hx hb dX7_wrongOf_48 (by decide) ?_
      refine lv_ior hx hb dX7_wrongOf_49 ?_
      refine zz_vi h (fun x10 h => ?_)
      refine lv_istore_n (lv' := [(1, .int x10), (0, .ref (ad 100)), (2, .int v2)]) hx hb dX7_wrongOf_50 rfl hl (by decide) rfl (fun ls hl => ?_)
      obtain ⟨x11, ex11, h⟩ := zz_let h
      refine lv_iinc (v := x11) (lv' := [(2, .int x11), (1, .int x10), (0, .ref (ad 100))]) hx hb dX7_wrongOf_51 hl (k := 2) rfl (by rw [← ex11]; rfl) (by decide) rfl (fun ls hl => ?_)
      refine lv_goto (tgt := 8) hx hb dX7_wrongOf_54 (by decide) ?_
      exact ih x10 x11 μ _ _ _ (lv_sub hl [2, 1, 0] rfl) G h
    have h := (zz_br h).2 c9
    refine lv_iconst (v := (1 : Int32)) hx hb dX7_wrongOf_42 (by decide) ?_
    refine lv_iload_n hx hb dX7_wrongOf_43 rfl (lv_at hl 2 rfl) ?_
    refine lv_ishl hx hb dX7_wrongOf_44 ?_
    refine lv_goto (tgt := 49) hx hb dX7_wrongOf_45 (by decide) ?_
    refine lv_ior hx hb dX7_wrongOf_49 ?_
    refine zz_vi h (fun x12 h => ?_)
    refine lv_istore_n (lv' := [(1, .int x12), (0, .ref (ad 100)), (2, .int v2)]) hx hb dX7_wrongOf_50 rfl hl (by decide) rfl (fun ls hl => ?_)
    obtain ⟨x13, ex13, h⟩ := zz_let h
    refine lv_iinc (v := x13) (lv' := [(2, .int x13), (1, .int x12), (0, .ref (ad 100))]) hx hb dX7_wrongOf_51 hl (k := 2) rfl (by rw [← ex13]; rfl) (by decide) rfl (fun ls hl => ?_)
    refine lv_goto (tgt := 8) hx hb dX7_wrongOf_54 (by decide) ?_
    exact ih x12 x13 μ _ _ _ (lv_sub hl [2, 1, 0] rfl) G h
set_option maxHeartbeats 4000000 in
set_option maxRecDepth 100000 in
theorem c_X7_wrongOf (l : Launch) (D : va_G) (ad : Nat → Nat) (cA : Nat → ClassId)  {μ : zM} {r : Int32} {μ' : zM} (h : f_X7_wrongOf μ = some (r, μ')) : zMet false D ad cA l yX7_wrongOf cX7_wrongOf 3 (some .int) ({ frames := 7, cells := 0, slots := 0, locals := 158 } : Room) [.ref (ad 100)] μ (zQi false D ad cA r μ') := by
  refine zMet_of "ButlerWeatherModel" ⟨by decide, rfl⟩ (Nat.le_of_ble_eq_true rfl) ?_
  intro p e s m args below meth c X G hr hlk ls hl
  have hl : lv_has ls 3 [(0, .ref (ad 100))] := hl
  obtain ⟨hx, hb, hml, hown, hts, -, -, -⟩ := id X
  obtain ⟨Q, hQ⟩ : ∃ Q, Q = MQ below (zQi false D ad cA r μ') args s 0 0 (zA false ad) := ⟨_, rfl⟩
  rw [← hQ]
  unfold f_X7_wrongOf at h
  refine lv_aload_n hx hb dX7_wrongOf_0 rfl (lv_at hl 0 rfl) ?_
  refine zz_cv (rest := []) G h (fun r μ1 hf => zz_runV X G rc_7 tl_100 cv_X7_runsTold kw_1002 (c_X7_runsTold l D ad cA  hf) ⟨rfl, rfl, Nat.le_of_ble_eq_true rfl, Nat.le_of_ble_eq_true rfl⟩ rfl rfl hl.1 (Nat.le_of_ble_eq_true rfl) dX7_wrongOf_1) (fun _ μ H locs G h => ?_)
  refine lv_iconst (v := (0 : Int32)) hx hb dX7_wrongOf_4 (by decide) ?_
  refine lv_istore_n (lv' := [(1, .int (0 : Int32)), (0, .ref (ad 100))]) hx hb dX7_wrongOf_5 rfl hl (by decide) rfl (fun ls hl => ?_)
  refine lv_iconst (v := (0 : Int32)) hx hb dX7_wrongOf_6 (by decide) ?_
  refine lv_istore_n (lv' := [(2, .int (0 : Int32)), (1, .int (0 : Int32)), (0, .ref (ad 100))]) hx hb dX7_wrongOf_7 rfl hl (by decide) rfl (fun ls hl => ?_)
  refine w_X7_wrongOf_L8 X hQ hr hlk  (fun x14 μ H locs ls hl G h => ?_) 400 (0 : Int32) (0 : Int32) μ _ _ _ (lv_sub hl [2, 1, 0] rfl) G h
  refine lv_iload_n hx hb dX7_wrongOf_57 rfl (lv_at hl 0 rfl) ?_
  rw [hQ]
  exact zz_iret X G hr hlk dX7_wrongOf_58 h
set_option maxHeartbeats 4000000 in
set_option maxRecDepth 100000 in
theorem c_X7_wrong (l : Launch) (D : va_G) (ad : Nat → Nat) (cA : Nat → ClassId)  {μ : zM} {r : Int32} {μ' : zM} (h : f_X7_wrong μ = some (r, μ')) : zMet false D ad cA l yX7_wrong cX7_wrong 1 (some .int) ({ frames := 8, cells := 0, slots := 0, locals := 180 } : Room) [.ref (ad 100)] μ (zQi false D ad cA r μ') := by
  refine zMet_of "ButlerWeatherModel" ⟨by decide, rfl⟩ (Nat.le_of_ble_eq_true rfl) ?_
  intro p e s m args below meth c X G hr hlk ls hl
  have hl : lv_has ls 1 [(0, .ref (ad 100))] := hl
  obtain ⟨hx, hb, hml, hown, hts, -, -, -⟩ := id X
  obtain ⟨Q, hQ⟩ : ∃ Q, Q = MQ below (zQi false D ad cA r μ') args s 0 0 (zA false ad) := ⟨_, rfl⟩
  rw [← hQ]
  unfold f_X7_wrong at h
  refine lv_aload_n hx hb dX7_wrong_0 rfl (lv_at hl 0 rfl) ?_
  refine zz_ci (rest := []) G h (fun r μ1 hf => zz_runV X G rc_7 tl_100 cv_X7_wrongOf kw_1104 (c_X7_wrongOf l D ad cA  hf) ⟨rfl, rfl, Nat.le_of_ble_eq_true rfl, Nat.le_of_ble_eq_true rfl⟩ rfl rfl hl.1 (Nat.le_of_ble_eq_true rfl) dX7_wrong_1) (fun x1 μ H locs G h => ?_)
  rw [hQ]
  exact zz_iret X G hr hlk dX7_wrong_4 h
set_option maxHeartbeats 4000000 in
set_option maxRecDepth 100000 in
theorem w_X7_sumNow_L4 {p : Program} {l : Launch} {e : Env} {s : State} {m : MethodId} {args : Array Value} {below : List Frame} {meth : Method} {c : Code} {Q : State → Prop} {D : va_G} {ad : Nat → Nat} {cA : Nat → ClassId} {r : Int32} {μ' : zM} (X : zX false D ad cA p s m args c cX7_sumNow "ButlerWeatherModel" 3) (hQ : Q = MQ below (zQi false D ad cA r μ') args s 0 0 (zA false ad)) (hr : meth.sig.returnType = (some .int)) (hlk : meth.locks = false)  {kx : Int32 → zM → Option (Int32 × zM)} (HX : ∀ (w1 : Int32) (μ : zM) (H : Heap) (locs : List Loc) (ls : Array Slot), lv_has ls 3 [(1, .int w1)] → zG false D ad cA s μ H locs → kx w1 μ = some (r, μ') → W p l e ({ frames := 0, cells := 0, slots := 0, locals := 0 } : Room) s m args below meth c H locs 0 0 Q (F0 m 25 ls [])) : ∀ (n : Nat) (v1 : Int32) (v2 : Int32) (μ : zM) (H : Heap) (locs : List Loc) (ls : Array Slot), lv_has ls 3 [(0, .ref (ad 100)), (1, .int v1), (2, .int v2)] → zG false D ad cA s μ H locs → f_X7_sumNow_L4 kx n v1 v2 μ = some (r, μ') → W p l e ({ frames := 0, cells := 0, slots := 0, locals := 0 } : Room) s m args below meth c H locs 0 0 Q (F0 m 4 ls []) := by
  obtain ⟨hx, hb, hml, hown, hts, -, -, -⟩ := id X
  intro n
  induction n with
  | zero =>
    intro v1 v2 μ H locs ls hl G h
    cases (show (none : Option (Int32 × zM)) = some (r, μ') from h)
  | succ n ih =>
    intro v1 v2 μ H locs ls hl G h
    rw [f_X7_sumNow_L4] at h
    refine lv_iload_n hx hb dX7_sumNow_4 rfl (lv_at hl 2 rfl) ?_
    refine lv_bipush (v := (24 : Int32)) hx hb dX7_sumNow_5 (by decide) ?_
    refine lv_icmp_ge (tgt := 25) hx hb dX7_sumNow_7 (by decide) (fun c1 => ?_) (fun c1 => ?_)
    · have h := (zz_br h).1 c1
      exact HX v1 μ _ _ _ (lv_sub hl [1] rfl) G h
    have h := (zz_br h).2 c1
    refine lv_iload_n hx hb dX7_sumNow_10 rfl (lv_at hl 1 rfl) ?_
    refine lv_aload_n hx hb dX7_sumNow_11 rfl (lv_at hl 0 rfl) ?_
    refine zz_getr X G fr_7_26 tl_100 rl_100_26 kw_808 dX7_sumNow_12 ?_
    refine lv_iload_n hx hb dX7_sumNow_15 rfl (lv_at hl 2 rfl) ?_
    refine zz_iald X G ia_30 tl_127 dX7_sumNow_16 h (fun x2 h => ?_)
    refine lv_iadd hx hb dX7_sumNow_17 ?_
    refine zz_vi h (fun x3 h => ?_)
    refine lv_istore_n (lv' := [(1, .int x3), (0, .ref (ad 100)), (2, .int v2)]) hx hb dX7_sumNow_18 rfl hl (by decide) rfl (fun ls hl => ?_)
    obtain ⟨x4, ex4, h⟩ := zz_let h
    refine lv_iinc (v := x4) (lv' := [(2, .int x4), (1, .int x3), (0, .ref (ad 100))]) hx hb dX7_sumNow_19 hl (k := 2) rfl (by rw [← ex4]; rfl) (by decide) rfl (fun ls hl => ?_)
    refine lv_goto (tgt := 4) hx hb dX7_sumNow_22 (by decide) ?_
    exact ih x3 x4 μ _ _ _ (lv_sub hl [2, 1, 0] rfl) G h
set_option maxHeartbeats 4000000 in
set_option maxRecDepth 100000 in
theorem c_X7_sumNow (l : Launch) (D : va_G) (ad : Nat → Nat) (cA : Nat → ClassId)  {μ : zM} {r : Int32} {μ' : zM} (h : f_X7_sumNow μ = some (r, μ')) : zMet false D ad cA l yX7_sumNow cX7_sumNow 3 (some .int) ({ frames := 0, cells := 0, slots := 0, locals := 0 } : Room) [.ref (ad 100)] μ (zQi false D ad cA r μ') := by
  refine zMet_of "ButlerWeatherModel" ⟨by decide, rfl⟩ (Nat.le_of_ble_eq_true rfl) ?_
  intro p e s m args below meth c X G hr hlk ls hl
  have hl : lv_has ls 3 [(0, .ref (ad 100))] := hl
  obtain ⟨hx, hb, hml, hown, hts, -, -, -⟩ := id X
  obtain ⟨Q, hQ⟩ : ∃ Q, Q = MQ below (zQi false D ad cA r μ') args s 0 0 (zA false ad) := ⟨_, rfl⟩
  rw [← hQ]
  unfold f_X7_sumNow at h
  refine lv_iconst (v := (0 : Int32)) hx hb dX7_sumNow_0 (by decide) ?_
  refine lv_istore_n (lv' := [(1, .int (0 : Int32)), (0, .ref (ad 100))]) hx hb dX7_sumNow_1 rfl hl (by decide) rfl (fun ls hl => ?_)
  refine lv_iconst (v := (0 : Int32)) hx hb dX7_sumNow_2 (by decide) ?_
  refine lv_istore_n (lv' := [(2, .int (0 : Int32)), (1, .int (0 : Int32)), (0, .ref (ad 100))]) hx hb dX7_sumNow_3 rfl hl (by decide) rfl (fun ls hl => ?_)
  refine w_X7_sumNow_L4 X hQ hr hlk  (fun x5 μ H locs ls hl G h => ?_) 400 (0 : Int32) (0 : Int32) μ _ _ _ (lv_sub hl [2, 1, 0] rfl) G h
  refine lv_iload_n hx hb dX7_sumNow_25 rfl (lv_at hl 0 rfl) ?_
  rw [hQ]
  exact zz_iret X G hr hlk dX7_sumNow_26 h
set_option maxHeartbeats 4000000 in
set_option maxRecDepth 100000 in
theorem c_X7_sumOf (l : Launch) (D : va_G) (ad : Nat → Nat) (cA : Nat → ClassId)  {μ : zM} {r : Int32} {μ' : zM} (h : f_X7_sumOf μ = some (r, μ')) : zMet false D ad cA l yX7_sumOf cX7_sumOf 1 (some .int) ({ frames := 7, cells := 0, slots := 0, locals := 158 } : Room) [.ref (ad 100)] μ (zQi false D ad cA r μ') := by
  refine zMet_of "ButlerWeatherModel" ⟨by decide, rfl⟩ (Nat.le_of_ble_eq_true rfl) ?_
  intro p e s m args below meth c X G hr hlk ls hl
  have hl : lv_has ls 1 [(0, .ref (ad 100))] := hl
  obtain ⟨hx, hb, hml, hown, hts, -, -, -⟩ := id X
  obtain ⟨Q, hQ⟩ : ∃ Q, Q = MQ below (zQi false D ad cA r μ') args s 0 0 (zA false ad) := ⟨_, rfl⟩
  rw [← hQ]
  unfold f_X7_sumOf at h
  refine lv_aload_n hx hb dX7_sumOf_0 rfl (lv_at hl 0 rfl) ?_
  refine zz_cv (rest := []) G h (fun r μ1 hf => zz_runV X G rc_7 tl_100 cv_X7_runsTold kw_1002 (c_X7_runsTold l D ad cA  hf) ⟨rfl, rfl, Nat.le_of_ble_eq_true rfl, Nat.le_of_ble_eq_true rfl⟩ rfl rfl hl.1 (Nat.le_of_ble_eq_true rfl) dX7_sumOf_1) (fun _ μ H locs G h => ?_)
  refine lv_aload_n hx hb dX7_sumOf_4 rfl (lv_at hl 0 rfl) ?_
  refine zz_ci (rest := []) G h (fun r μ1 hf => zz_runV X G rc_7 tl_100 cv_X7_sumNow kw_1116 (c_X7_sumNow l D ad cA  hf) ⟨rfl, rfl, Nat.le_of_ble_eq_true rfl, Nat.le_of_ble_eq_true rfl⟩ rfl rfl hl.1 (Nat.le_of_ble_eq_true rfl) dX7_sumOf_5) (fun x1 μ H locs G h => ?_)
  rw [hQ]
  exact zz_iret X G hr hlk dX7_sumOf_8 h
set_option maxHeartbeats 4000000 in
set_option maxRecDepth 100000 in
theorem c_X7_sum (l : Launch) (D : va_G) (ad : Nat → Nat) (cA : Nat → ClassId)  {μ : zM} {r : Int32} {μ' : zM} (h : f_X7_sum μ = some (r, μ')) : zMet false D ad cA l yX7_sum cX7_sum 1 (some .int) ({ frames := 8, cells := 0, slots := 0, locals := 178 } : Room) [.ref (ad 100)] μ (zQi false D ad cA r μ') := by
  refine zMet_of "ButlerWeatherModel" ⟨by decide, rfl⟩ (Nat.le_of_ble_eq_true rfl) ?_
  intro p e s m args below meth c X G hr hlk ls hl
  have hl : lv_has ls 1 [(0, .ref (ad 100))] := hl
  obtain ⟨hx, hb, hml, hown, hts, -, -, -⟩ := id X
  obtain ⟨Q, hQ⟩ : ∃ Q, Q = MQ below (zQi false D ad cA r μ') args s 0 0 (zA false ad) := ⟨_, rfl⟩
  rw [← hQ]
  unfold f_X7_sum at h
  refine lv_aload_n hx hb dX7_sum_0 rfl (lv_at hl 0 rfl) ?_
  refine zz_ci (rest := []) G h (fun r μ1 hf => zz_runV X G rc_7 tl_100 cv_X7_sumOf kw_1112 (c_X7_sumOf l D ad cA  hf) ⟨rfl, rfl, Nat.le_of_ble_eq_true rfl, Nat.le_of_ble_eq_true rfl⟩ rfl rfl hl.1 (Nat.le_of_ble_eq_true rfl) dX7_sum_1) (fun x1 μ H locs G h => ?_)
  rw [hQ]
  exact zz_iret X G hr hlk dX7_sum_4 h
set_option maxHeartbeats 4000000 in
set_option maxRecDepth 100000 in
theorem w_X7_insNow_L4 {p : Program} {l : Launch} {e : Env} {s : State} {m : MethodId} {args : Array Value} {below : List Frame} {meth : Method} {c : Code} {Q : State → Prop} {D : va_G} {ad : Nat → Nat} {cA : Nat → ClassId} {r : Int32} {μ' : zM} (X : zX false D ad cA p s m args c cX7_insNow "ButlerWeatherModel" 3) (hQ : Q = MQ below (zQi false D ad cA r μ') args s 0 0 (zA false ad)) (hr : meth.sig.returnType = (some .int)) (hlk : meth.locks = false)  {kx : Int32 → zM → Option (Int32 × zM)} (HX : ∀ (w1 : Int32) (μ : zM) (H : Heap) (locs : List Loc) (ls : Array Slot), lv_has ls 3 [(1, .int w1)] → zG false D ad cA s μ H locs → kx w1 μ = some (r, μ') → W p l e ({ frames := 0, cells := 0, slots := 0, locals := 0 } : Room) s m args below meth c H locs 0 0 Q (F0 m 36 ls [])) : ∀ (n : Nat) (v1 : Int32) (v2 : Int32) (μ : zM) (H : Heap) (locs : List Loc) (ls : Array Slot), lv_has ls 3 [(0, .ref (ad 100)), (1, .int v1), (2, .int v2)] → zG false D ad cA s μ H locs → f_X7_insNow_L4 kx n v1 v2 μ = some (r, μ') → W p l e ({ frames := 0, cells := 0, slots := 0, locals := 0 } : Room) s m args below meth c H locs 0 0 Q (F0 m 4 ls []) := by
  obtain ⟨hx, hb, hml, hown, hts, -, -, -⟩ := id X
  intro n
  induction n with
  | zero =>
    intro v1 v2 μ H locs ls hl G h
    cases (show (none : Option (Int32 × zM)) = some (r, μ') from h)
  | succ n ih =>
    intro v1 v2 μ H locs ls hl G h
    rw [f_X7_insNow_L4] at h
    refine lv_iload_n hx hb dX7_insNow_4 rfl (lv_at hl 2 rfl) ?_
    refine lv_aload_n hx hb dX7_insNow_5 rfl (lv_at hl 0 rfl) ?_
    refine zz_geti X G fi_7_2 tl_100 kw_784 dX7_insNow_6 h (fun x1 h => ?_)
    refine lv_icmp_ge (tgt := 36) hx hb dX7_insNow_9 (by decide) (fun c2 => ?_) (fun c2 => ?_)
    · have h := (zz_br h).1 c2
      exact HX v1 μ _ _ _ (lv_sub hl [1] rfl) G h
    have h := (zz_br h).2 c2
    refine lv_iload_n hx hb dX7_insNow_12 rfl (lv_at hl 1 rfl) ?_
    refine lv_aload_n hx hb dX7_insNow_13 rfl (lv_at hl 0 rfl) ?_
    refine zz_getr X G fr_7_20 tl_100 rl_100_20 kw_802 dX7_insNow_14 ?_
    refine lv_iload_n hx hb dX7_insNow_17 rfl (lv_at hl 2 rfl) ?_
    refine zz_iald X G ia_30 tl_121 dX7_insNow_18 h (fun x3 h => ?_)
    refine lv_iconst (v := (-1 : Int32)) hx hb dX7_insNow_19 (by decide) ?_
    refine lv_icmp_eq (tgt := 27) hx hb dX7_insNow_20 (by decide) (fun c4 => ?_) (fun c4 => ?_)
    · have h := (zz_br h).1 c4
      refine lv_iconst (v := (0 : Int32)) hx hb dX7_insNow_27 (by decide) ?_
      refine lv_iadd hx hb dX7_insNow_28 ?_
      refine zz_vi h (fun x5 h => ?_)
      refine lv_istore_n (lv' := [(1, .int x5), (0, .ref (ad 100)), (2, .int v2)]) hx hb dX7_insNow_29 rfl hl (by decide) rfl (fun ls hl => ?_)
      obtain ⟨x6, ex6, h⟩ := zz_let h
      refine lv_iinc (v := x6) (lv' := [(2, .int x6), (1, .int x5), (0, .ref (ad 100))]) hx hb dX7_insNow_30 hl (k := 2) rfl (by rw [← ex6]; rfl) (by decide) rfl (fun ls hl => ?_)
      refine lv_goto (tgt := 4) hx hb dX7_insNow_33 (by decide) ?_
      exact ih x5 x6 μ _ _ _ (lv_sub hl [2, 1, 0] rfl) G h
    have h := (zz_br h).2 c4
    refine lv_iconst (v := (1 : Int32)) hx hb dX7_insNow_23 (by decide) ?_
    refine lv_goto (tgt := 28) hx hb dX7_insNow_24 (by decide) ?_
    refine lv_iadd hx hb dX7_insNow_28 ?_
    refine zz_vi h (fun x7 h => ?_)
    refine lv_istore_n (lv' := [(1, .int x7), (0, .ref (ad 100)), (2, .int v2)]) hx hb dX7_insNow_29 rfl hl (by decide) rfl (fun ls hl => ?_)
    obtain ⟨x8, ex8, h⟩ := zz_let h
    refine lv_iinc (v := x8) (lv' := [(2, .int x8), (1, .int x7), (0, .ref (ad 100))]) hx hb dX7_insNow_30 hl (k := 2) rfl (by rw [← ex8]; rfl) (by decide) rfl (fun ls hl => ?_)
    refine lv_goto (tgt := 4) hx hb dX7_insNow_33 (by decide) ?_
    exact ih x7 x8 μ _ _ _ (lv_sub hl [2, 1, 0] rfl) G h
set_option maxHeartbeats 4000000 in
set_option maxRecDepth 100000 in
theorem c_X7_insNow (l : Launch) (D : va_G) (ad : Nat → Nat) (cA : Nat → ClassId)  {μ : zM} {r : Int32} {μ' : zM} (h : f_X7_insNow μ = some (r, μ')) : zMet false D ad cA l yX7_insNow cX7_insNow 3 (some .int) ({ frames := 0, cells := 0, slots := 0, locals := 0 } : Room) [.ref (ad 100)] μ (zQi false D ad cA r μ') := by
  refine zMet_of "ButlerWeatherModel" ⟨by decide, rfl⟩ (Nat.le_of_ble_eq_true rfl) ?_
  intro p e s m args below meth c X G hr hlk ls hl
  have hl : lv_has ls 3 [(0, .ref (ad 100))] := hl
  obtain ⟨hx, hb, hml, hown, hts, -, -, -⟩ := id X
  obtain ⟨Q, hQ⟩ : ∃ Q, Q = MQ below (zQi false D ad cA r μ') args s 0 0 (zA false ad) := ⟨_, rfl⟩
  rw [← hQ]
  unfold f_X7_insNow at h
  refine lv_iconst (v := (0 : Int32)) hx hb dX7_insNow_0 (by decide) ?_
  refine lv_istore_n (lv' := [(1, .int (0 : Int32)), (0, .ref (ad 100))]) hx hb dX7_insNow_1 rfl hl (by decide) rfl (fun ls hl => ?_)
  refine lv_iconst (v := (0 : Int32)) hx hb dX7_insNow_2 (by decide) ?_
  refine lv_istore_n (lv' := [(2, .int (0 : Int32)), (1, .int (0 : Int32)), (0, .ref (ad 100))]) hx hb dX7_insNow_3 rfl hl (by decide) rfl (fun ls hl => ?_)
  refine w_X7_insNow_L4 X hQ hr hlk  (fun x9 μ H locs ls hl G h => ?_) 400 (0 : Int32) (0 : Int32) μ _ _ _ (lv_sub hl [2, 1, 0] rfl) G h
  refine lv_iload_n hx hb dX7_insNow_36 rfl (lv_at hl 0 rfl) ?_
  rw [hQ]
  exact zz_iret X G hr hlk dX7_insNow_37 h
set_option maxHeartbeats 4000000 in
set_option maxRecDepth 100000 in
theorem w_X7_leaveOf_L32 {p : Program} {l : Launch} {e : Env} {s : State} {m : MethodId} {args : Array Value} {below : List Frame} {meth : Method} {c : Code} {Q : State → Prop} {D : va_G} {ad : Nat → Nat} {cA : Nat → ClassId} {r : Int32} {μ' : zM} (X : zX false D ad cA p s m args c cX7_leaveOf "ButlerWeatherModel" 8) (hQ : Q = MQ below (zQi false D ad cA r μ') args s 0 0 (zA false ad)) (hr : meth.sig.returnType = (some .int)) (hlk : meth.locks = false) {v2 : Int32} {kx : Int32 → Int32 → zM → Option (Int32 × zM)} (HX : ∀ (w3 : Int32) (w4 : Int32) (μ : zM) (H : Heap) (locs : List Loc) (ls : Array Slot), lv_has ls 8 [(2, .int v2), (3, .int w3), (4, .int w4)] → zG false D ad cA s μ H locs → kx w3 w4 μ = some (r, μ') → W p l e ({ frames := 6, cells := 0, slots := 0, locals := 138 } : Room) s m args below meth c H locs 0 0 Q (F0 m 113 ls [])) : ∀ (n : Nat) (v3 : Int32) (v4 : Int32) (v5 : Int32) (μ : zM) (H : Heap) (locs : List Loc) (ls : Array Slot), lv_has ls 8 [(0, .ref (ad 100)), (2, .int v2), (3, .int v3), (4, .int v4), (5, .int v5)] → zG false D ad cA s μ H locs → f_X7_leaveOf_L32 v2 kx n v3 v4 v5 μ = some (r, μ') → W p l e ({ frames := 6, cells := 0, slots := 0, locals := 138 } : Room) s m args below meth c H locs 0 0 Q (F0 m 32 ls []) := by
  obtain ⟨hx, hb, hml, hown, hts, -, -, -⟩ := id X
  intro n
  induction n with
  | zero =>
    intro v3 v4 v5 μ H locs ls hl G h
    cases (show (none : Option (Int32 × zM)) = some (r, μ') from h)
  | succ n ih =>
    intro v3 v4 v5 μ H locs ls hl G h
    rw [f_X7_leaveOf_L32] at h
    refine lv_iload hx hb dX7_leaveOf_32 (lv_at hl 4 rfl) ?_
    refine lv_aload_n hx hb dX7_leaveOf_34 rfl (lv_at hl 0 rfl) ?_
    refine zz_geti X G fi_7_2 tl_100 kw_784 dX7_leaveOf_35 h (fun x3 h => ?_)
    refine lv_icmp_ge (tgt := 113) hx hb dX7_leaveOf_38 (by decide) (fun c4 => ?_) (fun c4 => ?_)
    · have h := (zz_br h).1 c4
      exact HX v3 v4 μ _ _ _ (lv_sub hl [1, 2, 3] rfl) G h
    have h := (zz_br h).2 c4
    refine lv_aload_n hx hb dX7_leaveOf_41 rfl (lv_at hl 0 rfl) ?_
    refine zz_getr X G fr_7_16 tl_100 rl_100_16 kw_798 dX7_leaveOf_42 ?_
    refine lv_aload_n hx hb dX7_leaveOf_45 rfl (lv_at hl 0 rfl) ?_
    refine zz_geti X G fi_7_11 tl_100 kw_793 dX7_leaveOf_46 h (fun x5 h => ?_)
    refine lv_iload hx hb dX7_leaveOf_49 (lv_at hl 4 rfl) ?_
    refine zz_iast X G ia_30 tl_117 dX7_leaveOf_51 h (fun μ H locs G h => ?_)
    refine lv_aload_n hx hb dX7_leaveOf_52 rfl (lv_at hl 0 rfl) ?_
    refine zz_cv (rest := []) G h (fun r μ1 hf => zz_runV X G rc_7 tl_100 cv_X7_runs kw_1010 (c_X7_runs l D ad cA  hf) ⟨rfl, rfl, Nat.le_of_ble_eq_true rfl, Nat.le_of_ble_eq_true rfl⟩ rfl rfl hl.1 (Nat.le_of_ble_eq_true rfl) dX7_leaveOf_53) (fun _ μ H locs G h => ?_)
    refine lv_aload_n hx hb dX7_leaveOf_56 rfl (lv_at hl 0 rfl) ?_
    refine zz_ci (rest := []) G h (fun r μ1 hf => zz_runV X G rc_7 tl_100 cv_X7_sumNow kw_1116 (c_X7_sumNow l D ad cA  hf) ⟨rfl, rfl, Nat.le_of_ble_eq_true rfl, Nat.le_of_ble_eq_true rfl⟩ rfl rfl hl.1 (Nat.le_of_ble_eq_true rfl) dX7_leaveOf_57) (fun x6 μ H locs G h => ?_)
    refine lv_istore (lv' := [(6, .int x6), (0, .ref (ad 100)), (2, .int v2), (3, .int v3), (4, .int v4), (5, .int v5)]) hx hb dX7_leaveOf_60 hl (by decide) rfl (fun ls hl => ?_)
    refine lv_iload_n hx hb dX7_leaveOf_62 rfl (lv_at hl 3 rfl) ?_
    refine lv_iconst (v := (-1 : Int32)) hx hb dX7_leaveOf_63 (by decide) ?_
    refine Exists.elim (zz_jn (P := fun (j : Int32 → zM → Option (Int32 × zM)) => ∀ (y7 : Int32) (μ : zM) (H : Heap) (locs : List Loc) (ls : Array Slot), lv_has ls 8 [(0, .ref (ad 100)), (2, .int v2), (3, .int v3), (4, .int v4), (5, .int v5), (6, .int x6)] → zG false D ad cA s μ H locs → j y7 μ = some (r, μ') → W p l e ({ frames := 6, cells := 0, slots := 0, locals := 138 } : Room) s m args below meth c H locs 0 0 Q (F0 m 79 ls [.int y7])) h ?_) (fun j79_1 hj => ?_)
    · intro y7 μ H locs ls hl G h
      refine lv_istore (lv' := [(7, .int y7), (0, .ref (ad 100)), (2, .int v2), (3, .int v3), (4, .int v4), (5, .int v5), (6, .int x6)]) hx hb dX7_leaveOf_79 hl (by decide) rfl (fun ls hl => ?_)
      refine lv_iload hx hb dX7_leaveOf_81 (lv_at hl 0 rfl) ?_
      refine Exists.elim (zz_jn (P := fun (j : Int32 → zM → Option (Int32 × zM)) => ∀ (y8 : Int32) (μ : zM) (H : Heap) (locs : List Loc) (ls : Array Slot), lv_has ls 8 [(0, .ref (ad 100)), (2, .int v2), (4, .int v4), (5, .int v5), (6, .int x6), (7, .int y7)] → zG false D ad cA s μ H locs → j y8 μ = some (r, μ') → W p l e ({ frames := 6, cells := 0, slots := 0, locals := 138 } : Room) s m args below meth c H locs 0 0 Q (F0 m 92 ls [.int y8])) h ?_) (fun j92_2 hj => ?_)
      · intro y8 μ H locs ls hl G h
        refine lv_istore_n (lv' := [(3, .int y8), (0, .ref (ad 100)), (2, .int v2), (4, .int v4), (5, .int v5), (6, .int x6), (7, .int y7)]) hx hb dX7_leaveOf_92 rfl hl (by decide) rfl (fun ls hl => ?_)
        refine lv_iload hx hb dX7_leaveOf_93 (lv_at hl 6 rfl) ?_
        refine lv_if_eq (tgt := 103) hx hb dX7_leaveOf_95 (by decide) (fun c9 => ?_) (fun c9 => ?_)
        · have h := (zz_br h).1 c9
          refine lv_iload hx hb dX7_leaveOf_103 (lv_at hl 3 rfl) ?_
          refine lv_istore (lv' := [(4, .int v4), (3, .int y8), (0, .ref (ad 100)), (2, .int v2), (5, .int v5), (6, .int x6), (7, .int y7)]) hx hb dX7_leaveOf_105 hl (by decide) rfl (fun ls hl => ?_)
          obtain ⟨x10, ex10, h⟩ := zz_let h
          refine lv_iinc (v := x10) (lv' := [(5, .int x10), (4, .int v4), (3, .int y8), (0, .ref (ad 100)), (2, .int v2), (6, .int x6), (7, .int y7)]) hx hb dX7_leaveOf_107 hl (k := 4) rfl (by rw [← ex10]; rfl) (by decide) rfl (fun ls hl => ?_)
          refine lv_goto (tgt := 32) hx hb dX7_leaveOf_110 (by decide) ?_
          exact ih y8 v4 x10 μ _ _ _ (lv_sub hl [3, 4, 2, 1, 0] rfl) G h
        have h := (zz_br h).2 c9
        refine lv_iload hx hb dX7_leaveOf_98 (lv_at hl 5 rfl) ?_
        refine lv_goto (tgt := 105) hx hb dX7_leaveOf_100 (by decide) ?_
        refine lv_istore (lv' := [(4, .int x6), (3, .int y8), (0, .ref (ad 100)), (2, .int v2), (5, .int v5), (6, .int x6), (7, .int y7)]) hx hb dX7_leaveOf_105 hl (by decide) rfl (fun ls hl => ?_)
        obtain ⟨x11, ex11, h⟩ := zz_let h
        refine lv_iinc (v := x11) (lv' := [(5, .int x11), (4, .int x6), (3, .int y8), (0, .ref (ad 100)), (2, .int v2), (6, .int x6), (7, .int y7)]) hx hb dX7_leaveOf_107 hl (k := 4) rfl (by rw [← ex11]; rfl) (by decide) rfl (fun ls hl => ?_)
        refine lv_goto (tgt := 32) hx hb dX7_leaveOf_110 (by decide) ?_
        exact ih y8 x6 x11 μ _ _ _ (lv_sub hl [3, 4, 2, 1, 0] rfl) G h
      obtain ⟨hj92_2, h⟩ := hj
      refine lv_if_eq (tgt := 91) hx hb dX7_leaveOf_83 (by decide) (fun c12 => ?_) (fun c12 => ?_)
      · have h := (zz_br h).1 c12
        refine lv_iload_n hx hb dX7_leaveOf_91 rfl (lv_at hl 3 rfl) ?_
        exact hj92_2 v3 μ _ _ _ (lv_sub hl [1, 2, 4, 5, 6, 0] rfl) G h
      have h := (zz_br h).2 c12
      refine lv_iload hx hb dX7_leaveOf_86 (lv_at hl 5 rfl) ?_
      refine lv_goto (tgt := 92) hx hb dX7_leaveOf_88 (by decide) ?_
      exact hj92_2 v5 μ _ _ _ (lv_sub hl [1, 2, 4, 5, 6, 0] rfl) G h
    obtain ⟨hj79_1, h⟩ := hj
    refine lv_icmp_eq (tgt := 74) hx hb dX7_leaveOf_64 (by decide) (fun c13 => ?_) (fun c13 => ?_)
    · have h := (zz_br h).1 c13
      refine lv_iconst (v := (1 : Int32)) hx hb dX7_leaveOf_74 (by decide) ?_
      refine lv_goto (tgt := 79) hx hb dX7_leaveOf_75 (by decide) ?_
      exact hj79_1 (1 : Int32) μ _ _ _ (lv_sub hl [1, 2, 3, 4, 5, 0] rfl) G h
    have h := (zz_br h).2 c13
    refine lv_iload hx hb dX7_leaveOf_67 (lv_at hl 0 rfl) ?_
    refine lv_iload hx hb dX7_leaveOf_69 (lv_at hl 4 rfl) ?_
    refine lv_icmp_le (tgt := 78) hx hb dX7_leaveOf_71 (by decide) (fun c14 => ?_) (fun c14 => ?_)
    · have h := (zz_br h).1 c14
      refine lv_iconst (v := (0 : Int32)) hx hb dX7_leaveOf_78 (by decide) ?_
      exact hj79_1 (0 : Int32) μ _ _ _ (lv_sub hl [1, 2, 3, 4, 5, 0] rfl) G h
    have h := (zz_br h).2 c14
    refine lv_iconst (v := (1 : Int32)) hx hb dX7_leaveOf_74 (by decide) ?_
    refine lv_goto (tgt := 79) hx hb dX7_leaveOf_75 (by decide) ?_
    exact hj79_1 (1 : Int32) μ _ _ _ (lv_sub hl [1, 2, 3, 4, 5, 0] rfl) G h
set_option maxHeartbeats 4000000 in
set_option maxRecDepth 100000 in
theorem c_X7_leaveOf (l : Launch) (D : va_G) (ad : Nat → Nat) (cA : Nat → ClassId) {a1 : Int32} {a2 : Int32} {μ : zM} {r : Int32} {μ' : zM} (h : f_X7_leaveOf a1 a2 μ = some (r, μ')) : zMet false D ad cA l yX7_leaveOf cX7_leaveOf 8 (some .int) ({ frames := 6, cells := 0, slots := 0, locals := 138 } : Room) [.ref (ad 100), .int a1, .int a2] μ (zQi false D ad cA r μ') := by
  refine zMet_of "ButlerWeatherModel" ⟨by decide, rfl⟩ (Nat.le_of_ble_eq_true rfl) ?_
  intro p e s m args below meth c X G hr hlk ls hl
  have hl : lv_has ls 8 [(0, .ref (ad 100)), (1, .int a1), (2, .int a2)] := hl
  obtain ⟨hx, hb, hml, hown, hts, -, -, -⟩ := id X
  obtain ⟨Q, hQ⟩ : ∃ Q, Q = MQ below (zQi false D ad cA r μ') args s 0 0 (zA false ad) := ⟨_, rfl⟩
  rw [← hQ]
  unfold f_X7_leaveOf at h
  refine lv_aload_n hx hb dX7_leaveOf_0 rfl (lv_at hl 0 rfl) ?_
  refine zz_cv (rest := []) G h (fun r μ1 hf => zz_runV X G rc_7 tl_100 cv_X7_asTold kw_1006 (c_X7_asTold l D ad cA  hf) ⟨rfl, rfl, Nat.le_of_ble_eq_true rfl, Nat.le_of_ble_eq_true rfl⟩ rfl rfl hl.1 (Nat.le_of_ble_eq_true rfl) dX7_leaveOf_1) (fun _ μ H locs G h => ?_)
  refine lv_iconst (v := (-1 : Int32)) hx hb dX7_leaveOf_4 (by decide) ?_
  refine lv_istore_n (lv' := [(3, .int (-1 : Int32)), (0, .ref (ad 100)), (1, .int a1), (2, .int a2)]) hx hb dX7_leaveOf_5 rfl hl (by decide) rfl (fun ls hl => ?_)
  refine lv_iconst (v := (0 : Int32)) hx hb dX7_leaveOf_6 (by decide) ?_
  refine lv_istore (lv' := [(4, .int (0 : Int32)), (3, .int (-1 : Int32)), (0, .ref (ad 100)), (1, .int a1), (2, .int a2)]) hx hb dX7_leaveOf_7 hl (by decide) rfl (fun ls hl => ?_)
  refine lv_aload_n hx hb dX7_leaveOf_9 rfl (lv_at hl 2 rfl) ?_
  refine lv_aload_n hx hb dX7_leaveOf_10 rfl (lv_at hl 2 rfl) ?_
  refine zz_geti X G fi_7_11 tl_100 kw_793 dX7_leaveOf_11 h (fun x1 h => ?_)
  refine lv_iconst (v := (1 : Int32)) hx hb dX7_leaveOf_14 (by decide) ?_
  refine lv_iadd hx hb dX7_leaveOf_15 ?_
  refine zz_puti X G fp_7_14 tl_100 kw_796 rfl rfl dX7_leaveOf_16 h (fun μ H locs G h => ?_)
  refine lv_aload_n hx hb dX7_leaveOf_19 rfl (lv_at hl 2 rfl) ?_
  refine zz_getr X G fr_7_15 tl_100 rl_100_15 kw_797 dX7_leaveOf_20 ?_
  refine lv_aload_n hx hb dX7_leaveOf_23 rfl (lv_at hl 2 rfl) ?_
  refine zz_geti X G fi_7_11 tl_100 kw_793 dX7_leaveOf_24 h (fun x2 h => ?_)
  refine lv_iload_n hx hb dX7_leaveOf_27 rfl (lv_at hl 3 rfl) ?_
  refine zz_iast X G ia_30 tl_116 dX7_leaveOf_28 h (fun μ H locs G h => ?_)
  refine lv_iconst (v := (0 : Int32)) hx hb dX7_leaveOf_29 (by decide) ?_
  refine lv_istore (lv' := [(5, .int (0 : Int32)), (4, .int (0 : Int32)), (3, .int (-1 : Int32)), (0, .ref (ad 100)), (1, .int a1), (2, .int a2)]) hx hb dX7_leaveOf_30 hl (by decide) rfl (fun ls hl => ?_)
  refine w_X7_leaveOf_L32 X hQ hr hlk  (fun x15 x16 μ H locs ls hl G h => ?_) 400 (-1 : Int32) (0 : Int32) (0 : Int32) μ _ _ _ (lv_sub hl [3, 5, 2, 1, 0] rfl) G h
  refine lv_iload_n hx hb dX7_leaveOf_113 rfl (lv_at hl 1 rfl) ?_
  refine lv_iconst (v := (-1 : Int32)) hx hb dX7_leaveOf_114 (by decide) ?_
  refine lv_icmp_ne (tgt := 123) hx hb dX7_leaveOf_115 (by decide) (fun c17 => ?_) (fun c17 => ?_)
  · have h := (zz_br h).1 c17
    refine lv_iload_n hx hb dX7_leaveOf_123 rfl (lv_at hl 0 rfl) ?_
    refine lv_if_ne (tgt := 131) hx hb dX7_leaveOf_124 (by decide) (fun c18 => ?_) (fun c18 => ?_)
    · have h := (zz_br h).1 c18
      refine lv_iload hx hb dX7_leaveOf_131 (lv_at hl 2 rfl) ?_
      rw [hQ]
      exact zz_iret X G hr hlk dX7_leaveOf_133 h
    have h := (zz_br h).2 (fun q => q c18)
    refine lv_iload_n hx hb dX7_leaveOf_127 rfl (lv_at hl 1 rfl) ?_
    refine lv_goto (tgt := 133) hx hb dX7_leaveOf_128 (by decide) ?_
    rw [hQ]
    exact zz_iret X G hr hlk dX7_leaveOf_133 h
  have h := (zz_br h).2 (fun q => q c17)
  refine lv_ldc hx hb hown (hts _ kw_1128) dX7_leaveOf_118 ?_
  refine lv_goto (tgt := 133) hx hb dX7_leaveOf_120 (by decide) ?_
  rw [hQ]
  exact zz_iret X G hr hlk dX7_leaveOf_133 h
set_option maxHeartbeats 4000000 in
set_option maxRecDepth 100000 in
theorem c_X7_leave (l : Launch) (D : va_G) (ad : Nat → Nat) (cA : Nat → ClassId) {a1 : Int32} {a2 : Int32} {μ : zM} {r : Int32} {μ' : zM} (h : f_X7_leave a1 a2 μ = some (r, μ')) : zMet false D ad cA l yX7_leave cX7_leave 3 (some .int) ({ frames := 7, cells := 0, slots := 0, locals := 165 } : Room) [.ref (ad 100), .int a1, .int a2] μ (zQi false D ad cA r μ') := by
  refine zMet_of "ButlerWeatherModel" ⟨by decide, rfl⟩ (Nat.le_of_ble_eq_true rfl) ?_
  intro p e s m args below meth c X G hr hlk ls hl
  have hl : lv_has ls 3 [(0, .ref (ad 100)), (1, .int a1), (2, .int a2)] := hl
  obtain ⟨hx, hb, hml, hown, hts, -, -, -⟩ := id X
  obtain ⟨Q, hQ⟩ : ∃ Q, Q = MQ below (zQi false D ad cA r μ') args s 0 0 (zA false ad) := ⟨_, rfl⟩
  rw [← hQ]
  unfold f_X7_leave at h
  refine lv_iload_n hx hb dX7_leave_0 rfl (lv_at hl 1 rfl) ?_
  refine zz_ci (rest := []) G h (fun r μ1 hf => zz_runS X G cs_X7_isDay kw_975 (c_X7_isDay l D ad cA  hf) ⟨rfl, rfl, Nat.le_of_ble_eq_true rfl, Nat.le_of_ble_eq_true rfl⟩ rfl rfl hl.1 (Nat.le_of_ble_eq_true rfl) dX7_leave_1) (fun x1 μ H locs G h => ?_)
  refine lv_if_eq (tgt := 23) hx hb dX7_leave_4 (by decide) (fun c2 => ?_) (fun c2 => ?_)
  · have h := (zz_br h).1 c2
    refine lv_ldc hx hb hown (hts _ kw_1068) dX7_leave_23 ?_
    rw [hQ]
    exact zz_iret X G hr hlk dX7_leave_25 h
  have h := (zz_br h).2 c2
  refine lv_iload_n hx hb dX7_leave_7 rfl (lv_at hl 2 rfl) ?_
  refine zz_ci (rest := []) G h (fun r μ1 hf => zz_runS X G cs_X7_isTwo kw_1081 (c_X7_isTwo l D ad cA  hf) ⟨rfl, rfl, Nat.le_of_ble_eq_true rfl, Nat.le_of_ble_eq_true rfl⟩ rfl rfl hl.1 (Nat.le_of_ble_eq_true rfl) dX7_leave_8) (fun x3 μ H locs G h => ?_)
  refine lv_if_eq (tgt := 23) hx hb dX7_leave_11 (by decide) (fun c4 => ?_) (fun c4 => ?_)
  · have h := (zz_br h).1 c4
    refine lv_ldc hx hb hown (hts _ kw_1068) dX7_leave_23 ?_
    rw [hQ]
    exact zz_iret X G hr hlk dX7_leave_25 h
  have h := (zz_br h).2 c4
  refine lv_aload_n hx hb dX7_leave_14 rfl (lv_at hl 0 rfl) ?_
  refine lv_iload_n hx hb dX7_leave_15 rfl (lv_at hl 1 rfl) ?_
  refine lv_iload_n hx hb dX7_leave_16 rfl (lv_at hl 2 rfl) ?_
  refine zz_ci (rest := []) G h (fun r μ1 hf => zz_runV X G rc_7 tl_100 cv_X7_leaveOf kw_1124 (c_X7_leaveOf l D ad cA  hf) ⟨rfl, rfl, Nat.le_of_ble_eq_true rfl, Nat.le_of_ble_eq_true rfl⟩ rfl rfl hl.1 (Nat.le_of_ble_eq_true rfl) dX7_leave_17) (fun x5 μ H locs G h => ?_)
  refine lv_goto (tgt := 25) hx hb dX7_leave_20 (by decide) ?_
  rw [hQ]
  exact zz_iret X G hr hlk dX7_leave_25 h
set_option maxHeartbeats 4000000 in
set_option maxRecDepth 100000 in
theorem w_X7_beginOf_L20 {p : Program} {l : Launch} {e : Env} {s : State} {m : MethodId} {args : Array Value} {below : List Frame} {meth : Method} {c : Code} {Q : State → Prop} {D : va_G} {ad : Nat → Nat} {cA : Nat → ClassId} {r : Int32} {μ' : zM} (X : zX false D ad cA p s m args c cX7_beginOf "ButlerWeatherModel" 8) (hQ : Q = MQ below (zQi false D ad cA r μ') args s 0 0 (zA false ad)) (hr : meth.sig.returnType = (some .int)) (hlk : meth.locks = false) {v1 : Int32} {v2 : Int32} {v3 : Int32} {kx : Int32 → Int32 → zM → Option (Int32 × zM)} (HX : ∀ (w4 : Int32) (w5 : Int32) (μ : zM) (H : Heap) (locs : List Loc) (ls : Array Slot), lv_has ls 8 [(0, .ref (ad 100)), (1, .int v1), (2, .int v2), (3, .int v3), (4, .int w4), (5, .int w5)] → zG false D ad cA s μ H locs → kx w4 w5 μ = some (r, μ') → W p l e ({ frames := 6, cells := 0, slots := 0, locals := 138 } : Room) s m args below meth c H locs 0 0 Q (F0 m 83 ls [])) : ∀ (n : Nat) (v4 : Int32) (v5 : Int32) (v6 : Int32) (μ : zM) (H : Heap) (locs : List Loc) (ls : Array Slot), lv_has ls 8 [(0, .ref (ad 100)), (1, .int v1), (2, .int v2), (3, .int v3), (4, .int v4), (5, .int v5), (6, .int v6)] → zG false D ad cA s μ H locs → f_X7_beginOf_L20 v1 v2 v3 kx n v4 v5 v6 μ = some (r, μ') → W p l e ({ frames := 6, cells := 0, slots := 0, locals := 138 } : Room) s m args below meth c H locs 0 0 Q (F0 m 20 ls []) := by
  obtain ⟨hx, hb, hml, hown, hts, -, -, -⟩ := id X
  intro n
  induction n with
  | zero =>
    intro v4 v5 v6 μ H locs ls hl G h
    cases (show (none : Option (Int32 × zM)) = some (r, μ') from h)
  | succ n ih =>
    intro v4 v5 v6 μ H locs ls hl G h
    rw [f_X7_beginOf_L20] at h
    refine lv_iload hx hb dX7_beginOf_20 (lv_at hl 6 rfl) ?_
    refine lv_bipush (v := (24 : Int32)) hx hb dX7_beginOf_22 (by decide) ?_
    refine lv_icmp_ge (tgt := 83) hx hb dX7_beginOf_24 (by decide) (fun c2 => ?_) (fun c2 => ?_)
    · have h := (zz_br h).1 c2
      exact HX v4 v5 μ _ _ _ (lv_sub hl [0, 1, 2, 3, 4, 5] rfl) G h
    have h := (zz_br h).2 c2
    refine lv_aload_n hx hb dX7_beginOf_27 rfl (lv_at hl 0 rfl) ?_
    refine zz_getr X G fr_7_9 tl_100 rl_100_9 kw_791 dX7_beginOf_28 ?_
    refine lv_iload_n hx hb dX7_beginOf_31 rfl (lv_at hl 1 rfl) ?_
    refine lv_iload hx hb dX7_beginOf_32 (lv_at hl 6 rfl) ?_
    refine zz_iast X G ia_30 tl_110 dX7_beginOf_34 h (fun μ H locs G h => ?_)
    refine lv_aload_n hx hb dX7_beginOf_35 rfl (lv_at hl 0 rfl) ?_
    refine zz_cv (rest := []) G h (fun r μ1 hf => zz_runV X G rc_7 tl_100 cv_X7_runs kw_1010 (c_X7_runs l D ad cA  hf) ⟨rfl, rfl, Nat.le_of_ble_eq_true rfl, Nat.le_of_ble_eq_true rfl⟩ rfl rfl hl.1 (Nat.le_of_ble_eq_true rfl) dX7_beginOf_36) (fun _ μ H locs G h => ?_)
    refine lv_aload_n hx hb dX7_beginOf_39 rfl (lv_at hl 0 rfl) ?_
    refine zz_ci (rest := []) G h (fun r μ1 hf => zz_runV X G rc_7 tl_100 cv_X7_insNow kw_1137 (c_X7_insNow l D ad cA  hf) ⟨rfl, rfl, Nat.le_of_ble_eq_true rfl, Nat.le_of_ble_eq_true rfl⟩ rfl rfl hl.1 (Nat.le_of_ble_eq_true rfl) dX7_beginOf_40) (fun x3 μ H locs G h => ?_)
    refine lv_istore (lv' := [(7, .int x3), (0, .ref (ad 100)), (1, .int v1), (2, .int v2), (3, .int v3), (4, .int v4), (5, .int v5), (6, .int v6)]) hx hb dX7_beginOf_43 hl (by decide) rfl (fun ls hl => ?_)
    refine lv_iload hx hb dX7_beginOf_45 (lv_at hl 0 rfl) ?_
    refine lv_iload hx hb dX7_beginOf_47 (lv_at hl 6 rfl) ?_
    refine Exists.elim (zz_jn (P := fun (j : Int32 → zM → Option (Int32 × zM)) => ∀ (y4 : Int32) (μ : zM) (H : Heap) (locs : List Loc) (ls : Array Slot), lv_has ls 8 [(0, .ref (ad 100)), (1, .int v1), (2, .int v2), (3, .int v3), (5, .int v5), (6, .int v6), (7, .int x3)] → zG false D ad cA s μ H locs → j y4 μ = some (r, μ') → W p l e ({ frames := 6, cells := 0, slots := 0, locals := 138 } : Room) s m args below meth c H locs 0 0 Q (F0 m 59 ls [.int y4])) h ?_) (fun j59_1 hj => ?_)
    · intro y4 μ H locs ls hl G h
      refine lv_istore (lv' := [(4, .int y4), (0, .ref (ad 100)), (1, .int v1), (2, .int v2), (3, .int v3), (5, .int v5), (6, .int v6), (7, .int x3)]) hx hb dX7_beginOf_59 hl (by decide) rfl (fun ls hl => ?_)
      refine lv_iload hx hb dX7_beginOf_61 (lv_at hl 7 rfl) ?_
      refine lv_iload hx hb dX7_beginOf_63 (lv_at hl 5 rfl) ?_
      refine lv_icmp_le (tgt := 73) hx hb dX7_beginOf_65 (by decide) (fun c5 => ?_) (fun c5 => ?_)
      · have h := (zz_br h).1 c5
        refine lv_iload hx hb dX7_beginOf_73 (lv_at hl 5 rfl) ?_
        refine lv_istore (lv' := [(5, .int v5), (4, .int y4), (0, .ref (ad 100)), (1, .int v1), (2, .int v2), (3, .int v3), (6, .int v6), (7, .int x3)]) hx hb dX7_beginOf_75 hl (by decide) rfl (fun ls hl => ?_)
        obtain ⟨x6, ex6, h⟩ := zz_let h
        refine lv_iinc (v := x6) (lv' := [(6, .int x6), (5, .int v5), (4, .int y4), (0, .ref (ad 100)), (1, .int v1), (2, .int v2), (3, .int v3), (7, .int x3)]) hx hb dX7_beginOf_77 hl (k := 6) rfl (by rw [← ex6]; rfl) (by decide) rfl (fun ls hl => ?_)
        refine lv_goto (tgt := 20) hx hb dX7_beginOf_80 (by decide) ?_
        exact ih y4 v5 x6 μ _ _ _ (lv_sub hl [3, 4, 5, 6, 2, 1, 0] rfl) G h
      have h := (zz_br h).2 c5
      refine lv_iload hx hb dX7_beginOf_68 (lv_at hl 7 rfl) ?_
      refine lv_goto (tgt := 75) hx hb dX7_beginOf_70 (by decide) ?_
      refine lv_istore (lv' := [(5, .int x3), (4, .int y4), (0, .ref (ad 100)), (1, .int v1), (2, .int v2), (3, .int v3), (6, .int v6), (7, .int x3)]) hx hb dX7_beginOf_75 hl (by decide) rfl (fun ls hl => ?_)
      obtain ⟨x7, ex7, h⟩ := zz_let h
      refine lv_iinc (v := x7) (lv' := [(6, .int x7), (5, .int x3), (4, .int y4), (0, .ref (ad 100)), (1, .int v1), (2, .int v2), (3, .int v3), (7, .int x3)]) hx hb dX7_beginOf_77 hl (k := 6) rfl (by rw [← ex7]; rfl) (by decide) rfl (fun ls hl => ?_)
      refine lv_goto (tgt := 20) hx hb dX7_beginOf_80 (by decide) ?_
      exact ih y4 x3 x7 μ _ _ _ (lv_sub hl [3, 4, 5, 6, 2, 1, 0] rfl) G h
    obtain ⟨hj59_1, h⟩ := hj
    refine lv_icmp_le (tgt := 57) hx hb dX7_beginOf_49 (by decide) (fun c8 => ?_) (fun c8 => ?_)
    · have h := (zz_br h).1 c8
      refine lv_iload hx hb dX7_beginOf_57 (lv_at hl 5 rfl) ?_
      exact hj59_1 v4 μ _ _ _ (lv_sub hl [1, 2, 3, 4, 6, 7, 0] rfl) G h
    have h := (zz_br h).2 c8
    refine lv_iload hx hb dX7_beginOf_52 (lv_at hl 7 rfl) ?_
    refine lv_goto (tgt := 59) hx hb dX7_beginOf_54 (by decide) ?_
    exact hj59_1 v6 μ _ _ _ (lv_sub hl [1, 2, 3, 4, 6, 7, 0] rfl) G h
set_option maxHeartbeats 4000000 in
set_option maxRecDepth 100000 in
theorem c_X7_beginOf (l : Launch) (D : va_G) (ad : Nat → Nat) (cA : Nat → ClassId) {a1 : Int32} {a2 : Int32} {μ : zM} {r : Int32} {μ' : zM} (h : f_X7_beginOf a1 a2 μ = some (r, μ')) : zMet false D ad cA l yX7_beginOf cX7_beginOf 8 (some .int) ({ frames := 6, cells := 0, slots := 0, locals := 138 } : Room) [.ref (ad 100), .int a1, .int a2] μ (zQi false D ad cA r μ') := by
  refine zMet_of "ButlerWeatherModel" ⟨by decide, rfl⟩ (Nat.le_of_ble_eq_true rfl) ?_
  intro p e s m args below meth c X G hr hlk ls hl
  have hl : lv_has ls 8 [(0, .ref (ad 100)), (1, .int a1), (2, .int a2)] := hl
  obtain ⟨hx, hb, hml, hown, hts, -, -, -⟩ := id X
  obtain ⟨Q, hQ⟩ : ∃ Q, Q = MQ below (zQi false D ad cA r μ') args s 0 0 (zA false ad) := ⟨_, rfl⟩
  rw [← hQ]
  unfold f_X7_beginOf at h
  refine lv_aload_n hx hb dX7_beginOf_0 rfl (lv_at hl 0 rfl) ?_
  refine zz_cv (rest := []) G h (fun r μ1 hf => zz_runV X G rc_7 tl_100 cv_X7_asTold kw_1006 (c_X7_asTold l D ad cA  hf) ⟨rfl, rfl, Nat.le_of_ble_eq_true rfl, Nat.le_of_ble_eq_true rfl⟩ rfl rfl hl.1 (Nat.le_of_ble_eq_true rfl) dX7_beginOf_1) (fun _ μ H locs G h => ?_)
  refine lv_aload_n hx hb dX7_beginOf_4 rfl (lv_at hl 0 rfl) ?_
  refine zz_getr X G fr_7_9 tl_100 rl_100_9 kw_791 dX7_beginOf_5 ?_
  refine lv_iload_n hx hb dX7_beginOf_8 rfl (lv_at hl 1 rfl) ?_
  refine zz_iald X G ia_30 tl_110 dX7_beginOf_9 h (fun x1 h => ?_)
  refine lv_istore_n (lv' := [(3, .int x1), (0, .ref (ad 100)), (1, .int a1), (2, .int a2)]) hx hb dX7_beginOf_10 rfl hl (by decide) rfl (fun ls hl => ?_)
  refine lv_iconst (v := (-1 : Int32)) hx hb dX7_beginOf_11 (by decide) ?_
  refine lv_istore (lv' := [(4, .int (-1 : Int32)), (3, .int x1), (0, .ref (ad 100)), (1, .int a1), (2, .int a2)]) hx hb dX7_beginOf_12 hl (by decide) rfl (fun ls hl => ?_)
  refine lv_iconst (v := (-1 : Int32)) hx hb dX7_beginOf_14 (by decide) ?_
  refine lv_istore (lv' := [(5, .int (-1 : Int32)), (4, .int (-1 : Int32)), (3, .int x1), (0, .ref (ad 100)), (1, .int a1), (2, .int a2)]) hx hb dX7_beginOf_15 hl (by decide) rfl (fun ls hl => ?_)
  refine lv_iconst (v := (0 : Int32)) hx hb dX7_beginOf_17 (by decide) ?_
  refine lv_istore (lv' := [(6, .int (0 : Int32)), (5, .int (-1 : Int32)), (4, .int (-1 : Int32)), (3, .int x1), (0, .ref (ad 100)), (1, .int a1), (2, .int a2)]) hx hb dX7_beginOf_18 hl (by decide) rfl (fun ls hl => ?_)
  refine w_X7_beginOf_L20 X hQ hr hlk  (fun x9 x10 μ H locs ls hl G h => ?_) 400 (-1 : Int32) (-1 : Int32) (0 : Int32) μ _ _ _ (lv_sub hl [4, 5, 6, 3, 2, 1, 0] rfl) G h
  refine lv_aload_n hx hb dX7_beginOf_83 rfl (lv_at hl 0 rfl) ?_
  refine zz_getr X G fr_7_9 tl_100 rl_100_9 kw_791 dX7_beginOf_84 ?_
  refine lv_iload_n hx hb dX7_beginOf_87 rfl (lv_at hl 1 rfl) ?_
  refine lv_iload_n hx hb dX7_beginOf_88 rfl (lv_at hl 3 rfl) ?_
  refine zz_iast X G ia_30 tl_110 dX7_beginOf_89 h (fun μ H locs G h => ?_)
  refine lv_iload_n hx hb dX7_beginOf_90 rfl (lv_at hl 2 rfl) ?_
  refine lv_if_ne (tgt := 99) hx hb dX7_beginOf_91 (by decide) (fun c11 => ?_) (fun c11 => ?_)
  · have h := (zz_br h).1 c11
    refine lv_iload hx hb dX7_beginOf_99 (lv_at hl 5 rfl) ?_
    rw [hQ]
    exact zz_iret X G hr hlk dX7_beginOf_101 h
  have h := (zz_br h).2 (fun q => q c11)
  refine lv_iload hx hb dX7_beginOf_94 (lv_at hl 4 rfl) ?_
  refine lv_goto (tgt := 101) hx hb dX7_beginOf_96 (by decide) ?_
  rw [hQ]
  exact zz_iret X G hr hlk dX7_beginOf_101 h
set_option maxHeartbeats 4000000 in
set_option maxRecDepth 100000 in
theorem c_X7_begin (l : Launch) (D : va_G) (ad : Nat → Nat) (cA : Nat → ClassId) {a1 : Int32} {a2 : Int32} {μ : zM} {r : Int32} {μ' : zM} (h : f_X7_begin a1 a2 μ = some (r, μ')) : zMet false D ad cA l yX7_begin cX7_begin 3 (some .int) ({ frames := 7, cells := 0, slots := 0, locals := 165 } : Room) [.ref (ad 100), .int a1, .int a2] μ (zQi false D ad cA r μ') := by
  refine zMet_of "ButlerWeatherModel" ⟨by decide, rfl⟩ (Nat.le_of_ble_eq_true rfl) ?_
  intro p e s m args below meth c X G hr hlk ls hl
  have hl : lv_has ls 3 [(0, .ref (ad 100)), (1, .int a1), (2, .int a2)] := hl
  obtain ⟨hx, hb, hml, hown, hts, -, -, -⟩ := id X
  obtain ⟨Q, hQ⟩ : ∃ Q, Q = MQ below (zQi false D ad cA r μ') args s 0 0 (zA false ad) := ⟨_, rfl⟩
  rw [← hQ]
  unfold f_X7_begin at h
  refine lv_aload_n hx hb dX7_begin_0 rfl (lv_at hl 0 rfl) ?_
  refine lv_iload_n hx hb dX7_begin_1 rfl (lv_at hl 1 rfl) ?_
  refine zz_ci (rest := []) G h (fun r μ1 hf => zz_runV X G rc_7 tl_100 cv_X7_isMan kw_963 (c_X7_isMan l D ad cA  hf) ⟨rfl, rfl, Nat.le_of_ble_eq_true rfl, Nat.le_of_ble_eq_true rfl⟩ rfl rfl hl.1 (Nat.le_of_ble_eq_true rfl) dX7_begin_2) (fun x1 μ H locs G h => ?_)
  refine lv_if_eq (tgt := 24) hx hb dX7_begin_5 (by decide) (fun c2 => ?_) (fun c2 => ?_)
  · have h := (zz_br h).1 c2
    refine lv_bipush (v := (-2 : Int32)) hx hb dX7_begin_24 (by decide) ?_
    rw [hQ]
    exact zz_iret X G hr hlk dX7_begin_26 h
  have h := (zz_br h).2 c2
  refine lv_iload_n hx hb dX7_begin_8 rfl (lv_at hl 2 rfl) ?_
  refine zz_ci (rest := []) G h (fun r μ1 hf => zz_runS X G cs_X7_isTwo kw_1081 (c_X7_isTwo l D ad cA  hf) ⟨rfl, rfl, Nat.le_of_ble_eq_true rfl, Nat.le_of_ble_eq_true rfl⟩ rfl rfl hl.1 (Nat.le_of_ble_eq_true rfl) dX7_begin_9) (fun x3 μ H locs G h => ?_)
  refine lv_if_eq (tgt := 24) hx hb dX7_begin_12 (by decide) (fun c4 => ?_) (fun c4 => ?_)
  · have h := (zz_br h).1 c4
    refine lv_bipush (v := (-2 : Int32)) hx hb dX7_begin_24 (by decide) ?_
    rw [hQ]
    exact zz_iret X G hr hlk dX7_begin_26 h
  have h := (zz_br h).2 c4
  refine lv_aload_n hx hb dX7_begin_15 rfl (lv_at hl 0 rfl) ?_
  refine lv_iload_n hx hb dX7_begin_16 rfl (lv_at hl 1 rfl) ?_
  refine lv_iload_n hx hb dX7_begin_17 rfl (lv_at hl 2 rfl) ?_
  refine zz_ci (rest := []) G h (fun r μ1 hf => zz_runV X G rc_7 tl_100 cv_X7_beginOf kw_1133 (c_X7_beginOf l D ad cA  hf) ⟨rfl, rfl, Nat.le_of_ble_eq_true rfl, Nat.le_of_ble_eq_true rfl⟩ rfl rfl hl.1 (Nat.le_of_ble_eq_true rfl) dX7_begin_18) (fun x5 μ H locs G h => ?_)
  refine lv_goto (tgt := 26) hx hb dX7_begin_21 (by decide) ?_
  rw [hQ]
  exact zz_iret X G hr hlk dX7_begin_26 h
set_option maxHeartbeats 4000000 in
set_option maxRecDepth 100000 in
theorem w_X7_waitOf_L16 {p : Program} {l : Launch} {e : Env} {s : State} {m : MethodId} {args : Array Value} {below : List Frame} {meth : Method} {c : Code} {Q : State → Prop} {D : va_G} {ad : Nat → Nat} {cA : Nat → ClassId} {r : Int32} {μ' : zM} (X : zX false D ad cA p s m args c cX7_waitOf "ButlerWeatherModel" 5) (hQ : Q = MQ below (zQi false D ad cA r μ') args s 0 0 (zA false ad)) (hr : meth.sig.returnType = (some .int)) (hlk : meth.locks = false) {v1 : Int32} {v2 : Int32} {kx : Int32 → zM → Option (Int32 × zM)} (HX : ∀ (w3 : Int32) (μ : zM) (H : Heap) (locs : List Loc) (ls : Array Slot), lv_has ls 5 [(0, .ref (ad 100)), (1, .int v1), (2, .int v2), (3, .int w3)] → zG false D ad cA s μ H locs → kx w3 μ = some (r, μ') → W p l e ({ frames := 6, cells := 0, slots := 0, locals := 138 } : Room) s m args below meth c H locs 0 0 Q (F0 m 63 ls [])) : ∀ (n : Nat) (v3 : Int32) (v4 : Int32) (μ : zM) (H : Heap) (locs : List Loc) (ls : Array Slot), lv_has ls 5 [(0, .ref (ad 100)), (1, .int v1), (2, .int v2), (3, .int v3), (4, .int v4)] → zG false D ad cA s μ H locs → f_X7_waitOf_L16 v1 v2 kx n v3 v4 μ = some (r, μ') → W p l e ({ frames := 6, cells := 0, slots := 0, locals := 138 } : Room) s m args below meth c H locs 0 0 Q (F0 m 16 ls []) := by
  obtain ⟨hx, hb, hml, hown, hts, -, -, -⟩ := id X
  intro n
  induction n with
  | zero =>
    intro v3 v4 μ H locs ls hl G h
    cases (show (none : Option (Int32 × zM)) = some (r, μ') from h)
  | succ n ih =>
    intro v3 v4 μ H locs ls hl G h
    rw [f_X7_waitOf_L16] at h
    refine lv_iload hx hb dX7_waitOf_16 (lv_at hl 4 rfl) ?_
    refine lv_bipush (v := (10 : Int32)) hx hb dX7_waitOf_18 (by decide) ?_
    refine lv_icmp_ge (tgt := 63) hx hb dX7_waitOf_20 (by decide) (fun c2 => ?_) (fun c2 => ?_)
    · have h := (zz_br h).1 c2
      exact HX v3 μ _ _ _ (lv_sub hl [0, 1, 2, 3] rfl) G h
    have h := (zz_br h).2 c2
    refine lv_iload_n hx hb dX7_waitOf_23 rfl (lv_at hl 3 rfl) ?_
    refine lv_iconst (v := (-1 : Int32)) hx hb dX7_waitOf_24 (by decide) ?_
    refine lv_icmp_ne (tgt := 63) hx hb dX7_waitOf_25 (by decide) (fun c3 => ?_) (fun c3 => ?_)
    · have h := (zz_br h).1 c3
      exact HX v3 μ _ _ _ (lv_sub hl [0, 1, 2, 3] rfl) G h
    have h := (zz_br h).2 (fun q => q c3)
    refine lv_aload_n hx hb dX7_waitOf_28 rfl (lv_at hl 0 rfl) ?_
    refine zz_getr X G fr_7_4 tl_100 rl_100_4 kw_786 dX7_waitOf_29 ?_
    refine lv_iload_n hx hb dX7_waitOf_32 rfl (lv_at hl 1 rfl) ?_
    refine lv_iload hx hb dX7_waitOf_33 (lv_at hl 4 rfl) ?_
    refine zz_iast X G ia_30 tl_105 dX7_waitOf_35 h (fun μ H locs G h => ?_)
    refine lv_aload_n hx hb dX7_waitOf_36 rfl (lv_at hl 0 rfl) ?_
    refine zz_cv (rest := []) G h (fun r μ1 hf => zz_runV X G rc_7 tl_100 cv_X7_runs kw_1010 (c_X7_runs l D ad cA  hf) ⟨rfl, rfl, Nat.le_of_ble_eq_true rfl, Nat.le_of_ble_eq_true rfl⟩ rfl rfl hl.1 (Nat.le_of_ble_eq_true rfl) dX7_waitOf_37) (fun _ μ H locs G h => ?_)
    refine lv_aload_n hx hb dX7_waitOf_40 rfl (lv_at hl 0 rfl) ?_
    refine zz_getr X G fr_7_20 tl_100 rl_100_20 kw_802 dX7_waitOf_41 ?_
    refine lv_iload_n hx hb dX7_waitOf_44 rfl (lv_at hl 1 rfl) ?_
    refine zz_iald X G ia_30 tl_121 dX7_waitOf_45 h (fun x4 h => ?_)
    refine lv_iconst (v := (-1 : Int32)) hx hb dX7_waitOf_46 (by decide) ?_
    refine lv_icmp_eq (tgt := 55) hx hb dX7_waitOf_47 (by decide) (fun c5 => ?_) (fun c5 => ?_)
    · have h := (zz_br h).1 c5
      refine lv_iconst (v := (-1 : Int32)) hx hb dX7_waitOf_55 (by decide) ?_
      refine lv_istore_n (lv' := [(3, .int (-1 : Int32)), (0, .ref (ad 100)), (1, .int v1), (2, .int v2), (4, .int v4)]) hx hb dX7_waitOf_56 rfl hl (by decide) rfl (fun ls hl => ?_)
      obtain ⟨x6, ex6, h⟩ := zz_let h
      refine lv_iinc (v := x6) (lv' := [(4, .int x6), (3, .int (-1 : Int32)), (0, .ref (ad 100)), (1, .int v1), (2, .int v2)]) hx hb dX7_waitOf_57 hl (k := 4) rfl (by rw [← ex6]; rfl) (by decide) rfl (fun ls hl => ?_)
      refine lv_goto (tgt := 16) hx hb dX7_waitOf_60 (by decide) ?_
      exact ih (-1 : Int32) x6 μ _ _ _ (lv_sub hl [2, 3, 4, 1, 0] rfl) G h
    have h := (zz_br h).2 c5
    refine lv_iload hx hb dX7_waitOf_50 (lv_at hl 4 rfl) ?_
    refine lv_goto (tgt := 56) hx hb dX7_waitOf_52 (by decide) ?_
    refine lv_istore_n (lv' := [(3, .int v4), (0, .ref (ad 100)), (1, .int v1), (2, .int v2), (4, .int v4)]) hx hb dX7_waitOf_56 rfl hl (by decide) rfl (fun ls hl => ?_)
    obtain ⟨x7, ex7, h⟩ := zz_let h
    refine lv_iinc (v := x7) (lv' := [(4, .int x7), (3, .int v4), (0, .ref (ad 100)), (1, .int v1), (2, .int v2)]) hx hb dX7_waitOf_57 hl (k := 4) rfl (by rw [← ex7]; rfl) (by decide) rfl (fun ls hl => ?_)
    refine lv_goto (tgt := 16) hx hb dX7_waitOf_60 (by decide) ?_
    exact ih v4 x7 μ _ _ _ (lv_sub hl [2, 3, 4, 1, 0] rfl) G h
set_option maxHeartbeats 4000000 in
set_option maxRecDepth 100000 in
theorem c_X7_waitOf (l : Launch) (D : va_G) (ad : Nat → Nat) (cA : Nat → ClassId) {a1 : Int32} {μ : zM} {r : Int32} {μ' : zM} (h : f_X7_waitOf a1 μ = some (r, μ')) : zMet false D ad cA l yX7_waitOf cX7_waitOf 5 (some .int) ({ frames := 6, cells := 0, slots := 0, locals := 138 } : Room) [.ref (ad 100), .int a1] μ (zQi false D ad cA r μ') := by
  refine zMet_of "ButlerWeatherModel" ⟨by decide, rfl⟩ (Nat.le_of_ble_eq_true rfl) ?_
  intro p e s m args below meth c X G hr hlk ls hl
  have hl : lv_has ls 5 [(0, .ref (ad 100)), (1, .int a1)] := hl
  obtain ⟨hx, hb, hml, hown, hts, -, -, -⟩ := id X
  obtain ⟨Q, hQ⟩ : ∃ Q, Q = MQ below (zQi false D ad cA r μ') args s 0 0 (zA false ad) := ⟨_, rfl⟩
  rw [← hQ]
  unfold f_X7_waitOf at h
  refine lv_aload_n hx hb dX7_waitOf_0 rfl (lv_at hl 0 rfl) ?_
  refine zz_cv (rest := []) G h (fun r μ1 hf => zz_runV X G rc_7 tl_100 cv_X7_asTold kw_1006 (c_X7_asTold l D ad cA  hf) ⟨rfl, rfl, Nat.le_of_ble_eq_true rfl, Nat.le_of_ble_eq_true rfl⟩ rfl rfl hl.1 (Nat.le_of_ble_eq_true rfl) dX7_waitOf_1) (fun _ μ H locs G h => ?_)
  refine lv_aload_n hx hb dX7_waitOf_4 rfl (lv_at hl 0 rfl) ?_
  refine zz_getr X G fr_7_4 tl_100 rl_100_4 kw_786 dX7_waitOf_5 ?_
  refine lv_iload_n hx hb dX7_waitOf_8 rfl (lv_at hl 1 rfl) ?_
  refine zz_iald X G ia_30 tl_105 dX7_waitOf_9 h (fun x1 h => ?_)
  refine lv_istore_n (lv' := [(2, .int x1), (0, .ref (ad 100)), (1, .int a1)]) hx hb dX7_waitOf_10 rfl hl (by decide) rfl (fun ls hl => ?_)
  refine lv_iconst (v := (-1 : Int32)) hx hb dX7_waitOf_11 (by decide) ?_
  refine lv_istore_n (lv' := [(3, .int (-1 : Int32)), (2, .int x1), (0, .ref (ad 100)), (1, .int a1)]) hx hb dX7_waitOf_12 rfl hl (by decide) rfl (fun ls hl => ?_)
  refine lv_iconst (v := (1 : Int32)) hx hb dX7_waitOf_13 (by decide) ?_
  refine lv_istore (lv' := [(4, .int (1 : Int32)), (3, .int (-1 : Int32)), (2, .int x1), (0, .ref (ad 100)), (1, .int a1)]) hx hb dX7_waitOf_14 hl (by decide) rfl (fun ls hl => ?_)
  refine w_X7_waitOf_L16 X hQ hr hlk  (fun x8 μ H locs ls hl G h => ?_) 400 (-1 : Int32) (1 : Int32) μ _ _ _ (lv_sub hl [3, 4, 2, 1, 0] rfl) G h
  refine lv_aload_n hx hb dX7_waitOf_63 rfl (lv_at hl 0 rfl) ?_
  refine zz_getr X G fr_7_4 tl_100 rl_100_4 kw_786 dX7_waitOf_64 ?_
  refine lv_iload_n hx hb dX7_waitOf_67 rfl (lv_at hl 1 rfl) ?_
  refine lv_iload_n hx hb dX7_waitOf_68 rfl (lv_at hl 2 rfl) ?_
  refine zz_iast X G ia_30 tl_105 dX7_waitOf_69 h (fun μ H locs G h => ?_)
  refine lv_iload_n hx hb dX7_waitOf_70 rfl (lv_at hl 3 rfl) ?_
  rw [hQ]
  exact zz_iret X G hr hlk dX7_waitOf_71 h
set_option maxHeartbeats 4000000 in
set_option maxRecDepth 100000 in
theorem c_X7_patience (l : Launch) (D : va_G) (ad : Nat → Nat) (cA : Nat → ClassId) {a1 : Int32} {μ : zM} {r : Int32} {μ' : zM} (h : f_X7_patience a1 μ = some (r, μ')) : zMet false D ad cA l yX7_patience cX7_patience 2 (some .int) ({ frames := 7, cells := 0, slots := 0, locals := 162 } : Room) [.ref (ad 100), .int a1] μ (zQi false D ad cA r μ') := by
  refine zMet_of "ButlerWeatherModel" ⟨by decide, rfl⟩ (Nat.le_of_ble_eq_true rfl) ?_
  intro p e s m args below meth c X G hr hlk ls hl
  have hl : lv_has ls 2 [(0, .ref (ad 100)), (1, .int a1)] := hl
  obtain ⟨hx, hb, hml, hown, hts, -, -, -⟩ := id X
  obtain ⟨Q, hQ⟩ : ∃ Q, Q = MQ below (zQi false D ad cA r μ') args s 0 0 (zA false ad) := ⟨_, rfl⟩
  rw [← hQ]
  unfold f_X7_patience at h
  refine lv_aload_n hx hb dX7_patience_0 rfl (lv_at hl 0 rfl) ?_
  refine lv_iload_n hx hb dX7_patience_1 rfl (lv_at hl 1 rfl) ?_
  refine zz_ci (rest := []) G h (fun r μ1 hf => zz_runV X G rc_7 tl_100 cv_X7_isCaller kw_947 (c_X7_isCaller l D ad cA  hf) ⟨rfl, rfl, Nat.le_of_ble_eq_true rfl, Nat.le_of_ble_eq_true rfl⟩ rfl rfl hl.1 (Nat.le_of_ble_eq_true rfl) dX7_patience_2) (fun x1 μ H locs G h => ?_)
  refine lv_if_eq (tgt := 16) hx hb dX7_patience_5 (by decide) (fun c2 => ?_) (fun c2 => ?_)
  · have h := (zz_br h).1 c2
    refine lv_bipush (v := (-2 : Int32)) hx hb dX7_patience_16 (by decide) ?_
    rw [hQ]
    exact zz_iret X G hr hlk dX7_patience_18 h
  have h := (zz_br h).2 c2
  refine lv_aload_n hx hb dX7_patience_8 rfl (lv_at hl 0 rfl) ?_
  refine lv_iload_n hx hb dX7_patience_9 rfl (lv_at hl 1 rfl) ?_
  refine zz_ci (rest := []) G h (fun r μ1 hf => zz_runV X G rc_7 tl_100 cv_X7_waitOf kw_1145 (c_X7_waitOf l D ad cA  hf) ⟨rfl, rfl, Nat.le_of_ble_eq_true rfl, Nat.le_of_ble_eq_true rfl⟩ rfl rfl hl.1 (Nat.le_of_ble_eq_true rfl) dX7_patience_10) (fun x3 μ H locs G h => ?_)
  refine lv_goto (tgt := 18) hx hb dX7_patience_13 (by decide) ?_
  rw [hQ]
  exact zz_iret X G hr hlk dX7_patience_18 h
set_option maxHeartbeats 4000000 in
set_option maxRecDepth 100000 in
theorem w_X7_isBurnt_L13 {p : Program} {l : Launch} {e : Env} {s : State} {m : MethodId} {args : Array Value} {below : List Frame} {meth : Method} {c : Code} {Q : State → Prop} {D : va_G} {ad : Nat → Nat} {cA : Nat → ClassId} {r : Int32} {μ' : zM} (X : zX false D ad cA p s m args c cX7_isBurnt "ButlerWeatherModel" 4) (hQ : Q = MQ below (zQi false D ad cA r μ') args s 0 0 (zA false ad)) (hr : meth.sig.returnType = (some .boolean)) (hlk : meth.locks = false)  {kx : Int32 → zM → Option (Int32 × zM)} (HX : ∀ (w2 : Int32) (μ : zM) (H : Heap) (locs : List Loc) (ls : Array Slot), lv_has ls 4 [(2, .int w2)] → zG false D ad cA s μ H locs → kx w2 μ = some (r, μ') → W p l e ({ frames := 5, cells := 0, slots := 0, locals := 112 } : Room) s m args below meth c H locs 0 0 Q (F0 m 47 ls [])) : ∀ (n : Nat) (v2 : Int32) (v3 : Int32) (μ : zM) (H : Heap) (locs : List Loc) (ls : Array Slot), lv_has ls 4 [(0, .ref (ad 100)), (2, .int v2), (3, .int v3)] → zG false D ad cA s μ H locs → f_X7_isBurnt_L13 kx n v2 v3 μ = some (r, μ') → W p l e ({ frames := 5, cells := 0, slots := 0, locals := 112 } : Room) s m args below meth c H locs 0 0 Q (F0 m 13 ls []) := by
  obtain ⟨hx, hb, hml, hown, hts, -, -, -⟩ := id X
  intro n
  induction n with
  | zero =>
    intro v2 v3 μ H locs ls hl G h
    cases (show (none : Option (Int32 × zM)) = some (r, μ') from h)
  | succ n ih =>
    intro v2 v3 μ H locs ls hl G h
    rw [f_X7_isBurnt_L13] at h
    refine lv_iload_n hx hb dX7_isBurnt_13 rfl (lv_at hl 2 rfl) ?_
    refine lv_aload_n hx hb dX7_isBurnt_14 rfl (lv_at hl 0 rfl) ?_
    refine zz_geti X G fi_7_2 tl_100 kw_784 dX7_isBurnt_15 h (fun x1 h => ?_)
    refine lv_icmp_ge (tgt := 47) hx hb dX7_isBurnt_18 (by decide) (fun c2 => ?_) (fun c2 => ?_)
    · have h := (zz_br h).1 c2
      exact HX v2 μ _ _ _ (lv_sub hl [1] rfl) G h
    have h := (zz_br h).2 c2
    refine lv_iload_n hx hb dX7_isBurnt_21 rfl (lv_at hl 1 rfl) ?_
    refine lv_if_ne (tgt := 35) hx hb dX7_isBurnt_22 (by decide) (fun c3 => ?_) (fun c3 => ?_)
    · have h := (zz_br h).1 c3
      refine lv_iconst (v := (1 : Int32)) hx hb dX7_isBurnt_35 (by decide) ?_
      refine lv_goto (tgt := 40) hx hb dX7_isBurnt_36 (by decide) ?_
      refine lv_istore_n (lv' := [(2, .int (1 : Int32)), (0, .ref (ad 100)), (3, .int v3)]) hx hb dX7_isBurnt_40 rfl hl (by decide) rfl (fun ls hl => ?_)
      obtain ⟨x4, ex4, h⟩ := zz_let h
      refine lv_iinc (v := x4) (lv' := [(3, .int x4), (2, .int (1 : Int32)), (0, .ref (ad 100))]) hx hb dX7_isBurnt_41 hl (k := 2) rfl (by rw [← ex4]; rfl) (by decide) rfl (fun ls hl => ?_)
      refine lv_goto (tgt := 13) hx hb dX7_isBurnt_44 (by decide) ?_
      exact ih (1 : Int32) x4 μ _ _ _ (lv_sub hl [2, 1, 0] rfl) G h
    have h := (zz_br h).2 (fun q => q c3)
    refine lv_aload_n hx hb dX7_isBurnt_25 rfl (lv_at hl 0 rfl) ?_
    refine zz_getr X G fr_7_20 tl_100 rl_100_20 kw_802 dX7_isBurnt_26 ?_
    refine lv_iload_n hx hb dX7_isBurnt_29 rfl (lv_at hl 2 rfl) ?_
    refine zz_iald X G ia_30 tl_121 dX7_isBurnt_30 h (fun x5 h => ?_)
    refine lv_iconst (v := (1 : Int32)) hx hb dX7_isBurnt_31 (by decide) ?_
    refine lv_icmp_ne (tgt := 39) hx hb dX7_isBurnt_32 (by decide) (fun c6 => ?_) (fun c6 => ?_)
    · have h := (zz_br h).1 c6
      refine lv_iconst (v := (0 : Int32)) hx hb dX7_isBurnt_39 (by decide) ?_
      refine lv_istore_n (lv' := [(2, .int (0 : Int32)), (0, .ref (ad 100)), (3, .int v3)]) hx hb dX7_isBurnt_40 rfl hl (by decide) rfl (fun ls hl => ?_)
      obtain ⟨x7, ex7, h⟩ := zz_let h
      refine lv_iinc (v := x7) (lv' := [(3, .int x7), (2, .int (0 : Int32)), (0, .ref (ad 100))]) hx hb dX7_isBurnt_41 hl (k := 2) rfl (by rw [← ex7]; rfl) (by decide) rfl (fun ls hl => ?_)
      refine lv_goto (tgt := 13) hx hb dX7_isBurnt_44 (by decide) ?_
      exact ih (0 : Int32) x7 μ _ _ _ (lv_sub hl [2, 1, 0] rfl) G h
    have h := (zz_br h).2 (fun q => q c6)
    refine lv_iconst (v := (1 : Int32)) hx hb dX7_isBurnt_35 (by decide) ?_
    refine lv_goto (tgt := 40) hx hb dX7_isBurnt_36 (by decide) ?_
    refine lv_istore_n (lv' := [(2, .int (1 : Int32)), (0, .ref (ad 100)), (3, .int v3)]) hx hb dX7_isBurnt_40 rfl hl (by decide) rfl (fun ls hl => ?_)
    obtain ⟨x8, ex8, h⟩ := zz_let h
    refine lv_iinc (v := x8) (lv' := [(3, .int x8), (2, .int (1 : Int32)), (0, .ref (ad 100))]) hx hb dX7_isBurnt_41 hl (k := 2) rfl (by rw [← ex8]; rfl) (by decide) rfl (fun ls hl => ?_)
    refine lv_goto (tgt := 13) hx hb dX7_isBurnt_44 (by decide) ?_
    exact ih (1 : Int32) x8 μ _ _ _ (lv_sub hl [2, 1, 0] rfl) G h
set_option maxHeartbeats 4000000 in
set_option maxRecDepth 100000 in
theorem c_X7_isBurnt (l : Launch) (D : va_G) (ad : Nat → Nat) (cA : Nat → ClassId) {a1 : Int32} {μ : zM} {r : Int32} {μ' : zM} (h : f_X7_isBurnt a1 μ = some (r, μ')) : zMet false D ad cA l yX7_isBurnt cX7_isBurnt 4 (some .boolean) ({ frames := 5, cells := 0, slots := 0, locals := 112 } : Room) [.ref (ad 100), .int a1] μ (zQi false D ad cA r μ') := by
  refine zMet_of "ButlerWeatherModel" ⟨by decide, rfl⟩ (Nat.le_of_ble_eq_true rfl) ?_
  intro p e s m args below meth c X G hr hlk ls hl
  have hl : lv_has ls 4 [(0, .ref (ad 100)), (1, .int a1)] := hl
  obtain ⟨hx, hb, hml, hown, hts, -, -, -⟩ := id X
  obtain ⟨Q, hQ⟩ : ∃ Q, Q = MQ below (zQi false D ad cA r μ') args s 0 0 (zA false ad) := ⟨_, rfl⟩
  rw [← hQ]
  unfold f_X7_isBurnt at h
  refine lv_aload_n hx hb dX7_isBurnt_0 rfl (lv_at hl 0 rfl) ?_
  refine lv_iload_n hx hb dX7_isBurnt_1 rfl (lv_at hl 1 rfl) ?_
  refine zz_puti X G fp_7_17 tl_100 kw_799 rfl rfl dX7_isBurnt_2 h (fun μ H locs G h => ?_)
  refine lv_aload_n hx hb dX7_isBurnt_5 rfl (lv_at hl 0 rfl) ?_
  refine zz_cv (rest := []) G h (fun r μ1 hf => zz_runV X G rc_7 tl_100 cv_X7_runs kw_1010 (c_X7_runs l D ad cA  hf) ⟨rfl, rfl, Nat.le_of_ble_eq_true rfl, Nat.le_of_ble_eq_true rfl⟩ rfl rfl hl.1 (Nat.le_of_ble_eq_true rfl) dX7_isBurnt_6) (fun _ μ H locs G h => ?_)
  refine lv_iconst (v := (0 : Int32)) hx hb dX7_isBurnt_9 (by decide) ?_
  refine lv_istore_n (lv' := [(2, .int (0 : Int32)), (0, .ref (ad 100)), (1, .int a1)]) hx hb dX7_isBurnt_10 rfl hl (by decide) rfl (fun ls hl => ?_)
  refine lv_iconst (v := (0 : Int32)) hx hb dX7_isBurnt_11 (by decide) ?_
  refine lv_istore_n (lv' := [(3, .int (0 : Int32)), (2, .int (0 : Int32)), (0, .ref (ad 100)), (1, .int a1)]) hx hb dX7_isBurnt_12 rfl hl (by decide) rfl (fun ls hl => ?_)
  refine w_X7_isBurnt_L13 X hQ hr hlk  (fun x9 μ H locs ls hl G h => ?_) 400 (0 : Int32) (0 : Int32) μ _ _ _ (lv_sub hl [2, 1, 0] rfl) G h
  refine lv_iload_n hx hb dX7_isBurnt_47 rfl (lv_at hl 0 rfl) ?_
  refine lv_if_ne (tgt := 55) hx hb dX7_isBurnt_48 (by decide) (fun c10 => ?_) (fun c10 => ?_)
  · have h := (zz_br h).1 c10
    refine lv_iconst (v := (0 : Int32)) hx hb dX7_isBurnt_55 (by decide) ?_
    rw [hQ]
    exact zz_zret X G hr hlk dX7_isBurnt_56 h
  have h := (zz_br h).2 (fun q => q c10)
  refine lv_iconst (v := (1 : Int32)) hx hb dX7_isBurnt_51 (by decide) ?_
  refine lv_goto (tgt := 56) hx hb dX7_isBurnt_52 (by decide) ?_
  rw [hQ]
  exact zz_zret X G hr hlk dX7_isBurnt_56 h
set_option maxHeartbeats 4000000 in
set_option maxRecDepth 100000 in
theorem w_X7_burnBy_L16 {p : Program} {l : Launch} {e : Env} {s : State} {m : MethodId} {args : Array Value} {below : List Frame} {meth : Method} {c : Code} {Q : State → Prop} {D : va_G} {ad : Nat → Nat} {cA : Nat → ClassId} {r : Int32} {μ' : zM} (X : zX false D ad cA p s m args c cX7_burnBy "ButlerWeatherModel" 3) (hQ : Q = MQ below (zQi false D ad cA r μ') args s 0 0 (zA false ad)) (hr : meth.sig.returnType = (some .int)) (hlk : meth.locks = false)  {kx : zM → Option (Int32 × zM)} (HX : ∀ (μ : zM) (H : Heap) (locs : List Loc) (ls : Array Slot), lv_has ls 3 [(0, .ref (ad 100))] → zG false D ad cA s μ H locs → kx  μ = some (r, μ') → W p l e ({ frames := 6, cells := 0, slots := 0, locals := 138 } : Room) s m args below meth c H locs 0 0 Q (F0 m 49 ls [])) : ∀ (n : Nat) (v1 : Int32) (μ : zM) (H : Heap) (locs : List Loc) (ls : Array Slot), lv_has ls 3 [(0, .ref (ad 100)), (1, .int v1)] → zG false D ad cA s μ H locs → f_X7_burnBy_L16 kx n v1 μ = some (r, μ') → W p l e ({ frames := 6, cells := 0, slots := 0, locals := 138 } : Room) s m args below meth c H locs 0 0 Q (F0 m 16 ls []) := by
  obtain ⟨hx, hb, hml, hown, hts, -, -, -⟩ := id X
  intro n
  induction n with
  | zero =>
    intro v1 μ H locs ls hl G h
    cases (show (none : Option (Int32 × zM)) = some (r, μ') from h)
  | succ n ih =>
    intro v1 μ H locs ls hl G h
    rw [f_X7_burnBy_L16] at h
    refine lv_iload_n hx hb dX7_burnBy_16 rfl (lv_at hl 1 rfl) ?_
    refine lv_aload_n hx hb dX7_burnBy_17 rfl (lv_at hl 0 rfl) ?_
    refine zz_geti X G fi_7_11 tl_100 kw_793 dX7_burnBy_18 h (fun x3 h => ?_)
    refine lv_icmp_ge (tgt := 49) hx hb dX7_burnBy_21 (by decide) (fun c4 => ?_) (fun c4 => ?_)
    · have h := (zz_br h).1 c4
      exact HX  μ _ _ _ (lv_sub hl [0] rfl) G h
    have h := (zz_br h).2 c4
    refine lv_aload_n hx hb dX7_burnBy_24 rfl (lv_at hl 0 rfl) ?_
    refine zz_getr X G fr_7_27 tl_100 rl_100_27 kw_809 dX7_burnBy_25 ?_
    refine lv_iconst (v := (0 : Int32)) hx hb dX7_burnBy_28 (by decide) ?_
    refine lv_iload_n hx hb dX7_burnBy_29 rfl (lv_at hl 1 rfl) ?_
    refine zz_iast X G ia_30 tl_128 dX7_burnBy_30 h (fun μ H locs G h => ?_)
    refine lv_aload_n hx hb dX7_burnBy_31 rfl (lv_at hl 0 rfl) ?_
    refine lv_iconst (v := (1 : Int32)) hx hb dX7_burnBy_32 (by decide) ?_
    refine lv_iload_n hx hb dX7_burnBy_33 rfl (lv_at hl 1 rfl) ?_
    refine lv_ishl hx hb dX7_burnBy_34 ?_
    refine zz_ci (rest := []) G h (fun r μ1 hf => zz_runV X G rc_7 tl_100 cv_X7_isBurnt kw_1157 (c_X7_isBurnt l D ad cA  hf) ⟨rfl, rfl, Nat.le_of_ble_eq_true rfl, Nat.le_of_ble_eq_true rfl⟩ rfl rfl hl.1 (Nat.le_of_ble_eq_true rfl) dX7_burnBy_35) (fun x5 μ H locs G h => ?_)
    refine lv_if_eq (tgt := 43) hx hb dX7_burnBy_38 (by decide) (fun c6 => ?_) (fun c6 => ?_)
    · have h := (zz_br h).1 c6
      obtain ⟨x7, ex7, h⟩ := zz_let h
      refine lv_iinc (v := x7) (lv' := [(1, .int x7), (0, .ref (ad 100))]) hx hb dX7_burnBy_43 hl (k := 1) rfl (by rw [← ex7]; rfl) (by decide) rfl (fun ls hl => ?_)
      refine lv_goto (tgt := 16) hx hb dX7_burnBy_46 (by decide) ?_
      exact ih x7 μ _ _ _ (lv_sub hl [1, 0] rfl) G h
    have h := (zz_br h).2 c6
    refine lv_iconst (v := (1 : Int32)) hx hb dX7_burnBy_41 (by decide) ?_
    rw [hQ]
    exact zz_iret X G hr hlk dX7_burnBy_42 h
set_option maxHeartbeats 4000000 in
set_option maxRecDepth 100000 in
theorem w_X7_burnBy_L63 {p : Program} {l : Launch} {e : Env} {s : State} {m : MethodId} {args : Array Value} {below : List Frame} {meth : Method} {c : Code} {Q : State → Prop} {D : va_G} {ad : Nat → Nat} {cA : Nat → ClassId} {r : Int32} {μ' : zM} (X : zX false D ad cA p s m args c cX7_burnBy "ButlerWeatherModel" 3) (hQ : Q = MQ below (zQi false D ad cA r μ') args s 0 0 (zA false ad)) (hr : meth.sig.returnType = (some .int)) (hlk : meth.locks = false) {v1 : Int32} {kx : zM → Option (Int32 × zM)} (HX : ∀ (μ : zM) (H : Heap) (locs : List Loc) (ls : Array Slot), lv_has ls 3 [(0, .ref (ad 100)), (1, .int v1)] → zG false D ad cA s μ H locs → kx  μ = some (r, μ') → W p l e ({ frames := 6, cells := 0, slots := 0, locals := 138 } : Room) s m args below meth c H locs 0 0 Q (F0 m 107 ls [])) : ∀ (n : Nat) (v2 : Int32) (μ : zM) (H : Heap) (locs : List Loc) (ls : Array Slot), lv_has ls 3 [(0, .ref (ad 100)), (1, .int v1), (2, .int v2)] → zG false D ad cA s μ H locs → f_X7_burnBy_L63 v1 kx n v2 μ = some (r, μ') → W p l e ({ frames := 6, cells := 0, slots := 0, locals := 138 } : Room) s m args below meth c H locs 0 0 Q (F0 m 63 ls []) := by
  obtain ⟨hx, hb, hml, hown, hts, -, -, -⟩ := id X
  intro n
  induction n with
  | zero =>
    intro v2 μ H locs ls hl G h
    cases (show (none : Option (Int32 × zM)) = some (r, μ') from h)
  | succ n ih =>
    intro v2 μ H locs ls hl G h
    rw [f_X7_burnBy_L63] at h
    refine lv_iload_n hx hb dX7_burnBy_63 rfl (lv_at hl 2 rfl) ?_
    refine lv_aload_n hx hb dX7_burnBy_64 rfl (lv_at hl 0 rfl) ?_
    refine zz_geti X G fi_7_11 tl_100 kw_793 dX7_burnBy_65 h (fun x11 h => ?_)
    refine lv_icmp_ge (tgt := 107) hx hb dX7_burnBy_68 (by decide) (fun c12 => ?_) (fun c12 => ?_)
    · have h := (zz_br h).1 c12
      exact HX  μ _ _ _ (lv_sub hl [0, 1] rfl) G h
    have h := (zz_br h).2 c12
    refine lv_aload_n hx hb dX7_burnBy_71 rfl (lv_at hl 0 rfl) ?_
    refine zz_getr X G fr_7_27 tl_100 rl_100_27 kw_809 dX7_burnBy_72 ?_
    refine lv_iconst (v := (0 : Int32)) hx hb dX7_burnBy_75 (by decide) ?_
    refine lv_iload_n hx hb dX7_burnBy_76 rfl (lv_at hl 1 rfl) ?_
    refine zz_iast X G ia_30 tl_128 dX7_burnBy_77 h (fun μ H locs G h => ?_)
    refine lv_aload_n hx hb dX7_burnBy_78 rfl (lv_at hl 0 rfl) ?_
    refine zz_getr X G fr_7_27 tl_100 rl_100_27 kw_809 dX7_burnBy_79 ?_
    refine lv_iconst (v := (1 : Int32)) hx hb dX7_burnBy_82 (by decide) ?_
    refine lv_iload_n hx hb dX7_burnBy_83 rfl (lv_at hl 2 rfl) ?_
    refine zz_iast X G ia_30 tl_128 dX7_burnBy_84 h (fun μ H locs G h => ?_)
    refine lv_aload_n hx hb dX7_burnBy_85 rfl (lv_at hl 0 rfl) ?_
    refine lv_iconst (v := (1 : Int32)) hx hb dX7_burnBy_86 (by decide) ?_
    refine lv_iload_n hx hb dX7_burnBy_87 rfl (lv_at hl 1 rfl) ?_
    refine lv_ishl hx hb dX7_burnBy_88 ?_
    refine lv_iconst (v := (1 : Int32)) hx hb dX7_burnBy_89 (by decide) ?_
    refine lv_iload_n hx hb dX7_burnBy_90 rfl (lv_at hl 2 rfl) ?_
    refine lv_ishl hx hb dX7_burnBy_91 ?_
    refine lv_ior hx hb dX7_burnBy_92 ?_
    refine zz_ci (rest := []) G h (fun r μ1 hf => zz_runV X G rc_7 tl_100 cv_X7_isBurnt kw_1157 (c_X7_isBurnt l D ad cA  hf) ⟨rfl, rfl, Nat.le_of_ble_eq_true rfl, Nat.le_of_ble_eq_true rfl⟩ rfl rfl hl.1 (Nat.le_of_ble_eq_true rfl) dX7_burnBy_93) (fun x13 μ H locs G h => ?_)
    refine lv_if_eq (tgt := 101) hx hb dX7_burnBy_96 (by decide) (fun c14 => ?_) (fun c14 => ?_)
    · have h := (zz_br h).1 c14
      obtain ⟨x15, ex15, h⟩ := zz_let h
      refine lv_iinc (v := x15) (lv' := [(2, .int x15), (0, .ref (ad 100)), (1, .int v1)]) hx hb dX7_burnBy_101 hl (k := 2) rfl (by rw [← ex15]; rfl) (by decide) rfl (fun ls hl => ?_)
      refine lv_goto (tgt := 63) hx hb dX7_burnBy_104 (by decide) ?_
      exact ih x15 μ _ _ _ (lv_sub hl [1, 2, 0] rfl) G h
    have h := (zz_br h).2 c14
    refine lv_iconst (v := (2 : Int32)) hx hb dX7_burnBy_99 (by decide) ?_
    rw [hQ]
    exact zz_iret X G hr hlk dX7_burnBy_100 h
set_option maxHeartbeats 4000000 in
set_option maxRecDepth 100000 in
theorem w_X7_burnBy_L51 {p : Program} {l : Launch} {e : Env} {s : State} {m : MethodId} {args : Array Value} {below : List Frame} {meth : Method} {c : Code} {Q : State → Prop} {D : va_G} {ad : Nat → Nat} {cA : Nat → ClassId} {r : Int32} {μ' : zM} (X : zX false D ad cA p s m args c cX7_burnBy "ButlerWeatherModel" 3) (hQ : Q = MQ below (zQi false D ad cA r μ') args s 0 0 (zA false ad)) (hr : meth.sig.returnType = (some .int)) (hlk : meth.locks = false)  {kx : zM → Option (Int32 × zM)} (HX : ∀ (μ : zM) (H : Heap) (locs : List Loc) (ls : Array Slot), lv_has ls 3 [] → zG false D ad cA s μ H locs → kx  μ = some (r, μ') → W p l e ({ frames := 6, cells := 0, slots := 0, locals := 138 } : Room) s m args below meth c H locs 0 0 Q (F0 m 113 ls [])) : ∀ (n : Nat) (v1 : Int32) (μ : zM) (H : Heap) (locs : List Loc) (ls : Array Slot), lv_has ls 3 [(0, .ref (ad 100)), (1, .int v1)] → zG false D ad cA s μ H locs → f_X7_burnBy_L51 kx n v1 μ = some (r, μ') → W p l e ({ frames := 6, cells := 0, slots := 0, locals := 138 } : Room) s m args below meth c H locs 0 0 Q (F0 m 51 ls []) := by
  obtain ⟨hx, hb, hml, hown, hts, -, -, -⟩ := id X
  intro n
  induction n with
  | zero =>
    intro v1 μ H locs ls hl G h
    cases (show (none : Option (Int32 × zM)) = some (r, μ') from h)
  | succ n ih =>
    intro v1 μ H locs ls hl G h
    rw [f_X7_burnBy_L51] at h
    refine lv_iload_n hx hb dX7_burnBy_51 rfl (lv_at hl 1 rfl) ?_
    refine lv_aload_n hx hb dX7_burnBy_52 rfl (lv_at hl 0 rfl) ?_
    refine zz_geti X G fi_7_11 tl_100 kw_793 dX7_burnBy_53 h (fun x8 h => ?_)
    refine lv_icmp_ge (tgt := 113) hx hb dX7_burnBy_56 (by decide) (fun c9 => ?_) (fun c9 => ?_)
    · have h := (zz_br h).1 c9
      exact HX  μ _ _ _ (lv_sub hl [] rfl) G h
    have h := (zz_br h).2 c9
    refine lv_iload_n hx hb dX7_burnBy_59 rfl (lv_at hl 1 rfl) ?_
    refine lv_iconst (v := (1 : Int32)) hx hb dX7_burnBy_60 (by decide) ?_
    refine lv_iadd hx hb dX7_burnBy_61 ?_
    refine zz_vi h (fun x10 h => ?_)
    refine lv_istore_n (lv' := [(2, .int x10), (0, .ref (ad 100)), (1, .int v1)]) hx hb dX7_burnBy_62 rfl hl (by decide) rfl (fun ls hl => ?_)
    refine w_X7_burnBy_L63 X hQ hr hlk  (fun  μ H locs ls hl G h => ?_) 400 x10 μ _ _ _ (lv_sub hl [1, 2, 0] rfl) G h
    obtain ⟨x16, ex16, h⟩ := zz_let h
    refine lv_iinc (v := x16) (lv' := [(1, .int x16), (0, .ref (ad 100))]) hx hb dX7_burnBy_107 hl (k := 1) rfl (by rw [← ex16]; rfl) (by decide) rfl (fun ls hl => ?_)
    refine lv_goto (tgt := 51) hx hb dX7_burnBy_110 (by decide) ?_
    exact ih x16 μ _ _ _ (lv_sub hl [1, 0] rfl) G h
set_option maxHeartbeats 4000000 in
set_option maxRecDepth 100000 in
theorem c_X7_burnBy (l : Launch) (D : va_G) (ad : Nat → Nat) (cA : Nat → ClassId)  {μ : zM} {r : Int32} {μ' : zM} (h : f_X7_burnBy μ = some (r, μ')) : zMet false D ad cA l yX7_burnBy cX7_burnBy 3 (some .int) ({ frames := 6, cells := 0, slots := 0, locals := 138 } : Room) [.ref (ad 100)] μ (zQi false D ad cA r μ') := by
  refine zMet_of "ButlerWeatherModel" ⟨by decide, rfl⟩ (Nat.le_of_ble_eq_true rfl) ?_
  intro p e s m args below meth c X G hr hlk ls hl
  have hl : lv_has ls 3 [(0, .ref (ad 100))] := hl
  obtain ⟨hx, hb, hml, hown, hts, -, -, -⟩ := id X
  obtain ⟨Q, hQ⟩ : ∃ Q, Q = MQ below (zQi false D ad cA r μ') args s 0 0 (zA false ad) := ⟨_, rfl⟩
  rw [← hQ]
  unfold f_X7_burnBy at h
  refine lv_aload_n hx hb dX7_burnBy_0 rfl (lv_at hl 0 rfl) ?_
  refine zz_cv (rest := []) G h (fun r μ1 hf => zz_runV X G rc_7 tl_100 cv_X7_asTold kw_1006 (c_X7_asTold l D ad cA  hf) ⟨rfl, rfl, Nat.le_of_ble_eq_true rfl, Nat.le_of_ble_eq_true rfl⟩ rfl rfl hl.1 (Nat.le_of_ble_eq_true rfl) dX7_burnBy_1) (fun _ μ H locs G h => ?_)
  refine lv_aload_n hx hb dX7_burnBy_4 rfl (lv_at hl 0 rfl) ?_
  refine lv_iconst (v := (0 : Int32)) hx hb dX7_burnBy_5 (by decide) ?_
  refine zz_ci (rest := []) G h (fun r μ1 hf => zz_runV X G rc_7 tl_100 cv_X7_isBurnt kw_1157 (c_X7_isBurnt l D ad cA  hf) ⟨rfl, rfl, Nat.le_of_ble_eq_true rfl, Nat.le_of_ble_eq_true rfl⟩ rfl rfl hl.1 (Nat.le_of_ble_eq_true rfl) dX7_burnBy_6) (fun x1 μ H locs G h => ?_)
  refine lv_if_eq (tgt := 14) hx hb dX7_burnBy_9 (by decide) (fun c2 => ?_) (fun c2 => ?_)
  · have h := (zz_br h).1 c2
    refine lv_iconst (v := (0 : Int32)) hx hb dX7_burnBy_14 (by decide) ?_
    refine lv_istore_n (lv' := [(1, .int (0 : Int32)), (0, .ref (ad 100))]) hx hb dX7_burnBy_15 rfl hl (by decide) rfl (fun ls hl => ?_)
    refine w_X7_burnBy_L16 X hQ hr hlk  (fun  μ H locs ls hl G h => ?_) 400 (0 : Int32) μ _ _ _ (lv_sub hl [1, 0] rfl) G h
    refine lv_iconst (v := (0 : Int32)) hx hb dX7_burnBy_49 (by decide) ?_
    refine lv_istore_n (lv' := [(1, .int (0 : Int32)), (0, .ref (ad 100))]) hx hb dX7_burnBy_50 rfl hl (by decide) rfl (fun ls hl => ?_)
    refine w_X7_burnBy_L51 X hQ hr hlk  (fun  μ H locs ls hl G h => ?_) 400 (0 : Int32) μ _ _ _ (lv_sub hl [1, 0] rfl) G h
    refine lv_iconst (v := (-1 : Int32)) hx hb dX7_burnBy_113 (by decide) ?_
    rw [hQ]
    exact zz_iret X G hr hlk dX7_burnBy_114 h
  have h := (zz_br h).2 c2
  refine lv_iconst (v := (0 : Int32)) hx hb dX7_burnBy_12 (by decide) ?_
  rw [hQ]
  exact zz_iret X G hr hlk dX7_burnBy_13 h
set_option maxHeartbeats 4000000 in
set_option maxRecDepth 100000 in
theorem c_X7_ofRow (l : Launch) (D : va_G) (ad : Nat → Nat) (cA : Nat → ClassId) {a1 : Int32} {a2 : Int32} {μ : zM} {r : Int32} {μ' : zM} (h : f_X7_ofRow a1 a2 μ = some (r, μ')) : zMet false D ad cA l yX7_ofRow cX7_ofRow 3 (some .int) ({ frames := 0, cells := 0, slots := 0, locals := 0 } : Room) [.ref (ad 100), .int a1, .int a2] μ (zQi false D ad cA r μ') := by
  refine zMet_of "ButlerWeatherModel" ⟨by decide, rfl⟩ (Nat.le_of_ble_eq_true rfl) ?_
  intro p e s m args below meth c X G hr hlk ls hl
  have hl : lv_has ls 3 [(0, .ref (ad 100)), (1, .int a1), (2, .int a2)] := hl
  obtain ⟨hx, hb, hml, hown, hts, -, -, -⟩ := id X
  obtain ⟨Q, hQ⟩ : ∃ Q, Q = MQ below (zQi false D ad cA r μ') args s 0 0 (zA false ad) := ⟨_, rfl⟩
  rw [← hQ]
  unfold f_X7_ofRow at h
  refine lv_iload_n hx hb dX7_ofRow_0 rfl (lv_at hl 2 rfl) ?_
  refine lv_iconst (v := (-1 : Int32)) hx hb dX7_ofRow_1 (by decide) ?_
  refine lv_icmp_ne (tgt := 9) hx hb dX7_ofRow_2 (by decide) (fun c1 => ?_) (fun c1 => ?_)
  · have h := (zz_br h).1 c1
    refine lv_iload_n hx hb dX7_ofRow_9 rfl (lv_at hl 2 rfl) ?_
    refine lv_iload_n hx hb dX7_ofRow_10 rfl (lv_at hl 1 rfl) ?_
    refine lv_icmp_ge (tgt := 23) hx hb dX7_ofRow_11 (by decide) (fun c2 => ?_) (fun c2 => ?_)
    · have h := (zz_br h).1 c2
      refine lv_iconst (v := (-1 : Int32)) hx hb dX7_ofRow_23 (by decide) ?_
      rw [hQ]
      exact zz_iret X G hr hlk dX7_ofRow_24 h
    have h := (zz_br h).2 c2
    refine lv_aload_n hx hb dX7_ofRow_14 rfl (lv_at hl 0 rfl) ?_
    refine zz_getr X G fr_7_27 tl_100 rl_100_27 kw_809 dX7_ofRow_15 ?_
    refine lv_iload_n hx hb dX7_ofRow_18 rfl (lv_at hl 2 rfl) ?_
    refine zz_iald X G ia_30 tl_128 dX7_ofRow_19 h (fun x3 h => ?_)
    refine lv_goto (tgt := 24) hx hb dX7_ofRow_20 (by decide) ?_
    rw [hQ]
    exact zz_iret X G hr hlk dX7_ofRow_24 h
  have h := (zz_br h).2 (fun q => q c1)
  refine lv_iload_n hx hb dX7_ofRow_5 rfl (lv_at hl 1 rfl) ?_
  refine lv_goto (tgt := 24) hx hb dX7_ofRow_6 (by decide) ?_
  rw [hQ]
  exact zz_iret X G hr hlk dX7_ofRow_24 h
set_option maxHeartbeats 4000000 in
set_option maxRecDepth 100000 in
theorem c_X7_burn (l : Launch) (D : va_G) (ad : Nat → Nat) (cA : Nat → ClassId) {a1 : Int32} {μ : zM} {r : Int32} {μ' : zM} (h : f_X7_burn a1 μ = some (r, μ')) : zMet false D ad cA l yX7_burn cX7_burn 2 (some .int) ({ frames := 7, cells := 0, slots := 0, locals := 160 } : Room) [.ref (ad 100), .int a1] μ (zQi false D ad cA r μ') := by
  refine zMet_of "ButlerWeatherModel" ⟨by decide, rfl⟩ (Nat.le_of_ble_eq_true rfl) ?_
  intro p e s m args below meth c X G hr hlk ls hl
  have hl : lv_has ls 2 [(0, .ref (ad 100)), (1, .int a1)] := hl
  obtain ⟨hx, hb, hml, hown, hts, -, -, -⟩ := id X
  obtain ⟨Q, hQ⟩ : ∃ Q, Q = MQ below (zQi false D ad cA r μ') args s 0 0 (zA false ad) := ⟨_, rfl⟩
  rw [← hQ]
  unfold f_X7_burn at h
  refine lv_iload_n hx hb dX7_burn_0 rfl (lv_at hl 1 rfl) ?_
  refine lv_iconst (v := (-1 : Int32)) hx hb dX7_burn_1 (by decide) ?_
  refine lv_iconst (v := (1 : Int32)) hx hb dX7_burn_2 (by decide) ?_
  refine zz_ci (rest := []) G h (fun r μ1 hf => zz_runS X G cs_X7_in kw_905 (c_X7_in l D ad cA  hf) ⟨rfl, rfl, Nat.le_of_ble_eq_true rfl, Nat.le_of_ble_eq_true rfl⟩ rfl rfl hl.1 (Nat.le_of_ble_eq_true rfl) dX7_burn_3) (fun x1 μ H locs G h => ?_)
  refine lv_if_eq (tgt := 21) hx hb dX7_burn_6 (by decide) (fun c2 => ?_) (fun c2 => ?_)
  · have h := (zz_br h).1 c2
    refine lv_bipush (v := (-2 : Int32)) hx hb dX7_burn_21 (by decide) ?_
    rw [hQ]
    exact zz_iret X G hr hlk dX7_burn_23 h
  have h := (zz_br h).2 c2
  refine lv_aload_n hx hb dX7_burn_9 rfl (lv_at hl 0 rfl) ?_
  refine lv_aload_n hx hb dX7_burn_10 rfl (lv_at hl 0 rfl) ?_
  refine zz_ci (rest := [.ref (ad 100)]) G h (fun r μ1 hf => zz_runV X G rc_7 tl_100 cv_X7_burnBy kw_1153 (c_X7_burnBy l D ad cA  hf) ⟨rfl, rfl, Nat.le_of_ble_eq_true rfl, Nat.le_of_ble_eq_true rfl⟩ rfl rfl hl.1 (Nat.le_of_ble_eq_true rfl) dX7_burn_11) (fun x3 μ H locs G h => ?_)
  refine lv_iload_n hx hb dX7_burn_14 rfl (lv_at hl 1 rfl) ?_
  refine zz_ci (rest := []) G h (fun r μ1 hf => zz_runV X G rc_7 tl_100 cv_X7_ofRow kw_1161 (c_X7_ofRow l D ad cA  hf) ⟨rfl, rfl, Nat.le_of_ble_eq_true rfl, Nat.le_of_ble_eq_true rfl⟩ rfl rfl hl.1 (Nat.le_of_ble_eq_true rfl) dX7_burn_15) (fun x4 μ H locs G h => ?_)
  refine lv_goto (tgt := 23) hx hb dX7_burn_18 (by decide) ?_
  rw [hQ]
  exact zz_iret X G hr hlk dX7_burn_23 h
set_option maxHeartbeats 4000000 in
set_option maxRecDepth 100000 in
theorem c_X7_feel (l : Launch) (D : va_G) (ad : Nat → Nat) (cA : Nat → ClassId) {a1 : Int32} {a2 : Int32} {μ : zM} {r : Int32} {μ' : zM} (h : f_X7_feel a1 a2 μ = some (r, μ')) : zMet false D ad cA l yX7_feel cX7_feel 3 (some .int) ({ frames := 2, cells := 0, slots := 0, locals := 42 } : Room) [.ref (ad 100), .int a1, .int a2] μ (zQi false D ad cA r μ') := by
  refine zMet_of "ButlerWeatherModel" ⟨by decide, rfl⟩ (Nat.le_of_ble_eq_true rfl) ?_
  intro p e s m args below meth c X G hr hlk ls hl
  have hl : lv_has ls 3 [(0, .ref (ad 100)), (1, .int a1), (2, .int a2)] := hl
  obtain ⟨hx, hb, hml, hown, hts, -, -, -⟩ := id X
  obtain ⟨Q, hQ⟩ : ∃ Q, Q = MQ below (zQi false D ad cA r μ') args s 0 0 (zA false ad) := ⟨_, rfl⟩
  rw [← hQ]
  unfold f_X7_feel at h
  refine lv_iload_n hx hb dX7_feel_0 rfl (lv_at hl 1 rfl) ?_
  refine zz_ci (rest := []) G h (fun r μ1 hf => zz_runS X G cs_X7_isDay kw_975 (c_X7_isDay l D ad cA  hf) ⟨rfl, rfl, Nat.le_of_ble_eq_true rfl, Nat.le_of_ble_eq_true rfl⟩ rfl rfl hl.1 (Nat.le_of_ble_eq_true rfl) dX7_feel_1) (fun x1 μ H locs G h => ?_)
  refine lv_if_eq (tgt := 18) hx hb dX7_feel_4 (by decide) (fun c2 => ?_) (fun c2 => ?_)
  · have h := (zz_br h).1 c2
    refine lv_bipush (v := (-2 : Int32)) hx hb dX7_feel_18 (by decide) ?_
    rw [hQ]
    exact zz_iret X G hr hlk dX7_feel_20 h
  have h := (zz_br h).2 c2
  refine lv_iload_n hx hb dX7_feel_7 rfl (lv_at hl 2 rfl) ?_
  refine lv_bipush (v := (-40 : Int32)) hx hb dX7_feel_8 (by decide) ?_
  refine lv_bipush (v := (40 : Int32)) hx hb dX7_feel_10 (by decide) ?_
  refine zz_ci (rest := []) G h (fun r μ1 hf => zz_runS X G cs_X7_in kw_905 (c_X7_in l D ad cA  hf) ⟨rfl, rfl, Nat.le_of_ble_eq_true rfl, Nat.le_of_ble_eq_true rfl⟩ rfl rfl hl.1 (Nat.le_of_ble_eq_true rfl) dX7_feel_12) (fun x3 μ H locs G h => ?_)
  refine lv_if_ne (tgt := 21) hx hb dX7_feel_15 (by decide) (fun c4 => ?_) (fun c4 => ?_)
  · have h := (zz_br h).1 c4
    refine lv_aload_n hx hb dX7_feel_21 rfl (lv_at hl 0 rfl) ?_
    refine zz_geti X G fi_7_28 tl_100 kw_810 dX7_feel_22 h (fun x5 h => ?_)
    refine lv_bipush (v := (8 : Int32)) hx hb dX7_feel_25 (by decide) ?_
    refine lv_icmp_ne (tgt := 33) hx hb dX7_feel_27 (by decide) (fun c6 => ?_) (fun c6 => ?_)
    · have h := (zz_br h).1 c6
      refine lv_aload_n hx hb dX7_feel_33 rfl (lv_at hl 0 rfl) ?_
      refine zz_getr X G fr_7_29 tl_100 rl_100_29 kw_811 dX7_feel_34 ?_
      refine lv_aload_n hx hb dX7_feel_37 rfl (lv_at hl 0 rfl) ?_
      refine zz_geti X G fi_7_28 tl_100 kw_810 dX7_feel_38 h (fun x7 h => ?_)
      refine lv_iload_n hx hb dX7_feel_41 rfl (lv_at hl 1 rfl) ?_
      refine zz_iast X G ia_30 tl_130 dX7_feel_42 h (fun μ H locs G h => ?_)
      refine lv_aload_n hx hb dX7_feel_43 rfl (lv_at hl 0 rfl) ?_
      refine zz_getr X G fr_7_30 tl_100 rl_100_30 kw_812 dX7_feel_44 ?_
      refine lv_aload_n hx hb dX7_feel_47 rfl (lv_at hl 0 rfl) ?_
      refine zz_geti X G fi_7_28 tl_100 kw_810 dX7_feel_48 h (fun x8 h => ?_)
      refine lv_iload_n hx hb dX7_feel_51 rfl (lv_at hl 2 rfl) ?_
      refine zz_iast X G ia_30 tl_131 dX7_feel_52 h (fun μ H locs G h => ?_)
      refine lv_aload_n hx hb dX7_feel_53 rfl (lv_at hl 0 rfl) ?_
      refine lv_dup hx hb dX7_feel_54 rfl ?_
      refine zz_geti X G fi_7_28 tl_100 kw_810 dX7_feel_55 h (fun x9 h => ?_)
      refine lv_iconst (v := (1 : Int32)) hx hb dX7_feel_58 (by decide) ?_
      refine lv_iadd hx hb dX7_feel_59 ?_
      refine zz_puti X G fp_7_28 tl_100 kw_810 rfl rfl dX7_feel_60 h (fun μ H locs G h => ?_)
      refine lv_aload_n hx hb dX7_feel_63 rfl (lv_at hl 0 rfl) ?_
      refine zz_geti X G fi_7_28 tl_100 kw_810 dX7_feel_64 h (fun x10 h => ?_)
      rw [hQ]
      exact zz_iret X G hr hlk dX7_feel_67 h
    have h := (zz_br h).2 (fun q => q c6)
    refine lv_bipush (v := (-4 : Int32)) hx hb dX7_feel_30 (by decide) ?_
    rw [hQ]
    exact zz_iret X G hr hlk dX7_feel_32 h
  have h := (zz_br h).2 (fun q => q c4)
  refine lv_bipush (v := (-2 : Int32)) hx hb dX7_feel_18 (by decide) ?_
  rw [hQ]
  exact zz_iret X G hr hlk dX7_feel_20 h
set_option maxHeartbeats 4000000 in
set_option maxRecDepth 100000 in
theorem c_X7_forget (l : Launch) (D : va_G) (ad : Nat → Nat) (cA : Nat → ClassId)  {μ : zM} {r : Int32} {μ' : zM} (h : f_X7_forget μ = some (r, μ')) : zMet false D ad cA l yX7_forget cX7_forget 2 (some .int) ({ frames := 0, cells := 0, slots := 0, locals := 0 } : Room) [.ref (ad 100)] μ (zQi false D ad cA r μ') := by
  refine zMet_of "ButlerWeatherModel" ⟨by decide, rfl⟩ (Nat.le_of_ble_eq_true rfl) ?_
  intro p e s m args below meth c X G hr hlk ls hl
  have hl : lv_has ls 2 [(0, .ref (ad 100))] := hl
  obtain ⟨hx, hb, hml, hown, hts, -, -, -⟩ := id X
  obtain ⟨Q, hQ⟩ : ∃ Q, Q = MQ below (zQi false D ad cA r μ') args s 0 0 (zA false ad) := ⟨_, rfl⟩
  rw [← hQ]
  unfold f_X7_forget at h
  refine lv_aload_n hx hb dX7_forget_0 rfl (lv_at hl 0 rfl) ?_
  refine zz_geti X G fi_7_28 tl_100 kw_810 dX7_forget_1 h (fun x1 h => ?_)
  refine lv_istore_n (lv' := [(1, .int x1), (0, .ref (ad 100))]) hx hb dX7_forget_4 rfl hl (by decide) rfl (fun ls hl => ?_)
  refine lv_aload_n hx hb dX7_forget_5 rfl (lv_at hl 1 rfl) ?_
  refine lv_iconst (v := (0 : Int32)) hx hb dX7_forget_6 (by decide) ?_
  refine zz_puti X G fp_7_28 tl_100 kw_810 rfl rfl dX7_forget_7 h (fun μ H locs G h => ?_)
  refine lv_iload_n hx hb dX7_forget_10 rfl (lv_at hl 0 rfl) ?_
  rw [hQ]
  exact zz_iret X G hr hlk dX7_forget_11 h
set_option maxHeartbeats 4000000 in
set_option maxRecDepth 100000 in
theorem w_X7_isFelt_L8 {p : Program} {l : Launch} {e : Env} {s : State} {m : MethodId} {args : Array Value} {below : List Frame} {meth : Method} {c : Code} {Q : State → Prop} {D : va_G} {ad : Nat → Nat} {cA : Nat → ClassId} {r : Int32} {μ' : zM} (X : zX false D ad cA p s m args c cX7_isFelt "ButlerWeatherModel" 3) (hQ : Q = MQ below (zQi false D ad cA r μ') args s 0 0 (zA false ad)) (hr : meth.sig.returnType = (some .boolean)) (hlk : meth.locks = false)  {kx : Int32 → zM → Option (Int32 × zM)} (HX : ∀ (w1 : Int32) (μ : zM) (H : Heap) (locs : List Loc) (ls : Array Slot), lv_has ls 3 [(1, .int w1)] → zG false D ad cA s μ H locs → kx w1 μ = some (r, μ') → W p l e ({ frames := 5, cells := 0, slots := 0, locals := 112 } : Room) s m args below meth c H locs 0 0 Q (F0 m 52 ls [])) : ∀ (n : Nat) (v1 : Int32) (v2 : Int32) (μ : zM) (H : Heap) (locs : List Loc) (ls : Array Slot), lv_has ls 3 [(0, .ref (ad 100)), (1, .int v1), (2, .int v2)] → zG false D ad cA s μ H locs → f_X7_isFelt_L8 kx n v1 v2 μ = some (r, μ') → W p l e ({ frames := 5, cells := 0, slots := 0, locals := 112 } : Room) s m args below meth c H locs 0 0 Q (F0 m 8 ls []) := by
  obtain ⟨hx, hb, hml, hown, hts, -, -, -⟩ := id X
  intro n
  induction n with
  | zero =>
    intro v1 v2 μ H locs ls hl G h
    cases (show (none : Option (Int32 × zM)) = some (r, μ') from h)
  | succ n ih =>
    intro v1 v2 μ H locs ls hl G h
    rw [f_X7_isFelt_L8] at h
    refine lv_iload_n hx hb dX7_isFelt_8 rfl (lv_at hl 2 rfl) ?_
    refine lv_aload_n hx hb dX7_isFelt_9 rfl (lv_at hl 0 rfl) ?_
    refine zz_geti X G fi_7_28 tl_100 kw_810 dX7_isFelt_10 h (fun x1 h => ?_)
    refine lv_icmp_ge (tgt := 52) hx hb dX7_isFelt_13 (by decide) (fun c2 => ?_) (fun c2 => ?_)
    · have h := (zz_br h).1 c2
      exact HX v1 μ _ _ _ (lv_sub hl [1] rfl) G h
    have h := (zz_br h).2 c2
    refine lv_iload_n hx hb dX7_isFelt_16 rfl (lv_at hl 1 rfl) ?_
    refine lv_if_eq (tgt := 52) hx hb dX7_isFelt_17 (by decide) (fun c3 => ?_) (fun c3 => ?_)
    · have h := (zz_br h).1 c3
      exact HX v1 μ _ _ _ (lv_sub hl [1] rfl) G h
    have h := (zz_br h).2 c3
    refine lv_aload_n hx hb dX7_isFelt_20 rfl (lv_at hl 0 rfl) ?_
    refine zz_getr X G fr_7_26 tl_100 rl_100_26 kw_808 dX7_isFelt_21 ?_
    refine lv_aload_n hx hb dX7_isFelt_24 rfl (lv_at hl 0 rfl) ?_
    refine zz_getr X G fr_7_29 tl_100 rl_100_29 kw_811 dX7_isFelt_25 ?_
    refine lv_iload_n hx hb dX7_isFelt_28 rfl (lv_at hl 2 rfl) ?_
    refine zz_iald X G ia_30 tl_130 dX7_isFelt_29 h (fun x4 h => ?_)
    refine zz_iald X G ia_30 tl_127 dX7_isFelt_30 h (fun x5 h => ?_)
    refine lv_aload_n hx hb dX7_isFelt_31 rfl (lv_at hl 0 rfl) ?_
    refine zz_getr X G fr_7_30 tl_100 rl_100_30 kw_812 dX7_isFelt_32 ?_
    refine lv_iload_n hx hb dX7_isFelt_35 rfl (lv_at hl 2 rfl) ?_
    refine zz_iald X G ia_30 tl_131 dX7_isFelt_36 h (fun x6 h => ?_)
    refine lv_icmp_ne (tgt := 44) hx hb dX7_isFelt_37 (by decide) (fun c7 => ?_) (fun c7 => ?_)
    · have h := (zz_br h).1 c7
      refine lv_iconst (v := (0 : Int32)) hx hb dX7_isFelt_44 (by decide) ?_
      refine lv_istore_n (lv' := [(1, .int (0 : Int32)), (0, .ref (ad 100)), (2, .int v2)]) hx hb dX7_isFelt_45 rfl hl (by decide) rfl (fun ls hl => ?_)
      obtain ⟨x8, ex8, h⟩ := zz_let h
      refine lv_iinc (v := x8) (lv' := [(2, .int x8), (1, .int (0 : Int32)), (0, .ref (ad 100))]) hx hb dX7_isFelt_46 hl (k := 2) rfl (by rw [← ex8]; rfl) (by decide) rfl (fun ls hl => ?_)
      refine lv_goto (tgt := 8) hx hb dX7_isFelt_49 (by decide) ?_
      exact ih (0 : Int32) x8 μ _ _ _ (lv_sub hl [2, 1, 0] rfl) G h
    have h := (zz_br h).2 (fun q => q c7)
    refine lv_iconst (v := (1 : Int32)) hx hb dX7_isFelt_40 (by decide) ?_
    refine lv_goto (tgt := 45) hx hb dX7_isFelt_41 (by decide) ?_
    refine lv_istore_n (lv' := [(1, .int (1 : Int32)), (0, .ref (ad 100)), (2, .int v2)]) hx hb dX7_isFelt_45 rfl hl (by decide) rfl (fun ls hl => ?_)
    obtain ⟨x9, ex9, h⟩ := zz_let h
    refine lv_iinc (v := x9) (lv' := [(2, .int x9), (1, .int (1 : Int32)), (0, .ref (ad 100))]) hx hb dX7_isFelt_46 hl (k := 2) rfl (by rw [← ex9]; rfl) (by decide) rfl (fun ls hl => ?_)
    refine lv_goto (tgt := 8) hx hb dX7_isFelt_49 (by decide) ?_
    exact ih (1 : Int32) x9 μ _ _ _ (lv_sub hl [2, 1, 0] rfl) G h
set_option maxHeartbeats 4000000 in
set_option maxRecDepth 100000 in
theorem c_X7_isFelt (l : Launch) (D : va_G) (ad : Nat → Nat) (cA : Nat → ClassId)  {μ : zM} {r : Int32} {μ' : zM} (h : f_X7_isFelt μ = some (r, μ')) : zMet false D ad cA l yX7_isFelt cX7_isFelt 3 (some .boolean) ({ frames := 5, cells := 0, slots := 0, locals := 112 } : Room) [.ref (ad 100)] μ (zQi false D ad cA r μ') := by
  refine zMet_of "ButlerWeatherModel" ⟨by decide, rfl⟩ (Nat.le_of_ble_eq_true rfl) ?_
  intro p e s m args below meth c X G hr hlk ls hl
  have hl : lv_has ls 3 [(0, .ref (ad 100))] := hl
  obtain ⟨hx, hb, hml, hown, hts, -, -, -⟩ := id X
  obtain ⟨Q, hQ⟩ : ∃ Q, Q = MQ below (zQi false D ad cA r μ') args s 0 0 (zA false ad) := ⟨_, rfl⟩
  rw [← hQ]
  unfold f_X7_isFelt at h
  refine lv_aload_n hx hb dX7_isFelt_0 rfl (lv_at hl 0 rfl) ?_
  refine zz_cv (rest := []) G h (fun r μ1 hf => zz_runV X G rc_7 tl_100 cv_X7_runs kw_1010 (c_X7_runs l D ad cA  hf) ⟨rfl, rfl, Nat.le_of_ble_eq_true rfl, Nat.le_of_ble_eq_true rfl⟩ rfl rfl hl.1 (Nat.le_of_ble_eq_true rfl) dX7_isFelt_1) (fun _ μ H locs G h => ?_)
  refine lv_iconst (v := (1 : Int32)) hx hb dX7_isFelt_4 (by decide) ?_
  refine lv_istore_n (lv' := [(1, .int (1 : Int32)), (0, .ref (ad 100))]) hx hb dX7_isFelt_5 rfl hl (by decide) rfl (fun ls hl => ?_)
  refine lv_iconst (v := (0 : Int32)) hx hb dX7_isFelt_6 (by decide) ?_
  refine lv_istore_n (lv' := [(2, .int (0 : Int32)), (1, .int (1 : Int32)), (0, .ref (ad 100))]) hx hb dX7_isFelt_7 rfl hl (by decide) rfl (fun ls hl => ?_)
  refine w_X7_isFelt_L8 X hQ hr hlk  (fun x10 μ H locs ls hl G h => ?_) 400 (1 : Int32) (0 : Int32) μ _ _ _ (lv_sub hl [2, 1, 0] rfl) G h
  refine lv_iload_n hx hb dX7_isFelt_52 rfl (lv_at hl 0 rfl) ?_
  rw [hQ]
  exact zz_zret X G hr hlk dX7_isFelt_53 h
