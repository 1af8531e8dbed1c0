-- CONTRACTS, by program
set_option maxHeartbeats 4000000 in
set_option maxRecDepth 100000 in
theorem c_X2_everIn (l : Launch) (D : va_G) (ad : Nat → Nat) (cA : Nat → ClassId) {r0 : Nat} (t_r0 : zty r0 = 2) {μ : zM} {r : Int32} {μ' : zM} (h : f_X2_everIn r0 μ = some (r, μ')) : zMet true D ad cA l yX2_everIn cX2_everIn 1 (some .int) ({ frames := 1, cells := 0, slots := 0, locals := 23 } : Room) [.ref (ad r0)] μ (zQi true D ad cA r μ') := by
  refine zMet_of "ButlerWeather$House" ⟨by decide, rfl⟩ (Nat.le_of_ble_eq_true rfl) ?_
  intro p e s m args below meth c X G hr hlk ls hl
  have hl : lv_has ls 1 [(0, .ref (ad r0))] := hl
  obtain ⟨hx, hb, hml, hown, hts, -, -, -⟩ := id X
  obtain ⟨Q, hQ⟩ : ∃ Q, Q = MQ below (zQi true D ad cA r μ') args s 0 0 (zA true ad) := ⟨_, rfl⟩
  rw [← hQ]
  unfold f_X2_everIn at h
  refine lv_aload_n hx hb dX2_everIn_0 rfl (lv_at hl 0 rfl) ?_
  refine lv_aload_n hx hb dX2_everIn_1 rfl (lv_at hl 0 rfl) ?_
  refine zz_getr X G fr_2_11 t_r0 (rs_2_11 t_r0) kw_200 dX2_everIn_2 ?_
  refine zz_ci (rest := []) G h (fun r μ1 hf => zz_runV X G rc_2 t_r0 cv_X2_thoseWithADay kw_521 (c_X2_thoseWithADay l D ad cA t_r0 (ft_2_11 t_r0) hf) ⟨rfl, rfl, Nat.le_of_ble_eq_true rfl, Nat.le_of_ble_eq_true rfl⟩ rfl rfl hl.1 (Nat.le_of_ble_eq_true rfl) dX2_everIn_5) (fun x1 μ H locs G h => ?_)
  rw [hQ]
  exact zz_iret X G hr hlk dX2_everIn_8 h
set_option maxHeartbeats 4000000 in
set_option maxRecDepth 100000 in
theorem c_X2_sentBits (l : Launch) (D : va_G) (ad : Nat → Nat) (cA : Nat → ClassId) {r0 : Nat} (t_r0 : zty r0 = 2) {μ : zM} {r : Int32} {μ' : zM} (h : f_X2_sentBits r0 μ = some (r, μ')) : zMet true D ad cA l yX2_sentBits cX2_sentBits 1 (some .int) ({ frames := 1, cells := 0, slots := 0, locals := 23 } : Room) [.ref (ad r0)] μ (zQi true D ad cA r μ') := by
  refine zMet_of "ButlerWeather$House" ⟨by decide, rfl⟩ (Nat.le_of_ble_eq_true rfl) ?_
  intro p e s m args below meth c X G hr hlk ls hl
  have hl : lv_has ls 1 [(0, .ref (ad r0))] := hl
  obtain ⟨hx, hb, hml, hown, hts, -, -, -⟩ := id X
  obtain ⟨Q, hQ⟩ : ∃ Q, Q = MQ below (zQi true D ad cA r μ') args s 0 0 (zA true ad) := ⟨_, rfl⟩
  rw [← hQ]
  unfold f_X2_sentBits at h
  refine lv_aload_n hx hb dX2_sentBits_0 rfl (lv_at hl 0 rfl) ?_
  refine lv_aload_n hx hb dX2_sentBits_1 rfl (lv_at hl 0 rfl) ?_
  refine zz_getr X G fr_2_12 t_r0 (rs_2_12 t_r0) kw_203 dX2_sentBits_2 ?_
  refine zz_ci (rest := []) G h (fun r μ1 hf => zz_runV X G rc_2 t_r0 cv_X2_thoseWithADay kw_521 (c_X2_thoseWithADay l D ad cA t_r0 (ft_2_12 t_r0) hf) ⟨rfl, rfl, Nat.le_of_ble_eq_true rfl, Nat.le_of_ble_eq_true rfl⟩ rfl rfl hl.1 (Nat.le_of_ble_eq_true rfl) dX2_sentBits_5) (fun x1 μ H locs G h => ?_)
  rw [hQ]
  exact zz_iret X G hr hlk dX2_sentBits_8 h
set_option maxHeartbeats 4000000 in
set_option maxRecDepth 100000 in
theorem w_X2_misnamed_L4 {p : Program} {l : Launch} {e : Env} {s : State} {m : MethodId} {args : Array Value} {below : List Frame} {meth : Method} {c : Code} {Q : State → Prop} {D : va_G} {ad : Nat → Nat} {cA : Nat → ClassId} {r : Int32} {μ' : zM} (X : zX true D ad cA p s m args c cX2_misnamed "ButlerWeather$House" 3) (hQ : Q = MQ below (zQi true D ad cA r μ') args s 0 0 (zA true ad)) (hr : meth.sig.returnType = (some .int)) (hlk : meth.locks = false) {r0 : Nat} (t_r0 : zty r0 = 2) {kx : Int32 → zM → Option (Int32 × zM)} (HX : ∀ (w1 : Int32) (μ : zM) (H : Heap) (locs : List Loc) (ls : Array Slot), lv_has ls 3 [(1, .int w1)] → zG true D ad cA s μ H locs → kx w1 μ = some (r, μ') → W p l e ({ frames := 0, cells := 0, slots := 0, locals := 0 } : Room) s m args below meth c H locs 0 0 Q (F0 m 49 ls [])) : ∀ (n : Nat) (v1 : Int32) (v2 : Int32) (μ : zM) (H : Heap) (locs : List Loc) (ls : Array Slot), lv_has ls 3 [(0, .ref (ad r0)), (1, .int v1), (2, .int v2)] → zG true D ad cA s μ H locs → f_X2_misnamed_L4 r0 kx n v1 v2 μ = some (r, μ') → W p l e ({ frames := 0, cells := 0, slots := 0, locals := 0 } : Room) s m args below meth c H locs 0 0 Q (F0 m 4 ls []) := by
  obtain ⟨hx, hb, hml, hown, hts, -, -, -⟩ := id X
  intro n
  induction n with
  | zero =>
    intro v1 v2 μ H locs ls hl G h
    cases (show (none : Option (Int32 × zM)) = some (r, μ') from h)
  | succ n ih =>
    intro v1 v2 μ H locs ls hl G h
    rw [f_X2_misnamed_L4] at h
    refine lv_iload_n hx hb dX2_misnamed_4 rfl (lv_at hl 2 rfl) ?_
    refine lv_aload_n hx hb dX2_misnamed_5 rfl (lv_at hl 0 rfl) ?_
    refine zz_geti X G fi_2_0 t_r0 kw_178 dX2_misnamed_6 h (fun x1 h => ?_)
    refine lv_icmp_ge (tgt := 49) hx hb dX2_misnamed_9 (by decide) (fun c2 => ?_) (fun c2 => ?_)
    · have h := (zz_br h).1 c2
      exact HX v1 μ _ _ _ (lv_sub hl [1] rfl) G h
    have h := (zz_br h).2 c2
    refine lv_aload_n hx hb dX2_misnamed_12 rfl (lv_at hl 0 rfl) ?_
    refine zz_getr X G fr_2_13 t_r0 (rs_2_13 t_r0) kw_204 dX2_misnamed_13 ?_
    refine lv_iload_n hx hb dX2_misnamed_16 rfl (lv_at hl 2 rfl) ?_
    refine zz_iald X G ia_10 (ft_2_13 t_r0) dX2_misnamed_17 h (fun x3 h => ?_)
    refine lv_iconst (v := (-1 : Int32)) hx hb dX2_misnamed_18 (by decide) ?_
    refine lv_icmp_eq (tgt := 43) hx hb dX2_misnamed_19 (by decide) (fun c4 => ?_) (fun c4 => ?_)
    · have h := (zz_br h).1 c4
      obtain ⟨x5, ex5, h⟩ := zz_let h
      refine lv_iinc (v := x5) (lv' := [(2, .int x5), (0, .ref (ad r0)), (1, .int v1)]) hx hb dX2_misnamed_43 hl (k := 2) rfl (by rw [← ex5]; rfl) (by decide) rfl (fun ls hl => ?_)
      refine lv_goto (tgt := 4) hx hb dX2_misnamed_46 (by decide) ?_
      exact ih v1 x5 μ _ _ _ (lv_sub hl [1, 2, 0] rfl) G h
    have h := (zz_br h).2 c4
    refine lv_aload_n hx hb dX2_misnamed_22 rfl (lv_at hl 0 rfl) ?_
    refine zz_getr X G fr_2_13 t_r0 (rs_2_13 t_r0) kw_204 dX2_misnamed_23 ?_
    refine lv_iload_n hx hb dX2_misnamed_26 rfl (lv_at hl 2 rfl) ?_
    refine zz_iald X G ia_10 (ft_2_13 t_r0) dX2_misnamed_27 h (fun x6 h => ?_)
    refine lv_aload_n hx hb dX2_misnamed_28 rfl (lv_at hl 0 rfl) ?_
    refine zz_getr X G fr_2_1 t_r0 (rs_2_1 t_r0) kw_181 dX2_misnamed_29 ?_
    refine lv_iload_n hx hb dX2_misnamed_32 rfl (lv_at hl 2 rfl) ?_
    refine zz_iald X G ia_10 (ft_2_1 t_r0) dX2_misnamed_33 h (fun x7 h => ?_)
    refine lv_icmp_eq (tgt := 43) hx hb dX2_misnamed_34 (by decide) (fun c8 => ?_) (fun c8 => ?_)
    · have h := (zz_br h).1 c8
      obtain ⟨x9, ex9, h⟩ := zz_let h
      refine lv_iinc (v := x9) (lv' := [(2, .int x9), (0, .ref (ad r0)), (1, .int v1)]) hx hb dX2_misnamed_43 hl (k := 2) rfl (by rw [← ex9]; rfl) (by decide) rfl (fun ls hl => ?_)
      refine lv_goto (tgt := 4) hx hb dX2_misnamed_46 (by decide) ?_
      exact ih v1 x9 μ _ _ _ (lv_sub hl [1, 2, 0] rfl) G h
    have h := (zz_br h).2 c8
    refine lv_iload_n hx hb dX2_misnamed_37 rfl (lv_at hl 1 rfl) ?_
    refine lv_iconst (v := (1 : Int32)) hx hb dX2_misnamed_38 (by decide) ?_
    refine lv_iload_n hx hb dX2_misnamed_39 rfl (lv_at hl 2 rfl) ?_
    refine lv_ishl hx hb dX2_misnamed_40 ?_
    refine lv_ior hx hb dX2_misnamed_41 ?_
    refine zz_vi h (fun x10 h => ?_)
    refine lv_istore_n (lv' := [(1, .int x10), (0, .ref (ad r0)), (2, .int v2)]) hx hb dX2_misnamed_42 rfl hl (by decide) rfl (fun ls hl => ?_)
    obtain ⟨x11, ex11, h⟩ := zz_let h
    refine lv_iinc (v := x11) (lv' := [(2, .int x11), (1, .int x10), (0, .ref (ad r0))]) hx hb dX2_misnamed_43 hl (k := 2) rfl (by rw [← ex11]; rfl) (by decide) rfl (fun ls hl => ?_)
    refine lv_goto (tgt := 4) hx hb dX2_misnamed_46 (by decide) ?_
    exact ih x10 x11 μ _ _ _ (lv_sub hl [2, 1, 0] rfl) G h
set_option maxHeartbeats 4000000 in
set_option maxRecDepth 100000 in
theorem c_X2_misnamed (l : Launch) (D : va_G) (ad : Nat → Nat) (cA : Nat → ClassId) {r0 : Nat} (t_r0 : zty r0 = 2) {μ : zM} {r : Int32} {μ' : zM} (h : f_X2_misnamed r0 μ = some (r, μ')) : zMet true D ad cA l yX2_misnamed cX2_misnamed 3 (some .int) ({ frames := 0, cells := 0, slots := 0, locals := 0 } : Room) [.ref (ad r0)] μ (zQi true D ad cA r μ') := by
  refine zMet_of "ButlerWeather$House" ⟨by decide, rfl⟩ (Nat.le_of_ble_eq_true rfl) ?_
  intro p e s m args below meth c X G hr hlk ls hl
  have hl : lv_has ls 3 [(0, .ref (ad r0))] := hl
  obtain ⟨hx, hb, hml, hown, hts, -, -, -⟩ := id X
  obtain ⟨Q, hQ⟩ : ∃ Q, Q = MQ below (zQi true D ad cA r μ') args s 0 0 (zA true ad) := ⟨_, rfl⟩
  rw [← hQ]
  unfold f_X2_misnamed at h
  refine lv_iconst (v := (0 : Int32)) hx hb dX2_misnamed_0 (by decide) ?_
  refine lv_istore_n (lv' := [(1, .int (0 : Int32)), (0, .ref (ad r0))]) hx hb dX2_misnamed_1 rfl hl (by decide) rfl (fun ls hl => ?_)
  refine lv_iconst (v := (0 : Int32)) hx hb dX2_misnamed_2 (by decide) ?_
  refine lv_istore_n (lv' := [(2, .int (0 : Int32)), (1, .int (0 : Int32)), (0, .ref (ad r0))]) hx hb dX2_misnamed_3 rfl hl (by decide) rfl (fun ls hl => ?_)
  refine w_X2_misnamed_L4 X hQ hr hlk t_r0 (fun x12 μ H locs ls hl G h => ?_) 400 (0 : Int32) (0 : Int32) μ _ _ _ (lv_sub hl [2, 1, 0] rfl) G h
  refine lv_iload_n hx hb dX2_misnamed_49 rfl (lv_at hl 0 rfl) ?_
  rw [hQ]
  exact zz_iret X G hr hlk dX2_misnamed_50 h
set_option maxHeartbeats 4000000 in
set_option maxRecDepth 100000 in
theorem w_X2_hasNamed_L2 {p : Program} {l : Launch} {e : Env} {s : State} {m : MethodId} {args : Array Value} {below : List Frame} {meth : Method} {c : Code} {Q : State → Prop} {D : va_G} {ad : Nat → Nat} {cA : Nat → ClassId} {r : Int32} {μ' : zM} (X : zX true D ad cA p s m args c cX2_hasNamed "ButlerWeather$House" 3) (hQ : Q = MQ below (zQi true D ad cA r μ') args s 0 0 (zA true ad)) (hr : meth.sig.returnType = (some .boolean)) (hlk : meth.locks = false) {r0 : Nat} (t_r0 : zty r0 = 2) {v1 : Int32} {kx : zM → Option (Int32 × zM)} (HX : ∀ (μ : zM) (H : Heap) (locs : List Loc) (ls : Array Slot), lv_has ls 3 [] → zG true D ad cA s μ H locs → kx  μ = some (r, μ') → W p l e ({ frames := 0, cells := 0, slots := 0, locals := 0 } : Room) s m args below meth c H locs 0 0 Q (F0 m 28 ls [])) : ∀ (n : Nat) (v2 : Int32) (μ : zM) (H : Heap) (locs : List Loc) (ls : Array Slot), lv_has ls 3 [(0, .ref (ad r0)), (1, .int v1), (2, .int v2)] → zG true D ad cA s μ H locs → f_X2_hasNamed_L2 r0 v1 kx n v2 μ = some (r, μ') → W p l e ({ frames := 0, cells := 0, slots := 0, locals := 0 } : Room) s m args below meth c H locs 0 0 Q (F0 m 2 ls []) := by
  obtain ⟨hx, hb, hml, hown, hts, -, -, -⟩ := id X
  intro n
  induction n with
  | zero =>
    intro v2 μ H locs ls hl G h
    cases (show (none : Option (Int32 × zM)) = some (r, μ') from h)
  | succ n ih =>
    intro v2 μ H locs ls hl G h
    rw [f_X2_hasNamed_L2] at h
    refine lv_iload_n hx hb dX2_hasNamed_2 rfl (lv_at hl 2 rfl) ?_
    refine lv_aload_n hx hb dX2_hasNamed_3 rfl (lv_at hl 0 rfl) ?_
    refine zz_geti X G fi_2_0 t_r0 kw_178 dX2_hasNamed_4 h (fun x1 h => ?_)
    refine lv_icmp_ge (tgt := 28) hx hb dX2_hasNamed_7 (by decide) (fun c2 => ?_) (fun c2 => ?_)
    · have h := (zz_br h).1 c2
      exact HX  μ _ _ _ (lv_sub hl [] rfl) G h
    have h := (zz_br h).2 c2
    refine lv_aload_n hx hb dX2_hasNamed_10 rfl (lv_at hl 0 rfl) ?_
    refine zz_getr X G fr_2_13 t_r0 (rs_2_13 t_r0) kw_204 dX2_hasNamed_11 ?_
    refine lv_iload_n hx hb dX2_hasNamed_14 rfl (lv_at hl 2 rfl) ?_
    refine zz_iald X G ia_10 (ft_2_13 t_r0) dX2_hasNamed_15 h (fun x3 h => ?_)
    refine lv_iload_n hx hb dX2_hasNamed_16 rfl (lv_at hl 1 rfl) ?_
    refine lv_icmp_ne (tgt := 22) hx hb dX2_hasNamed_17 (by decide) (fun c4 => ?_) (fun c4 => ?_)
    · have h := (zz_br h).1 c4
      obtain ⟨x5, ex5, h⟩ := zz_let h
      refine lv_iinc (v := x5) (lv' := [(2, .int x5), (0, .ref (ad r0)), (1, .int v1)]) hx hb dX2_hasNamed_22 hl (k := 2) rfl (by rw [← ex5]; rfl) (by decide) rfl (fun ls hl => ?_)
      refine lv_goto (tgt := 2) hx hb dX2_hasNamed_25 (by decide) ?_
      exact ih x5 μ _ _ _ (lv_sub hl [1, 2, 0] rfl) G h
    have h := (zz_br h).2 (fun q => q c4)
    refine lv_iconst (v := (1 : Int32)) hx hb dX2_hasNamed_20 (by decide) ?_
    rw [hQ]
    exact zz_zret X G hr hlk dX2_hasNamed_21 h
set_option maxHeartbeats 4000000 in
set_option maxRecDepth 100000 in
theorem c_X2_hasNamed (l : Launch) (D : va_G) (ad : Nat → Nat) (cA : Nat → ClassId) {r0 : Nat} (t_r0 : zty r0 = 2) {a1 : Int32} {μ : zM} {r : Int32} {μ' : zM} (h : f_X2_hasNamed r0 a1 μ = some (r, μ')) : zMet true D ad cA l yX2_hasNamed cX2_hasNamed 3 (some .boolean) ({ frames := 0, cells := 0, slots := 0, locals := 0 } : Room) [.ref (ad r0), .int a1] μ (zQi true D ad cA r μ') := by
  refine zMet_of "ButlerWeather$House" ⟨by decide, rfl⟩ (Nat.le_of_ble_eq_true rfl) ?_
  intro p e s m args below meth c X G hr hlk ls hl
  have hl : lv_has ls 3 [(0, .ref (ad r0)), (1, .int a1)] := hl
  obtain ⟨hx, hb, hml, hown, hts, -, -, -⟩ := id X
  obtain ⟨Q, hQ⟩ : ∃ Q, Q = MQ below (zQi true D ad cA r μ') args s 0 0 (zA true ad) := ⟨_, rfl⟩
  rw [← hQ]
  unfold f_X2_hasNamed at h
  refine lv_iconst (v := (0 : Int32)) hx hb dX2_hasNamed_0 (by decide) ?_
  refine lv_istore_n (lv' := [(2, .int (0 : Int32)), (0, .ref (ad r0)), (1, .int a1)]) hx hb dX2_hasNamed_1 rfl hl (by decide) rfl (fun ls hl => ?_)
  refine w_X2_hasNamed_L2 X hQ hr hlk t_r0 (fun  μ H locs ls hl G h => ?_) 400 (0 : Int32) μ _ _ _ (lv_sub hl [1, 2, 0] rfl) G h
  refine lv_iconst (v := (0 : Int32)) hx hb dX2_hasNamed_28 (by decide) ?_
  rw [hQ]
  exact zz_zret X G hr hlk dX2_hasNamed_29 h
set_option maxHeartbeats 4000000 in
set_option maxRecDepth 100000 in
theorem w_X2_firstByDoor_L4 {p : Program} {l : Launch} {e : Env} {s : State} {m : MethodId} {args : Array Value} {below : List Frame} {meth : Method} {c : Code} {Q : State → Prop} {D : va_G} {ad : Nat → Nat} {cA : Nat → ClassId} {r : Int32} {μ' : zM} (X : zX true D ad cA p s m args c cX2_firstByDoor "ButlerWeather$House" 3) (hQ : Q = MQ below (zQi true D ad cA r μ') args s 0 0 (zA true ad)) (hr : meth.sig.returnType = (some .int)) (hlk : meth.locks = false) {r0 : Nat} (t_r0 : zty r0 = 2) {kx : Int32 → zM → Option (Int32 × zM)} (HX : ∀ (w1 : Int32) (μ : zM) (H : Heap) (locs : List Loc) (ls : Array Slot), lv_has ls 3 [(1, .int w1)] → zG true D ad cA s μ H locs → kx w1 μ = some (r, μ') → W p l e ({ frames := 0, cells := 0, slots := 0, locals := 0 } : Room) s m args below meth c H locs 0 0 Q (F0 m 60 ls [])) : ∀ (n : Nat) (v1 : Int32) (v2 : Int32) (μ : zM) (H : Heap) (locs : List Loc) (ls : Array Slot), lv_has ls 3 [(0, .ref (ad r0)), (1, .int v1), (2, .int v2)] → zG true D ad cA s μ H locs → f_X2_firstByDoor_L4 r0 kx n v1 v2 μ = some (r, μ') → W p l e ({ frames := 0, cells := 0, slots := 0, locals := 0 } : Room) s m args below meth c H locs 0 0 Q (F0 m 4 ls []) := by
  obtain ⟨hx, hb, hml, hown, hts, -, -, -⟩ := id X
  intro n
  induction n with
  | zero =>
    intro v1 v2 μ H locs ls hl G h
    cases (show (none : Option (Int32 × zM)) = some (r, μ') from h)
  | succ n ih =>
    intro v1 v2 μ H locs ls hl G h
    rw [f_X2_firstByDoor_L4] at h
    refine lv_iload_n hx hb dX2_firstByDoor_4 rfl (lv_at hl 2 rfl) ?_
    refine lv_aload_n hx hb dX2_firstByDoor_5 rfl (lv_at hl 0 rfl) ?_
    refine zz_geti X G fi_2_0 t_r0 kw_178 dX2_firstByDoor_6 h (fun x1 h => ?_)
    refine lv_icmp_ge (tgt := 60) hx hb dX2_firstByDoor_9 (by decide) (fun c2 => ?_) (fun c2 => ?_)
    · have h := (zz_br h).1 c2
      exact HX v1 μ _ _ _ (lv_sub hl [1] rfl) G h
    have h := (zz_br h).2 c2
    refine lv_aload_n hx hb dX2_firstByDoor_12 rfl (lv_at hl 0 rfl) ?_
    refine zz_getr X G fr_2_11 t_r0 (rs_2_11 t_r0) kw_200 dX2_firstByDoor_13 ?_
    refine lv_iload_n hx hb dX2_firstByDoor_16 rfl (lv_at hl 2 rfl) ?_
    refine zz_iald X G ia_10 (ft_2_11 t_r0) dX2_firstByDoor_17 h (fun x3 h => ?_)
    refine lv_iconst (v := (-1 : Int32)) hx hb dX2_firstByDoor_18 (by decide) ?_
    refine lv_icmp_eq (tgt := 54) hx hb dX2_firstByDoor_19 (by decide) (fun c4 => ?_) (fun c4 => ?_)
    · have h := (zz_br h).1 c4
      obtain ⟨x5, ex5, h⟩ := zz_let h
      refine lv_iinc (v := x5) (lv' := [(2, .int x5), (0, .ref (ad r0)), (1, .int v1)]) hx hb dX2_firstByDoor_54 hl (k := 2) rfl (by rw [← ex5]; rfl) (by decide) rfl (fun ls hl => ?_)
      refine lv_goto (tgt := 4) hx hb dX2_firstByDoor_57 (by decide) ?_
      exact ih v1 x5 μ _ _ _ (lv_sub hl [1, 2, 0] rfl) G h
    have h := (zz_br h).2 c4
    refine lv_aload_n hx hb dX2_firstByDoor_22 rfl (lv_at hl 0 rfl) ?_
    refine zz_getr X G fr_2_1 t_r0 (rs_2_1 t_r0) kw_181 dX2_firstByDoor_23 ?_
    refine lv_iload_n hx hb dX2_firstByDoor_26 rfl (lv_at hl 2 rfl) ?_
    refine zz_iald X G ia_10 (ft_2_1 t_r0) dX2_firstByDoor_27 h (fun x6 h => ?_)
    refine lv_iconst (v := (2 : Int32)) hx hb dX2_firstByDoor_28 (by decide) ?_
    refine lv_icmp_eq (tgt := 54) hx hb dX2_firstByDoor_29 (by decide) (fun c7 => ?_) (fun c7 => ?_)
    · have h := (zz_br h).1 c7
      obtain ⟨x8, ex8, h⟩ := zz_let h
      refine lv_iinc (v := x8) (lv' := [(2, .int x8), (0, .ref (ad r0)), (1, .int v1)]) hx hb dX2_firstByDoor_54 hl (k := 2) rfl (by rw [← ex8]; rfl) (by decide) rfl (fun ls hl => ?_)
      refine lv_goto (tgt := 4) hx hb dX2_firstByDoor_57 (by decide) ?_
      exact ih v1 x8 μ _ _ _ (lv_sub hl [1, 2, 0] rfl) G h
    have h := (zz_br h).2 c7
    refine lv_iload_n hx hb dX2_firstByDoor_32 rfl (lv_at hl 1 rfl) ?_
    refine lv_iconst (v := (-1 : Int32)) hx hb dX2_firstByDoor_33 (by decide) ?_
    refine lv_icmp_eq (tgt := 52) hx hb dX2_firstByDoor_34 (by decide) (fun c9 => ?_) (fun c9 => ?_)
    · have h := (zz_br h).1 c9
      refine lv_iload_n hx hb dX2_firstByDoor_52 rfl (lv_at hl 2 rfl) ?_
      refine lv_istore_n (lv' := [(1, .int v2), (0, .ref (ad r0)), (2, .int v2)]) hx hb dX2_firstByDoor_53 rfl hl (by decide) rfl (fun ls hl => ?_)
      obtain ⟨x10, ex10, h⟩ := zz_let h
      refine lv_iinc (v := x10) (lv' := [(2, .int x10), (1, .int v2), (0, .ref (ad r0))]) hx hb dX2_firstByDoor_54 hl (k := 2) rfl (by rw [← ex10]; rfl) (by decide) rfl (fun ls hl => ?_)
      refine lv_goto (tgt := 4) hx hb dX2_firstByDoor_57 (by decide) ?_
      exact ih v2 x10 μ _ _ _ (lv_sub hl [2, 1, 0] rfl) G h
    have h := (zz_br h).2 c9
    refine lv_aload_n hx hb dX2_firstByDoor_37 rfl (lv_at hl 0 rfl) ?_
    refine zz_getr X G fr_2_11 t_r0 (rs_2_11 t_r0) kw_200 dX2_firstByDoor_38 ?_
    refine lv_iload_n hx hb dX2_firstByDoor_41 rfl (lv_at hl 2 rfl) ?_
    refine zz_iald X G ia_10 (ft_2_11 t_r0) dX2_firstByDoor_42 h (fun x11 h => ?_)
    refine lv_aload_n hx hb dX2_firstByDoor_43 rfl (lv_at hl 0 rfl) ?_
    refine zz_getr X G fr_2_11 t_r0 (rs_2_11 t_r0) kw_200 dX2_firstByDoor_44 ?_
    refine lv_iload_n hx hb dX2_firstByDoor_47 rfl (lv_at hl 1 rfl) ?_
    refine zz_iald X G ia_10 (ft_2_11 t_r0) dX2_firstByDoor_48 h (fun x12 h => ?_)
    refine lv_icmp_ge (tgt := 54) hx hb dX2_firstByDoor_49 (by decide) (fun c13 => ?_) (fun c13 => ?_)
    · have h := (zz_br h).1 c13
      obtain ⟨x14, ex14, h⟩ := zz_let h
      refine lv_iinc (v := x14) (lv' := [(2, .int x14), (0, .ref (ad r0)), (1, .int v1)]) hx hb dX2_firstByDoor_54 hl (k := 2) rfl (by rw [← ex14]; rfl) (by decide) rfl (fun ls hl => ?_)
      refine lv_goto (tgt := 4) hx hb dX2_firstByDoor_57 (by decide) ?_
      exact ih v1 x14 μ _ _ _ (lv_sub hl [1, 2, 0] rfl) G h
    have h := (zz_br h).2 c13
    refine lv_iload_n hx hb dX2_firstByDoor_52 rfl (lv_at hl 2 rfl) ?_
    refine lv_istore_n (lv' := [(1, .int v2), (0, .ref (ad r0)), (2, .int v2)]) hx hb dX2_firstByDoor_53 rfl hl (by decide) rfl (fun ls hl => ?_)
    obtain ⟨x15, ex15, h⟩ := zz_let h
    refine lv_iinc (v := x15) (lv' := [(2, .int x15), (1, .int v2), (0, .ref (ad r0))]) hx hb dX2_firstByDoor_54 hl (k := 2) rfl (by rw [← ex15]; rfl) (by decide) rfl (fun ls hl => ?_)
    refine lv_goto (tgt := 4) hx hb dX2_firstByDoor_57 (by decide) ?_
    exact ih v2 x15 μ _ _ _ (lv_sub hl [2, 1, 0] rfl) G h
set_option maxHeartbeats 4000000 in
set_option maxRecDepth 100000 in
theorem c_X2_firstByDoor (l : Launch) (D : va_G) (ad : Nat → Nat) (cA : Nat → ClassId) {r0 : Nat} (t_r0 : zty r0 = 2) {μ : zM} {r : Int32} {μ' : zM} (h : f_X2_firstByDoor r0 μ = some (r, μ')) : zMet true D ad cA l yX2_firstByDoor cX2_firstByDoor 3 (some .int) ({ frames := 0, cells := 0, slots := 0, locals := 0 } : Room) [.ref (ad r0)] μ (zQi true D ad cA r μ') := by
  refine zMet_of "ButlerWeather$House" ⟨by decide, rfl⟩ (Nat.le_of_ble_eq_true rfl) ?_
  intro p e s m args below meth c X G hr hlk ls hl
  have hl : lv_has ls 3 [(0, .ref (ad r0))] := hl
  obtain ⟨hx, hb, hml, hown, hts, -, -, -⟩ := id X
  obtain ⟨Q, hQ⟩ : ∃ Q, Q = MQ below (zQi true D ad cA r μ') args s 0 0 (zA true ad) := ⟨_, rfl⟩
  rw [← hQ]
  unfold f_X2_firstByDoor at h
  refine lv_iconst (v := (-1 : Int32)) hx hb dX2_firstByDoor_0 (by decide) ?_
  refine lv_istore_n (lv' := [(1, .int (-1 : Int32)), (0, .ref (ad r0))]) hx hb dX2_firstByDoor_1 rfl hl (by decide) rfl (fun ls hl => ?_)
  refine lv_iconst (v := (0 : Int32)) hx hb dX2_firstByDoor_2 (by decide) ?_
  refine lv_istore_n (lv' := [(2, .int (0 : Int32)), (1, .int (-1 : Int32)), (0, .ref (ad r0))]) hx hb dX2_firstByDoor_3 rfl hl (by decide) rfl (fun ls hl => ?_)
  refine w_X2_firstByDoor_L4 X hQ hr hlk t_r0 (fun x16 μ H locs ls hl G h => ?_) 400 (-1 : Int32) (0 : Int32) μ _ _ _ (lv_sub hl [2, 1, 0] rfl) G h
  refine lv_iload_n hx hb dX2_firstByDoor_60 rfl (lv_at hl 0 rfl) ?_
  rw [hQ]
  exact zz_iret X G hr hlk dX2_firstByDoor_61 h
set_option maxHeartbeats 4000000 in
set_option maxRecDepth 100000 in
theorem c_J6_bitCount_0f7a4 (l : Launch) (D : va_G) (ad : Nat → Nat) (cA : Nat → ClassId) {a0 : Int32} {μ : zM} {r : Int32} {μ' : zM} (h : f_J6_bitCount_0f7a4 a0 μ = some (r, μ')) : zMet true D ad cA l yJ6_bitCount_0f7a4 cJ6_bitCount_0f7a4 1 (some .int) ({ frames := 0, cells := 0, slots := 0, locals := 0 } : Room) [.int a0] μ (zQi true D ad cA r μ') := by
  refine zMet_of "java/lang/Integer" ⟨by decide, rfl⟩ (Nat.le_of_ble_eq_true rfl) ?_
  intro p e s m args below meth c X G hr hlk ls hl
  have hl : lv_has ls 1 [(0, .int a0)] := hl
  obtain ⟨hx, hb, hml, hown, hts, -, -, -⟩ := id X
  obtain ⟨Q, hQ⟩ : ∃ Q, Q = MQ below (zQi true D ad cA r μ') args s 0 0 (zA true ad) := ⟨_, rfl⟩
  rw [← hQ]
  unfold f_J6_bitCount_0f7a4 at h
  refine lv_iload_n hx hb dJ6_bitCount_0f7a4_0 rfl (lv_at hl 0 rfl) ?_
  refine lv_iload_n hx hb dJ6_bitCount_0f7a4_1 rfl (lv_at hl 0 rfl) ?_
  refine lv_iconst (v := (1 : Int32)) hx hb dJ6_bitCount_0f7a4_2 (by decide) ?_
  refine lv_iushr hx hb dJ6_bitCount_0f7a4_3 rfl ?_
  refine lv_ldcw hx hb hown (hts _ kw_562) dJ6_bitCount_0f7a4_4 ?_
  refine lv_iand hx hb dJ6_bitCount_0f7a4_7 ?_
  refine lv_isub hx hb dJ6_bitCount_0f7a4_8 ?_
  refine zz_vi h (fun x1 h => ?_)
  refine lv_istore_n (lv' := [(0, .int x1)]) hx hb dJ6_bitCount_0f7a4_9 rfl hl (by decide) rfl (fun ls hl => ?_)
  refine lv_iload_n hx hb dJ6_bitCount_0f7a4_10 rfl (lv_at hl 0 rfl) ?_
  refine lv_ldcw hx hb hown (hts _ kw_563) dJ6_bitCount_0f7a4_11 ?_
  refine lv_iand hx hb dJ6_bitCount_0f7a4_14 ?_
  refine lv_iload_n hx hb dJ6_bitCount_0f7a4_15 rfl (lv_at hl 0 rfl) ?_
  refine lv_iconst (v := (2 : Int32)) hx hb dJ6_bitCount_0f7a4_16 (by decide) ?_
  refine lv_iushr hx hb dJ6_bitCount_0f7a4_17 rfl ?_
  refine lv_ldcw hx hb hown (hts _ kw_563) dJ6_bitCount_0f7a4_18 ?_
  refine lv_iand hx hb dJ6_bitCount_0f7a4_21 ?_
  refine lv_iadd hx hb dJ6_bitCount_0f7a4_22 ?_
  refine zz_vi h (fun x2 h => ?_)
  refine lv_istore_n (lv' := [(0, .int x2)]) hx hb dJ6_bitCount_0f7a4_23 rfl hl (by decide) rfl (fun ls hl => ?_)
  refine lv_iload_n hx hb dJ6_bitCount_0f7a4_24 rfl (lv_at hl 0 rfl) ?_
  refine lv_iload_n hx hb dJ6_bitCount_0f7a4_25 rfl (lv_at hl 0 rfl) ?_
  refine lv_iconst (v := (4 : Int32)) hx hb dJ6_bitCount_0f7a4_26 (by decide) ?_
  refine lv_iushr hx hb dJ6_bitCount_0f7a4_27 rfl ?_
  refine lv_iadd hx hb dJ6_bitCount_0f7a4_28 ?_
  refine lv_ldcw hx hb hown (hts _ kw_564) dJ6_bitCount_0f7a4_29 ?_
  refine lv_iand hx hb dJ6_bitCount_0f7a4_32 ?_
  refine zz_vi h (fun x3 h => ?_)
  refine lv_istore_n (lv' := [(0, .int x3)]) hx hb dJ6_bitCount_0f7a4_33 rfl hl (by decide) rfl (fun ls hl => ?_)
  refine lv_iload_n hx hb dJ6_bitCount_0f7a4_34 rfl (lv_at hl 0 rfl) ?_
  refine lv_iload_n hx hb dJ6_bitCount_0f7a4_35 rfl (lv_at hl 0 rfl) ?_
  refine lv_bipush (v := (8 : Int32)) hx hb dJ6_bitCount_0f7a4_36 (by decide) ?_
  refine lv_iushr hx hb dJ6_bitCount_0f7a4_38 rfl ?_
  refine lv_iadd hx hb dJ6_bitCount_0f7a4_39 ?_
  refine zz_vi h (fun x4 h => ?_)
  refine lv_istore_n (lv' := [(0, .int x4)]) hx hb dJ6_bitCount_0f7a4_40 rfl hl (by decide) rfl (fun ls hl => ?_)
  refine lv_iload_n hx hb dJ6_bitCount_0f7a4_41 rfl (lv_at hl 0 rfl) ?_
  refine lv_iload_n hx hb dJ6_bitCount_0f7a4_42 rfl (lv_at hl 0 rfl) ?_
  refine lv_bipush (v := (16 : Int32)) hx hb dJ6_bitCount_0f7a4_43 (by decide) ?_
  refine lv_iushr hx hb dJ6_bitCount_0f7a4_45 rfl ?_
  refine lv_iadd hx hb dJ6_bitCount_0f7a4_46 ?_
  refine zz_vi h (fun x5 h => ?_)
  refine lv_istore_n (lv' := [(0, .int x5)]) hx hb dJ6_bitCount_0f7a4_47 rfl hl (by decide) rfl (fun ls hl => ?_)
  refine lv_iload_n hx hb dJ6_bitCount_0f7a4_48 rfl (lv_at hl 0 rfl) ?_
  refine lv_bipush (v := (63 : Int32)) hx hb dJ6_bitCount_0f7a4_49 (by decide) ?_
  refine lv_iand hx hb dJ6_bitCount_0f7a4_51 ?_
  rw [hQ]
  exact zz_iret X G hr hlk dJ6_bitCount_0f7a4_52 h
set_option maxHeartbeats 4000000 in
set_option maxRecDepth 100000 in
theorem w_X3_countWays_L11 {p : Program} {l : Launch} {e : Env} {s : State} {m : MethodId} {args : Array Value} {below : List Frame} {meth : Method} {c : Code} {Q : State → Prop} {D : va_G} {ad : Nat → Nat} {cA : Nat → ClassId} {r : Unit} {μ' : zM} (X : zX true D ad cA p s m args c cX3_countWays "ButlerWeather$Odds" 6) (hQ : Q = MQ below (zQv true D ad cA r μ') args s 0 0 (zA true ad)) (hr : meth.sig.returnType = none) (hlk : meth.locks = false) {r1 : Nat} (t_r1 : zty r1 = 2) {v3 : Int32} {kx : zM → Option (Unit × zM)} (HX : ∀ (μ : zM) (H : Heap) (locs : List Loc) (ls : Array Slot), lv_has ls 6 [(0, .ref (ad 47)), (1, .ref (ad r1)), (2, .ref (ad 6)), (3, .int v3)] → zG true D ad cA s μ H locs → kx  μ = some (r, μ') → W p l e ({ frames := 3, cells := 0, slots := 0, locals := 72 } : Room) s m args below meth c H locs 0 0 Q (F0 m 34 ls [])) : ∀ (n : Nat) (v4 : Int32) (μ : zM) (H : Heap) (locs : List Loc) (ls : Array Slot), lv_has ls 6 [(0, .ref (ad 47)), (1, .ref (ad r1)), (2, .ref (ad 6)), (3, .int v3), (4, .int v4)] → zG true D ad cA s μ H locs → f_X3_countWays_L11 r1 v3 kx n v4 μ = some (r, μ') → W p l e ({ frames := 3, cells := 0, slots := 0, locals := 72 } : Room) s m args below meth c H locs 0 0 Q (F0 m 11 ls []) := by
  obtain ⟨hx, hb, hml, hown, hts, -, -, -⟩ := id X
  intro n
  induction n with
  | zero =>
    intro v4 μ H locs ls hl G h
    cases (show (none : Option (Unit × zM)) = some (r, μ') from h)
  | succ n ih =>
    intro v4 μ H locs ls hl G h
    rw [f_X3_countWays_L11] at h
    refine lv_iload hx hb dX3_countWays_11 (lv_at hl 4 rfl) ?_
    refine lv_bipush (v := (8 : Int32)) hx hb dX3_countWays_13 (by decide) ?_
    refine lv_icmp_gt (tgt := 34) hx hb dX3_countWays_15 (by decide) (fun c2 => ?_) (fun c2 => ?_)
    · have h := (zz_br h).1 c2
      exact HX  μ _ _ _ (lv_sub hl [0, 1, 2, 3] rfl) G h
    have h := (zz_br h).2 c2
    refine lv_aload_n hx hb dX3_countWays_18 rfl (lv_at hl 0 rfl) ?_
    refine zz_getr X G fr_3_0 tl_47 rl_47_0 kw_243 dX3_countWays_19 ?_
    refine lv_iload_n hx hb dX3_countWays_22 rfl (lv_at hl 3 rfl) ?_
    refine zz_aald X G ra_12 tl_48 dX3_countWays_23 h (fun q3 hq3 h => ?_)
    refine lv_iload hx hb dX3_countWays_24 (lv_at hl 4 rfl) ?_
    refine lv_iconst (v := (0 : Int32)) hx hb dX3_countWays_26 (by decide) ?_
    refine zz_iast X G ia_10 (rt_48 hq3) dX3_countWays_27 h (fun μ H locs G h => ?_)
    obtain ⟨x4, ex4, h⟩ := zz_let h
    refine lv_iinc (v := x4) (lv' := [(4, .int x4), (0, .ref (ad 47)), (1, .ref (ad r1)), (2, .ref (ad 6)), (3, .int v3)]) hx hb dX3_countWays_28 hl (k := 4) rfl (by rw [← ex4]; rfl) (by decide) rfl (fun ls hl => ?_)
    refine lv_goto (tgt := 11) hx hb dX3_countWays_31 (by decide) ?_
    exact ih x4 μ _ _ _ (lv_sub hl [1, 2, 3, 4, 0] rfl) G h
set_option maxHeartbeats 4000000 in
set_option maxRecDepth 100000 in
theorem w_X3_countWays_L2 {p : Program} {l : Launch} {e : Env} {s : State} {m : MethodId} {args : Array Value} {below : List Frame} {meth : Method} {c : Code} {Q : State → Prop} {D : va_G} {ad : Nat → Nat} {cA : Nat → ClassId} {r : Unit} {μ' : zM} (X : zX true D ad cA p s m args c cX3_countWays "ButlerWeather$Odds" 6) (hQ : Q = MQ below (zQv true D ad cA r μ') args s 0 0 (zA true ad)) (hr : meth.sig.returnType = none) (hlk : meth.locks = false) {r1 : Nat} (t_r1 : zty r1 = 2) {kx : zM → Option (Unit × zM)} (HX : ∀ (μ : zM) (H : Heap) (locs : List Loc) (ls : Array Slot), lv_has ls 6 [(0, .ref (ad 47)), (1, .ref (ad r1)), (2, .ref (ad 6))] → zG true D ad cA s μ H locs → kx  μ = some (r, μ') → W p l e ({ frames := 3, cells := 0, slots := 0, locals := 72 } : Room) s m args below meth c H locs 0 0 Q (F0 m 40 ls [])) : ∀ (n : Nat) (v3 : Int32) (μ : zM) (H : Heap) (locs : List Loc) (ls : Array Slot), lv_has ls 6 [(0, .ref (ad 47)), (1, .ref (ad r1)), (2, .ref (ad 6)), (3, .int v3)] → zG true D ad cA s μ H locs → f_X3_countWays_L2 r1 kx n v3 μ = some (r, μ') → W p l e ({ frames := 3, cells := 0, slots := 0, locals := 72 } : Room) s m args below meth c H locs 0 0 Q (F0 m 2 ls []) := by
  obtain ⟨hx, hb, hml, hown, hts, -, -, -⟩ := id X
  intro n
  induction n with
  | zero =>
    intro v3 μ H locs ls hl G h
    cases (show (none : Option (Unit × zM)) = some (r, μ') from h)
  | succ n ih =>
    intro v3 μ H locs ls hl G h
    rw [f_X3_countWays_L2] at h
    refine lv_iload_n hx hb dX3_countWays_2 rfl (lv_at hl 3 rfl) ?_
    refine lv_bipush (v := (8 : Int32)) hx hb dX3_countWays_3 (by decide) ?_
    refine lv_icmp_ge (tgt := 40) hx hb dX3_countWays_5 (by decide) (fun c1 => ?_) (fun c1 => ?_)
    · have h := (zz_br h).1 c1
      exact HX  μ _ _ _ (lv_sub hl [0, 1, 2] rfl) G h
    have h := (zz_br h).2 c1
    refine lv_iconst (v := (0 : Int32)) hx hb dX3_countWays_8 (by decide) ?_
    refine lv_istore (lv' := [(4, .int (0 : Int32)), (0, .ref (ad 47)), (1, .ref (ad r1)), (2, .ref (ad 6)), (3, .int v3)]) hx hb dX3_countWays_9 hl (by decide) rfl (fun ls hl => ?_)
    refine w_X3_countWays_L11 X hQ hr hlk t_r1 (fun  μ H locs ls hl G h => ?_) 400 (0 : Int32) μ _ _ _ (lv_sub hl [1, 2, 3, 4, 0] rfl) G h
    obtain ⟨x5, ex5, h⟩ := zz_let h
    refine lv_iinc (v := x5) (lv' := [(3, .int x5), (0, .ref (ad 47)), (1, .ref (ad r1)), (2, .ref (ad 6))]) hx hb dX3_countWays_34 hl (k := 3) rfl (by rw [← ex5]; rfl) (by decide) rfl (fun ls hl => ?_)
    refine lv_goto (tgt := 2) hx hb dX3_countWays_37 (by decide) ?_
    exact ih x5 μ _ _ _ (lv_sub hl [1, 2, 3, 0] rfl) G h
set_option maxHeartbeats 4000000 in
set_option maxRecDepth 100000 in
theorem w_X3_countWays_L76 {p : Program} {l : Launch} {e : Env} {s : State} {m : MethodId} {args : Array Value} {below : List Frame} {meth : Method} {c : Code} {Q : State → Prop} {D : va_G} {ad : Nat → Nat} {cA : Nat → ClassId} {r : Unit} {μ' : zM} (X : zX true D ad cA p s m args c cX3_countWays "ButlerWeather$Odds" 6) (hQ : Q = MQ below (zQv true D ad cA r μ') args s 0 0 (zA true ad)) (hr : meth.sig.returnType = none) (hlk : meth.locks = false) {r1 : Nat} (t_r1 : zty r1 = 2) {v3 : Int32} {v4 : Int32} {kx : zM → Option (Unit × zM)} (HX : ∀ (μ : zM) (H : Heap) (locs : List Loc) (ls : Array Slot), lv_has ls 6 [(0, .ref (ad 47)), (1, .ref (ad r1)), (2, .ref (ad 6)), (3, .int v3)] → zG true D ad cA s μ H locs → kx  μ = some (r, μ') → W p l e ({ frames := 3, cells := 0, slots := 0, locals := 72 } : Room) s m args below meth c H locs 0 0 Q (F0 m 127 ls [])) : ∀ (n : Nat) (v5 : Int32) (μ : zM) (H : Heap) (locs : List Loc) (ls : Array Slot), lv_has ls 6 [(0, .ref (ad 47)), (1, .ref (ad r1)), (2, .ref (ad 6)), (3, .int v3), (4, .int v4), (5, .int v5)] → zG true D ad cA s μ H locs → f_X3_countWays_L76 r1 v3 v4 kx n v5 μ = some (r, μ') → W p l e ({ frames := 3, cells := 0, slots := 0, locals := 72 } : Room) s m args below meth c H locs 0 0 Q (F0 m 76 ls []) := by
  obtain ⟨hx, hb, hml, hown, hts, -, -, -⟩ := id X
  intro n
  induction n with
  | zero =>
    intro v5 μ H locs ls hl G h
    cases (show (none : Option (Unit × zM)) = some (r, μ') from h)
  | succ n ih =>
    intro v5 μ H locs ls hl G h
    rw [f_X3_countWays_L76] at h
    refine lv_iload hx hb dX3_countWays_76 (lv_at hl 5 rfl) ?_
    refine lv_aload_n hx hb dX3_countWays_78 rfl (lv_at hl 1 rfl) ?_
    refine zz_geti X G fi_2_0 t_r1 kw_179 dX3_countWays_79 h (fun x11 h => ?_)
    refine lv_icmp_ge (tgt := 127) hx hb dX3_countWays_82 (by decide) (fun c12 => ?_) (fun c12 => ?_)
    · have h := (zz_br h).1 c12
      exact HX  μ _ _ _ (lv_sub hl [0, 1, 2, 3] rfl) G h
    have h := (zz_br h).2 c12
    refine lv_aload_n hx hb dX3_countWays_85 rfl (lv_at hl 1 rfl) ?_
    refine zz_getr X G fr_2_11 t_r1 (rs_2_11 t_r1) kw_201 dX3_countWays_86 ?_
    refine lv_iload hx hb dX3_countWays_89 (lv_at hl 5 rfl) ?_
    refine zz_iald X G ia_10 (ft_2_11 t_r1) dX3_countWays_91 h (fun x13 h => ?_)
    refine lv_iconst (v := (-1 : Int32)) hx hb dX3_countWays_92 (by decide) ?_
    refine lv_icmp_eq (tgt := 121) hx hb dX3_countWays_93 (by decide) (fun c14 => ?_) (fun c14 => ?_)
    · have h := (zz_br h).1 c14
      obtain ⟨x15, ex15, h⟩ := zz_let h
      refine lv_iinc (v := x15) (lv' := [(5, .int x15), (0, .ref (ad 47)), (1, .ref (ad r1)), (2, .ref (ad 6)), (3, .int v3), (4, .int v4)]) hx hb dX3_countWays_121 hl (k := 5) rfl (by rw [← ex15]; rfl) (by decide) rfl (fun ls hl => ?_)
      refine lv_goto (tgt := 76) hx hb dX3_countWays_124 (by decide) ?_
      exact ih x15 μ _ _ _ (lv_sub hl [1, 2, 3, 4, 5, 0] rfl) G h
    have h := (zz_br h).2 c14
    refine lv_iload hx hb dX3_countWays_96 (lv_at hl 4 rfl) ?_
    refine lv_iconst (v := (0 : Int32)) hx hb dX3_countWays_98 (by decide) ?_
    refine lv_bipush (v := (8 : Int32)) hx hb dX3_countWays_99 (by decide) ?_
    refine zz_ci (rest := []) G h (fun r μ1 hf => zz_runSN X G cs_X6_within nw_X3_47 (c_X6_within l D ad cA  hf) ⟨rfl, rfl, Nat.le_of_ble_eq_true rfl, Nat.le_of_ble_eq_true rfl⟩ rfl rfl hl.1 (Nat.le_of_ble_eq_true rfl) dX3_countWays_101) (fun x16 μ H locs G h => ?_)
    refine lv_if_eq (tgt := 121) hx hb dX3_countWays_104 (by decide) (fun c17 => ?_) (fun c17 => ?_)
    · have h := (zz_br h).1 c17
      obtain ⟨x18, ex18, h⟩ := zz_let h
      refine lv_iinc (v := x18) (lv' := [(5, .int x18), (0, .ref (ad 47)), (1, .ref (ad r1)), (2, .ref (ad 6)), (3, .int v3), (4, .int v4)]) hx hb dX3_countWays_121 hl (k := 5) rfl (by rw [← ex18]; rfl) (by decide) rfl (fun ls hl => ?_)
      refine lv_goto (tgt := 76) hx hb dX3_countWays_124 (by decide) ?_
      exact ih x18 μ _ _ _ (lv_sub hl [1, 2, 3, 4, 5, 0] rfl) G h
    have h := (zz_br h).2 c17
    refine lv_aload_n hx hb dX3_countWays_107 rfl (lv_at hl 0 rfl) ?_
    refine zz_getr X G fr_3_0 tl_47 rl_47_0 kw_243 dX3_countWays_108 ?_
    refine lv_iload hx hb dX3_countWays_111 (lv_at hl 5 rfl) ?_
    refine zz_aald X G ra_12 tl_48 dX3_countWays_113 h (fun q19 hq19 h => ?_)
    refine lv_iload hx hb dX3_countWays_114 (lv_at hl 4 rfl) ?_
    refine lv_dup2_11 hx hb dX3_countWays_116 rfl rfl ?_
    refine zz_iald X G ia_10 (rt_48 hq19) dX3_countWays_117 h (fun x20 h => ?_)
    refine lv_iconst (v := (1 : Int32)) hx hb dX3_countWays_118 (by decide) ?_
    refine lv_iadd hx hb dX3_countWays_119 ?_
    refine zz_iast X G ia_10 (rt_48 hq19) dX3_countWays_120 h (fun μ H locs G h => ?_)
    obtain ⟨x21, ex21, h⟩ := zz_let h
    refine lv_iinc (v := x21) (lv' := [(5, .int x21), (0, .ref (ad 47)), (1, .ref (ad r1)), (2, .ref (ad 6)), (3, .int v3), (4, .int v4)]) hx hb dX3_countWays_121 hl (k := 5) rfl (by rw [← ex21]; rfl) (by decide) rfl (fun ls hl => ?_)
    refine lv_goto (tgt := 76) hx hb dX3_countWays_124 (by decide) ?_
    exact ih x21 μ _ _ _ (lv_sub hl [1, 2, 3, 4, 5, 0] rfl) G h
set_option maxHeartbeats 4000000 in
set_option maxRecDepth 100000 in
theorem w_X3_countWays_L42 {p : Program} {l : Launch} {e : Env} {s : State} {m : MethodId} {args : Array Value} {below : List Frame} {meth : Method} {c : Code} {Q : State → Prop} {D : va_G} {ad : Nat → Nat} {cA : Nat → ClassId} {r : Unit} {μ' : zM} (X : zX true D ad cA p s m args c cX3_countWays "ButlerWeather$Odds" 6) (hQ : Q = MQ below (zQv true D ad cA r μ') args s 0 0 (zA true ad)) (hr : meth.sig.returnType = none) (hlk : meth.locks = false) {r1 : Nat} (t_r1 : zty r1 = 2) {kx : zM → Option (Unit × zM)} (HX : ∀ (μ : zM) (H : Heap) (locs : List Loc) (ls : Array Slot), lv_has ls 6 [(0, .ref (ad 47))] → zG true D ad cA s μ H locs → kx  μ = some (r, μ') → W p l e ({ frames := 3, cells := 0, slots := 0, locals := 72 } : Room) s m args below meth c H locs 0 0 Q (F0 m 133 ls [])) : ∀ (n : Nat) (v3 : Int32) (μ : zM) (H : Heap) (locs : List Loc) (ls : Array Slot), lv_has ls 6 [(0, .ref (ad 47)), (1, .ref (ad r1)), (2, .ref (ad 6)), (3, .int v3)] → zG true D ad cA s μ H locs → f_X3_countWays_L42 r1 kx n v3 μ = some (r, μ') → W p l e ({ frames := 3, cells := 0, slots := 0, locals := 72 } : Room) s m args below meth c H locs 0 0 Q (F0 m 42 ls []) := by
  obtain ⟨hx, hb, hml, hown, hts, -, -, -⟩ := id X
  intro n
  induction n with
  | zero =>
    intro v3 μ H locs ls hl G h
    cases (show (none : Option (Unit × zM)) = some (r, μ') from h)
  | succ n ih =>
    intro v3 μ H locs ls hl G h
    rw [f_X3_countWays_L42] at h
    refine lv_iload_n hx hb dX3_countWays_42 rfl (lv_at hl 3 rfl) ?_
    refine lv_iconst (v := (1 : Int32)) hx hb dX3_countWays_43 (by decide) ?_
    refine lv_aload_n hx hb dX3_countWays_44 rfl (lv_at hl 2 rfl) ?_
    refine zz_geti X G fi_0_2 tl_6 kw_126 dX3_countWays_45 h (fun x6 h => ?_)
    refine lv_ishl hx hb dX3_countWays_48 ?_
    refine lv_icmp_ge (tgt := 133) hx hb dX3_countWays_49 (by decide) (fun c7 => ?_) (fun c7 => ?_)
    · have h := (zz_br h).1 c7
      exact HX  μ _ _ _ (lv_sub hl [0] rfl) G h
    have h := (zz_br h).2 c7
    refine lv_aload_n hx hb dX3_countWays_52 rfl (lv_at hl 2 rfl) ?_
    refine lv_iload_n hx hb dX3_countWays_53 rfl (lv_at hl 3 rfl) ?_
    refine lv_aload_n hx hb dX3_countWays_54 rfl (lv_at hl 1 rfl) ?_
    refine zz_cv (rest := []) G h (fun r μ1 hf => zz_runV X G rc_0 tl_6 cv_X0_inviteAllBut kw_652 (c_X0_inviteAllBut l D ad cA t_r1 hf) ⟨rfl, rfl, Nat.le_of_ble_eq_true rfl, Nat.le_of_ble_eq_true rfl⟩ rfl rfl hl.1 (Nat.le_of_ble_eq_true rfl) dX3_countWays_55) (fun _ μ H locs G h => ?_)
    refine lv_aload_n hx hb dX3_countWays_58 rfl (lv_at hl 1 rfl) ?_
    refine zz_cv (rest := []) G h (fun r μ1 hf => zz_runV X G rc_2 t_r1 cv_X2_live kw_633 (c_X2_live l D ad cA t_r1 hf) ⟨rfl, rfl, Nat.le_of_ble_eq_true rfl, Nat.le_of_ble_eq_true rfl⟩ rfl rfl hl.1 (Nat.le_of_ble_eq_true rfl) dX3_countWays_59) (fun _ μ H locs G h => ?_)
    refine lv_aload_n hx hb dX3_countWays_62 rfl (lv_at hl 2 rfl) ?_
    refine zz_geti X G fi_0_2 tl_6 kw_126 dX3_countWays_63 h (fun x8 h => ?_)
    refine lv_iload_n hx hb dX3_countWays_66 rfl (lv_at hl 3 rfl) ?_
    refine zz_ci (rest := [.int x8]) G h (fun r μ1 hf => zz_runS X G cs_J6_bitCount_0f7a4 kw_653 (c_J6_bitCount_0f7a4 l D ad cA  hf) ⟨rfl, rfl, Nat.le_of_ble_eq_true rfl, Nat.le_of_ble_eq_true rfl⟩ rfl rfl hl.1 (Nat.le_of_ble_eq_true rfl) dX3_countWays_67) (fun x9 μ H locs G h => ?_)
    refine lv_isub hx hb dX3_countWays_70 ?_
    refine zz_vi h (fun x10 h => ?_)
    refine lv_istore (lv' := [(4, .int x10), (0, .ref (ad 47)), (1, .ref (ad r1)), (2, .ref (ad 6)), (3, .int v3)]) hx hb dX3_countWays_71 hl (by decide) rfl (fun ls hl => ?_)
    refine lv_iconst (v := (0 : Int32)) hx hb dX3_countWays_73 (by decide) ?_
    refine lv_istore (lv' := [(5, .int (0 : Int32)), (4, .int x10), (0, .ref (ad 47)), (1, .ref (ad r1)), (2, .ref (ad 6)), (3, .int v3)]) hx hb dX3_countWays_74 hl (by decide) rfl (fun ls hl => ?_)
    refine w_X3_countWays_L76 X hQ hr hlk t_r1 (fun  μ H locs ls hl G h => ?_) 400 (0 : Int32) μ _ _ _ (lv_sub hl [2, 3, 4, 5, 1, 0] rfl) G h
    obtain ⟨x22, ex22, h⟩ := zz_let h
    refine lv_iinc (v := x22) (lv' := [(3, .int x22), (0, .ref (ad 47)), (1, .ref (ad r1)), (2, .ref (ad 6))]) hx hb dX3_countWays_127 hl (k := 3) rfl (by rw [← ex22]; rfl) (by decide) rfl (fun ls hl => ?_)
    refine lv_goto (tgt := 42) hx hb dX3_countWays_130 (by decide) ?_
    exact ih x22 μ _ _ _ (lv_sub hl [1, 2, 3, 0] rfl) G h
set_option maxHeartbeats 4000000 in
set_option maxRecDepth 100000 in
theorem c_X3_countWays (l : Launch) (D : va_G) (ad : Nat → Nat) (cA : Nat → ClassId) {r1 : Nat} (t_r1 : zty r1 = 2) {μ : zM} {r : Unit} {μ' : zM} (h : f_X3_countWays r1 μ = some (r, μ')) : zMet true D ad cA l yX3_countWays cX3_countWays 6 none ({ frames := 3, cells := 0, slots := 0, locals := 72 } : Room) [.ref (ad 47), .ref (ad r1), .ref (ad 6)] μ (zQv true D ad cA r μ') := by
  refine zMet_of "ButlerWeather$Odds" ⟨by decide, rfl⟩ (Nat.le_of_ble_eq_true rfl) ?_
  intro p e s m args below meth c X G hr hlk ls hl
  have hl : lv_has ls 6 [(0, .ref (ad 47)), (1, .ref (ad r1)), (2, .ref (ad 6))] := hl
  obtain ⟨hx, hb, hml, hown, hts, -, -, -⟩ := id X
  obtain ⟨Q, hQ⟩ : ∃ Q, Q = MQ below (zQv true D ad cA r μ') args s 0 0 (zA true ad) := ⟨_, rfl⟩
  rw [← hQ]
  unfold f_X3_countWays at h
  refine lv_iconst (v := (0 : Int32)) hx hb dX3_countWays_0 (by decide) ?_
  refine lv_istore_n (lv' := [(3, .int (0 : Int32)), (0, .ref (ad 47)), (1, .ref (ad r1)), (2, .ref (ad 6))]) hx hb dX3_countWays_1 rfl hl (by decide) rfl (fun ls hl => ?_)
  refine w_X3_countWays_L2 X hQ hr hlk t_r1 (fun  μ H locs ls hl G h => ?_) 400 (0 : Int32) μ _ _ _ (lv_sub hl [1, 2, 3, 0] rfl) G h
  refine lv_iconst (v := (0 : Int32)) hx hb dX3_countWays_40 (by decide) ?_
  refine lv_istore_n (lv' := [(3, .int (0 : Int32)), (0, .ref (ad 47)), (1, .ref (ad r1)), (2, .ref (ad 6))]) hx hb dX3_countWays_41 rfl hl (by decide) rfl (fun ls hl => ?_)
  refine w_X3_countWays_L42 X hQ hr hlk t_r1 (fun  μ H locs ls hl G h => ?_) 400 (0 : Int32) μ _ _ _ (lv_sub hl [1, 2, 3, 0] rfl) G h
  refine lv_aload_n hx hb dX3_countWays_133 rfl (lv_at hl 0 rfl) ?_
  refine lv_iconst (v := (1 : Int32)) hx hb dX3_countWays_134 (by decide) ?_
  refine zz_puti X G fp_3_1 tl_47 kw_244 rfl rfl dX3_countWays_135 h (fun μ H locs G h => ?_)
  rw [hQ]
  exact zz_vret X G hr hlk dX3_countWays_138 h
set_option maxHeartbeats 4000000 in
set_option maxRecDepth 100000 in
theorem w_X3_power_L5 {p : Program} {l : Launch} {e : Env} {s : State} {m : MethodId} {args : Array Value} {below : List Frame} {meth : Method} {c : Code} {Q : State → Prop} {D : va_G} {ad : Nat → Nat} {cA : Nat → ClassId} {r : Int64} {μ' : zM} (X : zX true D ad cA p s m args c cX3_power "ButlerWeather$Odds" 5) (hQ : Q = MQ below (zQl true D ad cA r μ') args s 0 0 (zA true ad)) (hr : meth.sig.returnType = (some .long)) (hlk : meth.locks = false) {v0 : Int32} {v1 : Int32} {kx : Int64 → zM → Option (Int64 × zM)} (HX : ∀ (w2 : Int64) (μ : zM) (H : Heap) (locs : List Loc) (ls : Array Slot), lv_has ls 5 [(2, .long w2)] → zG true D ad cA s μ H locs → kx w2 μ = some (r, μ') → W p l e ({ frames := 0, cells := 0, slots := 0, locals := 0 } : Room) s m args below meth c H locs 0 0 Q (F0 m 22 ls [])) : ∀ (n : Nat) (v2 : Int64) (v4 : Int32) (μ : zM) (H : Heap) (locs : List Loc) (ls : Array Slot), lv_has ls 5 [(0, .int v0), (1, .int v1), (2, .long v2), (4, .int v4)] → zG true D ad cA s μ H locs → f_X3_power_L5 v0 v1 kx n v2 v4 μ = some (r, μ') → W p l e ({ frames := 0, cells := 0, slots := 0, locals := 0 } : Room) s m args below meth c H locs 0 0 Q (F0 m 5 ls []) := by
  obtain ⟨hx, hb, hml, hown, hts, -, -, -⟩ := id X
  intro n
  induction n with
  | zero =>
    intro v2 v4 μ H locs ls hl G h
    cases (show (none : Option (Int64 × zM)) = some (r, μ') from h)
  | succ n ih =>
    intro v2 v4 μ H locs ls hl G h
    rw [f_X3_power_L5] at h
    refine lv_iload hx hb dX3_power_5 (lv_at hl 3 rfl) ?_
    refine lv_iload_n hx hb dX3_power_7 rfl (lv_at hl 1 rfl) ?_
    refine lv_icmp_ge (tgt := 22) hx hb dX3_power_8 (by decide) (fun c1 => ?_) (fun c1 => ?_)
    · have h := (zz_br h).1 c1
      exact HX v2 μ _ _ _ (lv_sub hl [2] rfl) G h
    have h := (zz_br h).2 c1
    refine lv_lload_n hx hb dX3_power_11 rfl (lv_at hl 2 rfl) ?_
    refine lv_iload_n hx hb dX3_power_12 rfl (lv_at hl 0 rfl) ?_
    refine lv_i2l hx hb dX3_power_13 rfl ?_
    refine lv_lmul hx hb dX3_power_14 ?_
    refine zz_vj h (fun x2 h => ?_)
    refine lv_lstore_n (lv' := [(2, .long x2), (0, .int v0), (1, .int v1), (4, .int v4)]) hx hb dX3_power_15 rfl hl (by decide) rfl (fun ls hl => ?_)
    obtain ⟨x3, ex3, h⟩ := zz_let h
    refine lv_iinc (v := x3) (lv' := [(4, .int x3), (2, .long x2), (0, .int v0), (1, .int v1)]) hx hb dX3_power_16 hl (k := 3) rfl (by rw [← ex3]; rfl) (by decide) rfl (fun ls hl => ?_)
    refine lv_goto (tgt := 5) hx hb dX3_power_19 (by decide) ?_
    exact ih x2 x3 μ _ _ _ (lv_sub hl [2, 3, 1, 0] rfl) G h
set_option maxHeartbeats 4000000 in
set_option maxRecDepth 100000 in
theorem c_X3_power (l : Launch) (D : va_G) (ad : Nat → Nat) (cA : Nat → ClassId) {a0 : Int32} {a1 : Int32} {μ : zM} {r : Int64} {μ' : zM} (h : f_X3_power a0 a1 μ = some (r, μ')) : zMet true D ad cA l yX3_power cX3_power 5 (some .long) ({ frames := 0, cells := 0, slots := 0, locals := 0 } : Room) [.int a0, .int a1] μ (zQl true D ad cA r μ') := by
  refine zMet_of "ButlerWeather$Odds" ⟨by decide, rfl⟩ (Nat.le_of_ble_eq_true rfl) ?_
  intro p e s m args below meth c X G hr hlk ls hl
  have hl : lv_has ls 5 [(0, .int a0), (1, .int a1)] := hl
  obtain ⟨hx, hb, hml, hown, hts, -, -, -⟩ := id X
  obtain ⟨Q, hQ⟩ : ∃ Q, Q = MQ below (zQl true D ad cA r μ') args s 0 0 (zA true ad) := ⟨_, rfl⟩
  rw [← hQ]
  unfold f_X3_power at h
  refine lv_lconst (v := (1 : Int64)) hx hb dX3_power_0 (by decide) ?_
  refine lv_lstore_n (lv' := [(2, .long (1 : Int64)), (0, .int a0), (1, .int a1)]) hx hb dX3_power_1 rfl hl (by decide) rfl (fun ls hl => ?_)
  refine lv_iconst (v := (0 : Int32)) hx hb dX3_power_2 (by decide) ?_
  refine lv_istore (lv' := [(4, .int (0 : Int32)), (2, .long (1 : Int64)), (0, .int a0), (1, .int a1)]) hx hb dX3_power_3 hl (by decide) rfl (fun ls hl => ?_)
  refine w_X3_power_L5 X hQ hr hlk  (fun x4 μ H locs ls hl G h => ?_) 400 (1 : Int64) (0 : Int32) μ _ _ _ (lv_sub hl [2, 3, 1, 0] rfl) G h
  refine lv_lload_n hx hb dX3_power_22 rfl (lv_at hl 0 rfl) ?_
  rw [hQ]
  exact zz_lret X G hr hlk dX3_power_23 h
set_option maxHeartbeats 4000000 in
set_option maxRecDepth 100000 in
theorem w_X3_above_L6 {p : Program} {l : Launch} {e : Env} {s : State} {m : MethodId} {args : Array Value} {below : List Frame} {meth : Method} {c : Code} {Q : State → Prop} {D : va_G} {ad : Nat → Nat} {cA : Nat → ClassId} {r : Int64} {μ' : zM} (X : zX true D ad cA p s m args c cX3_above "ButlerWeather$Odds" 7) (hQ : Q = MQ below (zQl true D ad cA r μ') args s 0 0 (zA true ad)) (hr : meth.sig.returnType = (some .long)) (hlk : meth.locks = false) {v1 : Int32} {v2 : Int32} {v3 : Int32} {kx : Int64 → zM → Option (Int64 × zM)} (HX : ∀ (w4 : Int64) (μ : zM) (H : Heap) (locs : List Loc) (ls : Array Slot), lv_has ls 7 [(4, .long w4)] → zG true D ad cA s μ H locs → kx w4 μ = some (r, μ') → W p l e ({ frames := 1, cells := 0, slots := 0, locals := 24 } : Room) s m args below meth c H locs 0 0 Q (F0 m 59 ls [])) : ∀ (n : Nat) (v4 : Int64) (v6 : Int32) (μ : zM) (H : Heap) (locs : List Loc) (ls : Array Slot), lv_has ls 7 [(0, .ref (ad 47)), (1, .int v1), (2, .int v2), (3, .int v3), (4, .long v4), (6, .int v6)] → zG true D ad cA s μ H locs → f_X3_above_L6 v1 v2 v3 kx n v4 v6 μ = some (r, μ') → W p l e ({ frames := 1, cells := 0, slots := 0, locals := 24 } : Room) s m args below meth c H locs 0 0 Q (F0 m 6 ls []) := by
  obtain ⟨hx, hb, hml, hown, hts, -, -, -⟩ := id X
  intro n
  induction n with
  | zero =>
    intro v4 v6 μ H locs ls hl G h
    cases (show (none : Option (Int64 × zM)) = some (r, μ') from h)
  | succ n ih =>
    intro v4 v6 μ H locs ls hl G h
    rw [f_X3_above_L6] at h
    refine lv_iload hx hb dX3_above_6 (lv_at hl 5 rfl) ?_
    refine lv_iload_n hx hb dX3_above_8 rfl (lv_at hl 3 rfl) ?_
    refine lv_icmp_gt (tgt := 59) hx hb dX3_above_9 (by decide) (fun c1 => ?_) (fun c1 => ?_)
    · have h := (zz_br h).1 c1
      exact HX v4 μ _ _ _ (lv_sub hl [4] rfl) G h
    have h := (zz_br h).2 c1
    refine lv_iload hx hb dX3_above_12 (lv_at hl 5 rfl) ?_
    refine lv_bipush (v := (8 : Int32)) hx hb dX3_above_14 (by decide) ?_
    refine lv_icmp_gt (tgt := 59) hx hb dX3_above_16 (by decide) (fun c2 => ?_) (fun c2 => ?_)
    · have h := (zz_br h).1 c2
      exact HX v4 μ _ _ _ (lv_sub hl [4] rfl) G h
    have h := (zz_br h).2 c2
    refine lv_lload hx hb dX3_above_19 (lv_at hl 4 rfl) ?_
    refine lv_aload_n hx hb dX3_above_21 rfl (lv_at hl 0 rfl) ?_
    refine zz_getr X G fr_3_0 tl_47 rl_47_0 kw_243 dX3_above_22 ?_
    refine lv_iload_n hx hb dX3_above_25 rfl (lv_at hl 2 rfl) ?_
    refine zz_aald X G ra_12 tl_48 dX3_above_26 h (fun q3 hq3 h => ?_)
    refine lv_iload hx hb dX3_above_27 (lv_at hl 5 rfl) ?_
    refine zz_iald X G ia_10 (rt_48 hq3) dX3_above_29 h (fun x4 h => ?_)
    refine lv_i2l hx hb dX3_above_30 rfl ?_
    refine lv_iload_n hx hb dX3_above_31 rfl (lv_at hl 1 rfl) ?_
    refine lv_iload hx hb dX3_above_32 (lv_at hl 5 rfl) ?_
    refine zz_cj (rest := [.long (Int32.toInt64 x4), .long v4]) G h (fun r μ1 hf => zz_runS X G cs_X3_power kw_659 (c_X3_power l D ad cA  hf) ⟨rfl, rfl, Nat.le_of_ble_eq_true rfl, Nat.le_of_ble_eq_true rfl⟩ rfl rfl hl.1 (Nat.le_of_ble_eq_true rfl) dX3_above_34) (fun x5 μ H locs G h => ?_)
    refine lv_lmul hx hb dX3_above_37 ?_
    refine lv_bipush (v := (16 : Int32)) hx hb dX3_above_38 (by decide) ?_
    refine lv_iload_n hx hb dX3_above_40 rfl (lv_at hl 1 rfl) ?_
    refine lv_isub hx hb dX3_above_41 ?_
    refine lv_iload_n hx hb dX3_above_42 rfl (lv_at hl 3 rfl) ?_
    refine lv_iload hx hb dX3_above_43 (lv_at hl 5 rfl) ?_
    refine lv_isub hx hb dX3_above_45 ?_
    refine zz_cj (rest := [.long ((Int32.toInt64 x4) * x5), .long v4]) G h (fun r μ1 hf => zz_runS X G cs_X3_power kw_659 (c_X3_power l D ad cA  hf) ⟨rfl, rfl, Nat.le_of_ble_eq_true rfl, Nat.le_of_ble_eq_true rfl⟩ rfl rfl hl.1 (Nat.le_of_ble_eq_true rfl) dX3_above_46) (fun x6 μ H locs G h => ?_)
    refine lv_lmul hx hb dX3_above_49 ?_
    refine lv_ladd hx hb dX3_above_50 ?_
    refine zz_vj h (fun x7 h => ?_)
    refine lv_lstore (lv' := [(4, .long x7), (0, .ref (ad 47)), (1, .int v1), (2, .int v2), (3, .int v3), (6, .int v6)]) hx hb dX3_above_51 hl (by decide) rfl (fun ls hl => ?_)
    obtain ⟨x8, ex8, h⟩ := zz_let h
    refine lv_iinc (v := x8) (lv' := [(6, .int x8), (4, .long x7), (0, .ref (ad 47)), (1, .int v1), (2, .int v2), (3, .int v3)]) hx hb dX3_above_53 hl (k := 5) rfl (by rw [← ex8]; rfl) (by decide) rfl (fun ls hl => ?_)
    refine lv_goto (tgt := 6) hx hb dX3_above_56 (by decide) ?_
    exact ih x7 x8 μ _ _ _ (lv_sub hl [2, 3, 4, 5, 1, 0] rfl) G h
set_option maxHeartbeats 4000000 in
set_option maxRecDepth 100000 in
theorem c_X3_above (l : Launch) (D : va_G) (ad : Nat → Nat) (cA : Nat → ClassId) {a1 : Int32} {a2 : Int32} {a3 : Int32} {μ : zM} {r : Int64} {μ' : zM} (h : f_X3_above a1 a2 a3 μ = some (r, μ')) : zMet true D ad cA l yX3_above cX3_above 7 (some .long) ({ frames := 1, cells := 0, slots := 0, locals := 24 } : Room) [.ref (ad 47), .int a1, .int a2, .int a3] μ (zQl true D ad cA r μ') := by
  refine zMet_of "ButlerWeather$Odds" ⟨by decide, rfl⟩ (Nat.le_of_ble_eq_true rfl) ?_
  intro p e s m args below meth c X G hr hlk ls hl
  have hl : lv_has ls 7 [(0, .ref (ad 47)), (1, .int a1), (2, .int a2), (3, .int a3)] := hl
  obtain ⟨hx, hb, hml, hown, hts, -, -, -⟩ := id X
  obtain ⟨Q, hQ⟩ : ∃ Q, Q = MQ below (zQl true D ad cA r μ') args s 0 0 (zA true ad) := ⟨_, rfl⟩
  rw [← hQ]
  unfold f_X3_above at h
  refine lv_lconst (v := (0 : Int64)) hx hb dX3_above_0 (by decide) ?_
  refine lv_lstore (lv' := [(4, .long (0 : Int64)), (0, .ref (ad 47)), (1, .int a1), (2, .int a2), (3, .int a3)]) hx hb dX3_above_1 hl (by decide) rfl (fun ls hl => ?_)
  refine lv_iconst (v := (0 : Int32)) hx hb dX3_above_3 (by decide) ?_
  refine lv_istore (lv' := [(6, .int (0 : Int32)), (4, .long (0 : Int64)), (0, .ref (ad 47)), (1, .int a1), (2, .int a2), (3, .int a3)]) hx hb dX3_above_4 hl (by decide) rfl (fun ls hl => ?_)
  refine w_X3_above_L6 X hQ hr hlk  (fun x9 μ H locs ls hl G h => ?_) 400 (0 : Int64) (0 : Int32) μ _ _ _ (lv_sub hl [2, 3, 4, 5, 1, 0] rfl) G h
  refine lv_lload hx hb dX3_above_59 (lv_at hl 0 rfl) ?_
  rw [hQ]
  exact zz_lret X G hr hlk dX3_above_61 h
set_option maxHeartbeats 4000000 in
set_option maxRecDepth 100000 in
theorem w_X3_keepFitting_L43 {p : Program} {l : Launch} {e : Env} {s : State} {m : MethodId} {args : Array Value} {below : List Frame} {meth : Method} {c : Code} {Q : State → Prop} {D : va_G} {ad : Nat → Nat} {cA : Nat → ClassId} {r : Int32} {μ' : zM} (X : zX true D ad cA p s m args c cX3_keepFitting "ButlerWeather$Odds" 7) (hQ : Q = MQ below (zQi true D ad cA r μ') args s 0 0 (zA true ad)) (hr : meth.sig.returnType = (some .int)) (hlk : meth.locks = false) {r1 : Nat} (t_r1 : zty r1 = 2) {v3 : Int32} {v4 : Int32} {v5 : Int32} {kx : zM → Option (Int32 × zM)} (HX : ∀ (μ : zM) (H : Heap) (locs : List Loc) (ls : Array Slot), lv_has ls 7 [(0, .ref (ad 47)), (1, .ref (ad r1)), (2, .ref (ad 9)), (3, .int v3), (4, .int v4), (5, .int v5)] → zG true D ad cA s μ H locs → kx  μ = some (r, μ') → W p l e ({ frames := 3, cells := 0, slots := 0, locals := 72 } : Room) s m args below meth c H locs 0 0 Q (F0 m 72 ls [])) : ∀ (n : Nat) (v6 : Int32) (μ : zM) (H : Heap) (locs : List Loc) (ls : Array Slot), lv_has ls 7 [(0, .ref (ad 47)), (1, .ref (ad r1)), (2, .ref (ad 9)), (3, .int v3), (4, .int v4), (5, .int v5), (6, .int v6)] → zG true D ad cA s μ H locs → f_X3_keepFitting_L43 r1 v3 v4 v5 kx n v6 μ = some (r, μ') → W p l e ({ frames := 3, cells := 0, slots := 0, locals := 72 } : Room) s m args below meth c H locs 0 0 Q (F0 m 43 ls []) := by
  obtain ⟨hx, hb, hml, hown, hts, -, -, -⟩ := id X
  intro n
  induction n with
  | zero =>
    intro v6 μ H locs ls hl G h
    cases (show (none : Option (Int32 × zM)) = some (r, μ') from h)
  | succ n ih =>
    intro v6 μ H locs ls hl G h
    rw [f_X3_keepFitting_L43] at h
    refine lv_iload hx hb dX3_keepFitting_43 (lv_at hl 6 rfl) ?_
    refine lv_bipush (v := (24 : Int32)) hx hb dX3_keepFitting_45 (by decide) ?_
    refine lv_icmp_ge (tgt := 72) hx hb dX3_keepFitting_47 (by decide) (fun c7 => ?_) (fun c7 => ?_)
    · have h := (zz_br h).1 c7
      exact HX  μ _ _ _ (lv_sub hl [0, 1, 2, 3, 4, 5] rfl) G h
    have h := (zz_br h).2 c7
    refine lv_aload_n hx hb dX3_keepFitting_50 rfl (lv_at hl 0 rfl) ?_
    refine zz_getr X G fr_3_2 tl_47 rl_47_2 kw_246 dX3_keepFitting_51 ?_
    refine lv_iload hx hb dX3_keepFitting_54 (lv_at hl 4 rfl) ?_
    refine zz_aald X G ra_12 tl_49 dX3_keepFitting_56 h (fun q8 hq8 h => ?_)
    refine lv_iload hx hb dX3_keepFitting_57 (lv_at hl 6 rfl) ?_
    refine lv_aload_n hx hb dX3_keepFitting_59 rfl (lv_at hl 1 rfl) ?_
    refine lv_iload hx hb dX3_keepFitting_60 (lv_at hl 6 rfl) ?_
    refine zz_ci (rest := [.int v6, .ref (ad q8)]) G h (fun r μ1 hf => zz_runV X G rc_2 t_r1 cv_X2_warmthOn kw_635 (c_X2_warmthOn l D ad cA t_r1 hf) ⟨rfl, rfl, Nat.le_of_ble_eq_true rfl, Nat.le_of_ble_eq_true rfl⟩ rfl rfl hl.1 (Nat.le_of_ble_eq_true rfl) dX3_keepFitting_62) (fun x9 μ H locs G h => ?_)
    refine zz_iast X G ia_10 (rt_49 hq8) dX3_keepFitting_65 h (fun μ H locs G h => ?_)
    obtain ⟨x10, ex10, h⟩ := zz_let h
    refine lv_iinc (v := x10) (lv' := [(6, .int x10), (0, .ref (ad 47)), (1, .ref (ad r1)), (2, .ref (ad 9)), (3, .int v3), (4, .int v4), (5, .int v5)]) hx hb dX3_keepFitting_66 hl (k := 6) rfl (by rw [← ex10]; rfl) (by decide) rfl (fun ls hl => ?_)
    refine lv_goto (tgt := 43) hx hb dX3_keepFitting_69 (by decide) ?_
    exact ih x10 μ _ _ _ (lv_sub hl [1, 2, 3, 4, 5, 6, 0] rfl) G h
set_option maxHeartbeats 4000000 in
set_option maxRecDepth 100000 in
theorem w_X3_keepFitting_L6 {p : Program} {l : Launch} {e : Env} {s : State} {m : MethodId} {args : Array Value} {below : List Frame} {meth : Method} {c : Code} {Q : State → Prop} {D : va_G} {ad : Nat → Nat} {cA : Nat → ClassId} {r : Int32} {μ' : zM} (X : zX true D ad cA p s m args c cX3_keepFitting "ButlerWeather$Odds" 7) (hQ : Q = MQ below (zQi true D ad cA r μ') args s 0 0 (zA true ad)) (hr : meth.sig.returnType = (some .int)) (hlk : meth.locks = false) {r1 : Nat} (t_r1 : zty r1 = 2) {v3 : Int32} {kx : Int32 → zM → Option (Int32 × zM)} (HX : ∀ (w4 : Int32) (μ : zM) (H : Heap) (locs : List Loc) (ls : Array Slot), lv_has ls 7 [(4, .int w4)] → zG true D ad cA s μ H locs → kx w4 μ = some (r, μ') → W p l e ({ frames := 3, cells := 0, slots := 0, locals := 72 } : Room) s m args below meth c H locs 0 0 Q (F0 m 81 ls [])) : ∀ (n : Nat) (v4 : Int32) (v5 : Int32) (μ : zM) (H : Heap) (locs : List Loc) (ls : Array Slot), lv_has ls 7 [(0, .ref (ad 47)), (1, .ref (ad r1)), (2, .ref (ad 9)), (3, .int v3), (4, .int v4), (5, .int v5)] → zG true D ad cA s μ H locs → f_X3_keepFitting_L6 r1 v3 kx n v4 v5 μ = some (r, μ') → W p l e ({ frames := 3, cells := 0, slots := 0, locals := 72 } : Room) s m args below meth c H locs 0 0 Q (F0 m 6 ls []) := by
  obtain ⟨hx, hb, hml, hown, hts, -, -, -⟩ := id X
  intro n
  induction n with
  | zero =>
    intro v4 v5 μ H locs ls hl G h
    cases (show (none : Option (Int32 × zM)) = some (r, μ') from h)
  | succ n ih =>
    intro v4 v5 μ H locs ls hl G h
    rw [f_X3_keepFitting_L6] at h
    refine lv_iload hx hb dX3_keepFitting_6 (lv_at hl 5 rfl) ?_
    refine lv_bipush (v := (9 : Int32)) hx hb dX3_keepFitting_8 (by decide) ?_
    refine lv_icmp_gt (tgt := 81) hx hb dX3_keepFitting_10 (by decide) (fun c1 => ?_) (fun c1 => ?_)
    · have h := (zz_br h).1 c1
      exact HX v4 μ _ _ _ (lv_sub hl [4] rfl) G h
    have h := (zz_br h).2 c1
    refine lv_aload_n hx hb dX3_keepFitting_13 rfl (lv_at hl 1 rfl) ?_
    refine zz_getr X G fr_2_2 t_r1 (rs_2_2 t_r1) kw_184 dX3_keepFitting_14 ?_
    refine lv_iload_n hx hb dX3_keepFitting_17 rfl (lv_at hl 3 rfl) ?_
    refine lv_iload hx hb dX3_keepFitting_18 (lv_at hl 5 rfl) ?_
    refine zz_iast X G ia_10 (ft_2_2 t_r1) dX3_keepFitting_20 h (fun μ H locs G h => ?_)
    refine lv_aload_n hx hb dX3_keepFitting_21 rfl (lv_at hl 1 rfl) ?_
    refine zz_cv (rest := []) G h (fun r μ1 hf => zz_runV X G rc_2 t_r1 cv_X2_live kw_633 (c_X2_live l D ad cA t_r1 hf) ⟨rfl, rfl, Nat.le_of_ble_eq_true rfl, Nat.le_of_ble_eq_true rfl⟩ rfl rfl hl.1 (Nat.le_of_ble_eq_true rfl) dX3_keepFitting_22) (fun _ μ H locs G h => ?_)
    refine lv_aload_n hx hb dX3_keepFitting_25 rfl (lv_at hl 2 rfl) ?_
    refine lv_aload_n hx hb dX3_keepFitting_26 rfl (lv_at hl 1 rfl) ?_
    refine zz_ci (rest := []) G h (fun r μ1 hf => zz_runV X G rc_1 tl_9 cv_X1_fits kw_634 (c_X1_fits l D ad cA t_r1 hf) ⟨rfl, rfl, Nat.le_of_ble_eq_true rfl, Nat.le_of_ble_eq_true rfl⟩ rfl rfl hl.1 (Nat.le_of_ble_eq_true rfl) dX3_keepFitting_27) (fun x2 μ H locs G h => ?_)
    refine lv_if_eq (tgt := 75) hx hb dX3_keepFitting_30 (by decide) (fun c3 => ?_) (fun c3 => ?_)
    · have h := (zz_br h).1 c3
      obtain ⟨x4, ex4, h⟩ := zz_let h
      refine lv_iinc (v := x4) (lv' := [(5, .int x4), (0, .ref (ad 47)), (1, .ref (ad r1)), (2, .ref (ad 9)), (3, .int v3), (4, .int v4)]) hx hb dX3_keepFitting_75 hl (k := 5) rfl (by rw [← ex4]; rfl) (by decide) rfl (fun ls hl => ?_)
      refine lv_goto (tgt := 6) hx hb dX3_keepFitting_78 (by decide) ?_
      exact ih v4 x4 μ _ _ _ (lv_sub hl [1, 2, 3, 4, 5, 0] rfl) G h
    have h := (zz_br h).2 c3
    refine lv_iload hx hb dX3_keepFitting_33 (lv_at hl 4 rfl) ?_
    refine lv_bipush (v := (9 : Int32)) hx hb dX3_keepFitting_35 (by decide) ?_
    refine lv_icmp_ge (tgt := 75) hx hb dX3_keepFitting_37 (by decide) (fun c5 => ?_) (fun c5 => ?_)
    · have h := (zz_br h).1 c5
      obtain ⟨x6, ex6, h⟩ := zz_let h
      refine lv_iinc (v := x6) (lv' := [(5, .int x6), (0, .ref (ad 47)), (1, .ref (ad r1)), (2, .ref (ad 9)), (3, .int v3), (4, .int v4)]) hx hb dX3_keepFitting_75 hl (k := 5) rfl (by rw [← ex6]; rfl) (by decide) rfl (fun ls hl => ?_)
      refine lv_goto (tgt := 6) hx hb dX3_keepFitting_78 (by decide) ?_
      exact ih v4 x6 μ _ _ _ (lv_sub hl [1, 2, 3, 4, 5, 0] rfl) G h
    have h := (zz_br h).2 c5
    refine lv_iconst (v := (0 : Int32)) hx hb dX3_keepFitting_40 (by decide) ?_
    refine lv_istore (lv' := [(6, .int (0 : Int32)), (0, .ref (ad 47)), (1, .ref (ad r1)), (2, .ref (ad 9)), (3, .int v3), (4, .int v4), (5, .int v5)]) hx hb dX3_keepFitting_41 hl (by decide) rfl (fun ls hl => ?_)
    refine w_X3_keepFitting_L43 X hQ hr hlk t_r1 (fun  μ H locs ls hl G h => ?_) 400 (0 : Int32) μ _ _ _ (lv_sub hl [1, 2, 3, 4, 5, 6, 0] rfl) G h
    obtain ⟨x11, ex11, h⟩ := zz_let h
    refine lv_iinc (v := x11) (lv' := [(4, .int x11), (0, .ref (ad 47)), (1, .ref (ad r1)), (2, .ref (ad 9)), (3, .int v3), (5, .int v5)]) hx hb dX3_keepFitting_72 hl (k := 4) rfl (by rw [← ex11]; rfl) (by decide) rfl (fun ls hl => ?_)
    obtain ⟨x12, ex12, h⟩ := zz_let h
    refine lv_iinc (v := x12) (lv' := [(5, .int x12), (4, .int x11), (0, .ref (ad 47)), (1, .ref (ad r1)), (2, .ref (ad 9)), (3, .int v3)]) hx hb dX3_keepFitting_75 hl (k := 5) rfl (by rw [← ex12]; rfl) (by decide) rfl (fun ls hl => ?_)
    refine lv_goto (tgt := 6) hx hb dX3_keepFitting_78 (by decide) ?_
    exact ih x11 x12 μ _ _ _ (lv_sub hl [2, 3, 4, 5, 1, 0] rfl) G h
set_option maxHeartbeats 4000000 in
set_option maxRecDepth 100000 in
theorem c_X3_keepFitting (l : Launch) (D : va_G) (ad : Nat → Nat) (cA : Nat → ClassId) {r1 : Nat} (t_r1 : zty r1 = 2) {a3 : Int32} {μ : zM} {r : Int32} {μ' : zM} (h : f_X3_keepFitting r1 a3 μ = some (r, μ')) : zMet true D ad cA l yX3_keepFitting cX3_keepFitting 7 (some .int) ({ frames := 3, cells := 0, slots := 0, locals := 72 } : Room) [.ref (ad 47), .ref (ad r1), .ref (ad 9), .int a3] μ (zQi true D ad cA r μ') := by
  refine zMet_of "ButlerWeather$Odds" ⟨by decide, rfl⟩ (Nat.le_of_ble_eq_true rfl) ?_
  intro p e s m args below meth c X G hr hlk ls hl
  have hl : lv_has ls 7 [(0, .ref (ad 47)), (1, .ref (ad r1)), (2, .ref (ad 9)), (3, .int a3)] := hl
  obtain ⟨hx, hb, hml, hown, hts, -, -, -⟩ := id X
  obtain ⟨Q, hQ⟩ : ∃ Q, Q = MQ below (zQi true D ad cA r μ') args s 0 0 (zA true ad) := ⟨_, rfl⟩
  rw [← hQ]
  unfold f_X3_keepFitting at h
  refine lv_iconst (v := (0 : Int32)) hx hb dX3_keepFitting_0 (by decide) ?_
  refine lv_istore (lv' := [(4, .int (0 : Int32)), (0, .ref (ad 47)), (1, .ref (ad r1)), (2, .ref (ad 9)), (3, .int a3)]) hx hb dX3_keepFitting_1 hl (by decide) rfl (fun ls hl => ?_)
  refine lv_iconst (v := (1 : Int32)) hx hb dX3_keepFitting_3 (by decide) ?_
  refine lv_istore (lv' := [(5, .int (1 : Int32)), (4, .int (0 : Int32)), (0, .ref (ad 47)), (1, .ref (ad r1)), (2, .ref (ad 9)), (3, .int a3)]) hx hb dX3_keepFitting_4 hl (by decide) rfl (fun ls hl => ?_)
  refine w_X3_keepFitting_L6 X hQ hr hlk t_r1 (fun x13 μ H locs ls hl G h => ?_) 400 (0 : Int32) (1 : Int32) μ _ _ _ (lv_sub hl [2, 3, 4, 5, 1, 0] rfl) G h
  refine lv_iload hx hb dX3_keepFitting_81 (lv_at hl 0 rfl) ?_
  rw [hQ]
  exact zz_iret X G hr hlk dX3_keepFitting_83 h
set_option maxHeartbeats 4000000 in
set_option maxRecDepth 100000 in
theorem w_X3_greatestAlike_L18 {p : Program} {l : Launch} {e : Env} {s : State} {m : MethodId} {args : Array Value} {below : List Frame} {meth : Method} {c : Code} {Q : State → Prop} {D : va_G} {ad : Nat → Nat} {cA : Nat → ClassId} {r : Int32} {μ' : zM} (X : zX true D ad cA p s m args c cX3_greatestAlike "ButlerWeather$Odds" 7) (hQ : Q = MQ below (zQi true D ad cA r μ') args s 0 0 (zA true ad)) (hr : meth.sig.returnType = (some .int)) (hlk : meth.locks = false) {v1 : Int32} {v2 : Int32} {v3 : Int32} {v4 : Int32} {kx : Int32 → zM → Option (Int32 × zM)} (HX : ∀ (w5 : Int32) (μ : zM) (H : Heap) (locs : List Loc) (ls : Array Slot), lv_has ls 7 [(0, .ref (ad 47)), (1, .int v1), (2, .int v2), (3, .int v3), (4, .int v4), (5, .int w5)] → zG true D ad cA s μ H locs → kx w5 μ = some (r, μ') → W p l e ({ frames := 1, cells := 0, slots := 0, locals := 13 } : Room) s m args below meth c H locs 0 0 Q (F0 m 54 ls [])) : ∀ (n : Nat) (v5 : Int32) (v6 : Int32) (μ : zM) (H : Heap) (locs : List Loc) (ls : Array Slot), lv_has ls 7 [(0, .ref (ad 47)), (1, .int v1), (2, .int v2), (3, .int v3), (4, .int v4), (5, .int v5), (6, .int v6)] → zG true D ad cA s μ H locs → f_X3_greatestAlike_L18 v1 v2 v3 v4 kx n v5 v6 μ = some (r, μ') → W p l e ({ frames := 1, cells := 0, slots := 0, locals := 13 } : Room) s m args below meth c H locs 0 0 Q (F0 m 18 ls []) := by
  obtain ⟨hx, hb, hml, hown, hts, -, -, -⟩ := id X
  intro n
  induction n with
  | zero =>
    intro v5 v6 μ H locs ls hl G h
    cases (show (none : Option (Int32 × zM)) = some (r, μ') from h)
  | succ n ih =>
    intro v5 v6 μ H locs ls hl G h
    rw [f_X3_greatestAlike_L18] at h
    refine lv_iload hx hb dX3_greatestAlike_18 (lv_at hl 6 rfl) ?_
    refine lv_iload_n hx hb dX3_greatestAlike_20 rfl (lv_at hl 1 rfl) ?_
    refine lv_icmp_ge (tgt := 54) hx hb dX3_greatestAlike_21 (by decide) (fun c2 => ?_) (fun c2 => ?_)
    · have h := (zz_br h).1 c2
      exact HX v5 μ _ _ _ (lv_sub hl [0, 1, 2, 3, 4, 5] rfl) G h
    have h := (zz_br h).2 c2
    refine lv_aload_n hx hb dX3_greatestAlike_24 rfl (lv_at hl 0 rfl) ?_
    refine zz_getr X G fr_3_2 tl_47 rl_47_2 kw_246 dX3_greatestAlike_25 ?_
    refine lv_iload hx hb dX3_greatestAlike_28 (lv_at hl 4 rfl) ?_
    refine zz_aald X G ra_12 tl_49 dX3_greatestAlike_30 h (fun q3 hq3 h => ?_)
    refine lv_iload_n hx hb dX3_greatestAlike_31 rfl (lv_at hl 2 rfl) ?_
    refine zz_iald X G ia_10 (rt_49 hq3) dX3_greatestAlike_32 h (fun x4 h => ?_)
    refine lv_aload_n hx hb dX3_greatestAlike_33 rfl (lv_at hl 0 rfl) ?_
    refine zz_getr X G fr_3_2 tl_47 rl_47_2 kw_246 dX3_greatestAlike_34 ?_
    refine lv_iload hx hb dX3_greatestAlike_37 (lv_at hl 6 rfl) ?_
    refine zz_aald X G ra_12 tl_49 dX3_greatestAlike_39 h (fun q5 hq5 h => ?_)
    refine lv_iload_n hx hb dX3_greatestAlike_40 rfl (lv_at hl 2 rfl) ?_
    refine zz_iald X G ia_10 (rt_49 hq5) dX3_greatestAlike_41 h (fun x6 h => ?_)
    refine lv_icmp_ne (tgt := 48) hx hb dX3_greatestAlike_42 (by decide) (fun c7 => ?_) (fun c7 => ?_)
    · have h := (zz_br h).1 c7
      obtain ⟨x8, ex8, h⟩ := zz_let h
      refine lv_iinc (v := x8) (lv' := [(6, .int x8), (0, .ref (ad 47)), (1, .int v1), (2, .int v2), (3, .int v3), (4, .int v4), (5, .int v5)]) hx hb dX3_greatestAlike_48 hl (k := 6) rfl (by rw [← ex8]; rfl) (by decide) rfl (fun ls hl => ?_)
      refine lv_goto (tgt := 18) hx hb dX3_greatestAlike_51 (by decide) ?_
      exact ih v5 x8 μ _ _ _ (lv_sub hl [1, 2, 3, 4, 5, 6, 0] rfl) G h
    have h := (zz_br h).2 (fun q => q c7)
    obtain ⟨x9, ex9, h⟩ := zz_let h
    refine lv_iinc (v := x9) (lv' := [(5, .int x9), (0, .ref (ad 47)), (1, .int v1), (2, .int v2), (3, .int v3), (4, .int v4), (6, .int v6)]) hx hb dX3_greatestAlike_45 hl (k := 5) rfl (by rw [← ex9]; rfl) (by decide) rfl (fun ls hl => ?_)
    obtain ⟨x10, ex10, h⟩ := zz_let h
    refine lv_iinc (v := x10) (lv' := [(6, .int x10), (5, .int x9), (0, .ref (ad 47)), (1, .int v1), (2, .int v2), (3, .int v3), (4, .int v4)]) hx hb dX3_greatestAlike_48 hl (k := 6) rfl (by rw [← ex10]; rfl) (by decide) rfl (fun ls hl => ?_)
    refine lv_goto (tgt := 18) hx hb dX3_greatestAlike_51 (by decide) ?_
    exact ih x9 x10 μ _ _ _ (lv_sub hl [2, 3, 4, 5, 6, 1, 0] rfl) G h
set_option maxHeartbeats 4000000 in
set_option maxRecDepth 100000 in
theorem w_X3_greatestAlike_L5 {p : Program} {l : Launch} {e : Env} {s : State} {m : MethodId} {args : Array Value} {below : List Frame} {meth : Method} {c : Code} {Q : State → Prop} {D : va_G} {ad : Nat → Nat} {cA : Nat → ClassId} {r : Int32} {μ' : zM} (X : zX true D ad cA p s m args c cX3_greatestAlike "ButlerWeather$Odds" 7) (hQ : Q = MQ below (zQi true D ad cA r μ') args s 0 0 (zA true ad)) (hr : meth.sig.returnType = (some .int)) (hlk : meth.locks = false) {v1 : Int32} {v2 : Int32} {kx : Int32 → zM → Option (Int32 × zM)} (HX : ∀ (w3 : Int32) (μ : zM) (H : Heap) (locs : List Loc) (ls : Array Slot), lv_has ls 7 [(3, .int w3)] → zG true D ad cA s μ H locs → kx w3 μ = some (r, μ') → W p l e ({ frames := 1, cells := 0, slots := 0, locals := 13 } : Room) s m args below meth c H locs 0 0 Q (F0 m 67 ls [])) : ∀ (n : Nat) (v3 : Int32) (v4 : Int32) (μ : zM) (H : Heap) (locs : List Loc) (ls : Array Slot), lv_has ls 7 [(0, .ref (ad 47)), (1, .int v1), (2, .int v2), (3, .int v3), (4, .int v4)] → zG true D ad cA s μ H locs → f_X3_greatestAlike_L5 v1 v2 kx n v3 v4 μ = some (r, μ') → W p l e ({ frames := 1, cells := 0, slots := 0, locals := 13 } : Room) s m args below meth c H locs 0 0 Q (F0 m 5 ls []) := by
  obtain ⟨hx, hb, hml, hown, hts, -, -, -⟩ := id X
  intro n
  induction n with
  | zero =>
    intro v3 v4 μ H locs ls hl G h
    cases (show (none : Option (Int32 × zM)) = some (r, μ') from h)
  | succ n ih =>
    intro v3 v4 μ H locs ls hl G h
    rw [f_X3_greatestAlike_L5] at h
    refine lv_iload hx hb dX3_greatestAlike_5 (lv_at hl 4 rfl) ?_
    refine lv_iload_n hx hb dX3_greatestAlike_7 rfl (lv_at hl 1 rfl) ?_
    refine lv_icmp_ge (tgt := 67) hx hb dX3_greatestAlike_8 (by decide) (fun c1 => ?_) (fun c1 => ?_)
    · have h := (zz_br h).1 c1
      exact HX v3 μ _ _ _ (lv_sub hl [3] rfl) G h
    have h := (zz_br h).2 c1
    refine lv_iconst (v := (0 : Int32)) hx hb dX3_greatestAlike_11 (by decide) ?_
    refine lv_istore (lv' := [(5, .int (0 : Int32)), (0, .ref (ad 47)), (1, .int v1), (2, .int v2), (3, .int v3), (4, .int v4)]) hx hb dX3_greatestAlike_12 hl (by decide) rfl (fun ls hl => ?_)
    refine lv_iload hx hb dX3_greatestAlike_14 (lv_at hl 5 rfl) ?_
    refine lv_istore (lv' := [(6, .int v4), (5, .int (0 : Int32)), (0, .ref (ad 47)), (1, .int v1), (2, .int v2), (3, .int v3), (4, .int v4)]) hx hb dX3_greatestAlike_16 hl (by decide) rfl (fun ls hl => ?_)
    refine w_X3_greatestAlike_L18 X hQ hr hlk  (fun x11 μ H locs ls hl G h => ?_) 400 (0 : Int32) v4 μ _ _ _ (lv_sub hl [2, 3, 4, 5, 6, 1, 0] rfl) G h
    refine lv_iload_n hx hb dX3_greatestAlike_54 rfl (lv_at hl 3 rfl) ?_
    refine lv_iload hx hb dX3_greatestAlike_55 (lv_at hl 5 rfl) ?_
    refine va_mmax hx hb (hml.trans hl.1.symm) hown (hts _ kw_640) (hts _ kw_641) (hts _ kw_80) (hts _ kw_642) (Nat.le_of_ble_eq_true rfl) (Nat.le_of_ble_eq_true rfl) (Nat.zero_le _) (Nat.zero_le _) dX3_greatestAlike_57 ?_
    refine zz_vi h (fun x12 h => ?_)
    refine lv_istore_n (lv' := [(3, .int x12), (0, .ref (ad 47)), (1, .int v1), (2, .int v2), (4, .int v4), (5, .int x11)]) hx hb dX3_greatestAlike_60 rfl hl (by decide) rfl (fun ls hl => ?_)
    obtain ⟨x13, ex13, h⟩ := zz_let h
    refine lv_iinc (v := x13) (lv' := [(4, .int x13), (3, .int x12), (0, .ref (ad 47)), (1, .int v1), (2, .int v2), (5, .int x11)]) hx hb dX3_greatestAlike_61 hl (k := 4) rfl (by rw [← ex13]; rfl) (by decide) rfl (fun ls hl => ?_)
    refine lv_goto (tgt := 5) hx hb dX3_greatestAlike_64 (by decide) ?_
    exact ih x12 x13 μ _ _ _ (lv_sub hl [2, 3, 4, 1, 0] rfl) G h
set_option maxHeartbeats 4000000 in
set_option maxRecDepth 100000 in
theorem c_X3_greatestAlike (l : Launch) (D : va_G) (ad : Nat → Nat) (cA : Nat → ClassId) {a1 : Int32} {a2 : Int32} {μ : zM} {r : Int32} {μ' : zM} (h : f_X3_greatestAlike a1 a2 μ = some (r, μ')) : zMet true D ad cA l yX3_greatestAlike cX3_greatestAlike 7 (some .int) ({ frames := 1, cells := 0, slots := 0, locals := 13 } : Room) [.ref (ad 47), .int a1, .int a2] μ (zQi true D ad cA r μ') := by
  refine zMet_of "ButlerWeather$Odds" ⟨by decide, rfl⟩ (Nat.le_of_ble_eq_true rfl) ?_
  intro p e s m args below meth c X G hr hlk ls hl
  have hl : lv_has ls 7 [(0, .ref (ad 47)), (1, .int a1), (2, .int a2)] := hl
  obtain ⟨hx, hb, hml, hown, hts, -, -, -⟩ := id X
  obtain ⟨Q, hQ⟩ : ∃ Q, Q = MQ below (zQi true D ad cA r μ') args s 0 0 (zA true ad) := ⟨_, rfl⟩
  rw [← hQ]
  unfold f_X3_greatestAlike at h
  refine lv_iconst (v := (0 : Int32)) hx hb dX3_greatestAlike_0 (by decide) ?_
  refine lv_istore_n (lv' := [(3, .int (0 : Int32)), (0, .ref (ad 47)), (1, .int a1), (2, .int a2)]) hx hb dX3_greatestAlike_1 rfl hl (by decide) rfl (fun ls hl => ?_)
  refine lv_iconst (v := (0 : Int32)) hx hb dX3_greatestAlike_2 (by decide) ?_
  refine lv_istore (lv' := [(4, .int (0 : Int32)), (3, .int (0 : Int32)), (0, .ref (ad 47)), (1, .int a1), (2, .int a2)]) hx hb dX3_greatestAlike_3 hl (by decide) rfl (fun ls hl => ?_)
  refine w_X3_greatestAlike_L5 X hQ hr hlk  (fun x14 μ H locs ls hl G h => ?_) 400 (0 : Int32) (0 : Int32) μ _ _ _ (lv_sub hl [2, 3, 4, 1, 0] rfl) G h
  refine lv_iload_n hx hb dX3_greatestAlike_67 rfl (lv_at hl 0 rfl) ?_
  rw [hQ]
  exact zz_iret X G hr hlk dX3_greatestAlike_68 h
set_option maxHeartbeats 4000000 in
set_option maxRecDepth 100000 in
theorem c_X4_isLost (l : Launch) (D : va_G) (ad : Nat → Nat) (cA : Nat → ClassId) {r0 : Nat} (t_r0 : zty r0 = 4) {μ : zM} {r : Int32} {μ' : zM} (h : f_X4_isLost r0 μ = some (r, μ')) : zMet true D ad cA l yX4_isLost cX4_isLost 1 (some .boolean) ({ frames := 0, cells := 0, slots := 0, locals := 0 } : Room) [.ref (ad r0)] μ (zQi true D ad cA r μ') := by
  refine zMet_of "ButlerWeather$Sheet" ⟨by decide, rfl⟩ (Nat.le_of_ble_eq_true rfl) ?_
  intro p e s m args below meth c X G hr hlk ls hl
  have hl : lv_has ls 1 [(0, .ref (ad r0))] := hl
  obtain ⟨hx, hb, hml, hown, hts, -, -, -⟩ := id X
  obtain ⟨Q, hQ⟩ : ∃ Q, Q = MQ below (zQi true D ad cA r μ') args s 0 0 (zA true ad) := ⟨_, rfl⟩
  rw [← hQ]
  unfold f_X4_isLost at h
  refine lv_aload_n hx hb dX4_isLost_0 rfl (lv_at hl 0 rfl) ?_
  refine zz_geti X G fi_4_0 t_r0 kw_159 dX4_isLost_1 h (fun x1 h => ?_)
  refine lv_iconst (v := (-1 : Int32)) hx hb dX4_isLost_4 (by decide) ?_
  refine lv_icmp_ne (tgt := 12) hx hb dX4_isLost_5 (by decide) (fun c2 => ?_) (fun c2 => ?_)
  · have h := (zz_br h).1 c2
    refine lv_iconst (v := (0 : Int32)) hx hb dX4_isLost_12 (by decide) ?_
    rw [hQ]
    exact zz_zret X G hr hlk dX4_isLost_13 h
  have h := (zz_br h).2 (fun q => q c2)
  refine lv_iconst (v := (1 : Int32)) hx hb dX4_isLost_8 (by decide) ?_
  refine lv_goto (tgt := 13) hx hb dX4_isLost_9 (by decide) ?_
  rw [hQ]
  exact zz_zret X G hr hlk dX4_isLost_13 h
set_option maxHeartbeats 4000000 in
set_option maxRecDepth 100000 in
theorem w_X4_renew_L12 {p : Program} {l : Launch} {e : Env} {s : State} {m : MethodId} {args : Array Value} {below : List Frame} {meth : Method} {c : Code} {Q : State → Prop} {D : va_G} {ad : Nat → Nat} {cA : Nat → ClassId} {r : Unit} {μ' : zM} (X : zX true D ad cA p s m args c cX4_renew "ButlerWeather$Sheet" 4) (hQ : Q = MQ below (zQv true D ad cA r μ') args s 0 0 (zA true ad)) (hr : meth.sig.returnType = none) (hlk : meth.locks = false) {r0 : Nat} (t_r0 : zty r0 = 4) {kx : zM → Option (Unit × zM)} (HX : ∀ (μ : zM) (H : Heap) (locs : List Loc) (ls : Array Slot), lv_has ls 4 [] → zG true D ad cA s μ H locs → kx  μ = some (r, μ') → W p l e ({ frames := 0, cells := 0, slots := 0, locals := 0 } : Room) s m args below meth c H locs 0 0 Q (F0 m 31 ls [])) : ∀ (n : Nat) (v3 : Int32) (μ : zM) (H : Heap) (locs : List Loc) (ls : Array Slot), lv_has ls 4 [(0, .ref (ad r0)), (3, .int v3)] → zG true D ad cA s μ H locs → f_X4_renew_L12 r0 kx n v3 μ = some (r, μ') → W p l e ({ frames := 0, cells := 0, slots := 0, locals := 0 } : Room) s m args below meth c H locs 0 0 Q (F0 m 12 ls []) := by
  obtain ⟨hx, hb, hml, hown, hts, -, -, -⟩ := id X
  intro n
  induction n with
  | zero =>
    intro v3 μ H locs ls hl G h
    cases (show (none : Option (Unit × zM)) = some (r, μ') from h)
  | succ n ih =>
    intro v3 μ H locs ls hl G h
    rw [f_X4_renew_L12] at h
    refine lv_iload_n hx hb dX4_renew_12 rfl (lv_at hl 1 rfl) ?_
    refine lv_bipush (v := (60 : Int32)) hx hb dX4_renew_13 (by decide) ?_
    refine lv_icmp_ge (tgt := 31) hx hb dX4_renew_15 (by decide) (fun c1 => ?_) (fun c1 => ?_)
    · have h := (zz_br h).1 c1
      exact HX  μ _ _ _ (lv_sub hl [] rfl) G h
    have h := (zz_br h).2 c1
    refine lv_aload_n hx hb dX4_renew_18 rfl (lv_at hl 0 rfl) ?_
    refine zz_getr X G fr_4_2 t_r0 (rs_4_2 t_r0) kw_163 dX4_renew_19 ?_
    refine lv_iload_n hx hb dX4_renew_22 rfl (lv_at hl 1 rfl) ?_
    refine lv_iconst (v := (0 : Int32)) hx hb dX4_renew_23 (by decide) ?_
    refine zz_iast X G ia_10 (ft_4_2 t_r0) dX4_renew_24 h (fun μ H locs G h => ?_)
    obtain ⟨x2, ex2, h⟩ := zz_let h
    refine lv_iinc (v := x2) (lv' := [(3, .int x2), (0, .ref (ad r0))]) hx hb dX4_renew_25 hl (k := 1) rfl (by rw [← ex2]; rfl) (by decide) rfl (fun ls hl => ?_)
    refine lv_goto (tgt := 12) hx hb dX4_renew_28 (by decide) ?_
    exact ih x2 μ _ _ _ (lv_sub hl [1, 0] rfl) G h
set_option maxHeartbeats 4000000 in
set_option maxRecDepth 100000 in
theorem c_X4_renew (l : Launch) (D : va_G) (ad : Nat → Nat) (cA : Nat → ClassId) {r0 : Nat} (t_r0 : zty r0 = 4) {a1 : Int32} {a2 : Int32} {μ : zM} {r : Unit} {μ' : zM} (h : f_X4_renew r0 a1 a2 μ = some (r, μ')) : zMet true D ad cA l yX4_renew cX4_renew 4 none ({ frames := 0, cells := 0, slots := 0, locals := 0 } : Room) [.ref (ad r0), .int a1, .int a2] μ (zQv true D ad cA r μ') := by
  refine zMet_of "ButlerWeather$Sheet" ⟨by decide, rfl⟩ (Nat.le_of_ble_eq_true rfl) ?_
  intro p e s m args below meth c X G hr hlk ls hl
  have hl : lv_has ls 4 [(0, .ref (ad r0)), (1, .int a1), (2, .int a2)] := hl
  obtain ⟨hx, hb, hml, hown, hts, -, -, -⟩ := id X
  obtain ⟨Q, hQ⟩ : ∃ Q, Q = MQ below (zQv true D ad cA r μ') args s 0 0 (zA true ad) := ⟨_, rfl⟩
  rw [← hQ]
  unfold f_X4_renew at h
  refine lv_aload_n hx hb dX4_renew_0 rfl (lv_at hl 0 rfl) ?_
  refine lv_iload_n hx hb dX4_renew_1 rfl (lv_at hl 1 rfl) ?_
  refine zz_puti X G fp_4_0 t_r0 kw_159 rfl rfl dX4_renew_2 h (fun μ H locs G h => ?_)
  refine lv_aload_n hx hb dX4_renew_5 rfl (lv_at hl 0 rfl) ?_
  refine lv_iload_n hx hb dX4_renew_6 rfl (lv_at hl 2 rfl) ?_
  refine zz_puti X G fp_4_1 t_r0 kw_161 rfl rfl dX4_renew_7 h (fun μ H locs G h => ?_)
  refine lv_iconst (v := (0 : Int32)) hx hb dX4_renew_10 (by decide) ?_
  refine lv_istore_n (lv' := [(3, .int (0 : Int32)), (0, .ref (ad r0)), (1, .int a1), (2, .int a2)]) hx hb dX4_renew_11 rfl hl (by decide) rfl (fun ls hl => ?_)
  refine w_X4_renew_L12 X hQ hr hlk t_r0 (fun  μ H locs ls hl G h => ?_) 400 (0 : Int32) μ _ _ _ (lv_sub hl [1, 0] rfl) G h
  rw [hQ]
  exact zz_vret X G hr hlk dX4_renew_31 h
set_option maxHeartbeats 4000000 in
set_option maxRecDepth 100000 in
theorem c_X4_beLost (l : Launch) (D : va_G) (ad : Nat → Nat) (cA : Nat → ClassId) {r0 : Nat} (t_r0 : zty r0 = 4) {μ : zM} {r : Int32} {μ' : zM} (h : f_X4_beLost r0 μ = some (r, μ')) : zMet true D ad cA l yX4_beLost cX4_beLost 2 (some .int) ({ frames := 0, cells := 0, slots := 0, locals := 0 } : Room) [.ref (ad r0)] μ (zQi true D ad cA r μ') := by
  refine zMet_of "ButlerWeather$Sheet" ⟨by decide, rfl⟩ (Nat.le_of_ble_eq_true rfl) ?_
  intro p e s m args below meth c X G hr hlk ls hl
  have hl : lv_has ls 2 [(0, .ref (ad r0))] := hl
  obtain ⟨hx, hb, hml, hown, hts, -, -, -⟩ := id X
  obtain ⟨Q, hQ⟩ : ∃ Q, Q = MQ below (zQi true D ad cA r μ') args s 0 0 (zA true ad) := ⟨_, rfl⟩
  rw [← hQ]
  unfold f_X4_beLost at h
  refine lv_aload_n hx hb dX4_beLost_0 rfl (lv_at hl 0 rfl) ?_
  refine zz_geti X G fi_4_1 t_r0 kw_161 dX4_beLost_1 h (fun x1 h => ?_)
  refine lv_istore_n (lv' := [(1, .int x1), (0, .ref (ad r0))]) hx hb dX4_beLost_4 rfl hl (by decide) rfl (fun ls hl => ?_)
  refine lv_aload_n hx hb dX4_beLost_5 rfl (lv_at hl 1 rfl) ?_
  refine lv_iconst (v := (-1 : Int32)) hx hb dX4_beLost_6 (by decide) ?_
  refine zz_puti X G fp_4_0 t_r0 kw_159 rfl rfl dX4_beLost_7 h (fun μ H locs G h => ?_)
  refine lv_aload_n hx hb dX4_beLost_10 rfl (lv_at hl 1 rfl) ?_
  refine lv_iconst (v := (0 : Int32)) hx hb dX4_beLost_11 (by decide) ?_
  refine zz_puti X G fp_4_1 t_r0 kw_161 rfl rfl dX4_beLost_12 h (fun μ H locs G h => ?_)
  refine lv_iload_n hx hb dX4_beLost_15 rfl (lv_at hl 0 rfl) ?_
  rw [hQ]
  exact zz_iret X G hr hlk dX4_beLost_16 h
set_option maxHeartbeats 4000000 in
set_option maxRecDepth 100000 in
theorem c_X4_hindrance (l : Launch) (D : va_G) (ad : Nat → Nat) (cA : Nat → ClassId) {r0 : Nat} (t_r0 : zty r0 = 4) {a1 : Int32} {a2 : Int32} {μ : zM} {r : Int32} {μ' : zM} (h : f_X4_hindrance r0 a1 a2 μ = some (r, μ')) : zMet true D ad cA l yX4_hindrance cX4_hindrance 3 (some .int) ({ frames := 1, cells := 0, slots := 0, locals := 22 } : Room) [.ref (ad r0), .int a1, .int a2] μ (zQi true D ad cA r μ') := by
  refine zMet_of "ButlerWeather$Sheet" ⟨by decide, rfl⟩ (Nat.le_of_ble_eq_true rfl) ?_
  intro p e s m args below meth c X G hr hlk ls hl
  have hl : lv_has ls 3 [(0, .ref (ad r0)), (1, .int a1), (2, .int a2)] := hl
  obtain ⟨hx, hb, hml, hown, hts, -, -, -⟩ := id X
  obtain ⟨Q, hQ⟩ : ∃ Q, Q = MQ below (zQi true D ad cA r μ') args s 0 0 (zA true ad) := ⟨_, rfl⟩
  rw [← hQ]
  unfold f_X4_hindrance at h
  refine lv_aload_n hx hb dX4_hindrance_0 rfl (lv_at hl 0 rfl) ?_
  refine zz_ci (rest := []) G h (fun r μ1 hf => zz_runV X G rc_4 t_r0 cv_X4_isLost kw_706 (c_X4_isLost l D ad cA t_r0 hf) ⟨rfl, rfl, Nat.le_of_ble_eq_true rfl, Nat.le_of_ble_eq_true rfl⟩ rfl rfl hl.1 (Nat.le_of_ble_eq_true rfl) dX4_hindrance_1) (fun x1 μ H locs G h => ?_)
  refine lv_if_eq (tgt := 9) hx hb dX4_hindrance_4 (by decide) (fun c2 => ?_) (fun c2 => ?_)
  · have h := (zz_br h).1 c2
    refine lv_aload_n hx hb dX4_hindrance_9 rfl (lv_at hl 0 rfl) ?_
    refine zz_geti X G fi_4_0 t_r0 kw_159 dX4_hindrance_10 h (fun x3 h => ?_)
    refine lv_iload_n hx hb dX4_hindrance_13 rfl (lv_at hl 1 rfl) ?_
    refine lv_icmp_eq (tgt := 19) hx hb dX4_hindrance_14 (by decide) (fun c4 => ?_) (fun c4 => ?_)
    · have h := (zz_br h).1 c4
      refine lv_iload_n hx hb dX4_hindrance_19 rfl (lv_at hl 2 rfl) ?_
      refine lv_iconst (v := (0 : Int32)) hx hb dX4_hindrance_20 (by decide) ?_
      refine lv_aload_n hx hb dX4_hindrance_21 rfl (lv_at hl 0 rfl) ?_
      refine zz_geti X G fi_4_1 t_r0 kw_161 dX4_hindrance_22 h (fun x5 h => ?_)
      refine lv_iconst (v := (1 : Int32)) hx hb dX4_hindrance_25 (by decide) ?_
      refine lv_isub hx hb dX4_hindrance_26 ?_
      refine zz_ci (rest := []) G h (fun r μ1 hf => zz_runSN X G cs_X6_within nw_X4_26 (c_X6_within l D ad cA  hf) ⟨rfl, rfl, Nat.le_of_ble_eq_true rfl, Nat.le_of_ble_eq_true rfl⟩ rfl rfl hl.1 (Nat.le_of_ble_eq_true rfl) dX4_hindrance_27) (fun x6 μ H locs G h => ?_)
      refine lv_if_eq (tgt := 37) hx hb dX4_hindrance_30 (by decide) (fun c7 => ?_) (fun c7 => ?_)
      · have h := (zz_br h).1 c7
        refine lv_iconst (v := (2 : Int32)) hx hb dX4_hindrance_37 (by decide) ?_
        rw [hQ]
        exact zz_iret X G hr hlk dX4_hindrance_38 h
      have h := (zz_br h).2 c7
      refine lv_iconst (v := (0 : Int32)) hx hb dX4_hindrance_33 (by decide) ?_
      refine lv_goto (tgt := 38) hx hb dX4_hindrance_34 (by decide) ?_
      rw [hQ]
      exact zz_iret X G hr hlk dX4_hindrance_38 h
    have h := (zz_br h).2 c4
    refine lv_iconst (v := (3 : Int32)) hx hb dX4_hindrance_17 (by decide) ?_
    rw [hQ]
    exact zz_iret X G hr hlk dX4_hindrance_18 h
  have h := (zz_br h).2 c2
  refine lv_iconst (v := (1 : Int32)) hx hb dX4_hindrance_7 (by decide) ?_
  rw [hQ]
  exact zz_iret X G hr hlk dX4_hindrance_8 h
set_option maxHeartbeats 4000000 in
set_option maxRecDepth 100000 in
theorem c_X4_hasRun (l : Launch) (D : va_G) (ad : Nat → Nat) (cA : Nat → ClassId) {r0 : Nat} (t_r0 : zty r0 = 4) {a1 : Int32} {a2 : Int32} {μ : zM} {r : Int32} {μ' : zM} (h : f_X4_hasRun r0 a1 a2 μ = some (r, μ')) : zMet true D ad cA l yX4_hasRun cX4_hasRun 3 (some .boolean) ({ frames := 1, cells := 0, slots := 0, locals := 22 } : Room) [.ref (ad r0), .int a1, .int a2] μ (zQi true D ad cA r μ') := by
  refine zMet_of "ButlerWeather$Sheet" ⟨by decide, rfl⟩ (Nat.le_of_ble_eq_true rfl) ?_
  intro p e s m args below meth c X G hr hlk ls hl
  have hl : lv_has ls 3 [(0, .ref (ad r0)), (1, .int a1), (2, .int a2)] := hl
  obtain ⟨hx, hb, hml, hown, hts, -, -, -⟩ := id X
  obtain ⟨Q, hQ⟩ : ∃ Q, Q = MQ below (zQi true D ad cA r μ') args s 0 0 (zA true ad) := ⟨_, rfl⟩
  rw [← hQ]
  unfold f_X4_hasRun at h
  refine lv_iload_n hx hb dX4_hasRun_0 rfl (lv_at hl 2 rfl) ?_
  refine lv_if_lt (tgt := 30) hx hb dX4_hasRun_1 (by decide) (fun c1 => ?_) (fun c1 => ?_)
  · have h := (zz_br h).1 c1
    refine lv_iconst (v := (0 : Int32)) hx hb dX4_hasRun_30 (by decide) ?_
    rw [hQ]
    exact zz_zret X G hr hlk dX4_hasRun_31 h
  have h := (zz_br h).2 c1
  refine lv_iload_n hx hb dX4_hasRun_4 rfl (lv_at hl 1 rfl) ?_
  refine lv_iconst (v := (0 : Int32)) hx hb dX4_hasRun_5 (by decide) ?_
  refine lv_aload_n hx hb dX4_hasRun_6 rfl (lv_at hl 0 rfl) ?_
  refine zz_geti X G fi_4_1 t_r0 kw_161 dX4_hasRun_7 h (fun x2 h => ?_)
  refine zz_ci (rest := []) G h (fun r μ1 hf => zz_runSN X G cs_X6_within nw_X4_26 (c_X6_within l D ad cA  hf) ⟨rfl, rfl, Nat.le_of_ble_eq_true rfl, Nat.le_of_ble_eq_true rfl⟩ rfl rfl hl.1 (Nat.le_of_ble_eq_true rfl) dX4_hasRun_10) (fun x3 μ H locs G h => ?_)
  refine lv_if_eq (tgt := 30) hx hb dX4_hasRun_13 (by decide) (fun c4 => ?_) (fun c4 => ?_)
  · have h := (zz_br h).1 c4
    refine lv_iconst (v := (0 : Int32)) hx hb dX4_hasRun_30 (by decide) ?_
    rw [hQ]
    exact zz_zret X G hr hlk dX4_hasRun_31 h
  have h := (zz_br h).2 c4
  refine lv_iload_n hx hb dX4_hasRun_16 rfl (lv_at hl 2 rfl) ?_
  refine lv_aload_n hx hb dX4_hasRun_17 rfl (lv_at hl 0 rfl) ?_
  refine zz_geti X G fi_4_1 t_r0 kw_161 dX4_hasRun_18 h (fun x5 h => ?_)
  refine lv_iload_n hx hb dX4_hasRun_21 rfl (lv_at hl 1 rfl) ?_
  refine lv_isub hx hb dX4_hasRun_22 ?_
  refine lv_icmp_gt (tgt := 30) hx hb dX4_hasRun_23 (by decide) (fun c6 => ?_) (fun c6 => ?_)
  · have h := (zz_br h).1 c6
    refine lv_iconst (v := (0 : Int32)) hx hb dX4_hasRun_30 (by decide) ?_
    rw [hQ]
    exact zz_zret X G hr hlk dX4_hasRun_31 h
  have h := (zz_br h).2 c6
  refine lv_iconst (v := (1 : Int32)) hx hb dX4_hasRun_26 (by decide) ?_
  refine lv_goto (tgt := 31) hx hb dX4_hasRun_27 (by decide) ?_
  rw [hQ]
  exact zz_zret X G hr hlk dX4_hasRun_31 h
set_option maxHeartbeats 4000000 in
set_option maxRecDepth 100000 in
theorem c_X4_store (l : Launch) (D : va_G) (ad : Nat → Nat) (cA : Nat → ClassId) {r0 : Nat} (t_r0 : zty r0 = 4) {a1 : Int32} {a2 : Int32} {μ : zM} {r : Unit} {μ' : zM} (h : f_X4_store r0 a1 a2 μ = some (r, μ')) : zMet true D ad cA l yX4_store cX4_store 3 none ({ frames := 1, cells := 0, slots := 0, locals := 22 } : Room) [.ref (ad r0), .int a1, .int a2] μ (zQv true D ad cA r μ') := by
  refine zMet_of "ButlerWeather$Sheet" ⟨by decide, rfl⟩ (Nat.le_of_ble_eq_true rfl) ?_
  intro p e s m args below meth c X G hr hlk ls hl
  have hl : lv_has ls 3 [(0, .ref (ad r0)), (1, .int a1), (2, .int a2)] := hl
  obtain ⟨hx, hb, hml, hown, hts, -, -, -⟩ := id X
  obtain ⟨Q, hQ⟩ : ∃ Q, Q = MQ below (zQv true D ad cA r μ') args s 0 0 (zA true ad) := ⟨_, rfl⟩
  rw [← hQ]
  unfold f_X4_store at h
  refine lv_iload_n hx hb dX4_store_0 rfl (lv_at hl 1 rfl) ?_
  refine lv_iconst (v := (0 : Int32)) hx hb dX4_store_1 (by decide) ?_
  refine lv_aload_n hx hb dX4_store_2 rfl (lv_at hl 0 rfl) ?_
  refine zz_geti X G fi_4_1 t_r0 kw_161 dX4_store_3 h (fun x1 h => ?_)
  refine lv_iconst (v := (1 : Int32)) hx hb dX4_store_6 (by decide) ?_
  refine lv_isub hx hb dX4_store_7 ?_
  refine zz_ci (rest := []) G h (fun r μ1 hf => zz_runSN X G cs_X6_within nw_X4_26 (c_X6_within l D ad cA  hf) ⟨rfl, rfl, Nat.le_of_ble_eq_true rfl, Nat.le_of_ble_eq_true rfl⟩ rfl rfl hl.1 (Nat.le_of_ble_eq_true rfl) dX4_store_8) (fun x2 μ H locs G h => ?_)
  refine lv_if_eq (tgt := 46) hx hb dX4_store_11 (by decide) (fun c3 => ?_) (fun c3 => ?_)
  · have h := (zz_br h).1 c3
    rw [hQ]
    exact zz_vret X G hr hlk dX4_store_46 h
  have h := (zz_br h).2 c3
  refine lv_aload_n hx hb dX4_store_14 rfl (lv_at hl 0 rfl) ?_
  refine zz_getr X G fr_4_2 t_r0 (rs_4_2 t_r0) kw_163 dX4_store_15 ?_
  refine lv_iload_n hx hb dX4_store_18 rfl (lv_at hl 1 rfl) ?_
  refine lv_aload_n hx hb dX4_store_19 rfl (lv_at hl 0 rfl) ?_
  refine zz_geti X G fi_4_0 t_r0 kw_159 dX4_store_20 h (fun x4 h => ?_)
  refine lv_if_ne (tgt := 31) hx hb dX4_store_23 (by decide) (fun c5 => ?_) (fun c5 => ?_)
  · have h := (zz_br h).1 c5
    refine lv_aload_n hx hb dX4_store_31 rfl (lv_at hl 0 rfl) ?_
    refine zz_geti X G fi_4_0 t_r0 kw_159 dX4_store_32 h (fun x6 h => ?_)
    refine lv_iconst (v := (1 : Int32)) hx hb dX4_store_35 (by decide) ?_
    refine lv_icmp_ne (tgt := 44) hx hb dX4_store_36 (by decide) (fun c7 => ?_) (fun c7 => ?_)
    · have h := (zz_br h).1 c7
      refine lv_iload_n hx hb dX4_store_44 rfl (lv_at hl 2 rfl) ?_
      refine zz_iast X G ia_10 (ft_4_2 t_r0) dX4_store_45 h (fun μ H locs G h => ?_)
      rw [hQ]
      exact zz_vret X G hr hlk dX4_store_46 h
    have h := (zz_br h).2 (fun q => q c7)
    refine lv_iload_n hx hb dX4_store_39 rfl (lv_at hl 2 rfl) ?_
    refine lv_i2s hx hb dX4_store_40 rfl ?_
    refine lv_goto (tgt := 45) hx hb dX4_store_41 (by decide) ?_
    refine zz_iast X G ia_10 (ft_4_2 t_r0) dX4_store_45 h (fun μ H locs G h => ?_)
    rw [hQ]
    exact zz_vret X G hr hlk dX4_store_46 h
  have h := (zz_br h).2 (fun q => q c5)
  refine lv_iload_n hx hb dX4_store_26 rfl (lv_at hl 2 rfl) ?_
  refine lv_i2b hx hb dX4_store_27 rfl ?_
  refine lv_goto (tgt := 45) hx hb dX4_store_28 (by decide) ?_
  refine zz_iast X G ia_10 (ft_4_2 t_r0) dX4_store_45 h (fun μ H locs G h => ?_)
  rw [hQ]
  exact zz_vret X G hr hlk dX4_store_46 h
set_option maxHeartbeats 4000000 in
set_option maxRecDepth 100000 in
theorem c_X5_hasRoom (l : Launch) (D : va_G) (ad : Nat → Nat) (cA : Nat → ClassId) {r0 : Nat} (t_r0 : zty r0 = 5) {μ : zM} {r : Int32} {μ' : zM} (h : f_X5_hasRoom r0 μ = some (r, μ')) : zMet true D ad cA l yX5_hasRoom cX5_hasRoom 1 (some .boolean) ({ frames := 0, cells := 0, slots := 0, locals := 0 } : Room) [.ref (ad r0)] μ (zQi true D ad cA r μ') := by
  refine zMet_of "ButlerWeather$Text" ⟨by decide, rfl⟩ (Nat.le_of_ble_eq_true rfl) ?_
  intro p e s m args below meth c X G hr hlk ls hl
  have hl : lv_has ls 1 [(0, .ref (ad r0))] := hl
  obtain ⟨hx, hb, hml, hown, hts, -, -, -⟩ := id X
  obtain ⟨Q, hQ⟩ : ∃ Q, Q = MQ below (zQi true D ad cA r μ') args s 0 0 (zA true ad) := ⟨_, rfl⟩
  rw [← hQ]
  unfold f_X5_hasRoom at h
  refine lv_aload_n hx hb dX5_hasRoom_0 rfl (lv_at hl 0 rfl) ?_
  refine zz_geti X G fi_5_3 t_r0 kw_103 dX5_hasRoom_1 h (fun x1 h => ?_)
  refine lv_aload_n hx hb dX5_hasRoom_4 rfl (lv_at hl 0 rfl) ?_
  refine zz_getr X G fr_5_2 t_r0 (rs_5_2 t_r0) kw_102 dX5_hasRoom_5 ?_
  refine zz_alen X G ia_10 (ft_5_2 t_r0) dX5_hasRoom_8 ?_
  refine lv_icmp_ge (tgt := 16) hx hb dX5_hasRoom_9 (by decide) (fun c2 => ?_) (fun c2 => ?_)
  · have h := (zz_br h).1 c2
    refine lv_iconst (v := (0 : Int32)) hx hb dX5_hasRoom_16 (by decide) ?_
    rw [hQ]
    exact zz_zret X G hr hlk dX5_hasRoom_17 h
  have h := (zz_br h).2 c2
  refine lv_iconst (v := (1 : Int32)) hx hb dX5_hasRoom_12 (by decide) ?_
  refine lv_goto (tgt := 17) hx hb dX5_hasRoom_13 (by decide) ?_
  rw [hQ]
  exact zz_zret X G hr hlk dX5_hasRoom_17 h
set_option maxHeartbeats 4000000 in
set_option maxRecDepth 100000 in
theorem c_X5_append (l : Launch) (D : va_G) (ad : Nat → Nat) (cA : Nat → ClassId) {r0 : Nat} (t_r0 : zty r0 = 5) {a1 : Int32} {μ : zM} {r : Int32} {μ' : zM} (h : f_X5_append r0 a1 μ = some (r, μ')) : zMet true D ad cA l yX5_append cX5_append 2 (some .int) ({ frames := 1, cells := 0, slots := 0, locals := 20 } : Room) [.ref (ad r0), .int a1] μ (zQi true D ad cA r μ') := by
  refine zMet_of "ButlerWeather$Text" ⟨by decide, rfl⟩ (Nat.le_of_ble_eq_true rfl) ?_
  intro p e s m args below meth c X G hr hlk ls hl
  have hl : lv_has ls 2 [(0, .ref (ad r0)), (1, .int a1)] := hl
  obtain ⟨hx, hb, hml, hown, hts, -, -, -⟩ := id X
  obtain ⟨Q, hQ⟩ : ∃ Q, Q = MQ below (zQi true D ad cA r μ') args s 0 0 (zA true ad) := ⟨_, rfl⟩
  rw [← hQ]
  unfold f_X5_append at h
  refine lv_aload_n hx hb dX5_append_0 rfl (lv_at hl 0 rfl) ?_
  refine zz_ci (rest := []) G h (fun r μ1 hf => zz_runV X G rc_5 t_r0 cv_X5_hasRoom kw_300 (c_X5_hasRoom l D ad cA t_r0 hf) ⟨rfl, rfl, Nat.le_of_ble_eq_true rfl, Nat.le_of_ble_eq_true rfl⟩ rfl rfl hl.1 (Nat.le_of_ble_eq_true rfl) dX5_append_1) (fun x1 μ H locs G h => ?_)
  refine lv_if_eq (tgt := 27) hx hb dX5_append_4 (by decide) (fun c2 => ?_) (fun c2 => ?_)
  · have h := (zz_br h).1 c2
    refine lv_aload_n hx hb dX5_append_27 rfl (lv_at hl 0 rfl) ?_
    refine zz_geti X G fi_5_3 t_r0 kw_103 dX5_append_28 h (fun x3 h => ?_)
    rw [hQ]
    exact zz_iret X G hr hlk dX5_append_31 h
  have h := (zz_br h).2 c2
  refine lv_aload_n hx hb dX5_append_7 rfl (lv_at hl 0 rfl) ?_
  refine zz_getr X G fr_5_2 t_r0 (rs_5_2 t_r0) kw_102 dX5_append_8 ?_
  refine lv_aload_n hx hb dX5_append_11 rfl (lv_at hl 0 rfl) ?_
  refine zz_geti X G fi_5_3 t_r0 kw_103 dX5_append_12 h (fun x4 h => ?_)
  refine lv_iload_n hx hb dX5_append_15 rfl (lv_at hl 1 rfl) ?_
  refine zz_iast X G ia_10 (ft_5_2 t_r0) dX5_append_16 h (fun μ H locs G h => ?_)
  refine lv_aload_n hx hb dX5_append_17 rfl (lv_at hl 0 rfl) ?_
  refine lv_dup hx hb dX5_append_18 rfl ?_
  refine zz_geti X G fi_5_3 t_r0 kw_103 dX5_append_19 h (fun x5 h => ?_)
  refine lv_iconst (v := (1 : Int32)) hx hb dX5_append_22 (by decide) ?_
  refine lv_iadd hx hb dX5_append_23 ?_
  refine zz_puti X G fp_5_3 t_r0 kw_103 rfl rfl dX5_append_24 h (fun μ H locs G h => ?_)
  refine lv_aload_n hx hb dX5_append_27 rfl (lv_at hl 0 rfl) ?_
  refine zz_geti X G fi_5_3 t_r0 kw_103 dX5_append_28 h (fun x6 h => ?_)
  rw [hQ]
  exact zz_iret X G hr hlk dX5_append_31 h
set_option maxHeartbeats 4000000 in
set_option maxRecDepth 100000 in
theorem c_X5_clear (l : Launch) (D : va_G) (ad : Nat → Nat) (cA : Nat → ClassId) {r0 : Nat} (t_r0 : zty r0 = 5) {μ : zM} {r : Int32} {μ' : zM} (h : f_X5_clear r0 μ = some (r, μ')) : zMet true D ad cA l yX5_clear cX5_clear 2 (some .int) ({ frames := 0, cells := 0, slots := 0, locals := 0 } : Room) [.ref (ad r0)] μ (zQi true D ad cA r μ') := by
  refine zMet_of "ButlerWeather$Text" ⟨by decide, rfl⟩ (Nat.le_of_ble_eq_true rfl) ?_
  intro p e s m args below meth c X G hr hlk ls hl
  have hl : lv_has ls 2 [(0, .ref (ad r0))] := hl
  obtain ⟨hx, hb, hml, hown, hts, -, -, -⟩ := id X
  obtain ⟨Q, hQ⟩ : ∃ Q, Q = MQ below (zQi true D ad cA r μ') args s 0 0 (zA true ad) := ⟨_, rfl⟩
  rw [← hQ]
  unfold f_X5_clear at h
  refine lv_aload_n hx hb dX5_clear_0 rfl (lv_at hl 0 rfl) ?_
  refine zz_geti X G fi_5_3 t_r0 kw_103 dX5_clear_1 h (fun x1 h => ?_)
  refine lv_istore_n (lv' := [(1, .int x1), (0, .ref (ad r0))]) hx hb dX5_clear_4 rfl hl (by decide) rfl (fun ls hl => ?_)
  refine lv_aload_n hx hb dX5_clear_5 rfl (lv_at hl 1 rfl) ?_
  refine lv_iconst (v := (0 : Int32)) hx hb dX5_clear_6 (by decide) ?_
  refine zz_puti X G fp_5_3 t_r0 kw_103 rfl rfl dX5_clear_7 h (fun μ H locs G h => ?_)
  refine lv_iload_n hx hb dX5_clear_10 rfl (lv_at hl 0 rfl) ?_
  rw [hQ]
  exact zz_iret X G hr hlk dX5_clear_11 h
set_option maxHeartbeats 4000000 in
set_option maxRecDepth 100000 in
theorem c_X5_dropLast (l : Launch) (D : va_G) (ad : Nat → Nat) (cA : Nat → ClassId) {r0 : Nat} (t_r0 : zty r0 = 5) {μ : zM} {r : Int32} {μ' : zM} (h : f_X5_dropLast r0 μ = some (r, μ')) : zMet true D ad cA l yX5_dropLast cX5_dropLast 1 (some .int) ({ frames := 0, cells := 0, slots := 0, locals := 0 } : Room) [.ref (ad r0)] μ (zQi true D ad cA r μ') := by
  refine zMet_of "ButlerWeather$Text" ⟨by decide, rfl⟩ (Nat.le_of_ble_eq_true rfl) ?_
  intro p e s m args below meth c X G hr hlk ls hl
  have hl : lv_has ls 1 [(0, .ref (ad r0))] := hl
  obtain ⟨hx, hb, hml, hown, hts, -, -, -⟩ := id X
  obtain ⟨Q, hQ⟩ : ∃ Q, Q = MQ below (zQi true D ad cA r μ') args s 0 0 (zA true ad) := ⟨_, rfl⟩
  rw [← hQ]
  unfold f_X5_dropLast at h
  refine lv_aload_n hx hb dX5_dropLast_0 rfl (lv_at hl 0 rfl) ?_
  refine zz_geti X G fi_5_3 t_r0 kw_103 dX5_dropLast_1 h (fun x1 h => ?_)
  refine lv_if_le (tgt := 17) hx hb dX5_dropLast_4 (by decide) (fun c2 => ?_) (fun c2 => ?_)
  · have h := (zz_br h).1 c2
    refine lv_aload_n hx hb dX5_dropLast_17 rfl (lv_at hl 0 rfl) ?_
    refine zz_geti X G fi_5_3 t_r0 kw_103 dX5_dropLast_18 h (fun x3 h => ?_)
    rw [hQ]
    exact zz_iret X G hr hlk dX5_dropLast_21 h
  have h := (zz_br h).2 c2
  refine lv_aload_n hx hb dX5_dropLast_7 rfl (lv_at hl 0 rfl) ?_
  refine lv_dup hx hb dX5_dropLast_8 rfl ?_
  refine zz_geti X G fi_5_3 t_r0 kw_103 dX5_dropLast_9 h (fun x4 h => ?_)
  refine lv_iconst (v := (1 : Int32)) hx hb dX5_dropLast_12 (by decide) ?_
  refine lv_isub hx hb dX5_dropLast_13 ?_
  refine zz_puti X G fp_5_3 t_r0 kw_103 rfl rfl dX5_dropLast_14 h (fun μ H locs G h => ?_)
  refine lv_aload_n hx hb dX5_dropLast_17 rfl (lv_at hl 0 rfl) ?_
  refine zz_geti X G fi_5_3 t_r0 kw_103 dX5_dropLast_18 h (fun x5 h => ?_)
  rw [hQ]
  exact zz_iret X G hr hlk dX5_dropLast_21 h
