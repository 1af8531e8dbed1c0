-- CONTRACTS, by program
set_option maxHeartbeats 4000000 in
set_option maxRecDepth 100000 in
theorem w_X6_digestDays_L15 {p : Program} {l : Launch} {e : Env} {s : State} {m : MethodId} {args : Array Value} {below : List Frame} {meth : Method} {c : Code} {Q : State → Prop} {D : va_G} {ad : Nat → Nat} {cA : Nat → ClassId} {r : Int64} {μ' : zM} (X : zX true D ad cA p s m args c cX6_digestDays "ButlerWeather" 7) (hQ : Q = MQ below (zQl true D ad cA r μ') args s 0 0 (zA true ad)) (hr : meth.sig.returnType = (some .long)) (hlk : meth.locks = false) {v5 : Int32} {kx : Int64 → zM → Option (Int64 × zM)} (HX : ∀ (w3 : Int64) (μ : zM) (H : Heap) (locs : List Loc) (ls : Array Slot), lv_has ls 7 [(0, .ref (ad 0)), (3, .long w3), (5, .int v5)] → zG true D ad cA s μ H locs → kx w3 μ = some (r, μ') → W p l e ({ frames := 5, cells := 0, slots := 0, locals := 117 } : Room) s m args below meth c H locs 0 0 Q (F0 m 43 ls [])) : ∀ (n : Nat) (v3 : Int64) (v6 : Int32) (μ : zM) (H : Heap) (locs : List Loc) (ls : Array Slot), lv_has ls 7 [(0, .ref (ad 0)), (3, .long v3), (5, .int v5), (6, .int v6)] → zG true D ad cA s μ H locs → f_X6_digestDays_L15 v5 kx n v3 v6 μ = some (r, μ') → W p l e ({ frames := 5, cells := 0, slots := 0, locals := 117 } : Room) s m args below meth c H locs 0 0 Q (F0 m 15 ls []) := by
  obtain ⟨hx, hb, hml, hown, hts, -, -, -⟩ := id X
  intro n
  induction n with
  | zero =>
    intro v3 v6 μ H locs ls hl G h
    cases (show (none : Option (Int64 × zM)) = some (r, μ') from h)
  | succ n ih =>
    intro v3 v6 μ H locs ls hl G h
    rw [f_X6_digestDays_L15] at h
    refine lv_iload hx hb dX6_digestDays_15 (lv_at hl 3 rfl) ?_
    refine lv_iconst (v := (2 : Int32)) hx hb dX6_digestDays_17 (by decide) ?_
    refine lv_icmp_gt (tgt := 43) hx hb dX6_digestDays_18 (by decide) (fun c2 => ?_) (fun c2 => ?_)
    · have h := (zz_br h).1 c2
      exact HX v3 μ _ _ _ (lv_sub hl [0, 1, 2] rfl) G h
    have h := (zz_br h).2 c2
    refine lv_ldc2 hx hb hown (hts _ kw_741) dX6_digestDays_21 ?_
    refine lv_lload_n hx hb dX6_digestDays_24 rfl (lv_at hl 1 rfl) ?_
    refine lv_lmul hx hb dX6_digestDays_25 ?_
    refine lv_aload_n hx hb dX6_digestDays_26 rfl (lv_at hl 0 rfl) ?_
    refine lv_iload hx hb dX6_digestDays_27 (lv_at hl 2 rfl) ?_
    refine lv_iload hx hb dX6_digestDays_29 (lv_at hl 3 rfl) ?_
    refine zz_ci (rest := [.long ((31 : Int64) * v3)]) G h (fun r μ1 hf => zz_runV X G rc_6 tl_0 cv_X6_door kw_765 (c_X6_door l D ad cA  hf) ⟨rfl, rfl, Nat.le_of_ble_eq_true rfl, Nat.le_of_ble_eq_true rfl⟩ rfl rfl hl.1 (Nat.le_of_ble_eq_true rfl) dX6_digestDays_31) (fun x3 μ H locs G h => ?_)
    refine lv_i2l hx hb dX6_digestDays_34 rfl ?_
    refine lv_ladd hx hb dX6_digestDays_35 ?_
    refine zz_vj h (fun x4 h => ?_)
    refine lv_lstore_n (lv' := [(3, .long x4), (0, .ref (ad 0)), (5, .int v5), (6, .int v6)]) hx hb dX6_digestDays_36 rfl hl (by decide) rfl (fun ls hl => ?_)
    obtain ⟨x5, ex5, h⟩ := zz_let h
    refine lv_iinc (v := x5) (lv' := [(6, .int x5), (3, .long x4), (0, .ref (ad 0)), (5, .int v5)]) hx hb dX6_digestDays_37 hl (k := 3) rfl (by rw [← ex5]; rfl) (by decide) rfl (fun ls hl => ?_)
    refine lv_goto (tgt := 15) hx hb dX6_digestDays_40 (by decide) ?_
    exact ih x4 x5 μ _ _ _ (lv_sub hl [2, 1, 3, 0] rfl) G h
set_option maxHeartbeats 4000000 in
set_option maxRecDepth 100000 in
theorem w_X6_digestDays_L5 {p : Program} {l : Launch} {e : Env} {s : State} {m : MethodId} {args : Array Value} {below : List Frame} {meth : Method} {c : Code} {Q : State → Prop} {D : va_G} {ad : Nat → Nat} {cA : Nat → ClassId} {r : Int64} {μ' : zM} (X : zX true D ad cA p s m args c cX6_digestDays "ButlerWeather" 7) (hQ : Q = MQ below (zQl true D ad cA r μ') args s 0 0 (zA true ad)) (hr : meth.sig.returnType = (some .long)) (hlk : meth.locks = false)  {kx : Int64 → zM → Option (Int64 × zM)} (HX : ∀ (w3 : Int64) (μ : zM) (H : Heap) (locs : List Loc) (ls : Array Slot), lv_has ls 7 [(3, .long w3)] → zG true D ad cA s μ H locs → kx w3 μ = some (r, μ') → W p l e ({ frames := 5, cells := 0, slots := 0, locals := 117 } : Room) s m args below meth c H locs 0 0 Q (F0 m 63 ls [])) : ∀ (n : Nat) (v3 : Int64) (v5 : Int32) (μ : zM) (H : Heap) (locs : List Loc) (ls : Array Slot), lv_has ls 7 [(0, .ref (ad 0)), (3, .long v3), (5, .int v5)] → zG true D ad cA s μ H locs → f_X6_digestDays_L5 kx n v3 v5 μ = some (r, μ') → W p l e ({ frames := 5, cells := 0, slots := 0, locals := 117 } : Room) s m args below meth c H locs 0 0 Q (F0 m 5 ls []) := by
  obtain ⟨hx, hb, hml, hown, hts, -, -, -⟩ := id X
  intro n
  induction n with
  | zero =>
    intro v3 v5 μ H locs ls hl G h
    cases (show (none : Option (Int64 × zM)) = some (r, μ') from h)
  | succ n ih =>
    intro v3 v5 μ H locs ls hl G h
    rw [f_X6_digestDays_L5] at h
    refine lv_iload hx hb dX6_digestDays_5 (lv_at hl 2 rfl) ?_
    refine lv_bipush (v := (24 : Int32)) hx hb dX6_digestDays_7 (by decide) ?_
    refine lv_icmp_ge (tgt := 63) hx hb dX6_digestDays_9 (by decide) (fun c1 => ?_) (fun c1 => ?_)
    · have h := (zz_br h).1 c1
      exact HX v3 μ _ _ _ (lv_sub hl [1] rfl) G h
    have h := (zz_br h).2 c1
    refine lv_iconst (v := (0 : Int32)) hx hb dX6_digestDays_12 (by decide) ?_
    refine lv_istore (lv' := [(6, .int (0 : Int32)), (0, .ref (ad 0)), (3, .long v3), (5, .int v5)]) hx hb dX6_digestDays_13 hl (by decide) rfl (fun ls hl => ?_)
    refine w_X6_digestDays_L15 X hQ hr hlk  (fun x6 μ H locs ls hl G h => ?_) 400 v3 (0 : Int32) μ _ _ _ (lv_sub hl [1, 2, 3, 0] rfl) G h
    refine lv_ldc2 hx hb hown (hts _ kw_741) dX6_digestDays_43 ?_
    refine lv_lload_n hx hb dX6_digestDays_46 rfl (lv_at hl 1 rfl) ?_
    refine lv_lmul hx hb dX6_digestDays_47 ?_
    refine lv_aload_n hx hb dX6_digestDays_48 rfl (lv_at hl 0 rfl) ?_
    refine lv_iload hx hb dX6_digestDays_49 (lv_at hl 2 rfl) ?_
    refine zz_ci (rest := [.long ((31 : Int64) * x6)]) G h (fun r μ1 hf => zz_runV X G rc_6 tl_0 cv_X6_warmth kw_766 (c_X6_warmth l D ad cA  hf) ⟨rfl, rfl, Nat.le_of_ble_eq_true rfl, Nat.le_of_ble_eq_true rfl⟩ rfl rfl hl.1 (Nat.le_of_ble_eq_true rfl) dX6_digestDays_51) (fun x7 μ H locs G h => ?_)
    refine lv_i2l hx hb dX6_digestDays_54 rfl ?_
    refine lv_ladd hx hb dX6_digestDays_55 ?_
    refine zz_vj h (fun x8 h => ?_)
    refine lv_lstore_n (lv' := [(3, .long x8), (0, .ref (ad 0)), (5, .int v5)]) hx hb dX6_digestDays_56 rfl hl (by decide) rfl (fun ls hl => ?_)
    obtain ⟨x9, ex9, h⟩ := zz_let h
    refine lv_iinc (v := x9) (lv' := [(5, .int x9), (3, .long x8), (0, .ref (ad 0))]) hx hb dX6_digestDays_57 hl (k := 2) rfl (by rw [← ex9]; rfl) (by decide) rfl (fun ls hl => ?_)
    refine lv_goto (tgt := 5) hx hb dX6_digestDays_60 (by decide) ?_
    exact ih x8 x9 μ _ _ _ (lv_sub hl [2, 1, 0] rfl) G h
set_option maxHeartbeats 4000000 in
set_option maxRecDepth 100000 in
theorem c_X6_digestDays (l : Launch) (D : va_G) (ad : Nat → Nat) (cA : Nat → ClassId) {a1 : Int64} {μ : zM} {r : Int64} {μ' : zM} (h : f_X6_digestDays a1 μ = some (r, μ')) : zMet true D ad cA l yX6_digestDays cX6_digestDays 7 (some .long) ({ frames := 5, cells := 0, slots := 0, locals := 117 } : Room) [.ref (ad 0), .long a1] μ (zQl true D ad cA r μ') := by
  refine zMet_of "ButlerWeather" ⟨by decide, rfl⟩ (Nat.le_of_ble_eq_true rfl) ?_
  intro p e s m args below meth c X G hr hlk ls hl
  have hl : lv_has ls 7 [(0, .ref (ad 0)), (1, .long a1)] := hl
  obtain ⟨hx, hb, hml, hown, hts, -, -, -⟩ := id X
  obtain ⟨Q, hQ⟩ : ∃ Q, Q = MQ below (zQl true D ad cA r μ') args s 0 0 (zA true ad) := ⟨_, rfl⟩
  rw [← hQ]
  unfold f_X6_digestDays at h
  refine lv_lload_n hx hb dX6_digestDays_0 rfl (lv_at hl 1 rfl) ?_
  refine lv_lstore_n (lv' := [(3, .long a1), (0, .ref (ad 0)), (1, .long a1)]) hx hb dX6_digestDays_1 rfl hl (by decide) rfl (fun ls hl => ?_)
  refine lv_iconst (v := (0 : Int32)) hx hb dX6_digestDays_2 (by decide) ?_
  refine lv_istore (lv' := [(5, .int (0 : Int32)), (3, .long a1), (0, .ref (ad 0)), (1, .long a1)]) hx hb dX6_digestDays_3 hl (by decide) rfl (fun ls hl => ?_)
  refine w_X6_digestDays_L5 X hQ hr hlk  (fun x10 μ H locs ls hl G h => ?_) 400 a1 (0 : Int32) μ _ _ _ (lv_sub hl [2, 1, 0] rfl) G h
  refine lv_lload_n hx hb dX6_digestDays_63 rfl (lv_at hl 0 rfl) ?_
  rw [hQ]
  exact zz_lret X G hr hlk dX6_digestDays_64 h
set_option maxHeartbeats 4000000 in
set_option maxRecDepth 100000 in
theorem w_X6_digest_L6 {p : Program} {l : Launch} {e : Env} {s : State} {m : MethodId} {args : Array Value} {below : List Frame} {meth : Method} {c : Code} {Q : State → Prop} {D : va_G} {ad : Nat → Nat} {cA : Nat → ClassId} {r : Int64} {μ' : zM} (X : zX true D ad cA p s m args c cX6_digest "ButlerWeather" 4) (hQ : Q = MQ below (zQl true D ad cA r μ') args s 0 0 (zA true ad)) (hr : meth.sig.returnType = (some .long)) (hlk : meth.locks = false)  {kx : Int64 → zM → Option (Int64 × zM)} (HX : ∀ (w1 : Int64) (μ : zM) (H : Heap) (locs : List Loc) (ls : Array Slot), lv_has ls 4 [(0, .ref (ad 0)), (1, .long w1)] → zG true D ad cA s μ H locs → kx w1 μ = some (r, μ') → W p l e ({ frames := 6, cells := 0, slots := 0, locals := 153 } : Room) s m args below meth c H locs 0 0 Q (F0 m 31 ls [])) : ∀ (n : Nat) (v1 : Int64) (v3 : Int32) (μ : zM) (H : Heap) (locs : List Loc) (ls : Array Slot), lv_has ls 4 [(0, .ref (ad 0)), (1, .long v1), (3, .int v3)] → zG true D ad cA s μ H locs → f_X6_digest_L6 kx n v1 v3 μ = some (r, μ') → W p l e ({ frames := 6, cells := 0, slots := 0, locals := 153 } : Room) s m args below meth c H locs 0 0 Q (F0 m 6 ls []) := by
  obtain ⟨hx, hb, hml, hown, hts, -, -, -⟩ := id X
  intro n
  induction n with
  | zero =>
    intro v1 v3 μ H locs ls hl G h
    cases (show (none : Option (Int64 × zM)) = some (r, μ') from h)
  | succ n ih =>
    intro v1 v3 μ H locs ls hl G h
    rw [f_X6_digest_L6] at h
    refine lv_iload_n hx hb dX6_digest_6 rfl (lv_at hl 2 rfl) ?_
    refine lv_bipush (v := (7 : Int32)) hx hb dX6_digest_7 (by decide) ?_
    refine lv_icmp_gt (tgt := 31) hx hb dX6_digest_9 (by decide) (fun c1 => ?_) (fun c1 => ?_)
    · have h := (zz_br h).1 c1
      exact HX v1 μ _ _ _ (lv_sub hl [0, 1] rfl) G h
    have h := (zz_br h).2 c1
    refine lv_ldc2 hx hb hown (hts _ kw_741) dX6_digest_12 ?_
    refine lv_lload_n hx hb dX6_digest_15 rfl (lv_at hl 1 rfl) ?_
    refine lv_lmul hx hb dX6_digest_16 ?_
    refine lv_aload_n hx hb dX6_digest_17 rfl (lv_at hl 0 rfl) ?_
    refine lv_iload_n hx hb dX6_digest_18 rfl (lv_at hl 2 rfl) ?_
    refine zz_ci (rest := [.long ((31 : Int64) * v1)]) G h (fun r μ1 hf => zz_runV X G rc_6 tl_0 cv_X6_count kw_742 (c_X6_count l D ad cA  hf) ⟨rfl, rfl, Nat.le_of_ble_eq_true rfl, Nat.le_of_ble_eq_true rfl⟩ rfl rfl hl.1 (Nat.le_of_ble_eq_true rfl) dX6_digest_19) (fun x2 μ H locs G h => ?_)
    refine lv_i2l hx hb dX6_digest_22 rfl ?_
    refine lv_ladd hx hb dX6_digest_23 ?_
    refine zz_vj h (fun x3 h => ?_)
    refine lv_lstore_n (lv' := [(1, .long x3), (0, .ref (ad 0)), (3, .int v3)]) hx hb dX6_digest_24 rfl hl (by decide) rfl (fun ls hl => ?_)
    obtain ⟨x4, ex4, h⟩ := zz_let h
    refine lv_iinc (v := x4) (lv' := [(3, .int x4), (1, .long x3), (0, .ref (ad 0))]) hx hb dX6_digest_25 hl (k := 2) rfl (by rw [← ex4]; rfl) (by decide) rfl (fun ls hl => ?_)
    refine lv_goto (tgt := 6) hx hb dX6_digest_28 (by decide) ?_
    exact ih x3 x4 μ _ _ _ (lv_sub hl [2, 1, 0] rfl) G h
set_option maxHeartbeats 4000000 in
set_option maxRecDepth 100000 in
theorem c_X6_digest (l : Launch) (D : va_G) (ad : Nat → Nat) (cA : Nat → ClassId)  {μ : zM} {r : Int64} {μ' : zM} (h : f_X6_digest μ = some (r, μ')) : zMet true D ad cA l yX6_digest cX6_digest 4 (some .long) ({ frames := 6, cells := 0, slots := 0, locals := 153 } : Room) [.ref (ad 0)] μ (zQl true D ad cA r μ') := by
  refine zMet_of "ButlerWeather" ⟨by decide, rfl⟩ (Nat.le_of_ble_eq_true rfl) ?_
  intro p e s m args below meth c X G hr hlk ls hl
  have hl : lv_has ls 4 [(0, .ref (ad 0))] := hl
  obtain ⟨hx, hb, hml, hown, hts, -, -, -⟩ := id X
  obtain ⟨Q, hQ⟩ : ∃ Q, Q = MQ below (zQl true D ad cA r μ') args s 0 0 (zA true ad) := ⟨_, rfl⟩
  rw [← hQ]
  unfold f_X6_digest at h
  refine lv_ldc2 hx hb hown (hts _ kw_740) dX6_digest_0 ?_
  refine lv_lstore_n (lv' := [(1, .long (17 : Int64)), (0, .ref (ad 0))]) hx hb dX6_digest_3 rfl hl (by decide) rfl (fun ls hl => ?_)
  refine lv_iconst (v := (0 : Int32)) hx hb dX6_digest_4 (by decide) ?_
  refine lv_istore_n (lv' := [(3, .int (0 : Int32)), (1, .long (17 : Int64)), (0, .ref (ad 0))]) hx hb dX6_digest_5 rfl hl (by decide) rfl (fun ls hl => ?_)
  refine w_X6_digest_L6 X hQ hr hlk  (fun x5 μ H locs ls hl G h => ?_) 400 (17 : Int64) (0 : Int32) μ _ _ _ (lv_sub hl [2, 1, 0] rfl) G h
  refine lv_ldc2 hx hb hown (hts _ kw_741) dX6_digest_31 ?_
  refine lv_lload_n hx hb dX6_digest_34 rfl (lv_at hl 1 rfl) ?_
  refine lv_lmul hx hb dX6_digest_35 ?_
  refine lv_aload_n hx hb dX6_digest_36 rfl (lv_at hl 0 rfl) ?_
  refine lv_iconst (v := (0 : Int32)) hx hb dX6_digest_37 (by decide) ?_
  refine zz_ci (rest := [.long ((31 : Int64) * x5)]) G h (fun r μ1 hf => zz_runV X G rc_6 tl_0 cv_X6_fault kw_743 (c_X6_fault l D ad cA  hf) ⟨rfl, rfl, Nat.le_of_ble_eq_true rfl, Nat.le_of_ble_eq_true rfl⟩ rfl rfl hl.1 (Nat.le_of_ble_eq_true rfl) dX6_digest_38) (fun x6 μ H locs G h => ?_)
  refine lv_i2l hx hb dX6_digest_41 rfl ?_
  refine lv_ladd hx hb dX6_digest_42 ?_
  refine zz_vj h (fun x7 h => ?_)
  refine lv_lstore_n (lv' := [(1, .long x7), (0, .ref (ad 0))]) hx hb dX6_digest_43 rfl hl (by decide) rfl (fun ls hl => ?_)
  refine lv_ldc2 hx hb hown (hts _ kw_741) dX6_digest_44 ?_
  refine lv_lload_n hx hb dX6_digest_47 rfl (lv_at hl 0 rfl) ?_
  refine lv_lmul hx hb dX6_digest_48 ?_
  refine lv_aload_n hx hb dX6_digest_49 rfl (lv_at hl 1 rfl) ?_
  refine lv_iconst (v := (1 : Int32)) hx hb dX6_digest_50 (by decide) ?_
  refine zz_ci (rest := [.long ((31 : Int64) * x7)]) G h (fun r μ1 hf => zz_runV X G rc_6 tl_0 cv_X6_fault kw_743 (c_X6_fault l D ad cA  hf) ⟨rfl, rfl, Nat.le_of_ble_eq_true rfl, Nat.le_of_ble_eq_true rfl⟩ rfl rfl hl.1 (Nat.le_of_ble_eq_true rfl) dX6_digest_51) (fun x8 μ H locs G h => ?_)
  refine lv_i2l hx hb dX6_digest_54 rfl ?_
  refine lv_ladd hx hb dX6_digest_55 ?_
  refine zz_vj h (fun x9 h => ?_)
  refine lv_lstore_n (lv' := [(1, .long x9), (0, .ref (ad 0))]) hx hb dX6_digest_56 rfl hl (by decide) rfl (fun ls hl => ?_)
  refine lv_aload_n hx hb dX6_digest_57 rfl (lv_at hl 1 rfl) ?_
  refine lv_lload_n hx hb dX6_digest_58 rfl (lv_at hl 0 rfl) ?_
  refine zz_cj (rest := []) G h (fun r μ1 hf => zz_runV X G rc_6 tl_0 cv_X6_digestMen kw_744 (c_X6_digestMen l D ad cA  hf) ⟨rfl, rfl, Nat.le_of_ble_eq_true rfl, Nat.le_of_ble_eq_true rfl⟩ rfl rfl hl.1 (Nat.le_of_ble_eq_true rfl) dX6_digest_59) (fun x10 μ H locs G h => ?_)
  refine lv_lstore_n (lv' := [(1, .long x10), (0, .ref (ad 0))]) hx hb dX6_digest_62 rfl hl (by decide) rfl (fun ls hl => ?_)
  refine lv_aload_n hx hb dX6_digest_63 rfl (lv_at hl 1 rfl) ?_
  refine lv_lload_n hx hb dX6_digest_64 rfl (lv_at hl 0 rfl) ?_
  refine zz_cj (rest := []) G h (fun r μ1 hf => zz_runV X G rc_6 tl_0 cv_X6_digestCallers kw_750 (c_X6_digestCallers l D ad cA  hf) ⟨rfl, rfl, Nat.le_of_ble_eq_true rfl, Nat.le_of_ble_eq_true rfl⟩ rfl rfl hl.1 (Nat.le_of_ble_eq_true rfl) dX6_digest_65) (fun x11 μ H locs G h => ?_)
  refine lv_lstore_n (lv' := [(1, .long x11), (0, .ref (ad 0))]) hx hb dX6_digest_68 rfl hl (by decide) rfl (fun ls hl => ?_)
  refine lv_aload_n hx hb dX6_digest_69 rfl (lv_at hl 1 rfl) ?_
  refine lv_lload_n hx hb dX6_digest_70 rfl (lv_at hl 0 rfl) ?_
  refine zz_cj (rest := []) G h (fun r μ1 hf => zz_runV X G rc_6 tl_0 cv_X6_digestDays kw_761 (c_X6_digestDays l D ad cA  hf) ⟨rfl, rfl, Nat.le_of_ble_eq_true rfl, Nat.le_of_ble_eq_true rfl⟩ rfl rfl hl.1 (Nat.le_of_ble_eq_true rfl) dX6_digest_71) (fun x12 μ H locs G h => ?_)
  refine lv_lstore_n (lv' := [(1, .long x12), (0, .ref (ad 0))]) hx hb dX6_digest_74 rfl hl (by decide) rfl (fun ls hl => ?_)
  refine lv_ldc2 hx hb hown (hts _ kw_741) dX6_digest_75 ?_
  refine lv_lload_n hx hb dX6_digest_78 rfl (lv_at hl 0 rfl) ?_
  refine lv_lmul hx hb dX6_digest_79 ?_
  refine lv_aload_n hx hb dX6_digest_80 rfl (lv_at hl 1 rfl) ?_
  refine zz_ci (rest := [.long ((31 : Int64) * x12)]) G h (fun r μ1 hf => zz_runV X G rc_6 tl_0 cv_X6_coldest kw_767 (c_X6_coldest l D ad cA  hf) ⟨rfl, rfl, Nat.le_of_ble_eq_true rfl, Nat.le_of_ble_eq_true rfl⟩ rfl rfl hl.1 (Nat.le_of_ble_eq_true rfl) dX6_digest_81) (fun x13 μ H locs G h => ?_)
  refine lv_i2l hx hb dX6_digest_84 rfl ?_
  refine lv_ladd hx hb dX6_digest_85 ?_
  refine zz_vj h (fun x14 h => ?_)
  refine lv_lstore_n (lv' := [(1, .long x14), (0, .ref (ad 0))]) hx hb dX6_digest_86 rfl hl (by decide) rfl (fun ls hl => ?_)
  refine lv_ldc2 hx hb hown (hts _ kw_741) dX6_digest_87 ?_
  refine lv_lload_n hx hb dX6_digest_90 rfl (lv_at hl 0 rfl) ?_
  refine lv_lmul hx hb dX6_digest_91 ?_
  refine lv_aload_n hx hb dX6_digest_92 rfl (lv_at hl 1 rfl) ?_
  refine lv_iconst (v := (0 : Int32)) hx hb dX6_digest_93 (by decide) ?_
  refine zz_ci (rest := [.long ((31 : Int64) * x14)]) G h (fun r μ1 hf => zz_runV X G rc_6 tl_0 cv_X6_first kw_768 (c_X6_first l D ad cA  hf) ⟨rfl, rfl, Nat.le_of_ble_eq_true rfl, Nat.le_of_ble_eq_true rfl⟩ rfl rfl hl.1 (Nat.le_of_ble_eq_true rfl) dX6_digest_94) (fun x15 μ H locs G h => ?_)
  refine lv_i2l hx hb dX6_digest_97 rfl ?_
  refine lv_ladd hx hb dX6_digest_98 ?_
  refine zz_vj h (fun x16 h => ?_)
  refine lv_lstore_n (lv' := [(1, .long x16), (0, .ref (ad 0))]) hx hb dX6_digest_99 rfl hl (by decide) rfl (fun ls hl => ?_)
  refine lv_ldc2 hx hb hown (hts _ kw_741) dX6_digest_100 ?_
  refine lv_lload_n hx hb dX6_digest_103 rfl (lv_at hl 0 rfl) ?_
  refine lv_lmul hx hb dX6_digest_104 ?_
  refine lv_aload_n hx hb dX6_digest_105 rfl (lv_at hl 1 rfl) ?_
  refine lv_iconst (v := (1 : Int32)) hx hb dX6_digest_106 (by decide) ?_
  refine zz_ci (rest := [.long ((31 : Int64) * x16)]) G h (fun r μ1 hf => zz_runV X G rc_6 tl_0 cv_X6_first kw_768 (c_X6_first l D ad cA  hf) ⟨rfl, rfl, Nat.le_of_ble_eq_true rfl, Nat.le_of_ble_eq_true rfl⟩ rfl rfl hl.1 (Nat.le_of_ble_eq_true rfl) dX6_digest_107) (fun x17 μ H locs G h => ?_)
  refine lv_i2l hx hb dX6_digest_110 rfl ?_
  refine lv_ladd hx hb dX6_digest_111 ?_
  refine zz_vj h (fun x18 h => ?_)
  refine lv_lstore_n (lv' := [(1, .long x18), (0, .ref (ad 0))]) hx hb dX6_digest_112 rfl hl (by decide) rfl (fun ls hl => ?_)
  refine lv_ldc2 hx hb hown (hts _ kw_741) dX6_digest_113 ?_
  refine lv_lload_n hx hb dX6_digest_116 rfl (lv_at hl 0 rfl) ?_
  refine lv_lmul hx hb dX6_digest_117 ?_
  refine lv_aload_n hx hb dX6_digest_118 rfl (lv_at hl 1 rfl) ?_
  refine zz_ci (rest := [.long ((31 : Int64) * x18)]) G h (fun r μ1 hf => zz_runV X G rc_6 tl_0 cv_X6_sent kw_769 (c_X6_sent l D ad cA  hf) ⟨rfl, rfl, Nat.le_of_ble_eq_true rfl, Nat.le_of_ble_eq_true rfl⟩ rfl rfl hl.1 (Nat.le_of_ble_eq_true rfl) dX6_digest_119) (fun x19 μ H locs G h => ?_)
  refine lv_i2l hx hb dX6_digest_122 rfl ?_
  refine lv_ladd hx hb dX6_digest_123 ?_
  refine zz_vj h (fun x20 h => ?_)
  refine lv_lstore_n (lv' := [(1, .long x20), (0, .ref (ad 0))]) hx hb dX6_digest_124 rfl hl (by decide) rfl (fun ls hl => ?_)
  refine lv_ldc2 hx hb hown (hts _ kw_741) dX6_digest_125 ?_
  refine lv_lload_n hx hb dX6_digest_128 rfl (lv_at hl 0 rfl) ?_
  refine lv_lmul hx hb dX6_digest_129 ?_
  refine lv_aload_n hx hb dX6_digest_130 rfl (lv_at hl 1 rfl) ?_
  refine zz_ci (rest := [.long ((31 : Int64) * x20)]) G h (fun r μ1 hf => zz_runV X G rc_6 tl_0 cv_X6_wrong kw_770 (c_X6_wrong l D ad cA  hf) ⟨rfl, rfl, Nat.le_of_ble_eq_true rfl, Nat.le_of_ble_eq_true rfl⟩ rfl rfl hl.1 (Nat.le_of_ble_eq_true rfl) dX6_digest_131) (fun x21 μ H locs G h => ?_)
  refine lv_i2l hx hb dX6_digest_134 rfl ?_
  refine lv_ladd hx hb dX6_digest_135 ?_
  refine zz_vj h (fun x22 h => ?_)
  refine lv_lstore_n (lv' := [(1, .long x22), (0, .ref (ad 0))]) hx hb dX6_digest_136 rfl hl (by decide) rfl (fun ls hl => ?_)
  refine lv_ldc2 hx hb hown (hts _ kw_741) dX6_digest_137 ?_
  refine lv_lload_n hx hb dX6_digest_140 rfl (lv_at hl 0 rfl) ?_
  refine lv_lmul hx hb dX6_digest_141 ?_
  refine lv_aload_n hx hb dX6_digest_142 rfl (lv_at hl 1 rfl) ?_
  refine zz_ci (rest := [.long ((31 : Int64) * x22)]) G h (fun r μ1 hf => zz_runV X G rc_6 tl_0 cv_X6_sum kw_771 (c_X6_sum l D ad cA  hf) ⟨rfl, rfl, Nat.le_of_ble_eq_true rfl, Nat.le_of_ble_eq_true rfl⟩ rfl rfl hl.1 (Nat.le_of_ble_eq_true rfl) dX6_digest_143) (fun x23 μ H locs G h => ?_)
  refine lv_i2l hx hb dX6_digest_146 rfl ?_
  refine lv_ladd hx hb dX6_digest_147 ?_
  refine zz_vj h (fun x24 h => ?_)
  refine lv_lstore_n (lv' := [(1, .long x24), (0, .ref (ad 0))]) hx hb dX6_digest_148 rfl hl (by decide) rfl (fun ls hl => ?_)
  refine lv_ldc2 hx hb hown (hts _ kw_741) dX6_digest_149 ?_
  refine lv_lload_n hx hb dX6_digest_152 rfl (lv_at hl 0 rfl) ?_
  refine lv_lmul hx hb dX6_digest_153 ?_
  refine lv_aload_n hx hb dX6_digest_154 rfl (lv_at hl 1 rfl) ?_
  refine lv_bipush (v := (8 : Int32)) hx hb dX6_digest_155 (by decide) ?_
  refine lv_iconst (v := (0 : Int32)) hx hb dX6_digest_157 (by decide) ?_
  refine zz_ci (rest := [.long ((31 : Int64) * x24)]) G h (fun r μ1 hf => zz_runV X G rc_6 tl_0 cv_X6_leave kw_772 (c_X6_leave l D ad cA  hf) ⟨rfl, rfl, Nat.le_of_ble_eq_true rfl, Nat.le_of_ble_eq_true rfl⟩ rfl rfl hl.1 (Nat.le_of_ble_eq_true rfl) dX6_digest_158) (fun x25 μ H locs G h => ?_)
  refine lv_i2l hx hb dX6_digest_161 rfl ?_
  refine lv_ladd hx hb dX6_digest_162 ?_
  refine zz_vj h (fun x26 h => ?_)
  refine lv_lstore_n (lv' := [(1, .long x26), (0, .ref (ad 0))]) hx hb dX6_digest_163 rfl hl (by decide) rfl (fun ls hl => ?_)
  refine lv_ldc2 hx hb hown (hts _ kw_741) dX6_digest_164 ?_
  refine lv_lload_n hx hb dX6_digest_167 rfl (lv_at hl 0 rfl) ?_
  refine lv_lmul hx hb dX6_digest_168 ?_
  refine lv_aload_n hx hb dX6_digest_169 rfl (lv_at hl 1 rfl) ?_
  refine lv_bipush (v := (8 : Int32)) hx hb dX6_digest_170 (by decide) ?_
  refine lv_iconst (v := (1 : Int32)) hx hb dX6_digest_172 (by decide) ?_
  refine zz_ci (rest := [.long ((31 : Int64) * x26)]) G h (fun r μ1 hf => zz_runV X G rc_6 tl_0 cv_X6_leave kw_772 (c_X6_leave l D ad cA  hf) ⟨rfl, rfl, Nat.le_of_ble_eq_true rfl, Nat.le_of_ble_eq_true rfl⟩ rfl rfl hl.1 (Nat.le_of_ble_eq_true rfl) dX6_digest_173) (fun x27 μ H locs G h => ?_)
  refine lv_i2l hx hb dX6_digest_176 rfl ?_
  refine lv_ladd hx hb dX6_digest_177 ?_
  refine zz_vj h (fun x28 h => ?_)
  refine lv_lstore_n (lv' := [(1, .long x28), (0, .ref (ad 0))]) hx hb dX6_digest_178 rfl hl (by decide) rfl (fun ls hl => ?_)
  refine lv_ldc2 hx hb hown (hts _ kw_741) dX6_digest_179 ?_
  refine lv_lload_n hx hb dX6_digest_182 rfl (lv_at hl 0 rfl) ?_
  refine lv_lmul hx hb dX6_digest_183 ?_
  refine lv_aload_n hx hb dX6_digest_184 rfl (lv_at hl 1 rfl) ?_
  refine lv_iconst (v := (-1 : Int32)) hx hb dX6_digest_185 (by decide) ?_
  refine zz_ci (rest := [.long ((31 : Int64) * x28)]) G h (fun r μ1 hf => zz_runV X G rc_6 tl_0 cv_X6_burn kw_773 (c_X6_burn l D ad cA  hf) ⟨rfl, rfl, Nat.le_of_ble_eq_true rfl, Nat.le_of_ble_eq_true rfl⟩ rfl rfl hl.1 (Nat.le_of_ble_eq_true rfl) dX6_digest_186) (fun x29 μ H locs G h => ?_)
  refine lv_i2l hx hb dX6_digest_189 rfl ?_
  refine lv_ladd hx hb dX6_digest_190 ?_
  refine zz_vj h (fun x30 h => ?_)
  refine lv_lstore_n (lv' := [(1, .long x30), (0, .ref (ad 0))]) hx hb dX6_digest_191 rfl hl (by decide) rfl (fun ls hl => ?_)
  refine lv_ldc2 hx hb hown (hts _ kw_741) dX6_digest_192 ?_
  refine lv_lload_n hx hb dX6_digest_195 rfl (lv_at hl 0 rfl) ?_
  refine lv_lmul hx hb dX6_digest_196 ?_
  refine lv_aload_n hx hb dX6_digest_197 rfl (lv_at hl 1 rfl) ?_
  refine lv_iconst (v := (0 : Int32)) hx hb dX6_digest_198 (by decide) ?_
  refine zz_ci (rest := [.long ((31 : Int64) * x30)]) G h (fun r μ1 hf => zz_runV X G rc_6 tl_0 cv_X6_burn kw_773 (c_X6_burn l D ad cA  hf) ⟨rfl, rfl, Nat.le_of_ble_eq_true rfl, Nat.le_of_ble_eq_true rfl⟩ rfl rfl hl.1 (Nat.le_of_ble_eq_true rfl) dX6_digest_199) (fun x31 μ H locs G h => ?_)
  refine lv_i2l hx hb dX6_digest_202 rfl ?_
  refine lv_ladd hx hb dX6_digest_203 ?_
  refine zz_vj h (fun x32 h => ?_)
  refine lv_lstore_n (lv' := [(1, .long x32), (0, .ref (ad 0))]) hx hb dX6_digest_204 rfl hl (by decide) rfl (fun ls hl => ?_)
  refine lv_ldc2 hx hb hown (hts _ kw_741) dX6_digest_205 ?_
  refine lv_lload_n hx hb dX6_digest_208 rfl (lv_at hl 0 rfl) ?_
  refine lv_lmul hx hb dX6_digest_209 ?_
  refine lv_aload_n hx hb dX6_digest_210 rfl (lv_at hl 1 rfl) ?_
  refine zz_ci (rest := [.long ((31 : Int64) * x32)]) G h (fun r μ1 hf => zz_runV X G rc_6 tl_0 cv_X6_never kw_774 (c_X6_never l D ad cA  hf) ⟨rfl, rfl, Nat.le_of_ble_eq_true rfl, Nat.le_of_ble_eq_true rfl⟩ rfl rfl hl.1 (Nat.le_of_ble_eq_true rfl) dX6_digest_211) (fun x33 μ H locs G h => ?_)
  refine lv_i2l hx hb dX6_digest_214 rfl ?_
  refine lv_ladd hx hb dX6_digest_215 ?_
  refine zz_vj h (fun x34 h => ?_)
  refine lv_lstore_n (lv' := [(1, .long x34), (0, .ref (ad 0))]) hx hb dX6_digest_216 rfl hl (by decide) rfl (fun ls hl => ?_)
  refine lv_ldc2 hx hb hown (hts _ kw_741) dX6_digest_217 ?_
  refine lv_lload_n hx hb dX6_digest_220 rfl (lv_at hl 0 rfl) ?_
  refine lv_lmul hx hb dX6_digest_221 ?_
  refine lv_aload_n hx hb dX6_digest_222 rfl (lv_at hl 1 rfl) ?_
  refine lv_bipush (v := (7 : Int32)) hx hb dX6_digest_223 (by decide) ?_
  refine lv_bipush (v := (6 : Int32)) hx hb dX6_digest_225 (by decide) ?_
  refine lv_iconst (v := (0 : Int32)) hx hb dX6_digest_227 (by decide) ?_
  refine zz_ci (rest := [.long ((31 : Int64) * x34)]) G h (fun r μ1 hf => zz_runV X G rc_6 tl_0 cv_X6_years kw_775 (c_X6_years l D ad cA  hf) ⟨rfl, rfl, Nat.le_of_ble_eq_true rfl, Nat.le_of_ble_eq_true rfl⟩ rfl rfl hl.1 (Nat.le_of_ble_eq_true rfl) dX6_digest_228) (fun x35 μ H locs G h => ?_)
  refine lv_i2l hx hb dX6_digest_231 rfl ?_
  refine lv_ladd hx hb dX6_digest_232 ?_
  refine zz_vj h (fun x36 h => ?_)
  refine lv_lstore_n (lv' := [(1, .long x36), (0, .ref (ad 0))]) hx hb dX6_digest_233 rfl hl (by decide) rfl (fun ls hl => ?_)
  refine lv_ldc2 hx hb hown (hts _ kw_741) dX6_digest_234 ?_
  refine lv_lload_n hx hb dX6_digest_237 rfl (lv_at hl 0 rfl) ?_
  refine lv_lmul hx hb dX6_digest_238 ?_
  refine lv_aload_n hx hb dX6_digest_239 rfl (lv_at hl 1 rfl) ?_
  refine lv_bipush (v := (7 : Int32)) hx hb dX6_digest_240 (by decide) ?_
  refine lv_bipush (v := (6 : Int32)) hx hb dX6_digest_242 (by decide) ?_
  refine lv_iconst (v := (1 : Int32)) hx hb dX6_digest_244 (by decide) ?_
  refine zz_ci (rest := [.long ((31 : Int64) * x36)]) G h (fun r μ1 hf => zz_runV X G rc_6 tl_0 cv_X6_years kw_775 (c_X6_years l D ad cA  hf) ⟨rfl, rfl, Nat.le_of_ble_eq_true rfl, Nat.le_of_ble_eq_true rfl⟩ rfl rfl hl.1 (Nat.le_of_ble_eq_true rfl) dX6_digest_245) (fun x37 μ H locs G h => ?_)
  refine lv_i2l hx hb dX6_digest_248 rfl ?_
  refine lv_ladd hx hb dX6_digest_249 ?_
  rw [hQ]
  exact zz_lret X G hr hlk dX6_digest_250 h
set_option maxHeartbeats 4000000 in
set_option maxRecDepth 100000 in
theorem c_X7_in (l : Launch) (D : va_G) (ad : Nat → Nat) (cA : Nat → ClassId) {a0 : Int32} {a1 : Int32} {a2 : Int32} {μ : zM} {r : Int32} {μ' : zM} (h : f_X7_in a0 a1 a2 μ = some (r, μ')) : zMet false D ad cA l yX7_in cX7_in 3 (some .boolean) ({ frames := 0, cells := 0, slots := 0, locals := 0 } : Room) [.int a0, .int a1, .int a2] μ (zQi false D ad cA r μ') := by
  refine zMet_of "ButlerWeatherModel" ⟨by decide, rfl⟩ (Nat.le_of_ble_eq_true rfl) ?_
  intro p e s m args below meth c X G hr hlk ls hl
  have hl : lv_has ls 3 [(0, .int a0), (1, .int a1), (2, .int a2)] := hl
  obtain ⟨hx, hb, hml, hown, hts, -, -, -⟩ := id X
  obtain ⟨Q, hQ⟩ : ∃ Q, Q = MQ below (zQi false D ad cA r μ') args s 0 0 (zA false ad) := ⟨_, rfl⟩
  rw [← hQ]
  unfold f_X7_in at h
  refine lv_iload_n hx hb dX7_in_0 rfl (lv_at hl 0 rfl) ?_
  refine lv_iload_n hx hb dX7_in_1 rfl (lv_at hl 1 rfl) ?_
  refine lv_icmp_lt (tgt := 14) hx hb dX7_in_2 (by decide) (fun c1 => ?_) (fun c1 => ?_)
  · have h := (zz_br h).1 c1
    refine lv_iconst (v := (0 : Int32)) hx hb dX7_in_14 (by decide) ?_
    rw [hQ]
    exact zz_zret X G hr hlk dX7_in_15 h
  have h := (zz_br h).2 c1
  refine lv_iload_n hx hb dX7_in_5 rfl (lv_at hl 0 rfl) ?_
  refine lv_iload_n hx hb dX7_in_6 rfl (lv_at hl 2 rfl) ?_
  refine lv_icmp_gt (tgt := 14) hx hb dX7_in_7 (by decide) (fun c2 => ?_) (fun c2 => ?_)
  · have h := (zz_br h).1 c2
    refine lv_iconst (v := (0 : Int32)) hx hb dX7_in_14 (by decide) ?_
    rw [hQ]
    exact zz_zret X G hr hlk dX7_in_15 h
  have h := (zz_br h).2 c2
  refine lv_iconst (v := (1 : Int32)) hx hb dX7_in_10 (by decide) ?_
  refine lv_goto (tgt := 15) hx hb dX7_in_11 (by decide) ?_
  rw [hQ]
  exact zz_zret X G hr hlk dX7_in_15 h
set_option maxHeartbeats 4000000 in
set_option maxRecDepth 100000 in
theorem c_X7_isIn (l : Launch) (D : va_G) (ad : Nat → Nat) (cA : Nat → ClassId) {a0 : Int32} {a1 : Int32} {μ : zM} {r : Int32} {μ' : zM} (h : f_X7_isIn a0 a1 μ = some (r, μ')) : zMet false D ad cA l yX7_isIn cX7_isIn 2 (some .boolean) ({ frames := 0, cells := 0, slots := 0, locals := 0 } : Room) [.int a0, .int a1] μ (zQi false D ad cA r μ') := by
  refine zMet_of "ButlerWeatherModel" ⟨by decide, rfl⟩ (Nat.le_of_ble_eq_true rfl) ?_
  intro p e s m args below meth c X G hr hlk ls hl
  have hl : lv_has ls 2 [(0, .int a0), (1, .int a1)] := hl
  obtain ⟨hx, hb, hml, hown, hts, -, -, -⟩ := id X
  obtain ⟨Q, hQ⟩ : ∃ Q, Q = MQ below (zQi false D ad cA r μ') args s 0 0 (zA false ad) := ⟨_, rfl⟩
  rw [← hQ]
  unfold f_X7_isIn at h
  refine lv_iload_n hx hb dX7_isIn_0 rfl (lv_at hl 0 rfl) ?_
  refine lv_iload_n hx hb dX7_isIn_1 rfl (lv_at hl 1 rfl) ?_
  refine lv_ishr hx hb dX7_isIn_2 ?_
  refine lv_iconst (v := (1 : Int32)) hx hb dX7_isIn_3 (by decide) ?_
  refine lv_iand hx hb dX7_isIn_4 ?_
  refine lv_iconst (v := (1 : Int32)) hx hb dX7_isIn_5 (by decide) ?_
  refine lv_icmp_ne (tgt := 13) hx hb dX7_isIn_6 (by decide) (fun c1 => ?_) (fun c1 => ?_)
  · have h := (zz_br h).1 c1
    refine lv_iconst (v := (0 : Int32)) hx hb dX7_isIn_13 (by decide) ?_
    rw [hQ]
    exact zz_zret X G hr hlk dX7_isIn_14 h
  have h := (zz_br h).2 (fun q => q c1)
  refine lv_iconst (v := (1 : Int32)) hx hb dX7_isIn_9 (by decide) ?_
  refine lv_goto (tgt := 14) hx hb dX7_isIn_10 (by decide) ?_
  rw [hQ]
  exact zz_zret X G hr hlk dX7_isIn_14 h
set_option maxHeartbeats 4000000 in
set_option maxRecDepth 100000 in
theorem c_X7_no (l : Launch) (D : va_G) (ad : Nat → Nat) (cA : Nat → ClassId) {a0 : Int32} {μ : zM} {r : Int64} {μ' : zM} (h : f_X7_no a0 μ = some (r, μ')) : zMet false D ad cA l yX7_no cX7_no 1 (some .long) ({ frames := 0, cells := 0, slots := 0, locals := 0 } : Room) [.int a0] μ (zQl false D ad cA r μ') := by
  refine zMet_of "ButlerWeatherModel" ⟨by decide, rfl⟩ (Nat.le_of_ble_eq_true rfl) ?_
  intro p e s m args below meth c X G hr hlk ls hl
  have hl : lv_has ls 1 [(0, .int a0)] := hl
  obtain ⟨hx, hb, hml, hown, hts, -, -, -⟩ := id X
  obtain ⟨Q, hQ⟩ : ∃ Q, Q = MQ below (zQl false D ad cA r μ') args s 0 0 (zA false ad) := ⟨_, rfl⟩
  rw [← hQ]
  unfold f_X7_no at h
  refine lv_ldc2 hx hb hown (hts _ kw_1219) dX7_no_0 ?_
  refine lv_iload_n hx hb dX7_no_3 rfl (lv_at hl 0 rfl) ?_
  refine lv_i2l hx hb dX7_no_4 rfl ?_
  refine lv_lsub hx hb dX7_no_5 ?_
  rw [hQ]
  exact zz_lret X G hr hlk dX7_no_6 h
set_option maxHeartbeats 4000000 in
set_option maxRecDepth 100000 in
theorem w_X7_lowest_L6 {p : Program} {l : Launch} {e : Env} {s : State} {m : MethodId} {args : Array Value} {below : List Frame} {meth : Method} {c : Code} {Q : State → Prop} {D : va_G} {ad : Nat → Nat} {cA : Nat → ClassId} {r : Int64} {μ' : zM} (X : zX false D ad cA p s m args c cX7_lowest "ButlerWeatherModel" 11) (hQ : Q = MQ below (zQl false D ad cA r μ') args s 0 0 (zA false ad)) (hr : meth.sig.returnType = (some .long)) (hlk : meth.locks = false) {v0 : Int64} {v2 : Int64} {v4 : Int32} {kx : Int64 → zM → Option (Int64 × zM)} (HX : ∀ (w5 : Int64) (μ : zM) (H : Heap) (locs : List Loc) (ls : Array Slot), lv_has ls 11 [(0, .long v0), (2, .long v2), (4, .int v4), (5, .long w5)] → zG false D ad cA s μ H locs → kx w5 μ = some (r, μ') → W p l e ({ frames := 0, cells := 0, slots := 0, locals := 0 } : Room) s m args below meth c H locs 0 0 Q (F0 m 31 ls [])) : ∀ (n : Nat) (v5 : Int64) (v7 : Int64) (μ : zM) (H : Heap) (locs : List Loc) (ls : Array Slot), lv_has ls 11 [(0, .long v0), (2, .long v2), (4, .int v4), (5, .long v5), (7, .long v7)] → zG false D ad cA s μ H locs → f_X7_lowest_L6 v0 v2 v4 kx n v5 v7 μ = some (r, μ') → W p l e ({ frames := 0, cells := 0, slots := 0, locals := 0 } : Room) s m args below meth c H locs 0 0 Q (F0 m 6 ls []) := by
  obtain ⟨hx, hb, hml, hown, hts, -, -, -⟩ := id X
  intro n
  induction n with
  | zero =>
    intro v5 v7 μ H locs ls hl G h
    cases (show (none : Option (Int64 × zM)) = some (r, μ') from h)
  | succ n ih =>
    intro v5 v7 μ H locs ls hl G h
    rw [f_X7_lowest_L6] at h
    refine lv_lload hx hb dX7_lowest_6 (lv_at hl 4 rfl) ?_
    refine lv_lconst (v := (0 : Int64)) hx hb dX7_lowest_8 (by decide) ?_
    refine W.lcmp hx hb dX7_lowest_9 ?_
    refine lv_if_eq (tgt := 31) hx hb dX7_lowest_10 (by decide) (fun c1 => ?_) (fun c1 => ?_)
    · have h := (zz_br h).1 c1
      exact HX v5 μ _ _ _ (lv_sub hl [0, 1, 2, 3] rfl) G h
    have h := (zz_br h).2 c1
    refine lv_lload hx hb dX7_lowest_13 (lv_at hl 3 rfl) ?_
    refine lv_lload hx hb dX7_lowest_15 (lv_at hl 4 rfl) ?_
    obtain ⟨hd, h⟩ := zz_gd h
    refine lv_lrem hx hb dX7_lowest_17 hd ?_
    refine zz_vj h (fun x2 h => ?_)
    refine lv_lstore (lv' := [(9, .long x2), (0, .long v0), (2, .long v2), (4, .int v4), (5, .long v5), (7, .long v7)]) hx hb dX7_lowest_18 hl (by decide) rfl (fun ls hl => ?_)
    refine lv_lload hx hb dX7_lowest_20 (lv_at hl 5 rfl) ?_
    refine lv_lstore (lv' := [(5, .long v7), (9, .long x2), (0, .long v0), (2, .long v2), (4, .int v4), (7, .long v7)]) hx hb dX7_lowest_22 hl (by decide) rfl (fun ls hl => ?_)
    refine lv_lload hx hb dX7_lowest_24 (lv_at hl 1 rfl) ?_
    refine lv_lstore (lv' := [(7, .long x2), (5, .long v7), (9, .long x2), (0, .long v0), (2, .long v2), (4, .int v4)]) hx hb dX7_lowest_26 hl (by decide) rfl (fun ls hl => ?_)
    refine lv_goto (tgt := 6) hx hb dX7_lowest_28 (by decide) ?_
    exact ih v7 x2 μ _ _ _ (lv_sub hl [3, 4, 5, 1, 0] rfl) G h
set_option maxHeartbeats 4000000 in
set_option maxRecDepth 100000 in
theorem c_X7_lowest (l : Launch) (D : va_G) (ad : Nat → Nat) (cA : Nat → ClassId) {a0 : Int64} {a2 : Int64} {a4 : Int32} {μ : zM} {r : Int64} {μ' : zM} (h : f_X7_lowest a0 a2 a4 μ = some (r, μ')) : zMet false D ad cA l yX7_lowest cX7_lowest 11 (some .long) ({ frames := 0, cells := 0, slots := 0, locals := 0 } : Room) [.long a0, .long a2, .int a4] μ (zQl false D ad cA r μ') := by
  refine zMet_of "ButlerWeatherModel" ⟨by decide, rfl⟩ (Nat.le_of_ble_eq_true rfl) ?_
  intro p e s m args below meth c X G hr hlk ls hl
  have hl : lv_has ls 11 [(0, .long a0), (2, .long a2), (4, .int a4)] := hl
  obtain ⟨hx, hb, hml, hown, hts, -, -, -⟩ := id X
  obtain ⟨Q, hQ⟩ : ∃ Q, Q = MQ below (zQl false D ad cA r μ') args s 0 0 (zA false ad) := ⟨_, rfl⟩
  rw [← hQ]
  unfold f_X7_lowest at h
  refine lv_lload_n hx hb dX7_lowest_0 rfl (lv_at hl 0 rfl) ?_
  refine lv_lstore (lv' := [(5, .long a0), (0, .long a0), (2, .long a2), (4, .int a4)]) hx hb dX7_lowest_1 hl (by decide) rfl (fun ls hl => ?_)
  refine lv_lload_n hx hb dX7_lowest_3 rfl (lv_at hl 2 rfl) ?_
  refine lv_lstore (lv' := [(7, .long a2), (5, .long a0), (0, .long a0), (2, .long a2), (4, .int a4)]) hx hb dX7_lowest_4 hl (by decide) rfl (fun ls hl => ?_)
  refine w_X7_lowest_L6 X hQ hr hlk  (fun x3 μ H locs ls hl G h => ?_) 400 a0 a2 μ _ _ _ (lv_sub hl [2, 3, 4, 1, 0] rfl) G h
  refine lv_iload hx hb dX7_lowest_31 (lv_at hl 2 rfl) ?_
  refine lv_if_ne (tgt := 43) hx hb dX7_lowest_33 (by decide) (fun c4 => ?_) (fun c4 => ?_)
  · have h := (zz_br h).1 c4
    refine lv_lload_n hx hb dX7_lowest_43 rfl (lv_at hl 1 rfl) ?_
    refine lv_lload hx hb dX7_lowest_44 (lv_at hl 3 rfl) ?_
    obtain ⟨hd, h⟩ := zz_gd h
    refine lv_ldiv hx hb dX7_lowest_46 hd ?_
    rw [hQ]
    exact zz_lret X G hr hlk dX7_lowest_47 h
  have h := (zz_br h).2 (fun q => q c4)
  refine lv_lload_n hx hb dX7_lowest_36 rfl (lv_at hl 0 rfl) ?_
  refine lv_lload hx hb dX7_lowest_37 (lv_at hl 3 rfl) ?_
  obtain ⟨hd, h⟩ := zz_gd h
  refine lv_ldiv hx hb dX7_lowest_39 hd ?_
  refine lv_goto (tgt := 47) hx hb dX7_lowest_40 (by decide) ?_
  rw [hQ]
  exact zz_lret X G hr hlk dX7_lowest_47 h
set_option maxHeartbeats 4000000 in
set_option maxRecDepth 100000 in
theorem c_X7_isText (l : Launch) (D : va_G) (ad : Nat → Nat) (cA : Nat → ClassId) {a0 : Int32} {μ : zM} {r : Int32} {μ' : zM} (h : f_X7_isText a0 μ = some (r, μ')) : zMet false D ad cA l yX7_isText cX7_isText 1 (some .boolean) ({ frames := 1, cells := 0, slots := 0, locals := 22 } : Room) [.int a0] μ (zQi false D ad cA r μ') := by
  refine zMet_of "ButlerWeatherModel" ⟨by decide, rfl⟩ (Nat.le_of_ble_eq_true rfl) ?_
  intro p e s m args below meth c X G hr hlk ls hl
  have hl : lv_has ls 1 [(0, .int a0)] := hl
  obtain ⟨hx, hb, hml, hown, hts, -, -, -⟩ := id X
  obtain ⟨Q, hQ⟩ : ∃ Q, Q = MQ below (zQi false D ad cA r μ') args s 0 0 (zA false ad) := ⟨_, rfl⟩
  rw [← hQ]
  unfold f_X7_isText at h
  refine lv_iload_n hx hb dX7_isText_0 rfl (lv_at hl 0 rfl) ?_
  refine lv_iconst (v := (0 : Int32)) hx hb dX7_isText_1 (by decide) ?_
  refine lv_iconst (v := (1 : Int32)) hx hb dX7_isText_2 (by decide) ?_
  refine zz_ci (rest := []) G h (fun r μ1 hf => zz_runS X G cs_X7_in kw_905 (c_X7_in l D ad cA  hf) ⟨rfl, rfl, Nat.le_of_ble_eq_true rfl, Nat.le_of_ble_eq_true rfl⟩ rfl rfl hl.1 (Nat.le_of_ble_eq_true rfl) dX7_isText_3) (fun x1 μ H locs G h => ?_)
  rw [hQ]
  exact zz_zret X G hr hlk dX7_isText_6 h
set_option maxHeartbeats 4000000 in
set_option maxRecDepth 100000 in
theorem c_X7_isDay (l : Launch) (D : va_G) (ad : Nat → Nat) (cA : Nat → ClassId) {a0 : Int32} {μ : zM} {r : Int32} {μ' : zM} (h : f_X7_isDay a0 μ = some (r, μ')) : zMet false D ad cA l yX7_isDay cX7_isDay 1 (some .boolean) ({ frames := 1, cells := 0, slots := 0, locals := 22 } : Room) [.int a0] μ (zQi false D ad cA r μ') := by
  refine zMet_of "ButlerWeatherModel" ⟨by decide, rfl⟩ (Nat.le_of_ble_eq_true rfl) ?_
  intro p e s m args below meth c X G hr hlk ls hl
  have hl : lv_has ls 1 [(0, .int a0)] := hl
  obtain ⟨hx, hb, hml, hown, hts, -, -, -⟩ := id X
  obtain ⟨Q, hQ⟩ : ∃ Q, Q = MQ below (zQi false D ad cA r μ') args s 0 0 (zA false ad) := ⟨_, rfl⟩
  rw [← hQ]
  unfold f_X7_isDay at h
  refine lv_iload_n hx hb dX7_isDay_0 rfl (lv_at hl 0 rfl) ?_
  refine lv_iconst (v := (0 : Int32)) hx hb dX7_isDay_1 (by decide) ?_
  refine lv_bipush (v := (23 : Int32)) hx hb dX7_isDay_2 (by decide) ?_
  refine zz_ci (rest := []) G h (fun r μ1 hf => zz_runS X G cs_X7_in kw_905 (c_X7_in l D ad cA  hf) ⟨rfl, rfl, Nat.le_of_ble_eq_true rfl, Nat.le_of_ble_eq_true rfl⟩ rfl rfl hl.1 (Nat.le_of_ble_eq_true rfl) dX7_isDay_4) (fun x1 μ H locs G h => ?_)
  rw [hQ]
  exact zz_zret X G hr hlk dX7_isDay_7 h
set_option maxHeartbeats 4000000 in
set_option maxRecDepth 100000 in
theorem c_X7_isTwo (l : Launch) (D : va_G) (ad : Nat → Nat) (cA : Nat → ClassId) {a0 : Int32} {μ : zM} {r : Int32} {μ' : zM} (h : f_X7_isTwo a0 μ = some (r, μ')) : zMet false D ad cA l yX7_isTwo cX7_isTwo 1 (some .boolean) ({ frames := 1, cells := 0, slots := 0, locals := 22 } : Room) [.int a0] μ (zQi false D ad cA r μ') := by
  refine zMet_of "ButlerWeatherModel" ⟨by decide, rfl⟩ (Nat.le_of_ble_eq_true rfl) ?_
  intro p e s m args below meth c X G hr hlk ls hl
  have hl : lv_has ls 1 [(0, .int a0)] := hl
  obtain ⟨hx, hb, hml, hown, hts, -, -, -⟩ := id X
  obtain ⟨Q, hQ⟩ : ∃ Q, Q = MQ below (zQi false D ad cA r μ') args s 0 0 (zA false ad) := ⟨_, rfl⟩
  rw [← hQ]
  unfold f_X7_isTwo at h
  refine lv_iload_n hx hb dX7_isTwo_0 rfl (lv_at hl 0 rfl) ?_
  refine lv_iconst (v := (0 : Int32)) hx hb dX7_isTwo_1 (by decide) ?_
  refine lv_iconst (v := (1 : Int32)) hx hb dX7_isTwo_2 (by decide) ?_
  refine zz_ci (rest := []) G h (fun r μ1 hf => zz_runS X G cs_X7_in kw_905 (c_X7_in l D ad cA  hf) ⟨rfl, rfl, Nat.le_of_ble_eq_true rfl, Nat.le_of_ble_eq_true rfl⟩ rfl rfl hl.1 (Nat.le_of_ble_eq_true rfl) dX7_isTwo_3) (fun x1 μ H locs G h => ?_)
  rw [hQ]
  exact zz_zret X G hr hlk dX7_isTwo_6 h
set_option maxHeartbeats 4000000 in
set_option maxRecDepth 100000 in
theorem c_X7_type (l : Launch) (D : va_G) (ad : Nat → Nat) (cA : Nat → ClassId) {a1 : Int32} {a2 : Int32} {μ : zM} {r : Int32} {μ' : zM} (h : f_X7_type a1 a2 μ = some (r, μ')) : zMet false D ad cA l yX7_type cX7_type 3 (some .int) ({ frames := 2, cells := 0, slots := 0, locals := 42 } : Room) [.ref (ad 100), .int a1, .int a2] μ (zQi false D ad cA r μ') := by
  refine zMet_of "ButlerWeatherModel" ⟨by decide, rfl⟩ (Nat.le_of_ble_eq_true rfl) ?_
  intro p e s m args below meth c X G hr hlk ls hl
  have hl : lv_has ls 3 [(0, .ref (ad 100)), (1, .int a1), (2, .int a2)] := hl
  obtain ⟨hx, hb, hml, hown, hts, -, -, -⟩ := id X
  obtain ⟨Q, hQ⟩ : ∃ Q, Q = MQ below (zQi false D ad cA r μ') args s 0 0 (zA false ad) := ⟨_, rfl⟩
  rw [← hQ]
  unfold f_X7_type at h
  refine lv_iload_n hx hb dX7_type_0 rfl (lv_at hl 1 rfl) ?_
  refine zz_ci (rest := []) G h (fun r μ1 hf => zz_runS X G cs_X7_isText kw_902 (c_X7_isText l D ad cA  hf) ⟨rfl, rfl, Nat.le_of_ble_eq_true rfl, Nat.le_of_ble_eq_true rfl⟩ rfl rfl hl.1 (Nat.le_of_ble_eq_true rfl) dX7_type_1) (fun x1 μ H locs G h => ?_)
  refine lv_if_eq (tgt := 18) hx hb dX7_type_4 (by decide) (fun c2 => ?_) (fun c2 => ?_)
  · have h := (zz_br h).1 c2
    refine lv_bipush (v := (-2 : Int32)) hx hb dX7_type_18 (by decide) ?_
    rw [hQ]
    exact zz_iret X G hr hlk dX7_type_20 h
  have h := (zz_br h).2 c2
  refine lv_iload_n hx hb dX7_type_7 rfl (lv_at hl 2 rfl) ?_
  refine lv_iconst (v := (0 : Int32)) hx hb dX7_type_8 (by decide) ?_
  refine lv_sipush (v := (255 : Int32)) hx hb dX7_type_9 (by decide) ?_
  refine zz_ci (rest := []) G h (fun r μ1 hf => zz_runS X G cs_X7_in kw_905 (c_X7_in l D ad cA  hf) ⟨rfl, rfl, Nat.le_of_ble_eq_true rfl, Nat.le_of_ble_eq_true rfl⟩ rfl rfl hl.1 (Nat.le_of_ble_eq_true rfl) dX7_type_12) (fun x3 μ H locs G h => ?_)
  refine lv_if_ne (tgt := 21) hx hb dX7_type_15 (by decide) (fun c4 => ?_) (fun c4 => ?_)
  · have h := (zz_br h).1 c4
    refine lv_aload_n hx hb dX7_type_21 rfl (lv_at hl 0 rfl) ?_
    refine zz_getr X G fr_7_0 tl_100 rl_100_0 kw_782 dX7_type_22 ?_
    refine lv_iload_n hx hb dX7_type_25 rfl (lv_at hl 1 rfl) ?_
    refine zz_iald X G ia_30 tl_101 dX7_type_26 h (fun x5 h => ?_)
    refine lv_iload_n hx hb dX7_type_27 rfl (lv_at hl 1 rfl) ?_
    refine Exists.elim (zz_jn (P := fun (j : Int32 → zM → Option (Int32 × zM)) => ∀ (y6 : Int32) (μ : zM) (H : Heap) (locs : List Loc) (ls : Array Slot), lv_has ls 3 [(0, .ref (ad 100)), (1, .int a1), (2, .int a2)] → zG false D ad cA s μ H locs → j y6 μ = some (r, μ') → W p l e ({ frames := 2, cells := 0, slots := 0, locals := 42 } : Room) s m args below meth c H locs 0 0 Q (F0 m 38 ls [.int y6, .int x5])) h ?_) (fun j38_1 hj => ?_)
    · intro y6 μ H locs ls hl G h
      refine lv_icmp_ne (tgt := 44) hx hb dX7_type_38 (by decide) (fun c7 => ?_) (fun c7 => ?_)
      · have h := (zz_br h).1 c7
        refine lv_aload_n hx hb dX7_type_44 rfl (lv_at hl 0 rfl) ?_
        refine zz_getr X G fr_7_1 tl_100 rl_100_1 kw_783 dX7_type_45 ?_
        refine lv_bipush (v := (39 : Int32)) hx hb dX7_type_48 (by decide) ?_
        refine lv_iload_n hx hb dX7_type_50 rfl (lv_at hl 1 rfl) ?_
        refine lv_imul hx hb dX7_type_51 ?_
        refine lv_aload_n hx hb dX7_type_52 rfl (lv_at hl 0 rfl) ?_
        refine zz_getr X G fr_7_0 tl_100 rl_100_0 kw_782 dX7_type_53 ?_
        refine lv_iload_n hx hb dX7_type_56 rfl (lv_at hl 1 rfl) ?_
        refine zz_iald X G ia_30 tl_101 dX7_type_57 h (fun x8 h => ?_)
        refine lv_iadd hx hb dX7_type_58 ?_
        refine lv_iload_n hx hb dX7_type_59 rfl (lv_at hl 2 rfl) ?_
        refine zz_iast X G ia_30 tl_102 dX7_type_60 h (fun μ H locs G h => ?_)
        refine lv_aload_n hx hb dX7_type_61 rfl (lv_at hl 0 rfl) ?_
        refine zz_getr X G fr_7_0 tl_100 rl_100_0 kw_782 dX7_type_62 ?_
        refine lv_iload_n hx hb dX7_type_65 rfl (lv_at hl 1 rfl) ?_
        refine lv_dup2_11 hx hb dX7_type_66 rfl rfl ?_
        refine zz_iald X G ia_30 tl_101 dX7_type_67 h (fun x9 h => ?_)
        refine lv_iconst (v := (1 : Int32)) hx hb dX7_type_68 (by decide) ?_
        refine lv_iadd hx hb dX7_type_69 ?_
        refine zz_iast X G ia_30 tl_101 dX7_type_70 h (fun μ H locs G h => ?_)
        refine lv_aload_n hx hb dX7_type_71 rfl (lv_at hl 0 rfl) ?_
        refine zz_getr X G fr_7_0 tl_100 rl_100_0 kw_782 dX7_type_72 ?_
        refine lv_iload_n hx hb dX7_type_75 rfl (lv_at hl 1 rfl) ?_
        refine zz_iald X G ia_30 tl_101 dX7_type_76 h (fun x10 h => ?_)
        rw [hQ]
        exact zz_iret X G hr hlk dX7_type_77 h
      have h := (zz_br h).2 (fun q => q c7)
      refine lv_bipush (v := (-4 : Int32)) hx hb dX7_type_41 (by decide) ?_
      rw [hQ]
      exact zz_iret X G hr hlk dX7_type_43 h
    obtain ⟨hj38_1, h⟩ := hj
    refine lv_if_ne (tgt := 36) hx hb dX7_type_28 (by decide) (fun c11 => ?_) (fun c11 => ?_)
    · have h := (zz_br h).1 c11
      refine lv_bipush (v := (15 : Int32)) hx hb dX7_type_36 (by decide) ?_
      exact hj38_1 (15 : Int32) μ _ _ _ (lv_sub hl [0, 1, 2] rfl) G h
    have h := (zz_br h).2 (fun q => q c11)
    refine lv_bipush (v := (39 : Int32)) hx hb dX7_type_31 (by decide) ?_
    refine lv_goto (tgt := 38) hx hb dX7_type_33 (by decide) ?_
    exact hj38_1 (39 : Int32) μ _ _ _ (lv_sub hl [0, 1, 2] rfl) G h
  have h := (zz_br h).2 (fun q => q c4)
  refine lv_bipush (v := (-2 : Int32)) hx hb dX7_type_18 (by decide) ?_
  rw [hQ]
  exact zz_iret X G hr hlk dX7_type_20 h
set_option maxHeartbeats 4000000 in
set_option maxRecDepth 100000 in
theorem c_X7_wipe (l : Launch) (D : va_G) (ad : Nat → Nat) (cA : Nat → ClassId) {a1 : Int32} {μ : zM} {r : Int32} {μ' : zM} (h : f_X7_wipe a1 μ = some (r, μ')) : zMet false D ad cA l yX7_wipe cX7_wipe 3 (some .int) ({ frames := 2, cells := 0, slots := 0, locals := 42 } : Room) [.ref (ad 100), .int a1] μ (zQi false D ad cA r μ') := by
  refine zMet_of "ButlerWeatherModel" ⟨by decide, rfl⟩ (Nat.le_of_ble_eq_true rfl) ?_
  intro p e s m args below meth c X G hr hlk ls hl
  have hl : lv_has ls 3 [(0, .ref (ad 100)), (1, .int a1)] := hl
  obtain ⟨hx, hb, hml, hown, hts, -, -, -⟩ := id X
  obtain ⟨Q, hQ⟩ : ∃ Q, Q = MQ below (zQi false D ad cA r μ') args s 0 0 (zA false ad) := ⟨_, rfl⟩
  rw [← hQ]
  unfold f_X7_wipe at h
  refine lv_iload_n hx hb dX7_wipe_0 rfl (lv_at hl 1 rfl) ?_
  refine zz_ci (rest := []) G h (fun r μ1 hf => zz_runS X G cs_X7_isText kw_902 (c_X7_isText l D ad cA  hf) ⟨rfl, rfl, Nat.le_of_ble_eq_true rfl, Nat.le_of_ble_eq_true rfl⟩ rfl rfl hl.1 (Nat.le_of_ble_eq_true rfl) dX7_wipe_1) (fun x1 μ H locs G h => ?_)
  refine lv_if_ne (tgt := 10) hx hb dX7_wipe_4 (by decide) (fun c2 => ?_) (fun c2 => ?_)
  · have h := (zz_br h).1 c2
    refine lv_aload_n hx hb dX7_wipe_10 rfl (lv_at hl 0 rfl) ?_
    refine zz_getr X G fr_7_0 tl_100 rl_100_0 kw_782 dX7_wipe_11 ?_
    refine lv_iload_n hx hb dX7_wipe_14 rfl (lv_at hl 1 rfl) ?_
    refine zz_iald X G ia_30 tl_101 dX7_wipe_15 h (fun x3 h => ?_)
    refine lv_istore_n (lv' := [(2, .int x3), (0, .ref (ad 100)), (1, .int a1)]) hx hb dX7_wipe_16 rfl hl (by decide) rfl (fun ls hl => ?_)
    refine lv_aload_n hx hb dX7_wipe_17 rfl (lv_at hl 1 rfl) ?_
    refine zz_getr X G fr_7_0 tl_100 rl_100_0 kw_782 dX7_wipe_18 ?_
    refine lv_iload_n hx hb dX7_wipe_21 rfl (lv_at hl 2 rfl) ?_
    refine lv_iconst (v := (0 : Int32)) hx hb dX7_wipe_22 (by decide) ?_
    refine zz_iast X G ia_30 tl_101 dX7_wipe_23 h (fun μ H locs G h => ?_)
    refine lv_iload_n hx hb dX7_wipe_24 rfl (lv_at hl 0 rfl) ?_
    rw [hQ]
    exact zz_iret X G hr hlk dX7_wipe_25 h
  have h := (zz_br h).2 (fun q => q c2)
  refine lv_bipush (v := (-2 : Int32)) hx hb dX7_wipe_7 (by decide) ?_
  rw [hQ]
  exact zz_iret X G hr hlk dX7_wipe_9 h
set_option maxHeartbeats 4000000 in
set_option maxRecDepth 100000 in
theorem c_X7_undo (l : Launch) (D : va_G) (ad : Nat → Nat) (cA : Nat → ClassId) {a1 : Int32} {μ : zM} {r : Int32} {μ' : zM} (h : f_X7_undo a1 μ = some (r, μ')) : zMet false D ad cA l yX7_undo cX7_undo 2 (some .int) ({ frames := 2, cells := 0, slots := 0, locals := 42 } : Room) [.ref (ad 100), .int a1] μ (zQi false D ad cA r μ') := by
  refine zMet_of "ButlerWeatherModel" ⟨by decide, rfl⟩ (Nat.le_of_ble_eq_true rfl) ?_
  intro p e s m args below meth c X G hr hlk ls hl
  have hl : lv_has ls 2 [(0, .ref (ad 100)), (1, .int a1)] := hl
  obtain ⟨hx, hb, hml, hown, hts, -, -, -⟩ := id X
  obtain ⟨Q, hQ⟩ : ∃ Q, Q = MQ below (zQi false D ad cA r μ') args s 0 0 (zA false ad) := ⟨_, rfl⟩
  rw [← hQ]
  unfold f_X7_undo at h
  refine lv_iload_n hx hb dX7_undo_0 rfl (lv_at hl 1 rfl) ?_
  refine zz_ci (rest := []) G h (fun r μ1 hf => zz_runS X G cs_X7_isText kw_902 (c_X7_isText l D ad cA  hf) ⟨rfl, rfl, Nat.le_of_ble_eq_true rfl, Nat.le_of_ble_eq_true rfl⟩ rfl rfl hl.1 (Nat.le_of_ble_eq_true rfl) dX7_undo_1) (fun x1 μ H locs G h => ?_)
  refine lv_if_ne (tgt := 10) hx hb dX7_undo_4 (by decide) (fun c2 => ?_) (fun c2 => ?_)
  · have h := (zz_br h).1 c2
    refine lv_aload_n hx hb dX7_undo_10 rfl (lv_at hl 0 rfl) ?_
    refine zz_getr X G fr_7_0 tl_100 rl_100_0 kw_782 dX7_undo_11 ?_
    refine lv_iload_n hx hb dX7_undo_14 rfl (lv_at hl 1 rfl) ?_
    refine zz_iald X G ia_30 tl_101 dX7_undo_15 h (fun x3 h => ?_)
    refine lv_if_ne (tgt := 22) hx hb dX7_undo_16 (by decide) (fun c4 => ?_) (fun c4 => ?_)
    · have h := (zz_br h).1 c4
      refine lv_aload_n hx hb dX7_undo_22 rfl (lv_at hl 0 rfl) ?_
      refine zz_getr X G fr_7_0 tl_100 rl_100_0 kw_782 dX7_undo_23 ?_
      refine lv_iload_n hx hb dX7_undo_26 rfl (lv_at hl 1 rfl) ?_
      refine lv_dup2_11 hx hb dX7_undo_27 rfl rfl ?_
      refine zz_iald X G ia_30 tl_101 dX7_undo_28 h (fun x5 h => ?_)
      refine lv_iconst (v := (1 : Int32)) hx hb dX7_undo_29 (by decide) ?_
      refine lv_isub hx hb dX7_undo_30 ?_
      refine zz_iast X G ia_30 tl_101 dX7_undo_31 h (fun μ H locs G h => ?_)
      refine lv_aload_n hx hb dX7_undo_32 rfl (lv_at hl 0 rfl) ?_
      refine zz_getr X G fr_7_0 tl_100 rl_100_0 kw_782 dX7_undo_33 ?_
      refine lv_iload_n hx hb dX7_undo_36 rfl (lv_at hl 1 rfl) ?_
      refine zz_iald X G ia_30 tl_101 dX7_undo_37 h (fun x6 h => ?_)
      rw [hQ]
      exact zz_iret X G hr hlk dX7_undo_38 h
    have h := (zz_br h).2 (fun q => q c4)
    refine lv_bipush (v := (-3 : Int32)) hx hb dX7_undo_19 (by decide) ?_
    rw [hQ]
    exact zz_iret X G hr hlk dX7_undo_21 h
  have h := (zz_br h).2 (fun q => q c2)
  refine lv_bipush (v := (-2 : Int32)) hx hb dX7_undo_7 (by decide) ?_
  rw [hQ]
  exact zz_iret X G hr hlk dX7_undo_9 h
set_option maxHeartbeats 4000000 in
set_option maxRecDepth 100000 in
theorem c_X7_byteAt (l : Launch) (D : va_G) (ad : Nat → Nat) (cA : Nat → ClassId) {a1 : Int32} {a2 : Int32} {μ : zM} {r : Int32} {μ' : zM} (h : f_X7_byteAt a1 a2 μ = some (r, μ')) : zMet false D ad cA l yX7_byteAt cX7_byteAt 3 (some .int) ({ frames := 0, cells := 0, slots := 0, locals := 0 } : Room) [.ref (ad 100), .int a1, .int a2] μ (zQi false D ad cA r μ') := by
  refine zMet_of "ButlerWeatherModel" ⟨by decide, rfl⟩ (Nat.le_of_ble_eq_true rfl) ?_
  intro p e s m args below meth c X G hr hlk ls hl
  have hl : lv_has ls 3 [(0, .ref (ad 100)), (1, .int a1), (2, .int a2)] := hl
  obtain ⟨hx, hb, hml, hown, hts, -, -, -⟩ := id X
  obtain ⟨Q, hQ⟩ : ∃ Q, Q = MQ below (zQi false D ad cA r μ') args s 0 0 (zA false ad) := ⟨_, rfl⟩
  rw [← hQ]
  unfold f_X7_byteAt at h
  refine lv_iload_n hx hb dX7_byteAt_0 rfl (lv_at hl 2 rfl) ?_
  refine lv_aload_n hx hb dX7_byteAt_1 rfl (lv_at hl 0 rfl) ?_
  refine zz_getr X G fr_7_0 tl_100 rl_100_0 kw_782 dX7_byteAt_2 ?_
  refine lv_iload_n hx hb dX7_byteAt_5 rfl (lv_at hl 1 rfl) ?_
  refine zz_iald X G ia_30 tl_101 dX7_byteAt_6 h (fun x1 h => ?_)
  refine lv_icmp_ge (tgt := 24) hx hb dX7_byteAt_7 (by decide) (fun c2 => ?_) (fun c2 => ?_)
  · have h := (zz_br h).1 c2
    refine lv_iconst (v := (-1 : Int32)) hx hb dX7_byteAt_24 (by decide) ?_
    rw [hQ]
    exact zz_iret X G hr hlk dX7_byteAt_25 h
  have h := (zz_br h).2 c2
  refine lv_aload_n hx hb dX7_byteAt_10 rfl (lv_at hl 0 rfl) ?_
  refine zz_getr X G fr_7_1 tl_100 rl_100_1 kw_783 dX7_byteAt_11 ?_
  refine lv_bipush (v := (39 : Int32)) hx hb dX7_byteAt_14 (by decide) ?_
  refine lv_iload_n hx hb dX7_byteAt_16 rfl (lv_at hl 1 rfl) ?_
  refine lv_imul hx hb dX7_byteAt_17 ?_
  refine lv_iload_n hx hb dX7_byteAt_18 rfl (lv_at hl 2 rfl) ?_
  refine lv_iadd hx hb dX7_byteAt_19 ?_
  refine zz_iald X G ia_30 tl_102 dX7_byteAt_20 h (fun x3 h => ?_)
  refine lv_goto (tgt := 25) hx hb dX7_byteAt_21 (by decide) ?_
  rw [hQ]
  exact zz_iret X G hr hlk dX7_byteAt_25 h
set_option maxHeartbeats 4000000 in
set_option maxRecDepth 100000 in
theorem c_X7_sortOf (l : Launch) (D : va_G) (ad : Nat → Nat) (cA : Nat → ClassId) {a0 : Int32} {μ : zM} {r : Int32} {μ' : zM} (h : f_X7_sortOf a0 μ = some (r, μ')) : zMet false D ad cA l yX7_sortOf cX7_sortOf 1 (some .int) ({ frames := 0, cells := 0, slots := 0, locals := 0 } : Room) [.int a0] μ (zQi false D ad cA r μ') := by
  refine zMet_of "ButlerWeatherModel" ⟨by decide, rfl⟩ (Nat.le_of_ble_eq_true rfl) ?_
  intro p e s m args below meth c X G hr hlk ls hl
  have hl : lv_has ls 1 [(0, .int a0)] := hl
  obtain ⟨hx, hb, hml, hown, hts, -, -, -⟩ := id X
  obtain ⟨Q, hQ⟩ : ∃ Q, Q = MQ below (zQi false D ad cA r μ') args s 0 0 (zA false ad) := ⟨_, rfl⟩
  rw [← hQ]
  unfold f_X7_sortOf at h
  refine lv_iload_n hx hb dX7_sortOf_0 rfl (lv_at hl 0 rfl) ?_
  refine lv_bipush (v := (114 : Int32)) hx hb dX7_sortOf_1 (by decide) ?_
  refine lv_icmp_ne (tgt := 10) hx hb dX7_sortOf_3 (by decide) (fun c1 => ?_) (fun c1 => ?_)
  · have h := (zz_br h).1 c1
    refine lv_iload_n hx hb dX7_sortOf_10 rfl (lv_at hl 0 rfl) ?_
    refine lv_bipush (v := (102 : Int32)) hx hb dX7_sortOf_11 (by decide) ?_
    refine lv_icmp_ne (tgt := 20) hx hb dX7_sortOf_13 (by decide) (fun c2 => ?_) (fun c2 => ?_)
    · have h := (zz_br h).1 c2
      refine lv_iload_n hx hb dX7_sortOf_20 rfl (lv_at hl 0 rfl) ?_
      refine lv_bipush (v := (103 : Int32)) hx hb dX7_sortOf_21 (by decide) ?_
      refine lv_icmp_ne (tgt := 30) hx hb dX7_sortOf_23 (by decide) (fun c3 => ?_) (fun c3 => ?_)
      · have h := (zz_br h).1 c3
        refine lv_iload_n hx hb dX7_sortOf_30 rfl (lv_at hl 0 rfl) ?_
        refine lv_bipush (v := (115 : Int32)) hx hb dX7_sortOf_31 (by decide) ?_
        refine lv_icmp_ne (tgt := 40) hx hb dX7_sortOf_33 (by decide) (fun c4 => ?_) (fun c4 => ?_)
        · have h := (zz_br h).1 c4
          refine lv_iconst (v := (-1 : Int32)) hx hb dX7_sortOf_40 (by decide) ?_
          rw [hQ]
          exact zz_iret X G hr hlk dX7_sortOf_41 h
        have h := (zz_br h).2 (fun q => q c4)
        refine lv_iconst (v := (3 : Int32)) hx hb dX7_sortOf_36 (by decide) ?_
        refine lv_goto (tgt := 41) hx hb dX7_sortOf_37 (by decide) ?_
        rw [hQ]
        exact zz_iret X G hr hlk dX7_sortOf_41 h
      have h := (zz_br h).2 (fun q => q c3)
      refine lv_iconst (v := (2 : Int32)) hx hb dX7_sortOf_26 (by decide) ?_
      refine lv_goto (tgt := 41) hx hb dX7_sortOf_27 (by decide) ?_
      rw [hQ]
      exact zz_iret X G hr hlk dX7_sortOf_41 h
    have h := (zz_br h).2 (fun q => q c2)
    refine lv_iconst (v := (1 : Int32)) hx hb dX7_sortOf_16 (by decide) ?_
    refine lv_goto (tgt := 41) hx hb dX7_sortOf_17 (by decide) ?_
    rw [hQ]
    exact zz_iret X G hr hlk dX7_sortOf_41 h
  have h := (zz_br h).2 (fun q => q c1)
  refine lv_iconst (v := (0 : Int32)) hx hb dX7_sortOf_6 (by decide) ?_
  refine lv_goto (tgt := 41) hx hb dX7_sortOf_7 (by decide) ?_
  rw [hQ]
  exact zz_iret X G hr hlk dX7_sortOf_41 h
set_option maxHeartbeats 4000000 in
set_option maxRecDepth 100000 in
theorem c_X7_readsCaller (l : Launch) (D : va_G) (ad : Nat → Nat) (cA : Nat → ClassId) {a1 : Int32} {a2 : Int32} {μ : zM} {r : Int32} {μ' : zM} (h : f_X7_readsCaller a1 a2 μ = some (r, μ')) : zMet false D ad cA l yX7_readsCaller cX7_readsCaller 7 (some .int) ({ frames := 1, cells := 0, slots := 0, locals := 22 } : Room) [.ref (ad 100), .int a1, .int a2] μ (zQi false D ad cA r μ') := by
  refine zMet_of "ButlerWeatherModel" ⟨by decide, rfl⟩ (Nat.le_of_ble_eq_true rfl) ?_
  intro p e s m args below meth c X G hr hlk ls hl
  have hl : lv_has ls 7 [(0, .ref (ad 100)), (1, .int a1), (2, .int a2)] := hl
  obtain ⟨hx, hb, hml, hown, hts, -, -, -⟩ := id X
  obtain ⟨Q, hQ⟩ : ∃ Q, Q = MQ below (zQi false D ad cA r μ') args s 0 0 (zA false ad) := ⟨_, rfl⟩
  rw [← hQ]
  unfold f_X7_readsCaller at h
  refine lv_aload_n hx hb dX7_readsCaller_0 rfl (lv_at hl 0 rfl) ?_
  refine lv_iconst (v := (0 : Int32)) hx hb dX7_readsCaller_1 (by decide) ?_
  refine lv_iload_n hx hb dX7_readsCaller_2 rfl (lv_at hl 2 rfl) ?_
  refine zz_ci (rest := []) G h (fun r μ1 hf => zz_runV X G rc_7 tl_100 cv_X7_byteAt kw_932 (c_X7_byteAt l D ad cA  hf) ⟨rfl, rfl, Nat.le_of_ble_eq_true rfl, Nat.le_of_ble_eq_true rfl⟩ rfl rfl hl.1 (Nat.le_of_ble_eq_true rfl) dX7_readsCaller_3) (fun x1 μ H locs G h => ?_)
  refine lv_istore_n (lv' := [(3, .int x1), (0, .ref (ad 100)), (1, .int a1), (2, .int a2)]) hx hb dX7_readsCaller_6 rfl hl (by decide) rfl (fun ls hl => ?_)
  refine lv_aload_n hx hb dX7_readsCaller_7 rfl (lv_at hl 1 rfl) ?_
  refine lv_iconst (v := (0 : Int32)) hx hb dX7_readsCaller_8 (by decide) ?_
  refine lv_iload_n hx hb dX7_readsCaller_9 rfl (lv_at hl 3 rfl) ?_
  refine lv_iconst (v := (1 : Int32)) hx hb dX7_readsCaller_10 (by decide) ?_
  refine lv_iadd hx hb dX7_readsCaller_11 ?_
  refine zz_ci (rest := []) G h (fun r μ1 hf => zz_runV X G rc_7 tl_100 cv_X7_byteAt kw_932 (c_X7_byteAt l D ad cA  hf) ⟨rfl, rfl, Nat.le_of_ble_eq_true rfl, Nat.le_of_ble_eq_true rfl⟩ rfl rfl hl.1 (Nat.le_of_ble_eq_true rfl) dX7_readsCaller_12) (fun x2 μ H locs G h => ?_)
  refine lv_istore (lv' := [(4, .int x2), (3, .int x1), (0, .ref (ad 100)), (1, .int a1), (2, .int a2)]) hx hb dX7_readsCaller_15 hl (by decide) rfl (fun ls hl => ?_)
  refine lv_aload_n hx hb dX7_readsCaller_17 rfl (lv_at hl 2 rfl) ?_
  refine lv_iconst (v := (0 : Int32)) hx hb dX7_readsCaller_18 (by decide) ?_
  refine lv_iload_n hx hb dX7_readsCaller_19 rfl (lv_at hl 4 rfl) ?_
  refine lv_iconst (v := (2 : Int32)) hx hb dX7_readsCaller_20 (by decide) ?_
  refine lv_iadd hx hb dX7_readsCaller_21 ?_
  refine zz_ci (rest := []) G h (fun r μ1 hf => zz_runV X G rc_7 tl_100 cv_X7_byteAt kw_932 (c_X7_byteAt l D ad cA  hf) ⟨rfl, rfl, Nat.le_of_ble_eq_true rfl, Nat.le_of_ble_eq_true rfl⟩ rfl rfl hl.1 (Nat.le_of_ble_eq_true rfl) dX7_readsCaller_22) (fun x3 μ H locs G h => ?_)
  refine lv_istore (lv' := [(5, .int x3), (4, .int x2), (3, .int x1), (0, .ref (ad 100)), (1, .int a1), (2, .int a2)]) hx hb dX7_readsCaller_25 hl (by decide) rfl (fun ls hl => ?_)
  refine lv_aload_n hx hb dX7_readsCaller_27 rfl (lv_at hl 3 rfl) ?_
  refine lv_iconst (v := (0 : Int32)) hx hb dX7_readsCaller_28 (by decide) ?_
  refine lv_iload_n hx hb dX7_readsCaller_29 rfl (lv_at hl 5 rfl) ?_
  refine lv_iconst (v := (3 : Int32)) hx hb dX7_readsCaller_30 (by decide) ?_
  refine lv_iadd hx hb dX7_readsCaller_31 ?_
  refine zz_ci (rest := []) G h (fun r μ1 hf => zz_runV X G rc_7 tl_100 cv_X7_byteAt kw_932 (c_X7_byteAt l D ad cA  hf) ⟨rfl, rfl, Nat.le_of_ble_eq_true rfl, Nat.le_of_ble_eq_true rfl⟩ rfl rfl hl.1 (Nat.le_of_ble_eq_true rfl) dX7_readsCaller_32) (fun x4 μ H locs G h => ?_)
  refine lv_istore (lv' := [(6, .int x4), (5, .int x3), (4, .int x2), (3, .int x1), (0, .ref (ad 100)), (1, .int a1), (2, .int a2)]) hx hb dX7_readsCaller_35 hl (by decide) rfl (fun ls hl => ?_)
  refine lv_iload_n hx hb dX7_readsCaller_37 rfl (lv_at hl 5 rfl) ?_
  refine lv_bipush (v := (8 : Int32)) hx hb dX7_readsCaller_38 (by decide) ?_
  refine lv_icmp_eq (tgt := 51) hx hb dX7_readsCaller_40 (by decide) (fun c5 => ?_) (fun c5 => ?_)
  · have h := (zz_br h).1 c5
    refine lv_iconst (v := (0 : Int32)) hx hb dX7_readsCaller_51 (by decide) ?_
    rw [hQ]
    exact zz_iret X G hr hlk dX7_readsCaller_52 h
  have h := (zz_br h).2 c5
  refine lv_iload_n hx hb dX7_readsCaller_43 rfl (lv_at hl 3 rfl) ?_
  refine zz_ci (rest := []) G h (fun r μ1 hf => zz_runS X G cs_X7_sortOf kw_936 (c_X7_sortOf l D ad cA  hf) ⟨rfl, rfl, Nat.le_of_ble_eq_true rfl, Nat.le_of_ble_eq_true rfl⟩ rfl rfl hl.1 (Nat.le_of_ble_eq_true rfl) dX7_readsCaller_44) (fun x6 μ H locs G h => ?_)
  refine lv_iconst (v := (-1 : Int32)) hx hb dX7_readsCaller_47 (by decide) ?_
  refine lv_icmp_ne (tgt := 53) hx hb dX7_readsCaller_48 (by decide) (fun c7 => ?_) (fun c7 => ?_)
  · have h := (zz_br h).1 c7
    refine lv_iload hx hb dX7_readsCaller_53 (lv_at hl 2 rfl) ?_
    refine lv_bipush (v := (49 : Int32)) hx hb dX7_readsCaller_55 (by decide) ?_
    refine lv_bipush (v := (57 : Int32)) hx hb dX7_readsCaller_57 (by decide) ?_
    refine zz_ci (rest := []) G h (fun r μ1 hf => zz_runS X G cs_X7_in kw_905 (c_X7_in l D ad cA  hf) ⟨rfl, rfl, Nat.le_of_ble_eq_true rfl, Nat.le_of_ble_eq_true rfl⟩ rfl rfl hl.1 (Nat.le_of_ble_eq_true rfl) dX7_readsCaller_59) (fun x8 μ H locs G h => ?_)
    refine lv_if_ne (tgt := 67) hx hb dX7_readsCaller_62 (by decide) (fun c9 => ?_) (fun c9 => ?_)
    · have h := (zz_br h).1 c9
      refine lv_iload hx hb dX7_readsCaller_67 (lv_at hl 1 rfl) ?_
      refine lv_bipush (v := (97 : Int32)) hx hb dX7_readsCaller_69 (by decide) ?_
      refine lv_bipush (v := (120 : Int32)) hx hb dX7_readsCaller_71 (by decide) ?_
      refine zz_ci (rest := []) G h (fun r μ1 hf => zz_runS X G cs_X7_in kw_905 (c_X7_in l D ad cA  hf) ⟨rfl, rfl, Nat.le_of_ble_eq_true rfl, Nat.le_of_ble_eq_true rfl⟩ rfl rfl hl.1 (Nat.le_of_ble_eq_true rfl) dX7_readsCaller_73) (fun x10 μ H locs G h => ?_)
      refine lv_if_ne (tgt := 81) hx hb dX7_readsCaller_76 (by decide) (fun c11 => ?_) (fun c11 => ?_)
      · have h := (zz_br h).1 c11
        refine lv_iload hx hb dX7_readsCaller_81 (lv_at hl 0 rfl) ?_
        refine lv_bipush (v := (49 : Int32)) hx hb dX7_readsCaller_83 (by decide) ?_
        refine lv_bipush (v := (57 : Int32)) hx hb dX7_readsCaller_85 (by decide) ?_
        refine zz_ci (rest := []) G h (fun r μ1 hf => zz_runS X G cs_X7_in kw_905 (c_X7_in l D ad cA  hf) ⟨rfl, rfl, Nat.le_of_ble_eq_true rfl, Nat.le_of_ble_eq_true rfl⟩ rfl rfl hl.1 (Nat.le_of_ble_eq_true rfl) dX7_readsCaller_87) (fun x12 μ H locs G h => ?_)
        refine lv_if_ne (tgt := 95) hx hb dX7_readsCaller_90 (by decide) (fun c13 => ?_) (fun c13 => ?_)
        · have h := (zz_br h).1 c13
          refine lv_aload_n hx hb dX7_readsCaller_95 rfl (lv_at hl 4 rfl) ?_
          refine zz_getr X G fr_7_3 tl_100 rl_100_3 kw_785 dX7_readsCaller_96 ?_
          refine lv_iload_n hx hb dX7_readsCaller_99 rfl (lv_at hl 5 rfl) ?_
          refine lv_iload_n hx hb dX7_readsCaller_100 rfl (lv_at hl 3 rfl) ?_
          refine zz_ci (rest := [.int a1, .ref (ad 104)]) G h (fun r μ1 hf => zz_runS X G cs_X7_sortOf kw_936 (c_X7_sortOf l D ad cA  hf) ⟨rfl, rfl, Nat.le_of_ble_eq_true rfl, Nat.le_of_ble_eq_true rfl⟩ rfl rfl hl.1 (Nat.le_of_ble_eq_true rfl) dX7_readsCaller_101) (fun x14 μ H locs G h => ?_)
          refine zz_iast X G ia_30 tl_104 dX7_readsCaller_104 h (fun μ H locs G h => ?_)
          refine lv_aload_n hx hb dX7_readsCaller_105 rfl (lv_at hl 4 rfl) ?_
          refine zz_getr X G fr_7_4 tl_100 rl_100_4 kw_786 dX7_readsCaller_106 ?_
          refine lv_iload_n hx hb dX7_readsCaller_109 rfl (lv_at hl 5 rfl) ?_
          refine lv_iload hx hb dX7_readsCaller_110 (lv_at hl 2 rfl) ?_
          refine lv_bipush (v := (48 : Int32)) hx hb dX7_readsCaller_112 (by decide) ?_
          refine lv_isub hx hb dX7_readsCaller_114 ?_
          refine zz_iast X G ia_30 tl_105 dX7_readsCaller_115 h (fun μ H locs G h => ?_)
          refine lv_aload_n hx hb dX7_readsCaller_116 rfl (lv_at hl 4 rfl) ?_
          refine zz_getr X G fr_7_5 tl_100 rl_100_5 kw_787 dX7_readsCaller_117 ?_
          refine lv_iload_n hx hb dX7_readsCaller_120 rfl (lv_at hl 5 rfl) ?_
          refine lv_iload hx hb dX7_readsCaller_121 (lv_at hl 1 rfl) ?_
          refine lv_bipush (v := (97 : Int32)) hx hb dX7_readsCaller_123 (by decide) ?_
          refine lv_isub hx hb dX7_readsCaller_125 ?_
          refine zz_iast X G ia_30 tl_106 dX7_readsCaller_126 h (fun μ H locs G h => ?_)
          refine lv_aload_n hx hb dX7_readsCaller_127 rfl (lv_at hl 4 rfl) ?_
          refine zz_getr X G fr_7_6 tl_100 rl_100_6 kw_788 dX7_readsCaller_128 ?_
          refine lv_iload_n hx hb dX7_readsCaller_131 rfl (lv_at hl 5 rfl) ?_
          refine lv_iload hx hb dX7_readsCaller_132 (lv_at hl 0 rfl) ?_
          refine lv_bipush (v := (48 : Int32)) hx hb dX7_readsCaller_134 (by decide) ?_
          refine lv_isub hx hb dX7_readsCaller_136 ?_
          refine zz_iast X G ia_30 tl_107 dX7_readsCaller_137 h (fun μ H locs G h => ?_)
          refine lv_iconst (v := (4 : Int32)) hx hb dX7_readsCaller_138 (by decide) ?_
          rw [hQ]
          exact zz_iret X G hr hlk dX7_readsCaller_139 h
        have h := (zz_br h).2 (fun q => q c13)
        refine lv_iconst (v := (3 : Int32)) hx hb dX7_readsCaller_93 (by decide) ?_
        rw [hQ]
        exact zz_iret X G hr hlk dX7_readsCaller_94 h
      have h := (zz_br h).2 (fun q => q c11)
      refine lv_iconst (v := (2 : Int32)) hx hb dX7_readsCaller_79 (by decide) ?_
      rw [hQ]
      exact zz_iret X G hr hlk dX7_readsCaller_80 h
    have h := (zz_br h).2 (fun q => q c9)
    refine lv_iconst (v := (1 : Int32)) hx hb dX7_readsCaller_65 (by decide) ?_
    rw [hQ]
    exact zz_iret X G hr hlk dX7_readsCaller_66 h
  have h := (zz_br h).2 (fun q => q c7)
  refine lv_iconst (v := (0 : Int32)) hx hb dX7_readsCaller_51 (by decide) ?_
  rw [hQ]
  exact zz_iret X G hr hlk dX7_readsCaller_52 h
set_option maxHeartbeats 4000000 in
set_option maxRecDepth 100000 in
theorem c_X7_readsMan (l : Launch) (D : va_G) (ad : Nat → Nat) (cA : Nat → ClassId) {a1 : Int32} {a2 : Int32} {μ : zM} {r : Int32} {μ' : zM} (h : f_X7_readsMan a1 a2 μ = some (r, μ')) : zMet false D ad cA l yX7_readsMan cX7_readsMan 6 (some .int) ({ frames := 1, cells := 0, slots := 0, locals := 22 } : Room) [.ref (ad 100), .int a1, .int a2] μ (zQi false D ad cA r μ') := by
  refine zMet_of "ButlerWeatherModel" ⟨by decide, rfl⟩ (Nat.le_of_ble_eq_true rfl) ?_
  intro p e s m args below meth c X G hr hlk ls hl
  have hl : lv_has ls 6 [(0, .ref (ad 100)), (1, .int a1), (2, .int a2)] := hl
  obtain ⟨hx, hb, hml, hown, hts, -, -, -⟩ := id X
  obtain ⟨Q, hQ⟩ : ∃ Q, Q = MQ below (zQi false D ad cA r μ') args s 0 0 (zA false ad) := ⟨_, rfl⟩
  rw [← hQ]
  unfold f_X7_readsMan at h
  refine lv_aload_n hx hb dX7_readsMan_0 rfl (lv_at hl 0 rfl) ?_
  refine lv_iconst (v := (1 : Int32)) hx hb dX7_readsMan_1 (by decide) ?_
  refine lv_iload_n hx hb dX7_readsMan_2 rfl (lv_at hl 2 rfl) ?_
  refine zz_ci (rest := []) G h (fun r μ1 hf => zz_runV X G rc_7 tl_100 cv_X7_byteAt kw_932 (c_X7_byteAt l D ad cA  hf) ⟨rfl, rfl, Nat.le_of_ble_eq_true rfl, Nat.le_of_ble_eq_true rfl⟩ rfl rfl hl.1 (Nat.le_of_ble_eq_true rfl) dX7_readsMan_3) (fun x1 μ H locs G h => ?_)
  refine lv_istore_n (lv' := [(3, .int x1), (0, .ref (ad 100)), (1, .int a1), (2, .int a2)]) hx hb dX7_readsMan_6 rfl hl (by decide) rfl (fun ls hl => ?_)
  refine lv_aload_n hx hb dX7_readsMan_7 rfl (lv_at hl 1 rfl) ?_
  refine lv_iconst (v := (1 : Int32)) hx hb dX7_readsMan_8 (by decide) ?_
  refine lv_iload_n hx hb dX7_readsMan_9 rfl (lv_at hl 3 rfl) ?_
  refine lv_iconst (v := (1 : Int32)) hx hb dX7_readsMan_10 (by decide) ?_
  refine lv_iadd hx hb dX7_readsMan_11 ?_
  refine zz_ci (rest := []) G h (fun r μ1 hf => zz_runV X G rc_7 tl_100 cv_X7_byteAt kw_932 (c_X7_byteAt l D ad cA  hf) ⟨rfl, rfl, Nat.le_of_ble_eq_true rfl, Nat.le_of_ble_eq_true rfl⟩ rfl rfl hl.1 (Nat.le_of_ble_eq_true rfl) dX7_readsMan_12) (fun x2 μ H locs G h => ?_)
  refine lv_istore (lv' := [(4, .int x2), (3, .int x1), (0, .ref (ad 100)), (1, .int a1), (2, .int a2)]) hx hb dX7_readsMan_15 hl (by decide) rfl (fun ls hl => ?_)
  refine lv_aload_n hx hb dX7_readsMan_17 rfl (lv_at hl 2 rfl) ?_
  refine lv_iconst (v := (1 : Int32)) hx hb dX7_readsMan_18 (by decide) ?_
  refine lv_iload_n hx hb dX7_readsMan_19 rfl (lv_at hl 4 rfl) ?_
  refine lv_iconst (v := (2 : Int32)) hx hb dX7_readsMan_20 (by decide) ?_
  refine lv_iadd hx hb dX7_readsMan_21 ?_
  refine zz_ci (rest := []) G h (fun r μ1 hf => zz_runV X G rc_7 tl_100 cv_X7_byteAt kw_932 (c_X7_byteAt l D ad cA  hf) ⟨rfl, rfl, Nat.le_of_ble_eq_true rfl, Nat.le_of_ble_eq_true rfl⟩ rfl rfl hl.1 (Nat.le_of_ble_eq_true rfl) dX7_readsMan_22) (fun x3 μ H locs G h => ?_)
  refine lv_istore (lv' := [(5, .int x3), (4, .int x2), (3, .int x1), (0, .ref (ad 100)), (1, .int a1), (2, .int a2)]) hx hb dX7_readsMan_25 hl (by decide) rfl (fun ls hl => ?_)
  refine lv_iload_n hx hb dX7_readsMan_27 rfl (lv_at hl 4 rfl) ?_
  refine lv_iconst (v := (4 : Int32)) hx hb dX7_readsMan_28 (by decide) ?_
  refine lv_icmp_eq (tgt := 44) hx hb dX7_readsMan_29 (by decide) (fun c4 => ?_) (fun c4 => ?_)
  · have h := (zz_br h).1 c4
    refine lv_iconst (v := (0 : Int32)) hx hb dX7_readsMan_44 (by decide) ?_
    rw [hQ]
    exact zz_iret X G hr hlk dX7_readsMan_45 h
  have h := (zz_br h).2 c4
  refine lv_iload_n hx hb dX7_readsMan_32 rfl (lv_at hl 2 rfl) ?_
  refine lv_bipush (v := (98 : Int32)) hx hb dX7_readsMan_33 (by decide) ?_
  refine lv_icmp_eq (tgt := 46) hx hb dX7_readsMan_35 (by decide) (fun c5 => ?_) (fun c5 => ?_)
  · have h := (zz_br h).1 c5
    refine lv_iload hx hb dX7_readsMan_46 (lv_at hl 1 rfl) ?_
    refine lv_bipush (v := (97 : Int32)) hx hb dX7_readsMan_48 (by decide) ?_
    refine lv_bipush (v := (120 : Int32)) hx hb dX7_readsMan_50 (by decide) ?_
    refine zz_ci (rest := []) G h (fun r μ1 hf => zz_runS X G cs_X7_in kw_905 (c_X7_in l D ad cA  hf) ⟨rfl, rfl, Nat.le_of_ble_eq_true rfl, Nat.le_of_ble_eq_true rfl⟩ rfl rfl hl.1 (Nat.le_of_ble_eq_true rfl) dX7_readsMan_52) (fun x6 μ H locs G h => ?_)
    refine lv_if_ne (tgt := 60) hx hb dX7_readsMan_55 (by decide) (fun c7 => ?_) (fun c7 => ?_)
    · have h := (zz_br h).1 c7
      refine lv_iload hx hb dX7_readsMan_60 (lv_at hl 0 rfl) ?_
      refine lv_bipush (v := (97 : Int32)) hx hb dX7_readsMan_62 (by decide) ?_
      refine lv_bipush (v := (120 : Int32)) hx hb dX7_readsMan_64 (by decide) ?_
      refine zz_ci (rest := []) G h (fun r μ1 hf => zz_runS X G cs_X7_in kw_905 (c_X7_in l D ad cA  hf) ⟨rfl, rfl, Nat.le_of_ble_eq_true rfl, Nat.le_of_ble_eq_true rfl⟩ rfl rfl hl.1 (Nat.le_of_ble_eq_true rfl) dX7_readsMan_66) (fun x8 μ H locs G h => ?_)
      refine lv_if_ne (tgt := 74) hx hb dX7_readsMan_69 (by decide) (fun c9 => ?_) (fun c9 => ?_)
      · have h := (zz_br h).1 c9
        refine lv_aload_n hx hb dX7_readsMan_74 rfl (lv_at hl 3 rfl) ?_
        refine zz_getr X G fr_7_8 tl_100 rl_100_8 kw_790 dX7_readsMan_75 ?_
        refine lv_iload_n hx hb dX7_readsMan_78 rfl (lv_at hl 4 rfl) ?_
        refine lv_iload_n hx hb dX7_readsMan_79 rfl (lv_at hl 2 rfl) ?_
        refine lv_bipush (v := (106 : Int32)) hx hb dX7_readsMan_80 (by decide) ?_
        refine Exists.elim (zz_jn (P := fun (j : Int32 → zM → Option (Int32 × zM)) => ∀ (y10 : Int32) (μ : zM) (H : Heap) (locs : List Loc) (ls : Array Slot), lv_has ls 6 [(0, .ref (ad 100)), (1, .int a1), (4, .int x2), (5, .int x3)] → zG false D ad cA s μ H locs → j y10 μ = some (r, μ') → W p l e ({ frames := 1, cells := 0, slots := 0, locals := 22 } : Room) s m args below meth c H locs 0 0 Q (F0 m 90 ls [.int y10, .int a1, .ref (ad 109)])) h ?_) (fun j90_1 hj => ?_)
        · intro y10 μ H locs ls hl G h
          refine zz_iast X G ia_30 tl_109 dX7_readsMan_90 h (fun μ H locs G h => ?_)
          refine lv_aload_n hx hb dX7_readsMan_91 rfl (lv_at hl 0 rfl) ?_
          refine zz_getr X G fr_7_9 tl_100 rl_100_9 kw_791 dX7_readsMan_92 ?_
          refine lv_iload_n hx hb dX7_readsMan_95 rfl (lv_at hl 1 rfl) ?_
          refine lv_iload hx hb dX7_readsMan_96 (lv_at hl 2 rfl) ?_
          refine lv_bipush (v := (97 : Int32)) hx hb dX7_readsMan_98 (by decide) ?_
          refine lv_isub hx hb dX7_readsMan_100 ?_
          refine zz_iast X G ia_30 tl_110 dX7_readsMan_101 h (fun μ H locs G h => ?_)
          refine lv_aload_n hx hb dX7_readsMan_102 rfl (lv_at hl 0 rfl) ?_
          refine zz_getr X G fr_7_10 tl_100 rl_100_10 kw_792 dX7_readsMan_103 ?_
          refine lv_iload_n hx hb dX7_readsMan_106 rfl (lv_at hl 1 rfl) ?_
          refine lv_iload hx hb dX7_readsMan_107 (lv_at hl 3 rfl) ?_
          refine lv_bipush (v := (97 : Int32)) hx hb dX7_readsMan_109 (by decide) ?_
          refine lv_isub hx hb dX7_readsMan_111 ?_
          refine zz_iast X G ia_30 tl_111 dX7_readsMan_112 h (fun μ H locs G h => ?_)
          refine lv_iconst (v := (3 : Int32)) hx hb dX7_readsMan_113 (by decide) ?_
          rw [hQ]
          exact zz_iret X G hr hlk dX7_readsMan_114 h
        obtain ⟨hj90_1, h⟩ := hj
        refine lv_icmp_ne (tgt := 89) hx hb dX7_readsMan_82 (by decide) (fun c11 => ?_) (fun c11 => ?_)
        · have h := (zz_br h).1 c11
          refine lv_iconst (v := (0 : Int32)) hx hb dX7_readsMan_89 (by decide) ?_
          exact hj90_1 (0 : Int32) μ _ _ _ (lv_sub hl [3, 4, 1, 0] rfl) G h
        have h := (zz_br h).2 (fun q => q c11)
        refine lv_iconst (v := (1 : Int32)) hx hb dX7_readsMan_85 (by decide) ?_
        refine lv_goto (tgt := 90) hx hb dX7_readsMan_86 (by decide) ?_
        exact hj90_1 (1 : Int32) μ _ _ _ (lv_sub hl [3, 4, 1, 0] rfl) G h
      have h := (zz_br h).2 (fun q => q c9)
      refine lv_iconst (v := (2 : Int32)) hx hb dX7_readsMan_72 (by decide) ?_
      rw [hQ]
      exact zz_iret X G hr hlk dX7_readsMan_73 h
    have h := (zz_br h).2 (fun q => q c7)
    refine lv_iconst (v := (1 : Int32)) hx hb dX7_readsMan_58 (by decide) ?_
    rw [hQ]
    exact zz_iret X G hr hlk dX7_readsMan_59 h
  have h := (zz_br h).2 c5
  refine lv_iload_n hx hb dX7_readsMan_38 rfl (lv_at hl 2 rfl) ?_
  refine lv_bipush (v := (106 : Int32)) hx hb dX7_readsMan_39 (by decide) ?_
  refine lv_icmp_eq (tgt := 46) hx hb dX7_readsMan_41 (by decide) (fun c12 => ?_) (fun c12 => ?_)
  · have h := (zz_br h).1 c12
    refine lv_iload hx hb dX7_readsMan_46 (lv_at hl 1 rfl) ?_
    refine lv_bipush (v := (97 : Int32)) hx hb dX7_readsMan_48 (by decide) ?_
    refine lv_bipush (v := (120 : Int32)) hx hb dX7_readsMan_50 (by decide) ?_
    refine zz_ci (rest := []) G h (fun r μ1 hf => zz_runS X G cs_X7_in kw_905 (c_X7_in l D ad cA  hf) ⟨rfl, rfl, Nat.le_of_ble_eq_true rfl, Nat.le_of_ble_eq_true rfl⟩ rfl rfl hl.1 (Nat.le_of_ble_eq_true rfl) dX7_readsMan_52) (fun x13 μ H locs G h => ?_)
    refine lv_if_ne (tgt := 60) hx hb dX7_readsMan_55 (by decide) (fun c14 => ?_) (fun c14 => ?_)
    · have h := (zz_br h).1 c14
      refine lv_iload hx hb dX7_readsMan_60 (lv_at hl 0 rfl) ?_
      refine lv_bipush (v := (97 : Int32)) hx hb dX7_readsMan_62 (by decide) ?_
      refine lv_bipush (v := (120 : Int32)) hx hb dX7_readsMan_64 (by decide) ?_
      refine zz_ci (rest := []) G h (fun r μ1 hf => zz_runS X G cs_X7_in kw_905 (c_X7_in l D ad cA  hf) ⟨rfl, rfl, Nat.le_of_ble_eq_true rfl, Nat.le_of_ble_eq_true rfl⟩ rfl rfl hl.1 (Nat.le_of_ble_eq_true rfl) dX7_readsMan_66) (fun x15 μ H locs G h => ?_)
      refine lv_if_ne (tgt := 74) hx hb dX7_readsMan_69 (by decide) (fun c16 => ?_) (fun c16 => ?_)
      · have h := (zz_br h).1 c16
        refine lv_aload_n hx hb dX7_readsMan_74 rfl (lv_at hl 3 rfl) ?_
        refine zz_getr X G fr_7_8 tl_100 rl_100_8 kw_790 dX7_readsMan_75 ?_
        refine lv_iload_n hx hb dX7_readsMan_78 rfl (lv_at hl 4 rfl) ?_
        refine lv_iload_n hx hb dX7_readsMan_79 rfl (lv_at hl 2 rfl) ?_
        refine lv_bipush (v := (106 : Int32)) hx hb dX7_readsMan_80 (by decide) ?_
        refine Exists.elim (zz_jn (P := fun (j : Int32 → zM → Option (Int32 × zM)) => ∀ (y17 : Int32) (μ : zM) (H : Heap) (locs : List Loc) (ls : Array Slot), lv_has ls 6 [(0, .ref (ad 100)), (1, .int a1), (4, .int x2), (5, .int x3)] → zG false D ad cA s μ H locs → j y17 μ = some (r, μ') → W p l e ({ frames := 1, cells := 0, slots := 0, locals := 22 } : Room) s m args below meth c H locs 0 0 Q (F0 m 90 ls [.int y17, .int a1, .ref (ad 109)])) h ?_) (fun j90_2 hj => ?_)
        · intro y17 μ H locs ls hl G h
          refine zz_iast X G ia_30 tl_109 dX7_readsMan_90 h (fun μ H locs G h => ?_)
          refine lv_aload_n hx hb dX7_readsMan_91 rfl (lv_at hl 0 rfl) ?_
          refine zz_getr X G fr_7_9 tl_100 rl_100_9 kw_791 dX7_readsMan_92 ?_
          refine lv_iload_n hx hb dX7_readsMan_95 rfl (lv_at hl 1 rfl) ?_
          refine lv_iload hx hb dX7_readsMan_96 (lv_at hl 2 rfl) ?_
          refine lv_bipush (v := (97 : Int32)) hx hb dX7_readsMan_98 (by decide) ?_
          refine lv_isub hx hb dX7_readsMan_100 ?_
          refine zz_iast X G ia_30 tl_110 dX7_readsMan_101 h (fun μ H locs G h => ?_)
          refine lv_aload_n hx hb dX7_readsMan_102 rfl (lv_at hl 0 rfl) ?_
          refine zz_getr X G fr_7_10 tl_100 rl_100_10 kw_792 dX7_readsMan_103 ?_
          refine lv_iload_n hx hb dX7_readsMan_106 rfl (lv_at hl 1 rfl) ?_
          refine lv_iload hx hb dX7_readsMan_107 (lv_at hl 3 rfl) ?_
          refine lv_bipush (v := (97 : Int32)) hx hb dX7_readsMan_109 (by decide) ?_
          refine lv_isub hx hb dX7_readsMan_111 ?_
          refine zz_iast X G ia_30 tl_111 dX7_readsMan_112 h (fun μ H locs G h => ?_)
          refine lv_iconst (v := (3 : Int32)) hx hb dX7_readsMan_113 (by decide) ?_
          rw [hQ]
          exact zz_iret X G hr hlk dX7_readsMan_114 h
        obtain ⟨hj90_2, h⟩ := hj
        refine lv_icmp_ne (tgt := 89) hx hb dX7_readsMan_82 (by decide) (fun c18 => ?_) (fun c18 => ?_)
        · have h := (zz_br h).1 c18
          refine lv_iconst (v := (0 : Int32)) hx hb dX7_readsMan_89 (by decide) ?_
          exact hj90_2 (0 : Int32) μ _ _ _ (lv_sub hl [3, 4, 1, 0] rfl) G h
        have h := (zz_br h).2 (fun q => q c18)
        refine lv_iconst (v := (1 : Int32)) hx hb dX7_readsMan_85 (by decide) ?_
        refine lv_goto (tgt := 90) hx hb dX7_readsMan_86 (by decide) ?_
        exact hj90_2 (1 : Int32) μ _ _ _ (lv_sub hl [3, 4, 1, 0] rfl) G h
      have h := (zz_br h).2 (fun q => q c16)
      refine lv_iconst (v := (2 : Int32)) hx hb dX7_readsMan_72 (by decide) ?_
      rw [hQ]
      exact zz_iret X G hr hlk dX7_readsMan_73 h
    have h := (zz_br h).2 (fun q => q c14)
    refine lv_iconst (v := (1 : Int32)) hx hb dX7_readsMan_58 (by decide) ?_
    rw [hQ]
    exact zz_iret X G hr hlk dX7_readsMan_59 h
  have h := (zz_br h).2 c12
  refine lv_iconst (v := (0 : Int32)) hx hb dX7_readsMan_44 (by decide) ?_
  rw [hQ]
  exact zz_iret X G hr hlk dX7_readsMan_45 h
