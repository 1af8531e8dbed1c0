-- CONTRACTS, by program
set_option maxHeartbeats 4000000 in
set_option maxRecDepth 100000 in
theorem w_X7_neverNow_L8 {p : Program} {l : Launch} {e : Env} {s : State} {m : MethodId} {args : Array Value} {below : List Frame} {meth : Method} {c : Code} {Q : State → Prop} {D : va_G} {ad : Nat → Nat} {cA : Nat → ClassId} {r : Int32} {μ' : zM} (X : zX false D ad cA p s m args c cX7_neverNow "ButlerWeatherModel" 3) (hQ : Q = MQ below (zQi false D ad cA r μ') args s 0 0 (zA false ad)) (hr : meth.sig.returnType = (some .int)) (hlk : meth.locks = false)  {kx : Int32 → zM → Option (Int32 × zM)} (HX : ∀ (w1 : Int32) (μ : zM) (H : Heap) (locs : List Loc) (ls : Array Slot), lv_has ls 3 [(1, .int w1)] → zG false D ad cA s μ H locs → kx w1 μ = some (r, μ') → W p l e ({ frames := 6, cells := 0, slots := 0, locals := 138 } : Room) s m args below meth c H locs 0 0 Q (F0 m 46 ls [])) : ∀ (n : Nat) (v1 : Int32) (v2 : Int32) (μ : zM) (H : Heap) (locs : List Loc) (ls : Array Slot), lv_has ls 3 [(0, .ref (ad 100)), (1, .int v1), (2, .int v2)] → zG false D ad cA s μ H locs → f_X7_neverNow_L8 kx n v1 v2 μ = some (r, μ') → W p l e ({ frames := 6, cells := 0, slots := 0, locals := 138 } : Room) s m args below meth c H locs 0 0 Q (F0 m 8 ls []) := by
  obtain ⟨hx, hb, hml, hown, hts, -, -, -⟩ := id X
  intro n
  induction n with
  | zero =>
    intro v1 v2 μ H locs ls hl G h
    cases (show (none : Option (Int32 × zM)) = some (r, μ') from h)
  | succ n ih =>
    intro v1 v2 μ H locs ls hl G h
    rw [f_X7_neverNow_L8] at h
    refine lv_iload_n hx hb dX7_neverNow_8 rfl (lv_at hl 2 rfl) ?_
    refine lv_aload_n hx hb dX7_neverNow_9 rfl (lv_at hl 0 rfl) ?_
    refine zz_geti X G fi_7_11 tl_100 kw_793 dX7_neverNow_10 h (fun x1 h => ?_)
    refine lv_icmp_ge (tgt := 46) hx hb dX7_neverNow_13 (by decide) (fun c2 => ?_) (fun c2 => ?_)
    · have h := (zz_br h).1 c2
      exact HX v1 μ _ _ _ (lv_sub hl [1] rfl) G h
    have h := (zz_br h).2 c2
    refine lv_aload_n hx hb dX7_neverNow_16 rfl (lv_at hl 0 rfl) ?_
    refine lv_iconst (v := (1 : Int32)) hx hb dX7_neverNow_17 (by decide) ?_
    refine lv_iload_n hx hb dX7_neverNow_18 rfl (lv_at hl 2 rfl) ?_
    refine lv_ishl hx hb dX7_neverNow_19 ?_
    refine zz_puti X G fp_7_17 tl_100 kw_799 rfl rfl dX7_neverNow_20 h (fun μ H locs G h => ?_)
    refine lv_iload_n hx hb dX7_neverNow_23 rfl (lv_at hl 1 rfl) ?_
    refine lv_aload_n hx hb dX7_neverNow_24 rfl (lv_at hl 0 rfl) ?_
    refine zz_ci (rest := [.int v1]) G h (fun r μ1 hf => zz_runV X G rc_7 tl_100 cv_X7_isFelt kw_1181 (c_X7_isFelt l D ad cA  hf) ⟨rfl, rfl, Nat.le_of_ble_eq_true rfl, Nat.le_of_ble_eq_true rfl⟩ rfl rfl hl.1 (Nat.le_of_ble_eq_true rfl) dX7_neverNow_25) (fun x3 μ H locs G h => ?_)
    refine lv_if_eq (tgt := 37) hx hb dX7_neverNow_28 (by decide) (fun c4 => ?_) (fun c4 => ?_)
    · have h := (zz_br h).1 c4
      refine lv_iconst (v := (0 : Int32)) hx hb dX7_neverNow_37 (by decide) ?_
      refine lv_ior hx hb dX7_neverNow_38 ?_
      refine zz_vi h (fun x5 h => ?_)
      refine lv_istore_n (lv' := [(1, .int x5), (0, .ref (ad 100)), (2, .int v2)]) hx hb dX7_neverNow_39 rfl hl (by decide) rfl (fun ls hl => ?_)
      obtain ⟨x6, ex6, h⟩ := zz_let h
      refine lv_iinc (v := x6) (lv' := [(2, .int x6), (1, .int x5), (0, .ref (ad 100))]) hx hb dX7_neverNow_40 hl (k := 2) rfl (by rw [← ex6]; rfl) (by decide) rfl (fun ls hl => ?_)
      refine lv_goto (tgt := 8) hx hb dX7_neverNow_43 (by decide) ?_
      exact ih x5 x6 μ _ _ _ (lv_sub hl [2, 1, 0] rfl) G h
    have h := (zz_br h).2 c4
    refine lv_iconst (v := (1 : Int32)) hx hb dX7_neverNow_31 (by decide) ?_
    refine lv_iload_n hx hb dX7_neverNow_32 rfl (lv_at hl 2 rfl) ?_
    refine lv_ishl hx hb dX7_neverNow_33 ?_
    refine lv_goto (tgt := 38) hx hb dX7_neverNow_34 (by decide) ?_
    refine lv_ior hx hb dX7_neverNow_38 ?_
    refine zz_vi h (fun x7 h => ?_)
    refine lv_istore_n (lv' := [(1, .int x7), (0, .ref (ad 100)), (2, .int v2)]) hx hb dX7_neverNow_39 rfl hl (by decide) rfl (fun ls hl => ?_)
    obtain ⟨x8, ex8, h⟩ := zz_let h
    refine lv_iinc (v := x8) (lv' := [(2, .int x8), (1, .int x7), (0, .ref (ad 100))]) hx hb dX7_neverNow_40 hl (k := 2) rfl (by rw [← ex8]; rfl) (by decide) rfl (fun ls hl => ?_)
    refine lv_goto (tgt := 8) hx hb dX7_neverNow_43 (by decide) ?_
    exact ih x7 x8 μ _ _ _ (lv_sub hl [2, 1, 0] rfl) G h
set_option maxHeartbeats 4000000 in
set_option maxRecDepth 100000 in
theorem c_X7_neverNow (l : Launch) (D : va_G) (ad : Nat → Nat) (cA : Nat → ClassId)  {μ : zM} {r : Int32} {μ' : zM} (h : f_X7_neverNow μ = some (r, μ')) : zMet false D ad cA l yX7_neverNow cX7_neverNow 3 (some .int) ({ frames := 6, cells := 0, slots := 0, locals := 138 } : Room) [.ref (ad 100)] μ (zQi false D ad cA r μ') := by
  refine zMet_of "ButlerWeatherModel" ⟨by decide, rfl⟩ (Nat.le_of_ble_eq_true rfl) ?_
  intro p e s m args below meth c X G hr hlk ls hl
  have hl : lv_has ls 3 [(0, .ref (ad 100))] := hl
  obtain ⟨hx, hb, hml, hown, hts, -, -, -⟩ := id X
  obtain ⟨Q, hQ⟩ : ∃ Q, Q = MQ below (zQi false D ad cA r μ') args s 0 0 (zA false ad) := ⟨_, rfl⟩
  rw [← hQ]
  unfold f_X7_neverNow at h
  refine lv_aload_n hx hb dX7_neverNow_0 rfl (lv_at hl 0 rfl) ?_
  refine zz_cv (rest := []) G h (fun r μ1 hf => zz_runV X G rc_7 tl_100 cv_X7_asTold kw_1006 (c_X7_asTold l D ad cA  hf) ⟨rfl, rfl, Nat.le_of_ble_eq_true rfl, Nat.le_of_ble_eq_true rfl⟩ rfl rfl hl.1 (Nat.le_of_ble_eq_true rfl) dX7_neverNow_1) (fun _ μ H locs G h => ?_)
  refine lv_iconst (v := (0 : Int32)) hx hb dX7_neverNow_4 (by decide) ?_
  refine lv_istore_n (lv' := [(1, .int (0 : Int32)), (0, .ref (ad 100))]) hx hb dX7_neverNow_5 rfl hl (by decide) rfl (fun ls hl => ?_)
  refine lv_iconst (v := (0 : Int32)) hx hb dX7_neverNow_6 (by decide) ?_
  refine lv_istore_n (lv' := [(2, .int (0 : Int32)), (1, .int (0 : Int32)), (0, .ref (ad 100))]) hx hb dX7_neverNow_7 rfl hl (by decide) rfl (fun ls hl => ?_)
  refine w_X7_neverNow_L8 X hQ hr hlk  (fun x9 μ H locs ls hl G h => ?_) 400 (0 : Int32) (0 : Int32) μ _ _ _ (lv_sub hl [2, 1, 0] rfl) G h
  refine lv_iload_n hx hb dX7_neverNow_46 rfl (lv_at hl 0 rfl) ?_
  rw [hQ]
  exact zz_iret X G hr hlk dX7_neverNow_47 h
set_option maxHeartbeats 4000000 in
set_option maxRecDepth 100000 in
theorem c_X7_never (l : Launch) (D : va_G) (ad : Nat → Nat) (cA : Nat → ClassId)  {μ : zM} {r : Int32} {μ' : zM} (h : f_X7_never μ = some (r, μ')) : zMet false D ad cA l yX7_never cX7_never 1 (some .int) ({ frames := 7, cells := 0, slots := 0, locals := 160 } : Room) [.ref (ad 100)] μ (zQi false D ad cA r μ') := by
  refine zMet_of "ButlerWeatherModel" ⟨by decide, rfl⟩ (Nat.le_of_ble_eq_true rfl) ?_
  intro p e s m args below meth c X G hr hlk ls hl
  have hl : lv_has ls 1 [(0, .ref (ad 100))] := hl
  obtain ⟨hx, hb, hml, hown, hts, -, -, -⟩ := id X
  obtain ⟨Q, hQ⟩ : ∃ Q, Q = MQ below (zQi false D ad cA r μ') args s 0 0 (zA false ad) := ⟨_, rfl⟩
  rw [← hQ]
  unfold f_X7_never at h
  refine lv_aload_n hx hb dX7_never_0 rfl (lv_at hl 0 rfl) ?_
  refine zz_ci (rest := []) G h (fun r μ1 hf => zz_runV X G rc_7 tl_100 cv_X7_neverNow kw_1177 (c_X7_neverNow l D ad cA  hf) ⟨rfl, rfl, Nat.le_of_ble_eq_true rfl, Nat.le_of_ble_eq_true rfl⟩ rfl rfl hl.1 (Nat.le_of_ble_eq_true rfl) dX7_never_1) (fun x1 μ H locs G h => ?_)
  rw [hQ]
  exact zz_iret X G hr hlk dX7_never_4 h
set_option maxHeartbeats 4000000 in
set_option maxRecDepth 100000 in
theorem w_X7_sortsBy_L16 {p : Program} {l : Launch} {e : Env} {s : State} {m : MethodId} {args : Array Value} {below : List Frame} {meth : Method} {c : Code} {Q : State → Prop} {D : va_G} {ad : Nat → Nat} {cA : Nat → ClassId} {r : Int32} {μ' : zM} (X : zX false D ad cA p s m args c cX7_sortsBy "ButlerWeatherModel" 5) (hQ : Q = MQ below (zQi false D ad cA r μ') args s 0 0 (zA false ad)) (hr : meth.sig.returnType = (some .int)) (hlk : meth.locks = false) {v1 : Int32} {v2 : Int32} {kx : Int32 → zM → Option (Int32 × zM)} (HX : ∀ (w3 : Int32) (μ : zM) (H : Heap) (locs : List Loc) (ls : Array Slot), lv_has ls 5 [(0, .ref (ad 100)), (1, .int v1), (2, .int v2), (3, .int w3)] → zG false D ad cA s μ H locs → kx w3 μ = some (r, μ') → W p l e ({ frames := 6, cells := 0, slots := 0, locals := 138 } : Room) s m args below meth c H locs 0 0 Q (F0 m 54 ls [])) : ∀ (n : Nat) (v3 : Int32) (v4 : Int32) (μ : zM) (H : Heap) (locs : List Loc) (ls : Array Slot), lv_has ls 5 [(0, .ref (ad 100)), (1, .int v1), (2, .int v2), (3, .int v3), (4, .int v4)] → zG false D ad cA s μ H locs → f_X7_sortsBy_L16 v1 v2 kx n v3 v4 μ = some (r, μ') → W p l e ({ frames := 6, cells := 0, slots := 0, locals := 138 } : Room) s m args below meth c H locs 0 0 Q (F0 m 16 ls []) := by
  obtain ⟨hx, hb, hml, hown, hts, -, -, -⟩ := id X
  intro n
  induction n with
  | zero =>
    intro v3 v4 μ H locs ls hl G h
    cases (show (none : Option (Int32 × zM)) = some (r, μ') from h)
  | succ n ih =>
    intro v3 v4 μ H locs ls hl G h
    rw [f_X7_sortsBy_L16] at h
    refine lv_iload hx hb dX7_sortsBy_16 (lv_at hl 4 rfl) ?_
    refine lv_iconst (v := (4 : Int32)) hx hb dX7_sortsBy_18 (by decide) ?_
    refine lv_icmp_ge (tgt := 54) hx hb dX7_sortsBy_19 (by decide) (fun c2 => ?_) (fun c2 => ?_)
    · have h := (zz_br h).1 c2
      exact HX v3 μ _ _ _ (lv_sub hl [0, 1, 2, 3] rfl) G h
    have h := (zz_br h).2 c2
    refine lv_aload_n hx hb dX7_sortsBy_22 rfl (lv_at hl 0 rfl) ?_
    refine zz_getr X G fr_7_3 tl_100 rl_100_3 kw_785 dX7_sortsBy_23 ?_
    refine lv_iload_n hx hb dX7_sortsBy_26 rfl (lv_at hl 1 rfl) ?_
    refine lv_iload hx hb dX7_sortsBy_27 (lv_at hl 4 rfl) ?_
    refine zz_iast X G ia_30 tl_104 dX7_sortsBy_29 h (fun μ H locs G h => ?_)
    refine lv_iload_n hx hb dX7_sortsBy_30 rfl (lv_at hl 3 rfl) ?_
    refine lv_aload_n hx hb dX7_sortsBy_31 rfl (lv_at hl 0 rfl) ?_
    refine zz_ci (rest := [.int v3]) G h (fun r μ1 hf => zz_runV X G rc_7 tl_100 cv_X7_isFelt kw_1181 (c_X7_isFelt l D ad cA  hf) ⟨rfl, rfl, Nat.le_of_ble_eq_true rfl, Nat.le_of_ble_eq_true rfl⟩ rfl rfl hl.1 (Nat.le_of_ble_eq_true rfl) dX7_sortsBy_32) (fun x3 μ H locs G h => ?_)
    refine lv_if_eq (tgt := 45) hx hb dX7_sortsBy_35 (by decide) (fun c4 => ?_) (fun c4 => ?_)
    · have h := (zz_br h).1 c4
      refine lv_iconst (v := (0 : Int32)) hx hb dX7_sortsBy_45 (by decide) ?_
      refine lv_ior hx hb dX7_sortsBy_46 ?_
      refine zz_vi h (fun x5 h => ?_)
      refine lv_istore_n (lv' := [(3, .int x5), (0, .ref (ad 100)), (1, .int v1), (2, .int v2), (4, .int v4)]) hx hb dX7_sortsBy_47 rfl hl (by decide) rfl (fun ls hl => ?_)
      obtain ⟨x6, ex6, h⟩ := zz_let h
      refine lv_iinc (v := x6) (lv' := [(4, .int x6), (3, .int x5), (0, .ref (ad 100)), (1, .int v1), (2, .int v2)]) hx hb dX7_sortsBy_48 hl (k := 4) rfl (by rw [← ex6]; rfl) (by decide) rfl (fun ls hl => ?_)
      refine lv_goto (tgt := 16) hx hb dX7_sortsBy_51 (by decide) ?_
      exact ih x5 x6 μ _ _ _ (lv_sub hl [2, 3, 4, 1, 0] rfl) G h
    have h := (zz_br h).2 c4
    refine lv_iconst (v := (1 : Int32)) hx hb dX7_sortsBy_38 (by decide) ?_
    refine lv_iload hx hb dX7_sortsBy_39 (lv_at hl 4 rfl) ?_
    refine lv_ishl hx hb dX7_sortsBy_41 ?_
    refine lv_goto (tgt := 46) hx hb dX7_sortsBy_42 (by decide) ?_
    refine lv_ior hx hb dX7_sortsBy_46 ?_
    refine zz_vi h (fun x7 h => ?_)
    refine lv_istore_n (lv' := [(3, .int x7), (0, .ref (ad 100)), (1, .int v1), (2, .int v2), (4, .int v4)]) hx hb dX7_sortsBy_47 rfl hl (by decide) rfl (fun ls hl => ?_)
    obtain ⟨x8, ex8, h⟩ := zz_let h
    refine lv_iinc (v := x8) (lv' := [(4, .int x8), (3, .int x7), (0, .ref (ad 100)), (1, .int v1), (2, .int v2)]) hx hb dX7_sortsBy_48 hl (k := 4) rfl (by rw [← ex8]; rfl) (by decide) rfl (fun ls hl => ?_)
    refine lv_goto (tgt := 16) hx hb dX7_sortsBy_51 (by decide) ?_
    exact ih x7 x8 μ _ _ _ (lv_sub hl [2, 3, 4, 1, 0] rfl) G h
set_option maxHeartbeats 4000000 in
set_option maxRecDepth 100000 in
theorem c_X7_sortsBy (l : Launch) (D : va_G) (ad : Nat → Nat) (cA : Nat → ClassId) {a1 : Int32} {μ : zM} {r : Int32} {μ' : zM} (h : f_X7_sortsBy a1 μ = some (r, μ')) : zMet false D ad cA l yX7_sortsBy cX7_sortsBy 5 (some .int) ({ frames := 6, cells := 0, slots := 0, locals := 138 } : Room) [.ref (ad 100), .int a1] μ (zQi false D ad cA r μ') := by
  refine zMet_of "ButlerWeatherModel" ⟨by decide, rfl⟩ (Nat.le_of_ble_eq_true rfl) ?_
  intro p e s m args below meth c X G hr hlk ls hl
  have hl : lv_has ls 5 [(0, .ref (ad 100)), (1, .int a1)] := hl
  obtain ⟨hx, hb, hml, hown, hts, -, -, -⟩ := id X
  obtain ⟨Q, hQ⟩ : ∃ Q, Q = MQ below (zQi false D ad cA r μ') args s 0 0 (zA false ad) := ⟨_, rfl⟩
  rw [← hQ]
  unfold f_X7_sortsBy at h
  refine lv_aload_n hx hb dX7_sortsBy_0 rfl (lv_at hl 0 rfl) ?_
  refine zz_cv (rest := []) G h (fun r μ1 hf => zz_runV X G rc_7 tl_100 cv_X7_asTold kw_1006 (c_X7_asTold l D ad cA  hf) ⟨rfl, rfl, Nat.le_of_ble_eq_true rfl, Nat.le_of_ble_eq_true rfl⟩ rfl rfl hl.1 (Nat.le_of_ble_eq_true rfl) dX7_sortsBy_1) (fun _ μ H locs G h => ?_)
  refine lv_aload_n hx hb dX7_sortsBy_4 rfl (lv_at hl 0 rfl) ?_
  refine zz_getr X G fr_7_3 tl_100 rl_100_3 kw_785 dX7_sortsBy_5 ?_
  refine lv_iload_n hx hb dX7_sortsBy_8 rfl (lv_at hl 1 rfl) ?_
  refine zz_iald X G ia_30 tl_104 dX7_sortsBy_9 h (fun x1 h => ?_)
  refine lv_istore_n (lv' := [(2, .int x1), (0, .ref (ad 100)), (1, .int a1)]) hx hb dX7_sortsBy_10 rfl hl (by decide) rfl (fun ls hl => ?_)
  refine lv_iconst (v := (0 : Int32)) hx hb dX7_sortsBy_11 (by decide) ?_
  refine lv_istore_n (lv' := [(3, .int (0 : Int32)), (2, .int x1), (0, .ref (ad 100)), (1, .int a1)]) hx hb dX7_sortsBy_12 rfl hl (by decide) rfl (fun ls hl => ?_)
  refine lv_iconst (v := (0 : Int32)) hx hb dX7_sortsBy_13 (by decide) ?_
  refine lv_istore (lv' := [(4, .int (0 : Int32)), (3, .int (0 : Int32)), (2, .int x1), (0, .ref (ad 100)), (1, .int a1)]) hx hb dX7_sortsBy_14 hl (by decide) rfl (fun ls hl => ?_)
  refine w_X7_sortsBy_L16 X hQ hr hlk  (fun x9 μ H locs ls hl G h => ?_) 400 (0 : Int32) (0 : Int32) μ _ _ _ (lv_sub hl [3, 4, 2, 1, 0] rfl) G h
  refine lv_aload_n hx hb dX7_sortsBy_54 rfl (lv_at hl 0 rfl) ?_
  refine zz_getr X G fr_7_3 tl_100 rl_100_3 kw_785 dX7_sortsBy_55 ?_
  refine lv_iload_n hx hb dX7_sortsBy_58 rfl (lv_at hl 1 rfl) ?_
  refine lv_iload_n hx hb dX7_sortsBy_59 rfl (lv_at hl 2 rfl) ?_
  refine zz_iast X G ia_30 tl_104 dX7_sortsBy_60 h (fun μ H locs G h => ?_)
  refine lv_iload_n hx hb dX7_sortsBy_61 rfl (lv_at hl 3 rfl) ?_
  rw [hQ]
  exact zz_iret X G hr hlk dX7_sortsBy_62 h
set_option maxHeartbeats 4000000 in
set_option maxRecDepth 100000 in
theorem w_X7_longBy_L52 {p : Program} {l : Launch} {e : Env} {s : State} {m : MethodId} {args : Array Value} {below : List Frame} {meth : Method} {c : Code} {Q : State → Prop} {D : va_G} {ad : Nat → Nat} {cA : Nat → ClassId} {r : Int32} {μ' : zM} (X : zX false D ad cA p s m args c cX7_longBy "ButlerWeatherModel" 6) (hQ : Q = MQ below (zQi false D ad cA r μ') args s 0 0 (zA false ad)) (hr : meth.sig.returnType = (some .int)) (hlk : meth.locks = false) {v1 : Int32} {v2 : Int32} {v3 : Int32} {v4 : Int32} {kx : zM → Option (Int32 × zM)} (HX : ∀ (μ : zM) (H : Heap) (locs : List Loc) (ls : Array Slot), lv_has ls 6 [(0, .ref (ad 100)), (1, .int v1), (2, .int v2), (3, .int v3), (4, .int v4)] → zG false D ad cA s μ H locs → kx  μ = some (r, μ') → W p l e ({ frames := 6, cells := 0, slots := 0, locals := 138 } : Room) s m args below meth c H locs 0 0 Q (F0 m 85 ls [])) : ∀ (n : Nat) (v5 : Int32) (μ : zM) (H : Heap) (locs : List Loc) (ls : Array Slot), lv_has ls 6 [(0, .ref (ad 100)), (1, .int v1), (2, .int v2), (3, .int v3), (4, .int v4), (5, .int v5)] → zG false D ad cA s μ H locs → f_X7_longBy_L52 v1 v2 v3 v4 kx n v5 μ = some (r, μ') → W p l e ({ frames := 6, cells := 0, slots := 0, locals := 138 } : Room) s m args below meth c H locs 0 0 Q (F0 m 52 ls []) := by
  obtain ⟨hx, hb, hml, hown, hts, -, -, -⟩ := id X
  intro n
  induction n with
  | zero =>
    intro v5 μ H locs ls hl G h
    cases (show (none : Option (Int32 × zM)) = some (r, μ') from h)
  | succ n ih =>
    intro v5 μ H locs ls hl G h
    rw [f_X7_longBy_L52] at h
    refine lv_iload hx hb dX7_longBy_52 (lv_at hl 5 rfl) ?_
    refine lv_bipush (v := (24 : Int32)) hx hb dX7_longBy_54 (by decide) ?_
    refine lv_icmp_ge (tgt := 85) hx hb dX7_longBy_56 (by decide) (fun c6 => ?_) (fun c6 => ?_)
    · have h := (zz_br h).1 c6
      exact HX  μ _ _ _ (lv_sub hl [0, 1, 2, 3, 4] rfl) G h
    have h := (zz_br h).2 c6
    refine lv_aload_n hx hb dX7_longBy_59 rfl (lv_at hl 0 rfl) ?_
    refine zz_getr X G fr_7_31 tl_100 rl_100_31 kw_813 dX7_longBy_60 ?_
    refine lv_bipush (v := (24 : Int32)) hx hb dX7_longBy_63 (by decide) ?_
    refine lv_iload hx hb dX7_longBy_65 (lv_at hl 4 rfl) ?_
    refine lv_imul hx hb dX7_longBy_67 ?_
    refine lv_iload hx hb dX7_longBy_68 (lv_at hl 5 rfl) ?_
    refine lv_iadd hx hb dX7_longBy_70 ?_
    refine lv_aload_n hx hb dX7_longBy_71 rfl (lv_at hl 0 rfl) ?_
    refine zz_getr X G fr_7_26 tl_100 rl_100_26 kw_808 dX7_longBy_72 ?_
    refine lv_iload hx hb dX7_longBy_75 (lv_at hl 5 rfl) ?_
    refine zz_iald X G ia_30 tl_127 dX7_longBy_77 h (fun x7 h => ?_)
    refine zz_iast X G ia_30 tl_132 dX7_longBy_78 h (fun μ H locs G h => ?_)
    obtain ⟨x8, ex8, h⟩ := zz_let h
    refine lv_iinc (v := x8) (lv' := [(5, .int x8), (0, .ref (ad 100)), (1, .int v1), (2, .int v2), (3, .int v3), (4, .int v4)]) hx hb dX7_longBy_79 hl (k := 5) rfl (by rw [← ex8]; rfl) (by decide) rfl (fun ls hl => ?_)
    refine lv_goto (tgt := 52) hx hb dX7_longBy_82 (by decide) ?_
    exact ih x8 μ _ _ _ (lv_sub hl [1, 2, 3, 4, 5, 0] rfl) G h
set_option maxHeartbeats 4000000 in
set_option maxRecDepth 100000 in
theorem w_X7_longBy_L16 {p : Program} {l : Launch} {e : Env} {s : State} {m : MethodId} {args : Array Value} {below : List Frame} {meth : Method} {c : Code} {Q : State → Prop} {D : va_G} {ad : Nat → Nat} {cA : Nat → ClassId} {r : Int32} {μ' : zM} (X : zX false D ad cA p s m args c cX7_longBy "ButlerWeatherModel" 6) (hQ : Q = MQ below (zQi false D ad cA r μ') args s 0 0 (zA false ad)) (hr : meth.sig.returnType = (some .int)) (hlk : meth.locks = false) {v1 : Int32} {v2 : Int32} {kx : Int32 → zM → Option (Int32 × zM)} (HX : ∀ (w3 : Int32) (μ : zM) (H : Heap) (locs : List Loc) (ls : Array Slot), lv_has ls 6 [(0, .ref (ad 100)), (1, .int v1), (2, .int v2), (3, .int w3)] → zG false D ad cA s μ H locs → kx w3 μ = some (r, μ') → W p l e ({ frames := 6, cells := 0, slots := 0, locals := 138 } : Room) s m args below meth c H locs 0 0 Q (F0 m 91 ls [])) : ∀ (n : Nat) (v3 : Int32) (v4 : Int32) (μ : zM) (H : Heap) (locs : List Loc) (ls : Array Slot), lv_has ls 6 [(0, .ref (ad 100)), (1, .int v1), (2, .int v2), (3, .int v3), (4, .int v4)] → zG false D ad cA s μ H locs → f_X7_longBy_L16 v1 v2 kx n v3 v4 μ = some (r, μ') → W p l e ({ frames := 6, cells := 0, slots := 0, locals := 138 } : Room) s m args below meth c H locs 0 0 Q (F0 m 16 ls []) := by
  obtain ⟨hx, hb, hml, hown, hts, -, -, -⟩ := id X
  intro n
  induction n with
  | zero =>
    intro v3 v4 μ H locs ls hl G h
    cases (show (none : Option (Int32 × zM)) = some (r, μ') from h)
  | succ n ih =>
    intro v3 v4 μ H locs ls hl G h
    rw [f_X7_longBy_L16] at h
    refine lv_iload hx hb dX7_longBy_16 (lv_at hl 4 rfl) ?_
    refine lv_bipush (v := (10 : Int32)) hx hb dX7_longBy_18 (by decide) ?_
    refine lv_icmp_ge (tgt := 91) hx hb dX7_longBy_20 (by decide) (fun c2 => ?_) (fun c2 => ?_)
    · have h := (zz_br h).1 c2
      exact HX v3 μ _ _ _ (lv_sub hl [0, 1, 2, 3] rfl) G h
    have h := (zz_br h).2 c2
    refine lv_aload_n hx hb dX7_longBy_23 rfl (lv_at hl 0 rfl) ?_
    refine zz_getr X G fr_7_4 tl_100 rl_100_4 kw_786 dX7_longBy_24 ?_
    refine lv_iload_n hx hb dX7_longBy_27 rfl (lv_at hl 1 rfl) ?_
    refine lv_iload hx hb dX7_longBy_28 (lv_at hl 4 rfl) ?_
    refine zz_iast X G ia_30 tl_105 dX7_longBy_30 h (fun μ H locs G h => ?_)
    refine lv_iload_n hx hb dX7_longBy_31 rfl (lv_at hl 3 rfl) ?_
    refine lv_aload_n hx hb dX7_longBy_32 rfl (lv_at hl 0 rfl) ?_
    refine zz_ci (rest := [.int v3]) G h (fun r μ1 hf => zz_runV X G rc_7 tl_100 cv_X7_isFelt kw_1181 (c_X7_isFelt l D ad cA  hf) ⟨rfl, rfl, Nat.le_of_ble_eq_true rfl, Nat.le_of_ble_eq_true rfl⟩ rfl rfl hl.1 (Nat.le_of_ble_eq_true rfl) dX7_longBy_33) (fun x3 μ H locs G h => ?_)
    refine Exists.elim (zz_jn (P := fun (j : Int32 → zM → Option (Int32 × zM)) => ∀ (y4 : Int32) (μ : zM) (H : Heap) (locs : List Loc) (ls : Array Slot), lv_has ls 6 [(0, .ref (ad 100)), (1, .int v1), (2, .int v2), (4, .int v4)] → zG false D ad cA s μ H locs → j y4 μ = some (r, μ') → W p l e ({ frames := 6, cells := 0, slots := 0, locals := 138 } : Room) s m args below meth c H locs 0 0 Q (F0 m 47 ls [.int y4, .int v3])) h ?_) (fun j47_1 hj => ?_)
    · intro y4 μ H locs ls hl G h
      refine lv_ior hx hb dX7_longBy_47 ?_
      refine zz_vi h (fun x5 h => ?_)
      refine lv_istore_n (lv' := [(3, .int x5), (0, .ref (ad 100)), (1, .int v1), (2, .int v2), (4, .int v4)]) hx hb dX7_longBy_48 rfl hl (by decide) rfl (fun ls hl => ?_)
      refine lv_iconst (v := (0 : Int32)) hx hb dX7_longBy_49 (by decide) ?_
      refine lv_istore (lv' := [(5, .int (0 : Int32)), (3, .int x5), (0, .ref (ad 100)), (1, .int v1), (2, .int v2), (4, .int v4)]) hx hb dX7_longBy_50 hl (by decide) rfl (fun ls hl => ?_)
      refine w_X7_longBy_L52 X hQ hr hlk  (fun  μ H locs ls hl G h => ?_) 400 (0 : Int32) μ _ _ _ (lv_sub hl [2, 3, 4, 1, 5, 0] rfl) G h
      obtain ⟨x9, ex9, h⟩ := zz_let h
      refine lv_iinc (v := x9) (lv' := [(4, .int x9), (0, .ref (ad 100)), (1, .int v1), (2, .int v2), (3, .int x5)]) hx hb dX7_longBy_85 hl (k := 4) rfl (by rw [← ex9]; rfl) (by decide) rfl (fun ls hl => ?_)
      refine lv_goto (tgt := 16) hx hb dX7_longBy_88 (by decide) ?_
      exact ih x5 x9 μ _ _ _ (lv_sub hl [1, 2, 3, 4, 0] rfl) G h
    obtain ⟨hj47_1, h⟩ := hj
    refine lv_if_eq (tgt := 46) hx hb dX7_longBy_36 (by decide) (fun c10 => ?_) (fun c10 => ?_)
    · have h := (zz_br h).1 c10
      refine lv_iconst (v := (0 : Int32)) hx hb dX7_longBy_46 (by decide) ?_
      exact hj47_1 (0 : Int32) μ _ _ _ (lv_sub hl [0, 1, 2, 4] rfl) G h
    have h := (zz_br h).2 c10
    refine lv_iconst (v := (1 : Int32)) hx hb dX7_longBy_39 (by decide) ?_
    refine lv_iload hx hb dX7_longBy_40 (lv_at hl 4 rfl) ?_
    refine lv_ishl hx hb dX7_longBy_42 ?_
    refine lv_goto (tgt := 47) hx hb dX7_longBy_43 (by decide) ?_
    exact hj47_1 ((1 : Int32) <<< (v4 &&& 31)) μ _ _ _ (lv_sub hl [0, 1, 2, 4] rfl) G h
set_option maxHeartbeats 4000000 in
set_option maxRecDepth 100000 in
theorem c_X7_longBy (l : Launch) (D : va_G) (ad : Nat → Nat) (cA : Nat → ClassId) {a1 : Int32} {μ : zM} {r : Int32} {μ' : zM} (h : f_X7_longBy a1 μ = some (r, μ')) : zMet false D ad cA l yX7_longBy cX7_longBy 6 (some .int) ({ frames := 6, cells := 0, slots := 0, locals := 138 } : Room) [.ref (ad 100), .int a1] μ (zQi false D ad cA r μ') := by
  refine zMet_of "ButlerWeatherModel" ⟨by decide, rfl⟩ (Nat.le_of_ble_eq_true rfl) ?_
  intro p e s m args below meth c X G hr hlk ls hl
  have hl : lv_has ls 6 [(0, .ref (ad 100)), (1, .int a1)] := hl
  obtain ⟨hx, hb, hml, hown, hts, -, -, -⟩ := id X
  obtain ⟨Q, hQ⟩ : ∃ Q, Q = MQ below (zQi false D ad cA r μ') args s 0 0 (zA false ad) := ⟨_, rfl⟩
  rw [← hQ]
  unfold f_X7_longBy at h
  refine lv_aload_n hx hb dX7_longBy_0 rfl (lv_at hl 0 rfl) ?_
  refine zz_cv (rest := []) G h (fun r μ1 hf => zz_runV X G rc_7 tl_100 cv_X7_asTold kw_1006 (c_X7_asTold l D ad cA  hf) ⟨rfl, rfl, Nat.le_of_ble_eq_true rfl, Nat.le_of_ble_eq_true rfl⟩ rfl rfl hl.1 (Nat.le_of_ble_eq_true rfl) dX7_longBy_1) (fun _ μ H locs G h => ?_)
  refine lv_aload_n hx hb dX7_longBy_4 rfl (lv_at hl 0 rfl) ?_
  refine zz_getr X G fr_7_4 tl_100 rl_100_4 kw_786 dX7_longBy_5 ?_
  refine lv_iload_n hx hb dX7_longBy_8 rfl (lv_at hl 1 rfl) ?_
  refine zz_iald X G ia_30 tl_105 dX7_longBy_9 h (fun x1 h => ?_)
  refine lv_istore_n (lv' := [(2, .int x1), (0, .ref (ad 100)), (1, .int a1)]) hx hb dX7_longBy_10 rfl hl (by decide) rfl (fun ls hl => ?_)
  refine lv_iconst (v := (0 : Int32)) hx hb dX7_longBy_11 (by decide) ?_
  refine lv_istore_n (lv' := [(3, .int (0 : Int32)), (2, .int x1), (0, .ref (ad 100)), (1, .int a1)]) hx hb dX7_longBy_12 rfl hl (by decide) rfl (fun ls hl => ?_)
  refine lv_iconst (v := (1 : Int32)) hx hb dX7_longBy_13 (by decide) ?_
  refine lv_istore (lv' := [(4, .int (1 : Int32)), (3, .int (0 : Int32)), (2, .int x1), (0, .ref (ad 100)), (1, .int a1)]) hx hb dX7_longBy_14 hl (by decide) rfl (fun ls hl => ?_)
  refine w_X7_longBy_L16 X hQ hr hlk  (fun x11 μ H locs ls hl G h => ?_) 400 (0 : Int32) (1 : Int32) μ _ _ _ (lv_sub hl [3, 4, 2, 1, 0] rfl) G h
  refine lv_aload_n hx hb dX7_longBy_91 rfl (lv_at hl 0 rfl) ?_
  refine zz_getr X G fr_7_4 tl_100 rl_100_4 kw_786 dX7_longBy_92 ?_
  refine lv_iload_n hx hb dX7_longBy_95 rfl (lv_at hl 1 rfl) ?_
  refine lv_iload_n hx hb dX7_longBy_96 rfl (lv_at hl 2 rfl) ?_
  refine zz_iast X G ia_30 tl_105 dX7_longBy_97 h (fun μ H locs G h => ?_)
  refine lv_iload_n hx hb dX7_longBy_98 rfl (lv_at hl 3 rfl) ?_
  rw [hQ]
  exact zz_iret X G hr hlk dX7_longBy_99 h
set_option maxHeartbeats 4000000 in
set_option maxRecDepth 100000 in
theorem c_X7_was (l : Launch) (D : va_G) (ad : Nat → Nat) (cA : Nat → ClassId) {a1 : Int32} {a2 : Int32} {μ : zM} {r : Int32} {μ' : zM} (h : f_X7_was a1 a2 μ = some (r, μ')) : zMet false D ad cA l yX7_was cX7_was 3 (some .int) ({ frames := 7, cells := 0, slots := 0, locals := 163 } : Room) [.ref (ad 100), .int a1, .int a2] μ (zQi false D ad cA r μ') := by
  refine zMet_of "ButlerWeatherModel" ⟨by decide, rfl⟩ (Nat.le_of_ble_eq_true rfl) ?_
  intro p e s m args below meth c X G hr hlk ls hl
  have hl : lv_has ls 3 [(0, .ref (ad 100)), (1, .int a1), (2, .int a2)] := hl
  obtain ⟨hx, hb, hml, hown, hts, -, -, -⟩ := id X
  obtain ⟨Q, hQ⟩ : ∃ Q, Q = MQ below (zQi false D ad cA r μ') args s 0 0 (zA false ad) := ⟨_, rfl⟩
  rw [← hQ]
  unfold f_X7_was at h
  refine lv_aload_n hx hb dX7_was_0 rfl (lv_at hl 0 rfl) ?_
  refine lv_iload_n hx hb dX7_was_1 rfl (lv_at hl 1 rfl) ?_
  refine zz_ci (rest := []) G h (fun r μ1 hf => zz_runV X G rc_7 tl_100 cv_X7_isCaller kw_947 (c_X7_isCaller l D ad cA  hf) ⟨rfl, rfl, Nat.le_of_ble_eq_true rfl, Nat.le_of_ble_eq_true rfl⟩ rfl rfl hl.1 (Nat.le_of_ble_eq_true rfl) dX7_was_2) (fun x1 μ H locs G h => ?_)
  refine lv_if_eq (tgt := 35) hx hb dX7_was_5 (by decide) (fun c2 => ?_) (fun c2 => ?_)
  · have h := (zz_br h).1 c2
    refine lv_bipush (v := (-2 : Int32)) hx hb dX7_was_35 (by decide) ?_
    rw [hQ]
    exact zz_iret X G hr hlk dX7_was_37 h
  have h := (zz_br h).2 c2
  refine lv_iload_n hx hb dX7_was_8 rfl (lv_at hl 2 rfl) ?_
  refine zz_ci (rest := []) G h (fun r μ1 hf => zz_runS X G cs_X7_isTwo kw_1081 (c_X7_isTwo l D ad cA  hf) ⟨rfl, rfl, Nat.le_of_ble_eq_true rfl, Nat.le_of_ble_eq_true rfl⟩ rfl rfl hl.1 (Nat.le_of_ble_eq_true rfl) dX7_was_9) (fun x3 μ H locs G h => ?_)
  refine lv_if_eq (tgt := 35) hx hb dX7_was_12 (by decide) (fun c4 => ?_) (fun c4 => ?_)
  · have h := (zz_br h).1 c4
    refine lv_bipush (v := (-2 : Int32)) hx hb dX7_was_35 (by decide) ?_
    rw [hQ]
    exact zz_iret X G hr hlk dX7_was_37 h
  have h := (zz_br h).2 c4
  refine lv_iload_n hx hb dX7_was_15 rfl (lv_at hl 2 rfl) ?_
  refine lv_if_ne (tgt := 27) hx hb dX7_was_16 (by decide) (fun c5 => ?_) (fun c5 => ?_)
  · have h := (zz_br h).1 c5
    refine lv_aload_n hx hb dX7_was_27 rfl (lv_at hl 0 rfl) ?_
    refine lv_iload_n hx hb dX7_was_28 rfl (lv_at hl 1 rfl) ?_
    refine zz_ci (rest := []) G h (fun r μ1 hf => zz_runV X G rc_7 tl_100 cv_X7_longBy kw_1193 (c_X7_longBy l D ad cA  hf) ⟨rfl, rfl, Nat.le_of_ble_eq_true rfl, Nat.le_of_ble_eq_true rfl⟩ rfl rfl hl.1 (Nat.le_of_ble_eq_true rfl) dX7_was_29) (fun x6 μ H locs G h => ?_)
    refine lv_goto (tgt := 37) hx hb dX7_was_32 (by decide) ?_
    rw [hQ]
    exact zz_iret X G hr hlk dX7_was_37 h
  have h := (zz_br h).2 (fun q => q c5)
  refine lv_aload_n hx hb dX7_was_19 rfl (lv_at hl 0 rfl) ?_
  refine lv_iload_n hx hb dX7_was_20 rfl (lv_at hl 1 rfl) ?_
  refine zz_ci (rest := []) G h (fun r μ1 hf => zz_runV X G rc_7 tl_100 cv_X7_sortsBy kw_1189 (c_X7_sortsBy l D ad cA  hf) ⟨rfl, rfl, Nat.le_of_ble_eq_true rfl, Nat.le_of_ble_eq_true rfl⟩ rfl rfl hl.1 (Nat.le_of_ble_eq_true rfl) dX7_was_21) (fun x7 μ H locs G h => ?_)
  refine lv_goto (tgt := 37) hx hb dX7_was_24 (by decide) ?_
  rw [hQ]
  exact zz_iret X G hr hlk dX7_was_37 h
set_option maxHeartbeats 4000000 in
set_option maxRecDepth 100000 in
theorem w_X7_askOf_L40 {p : Program} {l : Launch} {e : Env} {s : State} {m : MethodId} {args : Array Value} {below : List Frame} {meth : Method} {c : Code} {Q : State → Prop} {D : va_G} {ad : Nat → Nat} {cA : Nat → ClassId} {r : Int32} {μ' : zM} (X : zX false D ad cA p s m args c cX7_askOf "ButlerWeatherModel" 10) (hQ : Q = MQ below (zQi false D ad cA r μ') args s 0 0 (zA false ad)) (hr : meth.sig.returnType = (some .int)) (hlk : meth.locks = false) {v2 : Int32} {v3 : Int32} {v4 : Int32} {v5 : Int32} {v6 : Int32} {v7 : Int32} {kx : Int32 → zM → Option (Int32 × zM)} (HX : ∀ (w8 : Int32) (μ : zM) (H : Heap) (locs : List Loc) (ls : Array Slot), lv_has ls 10 [(0, .ref (ad 100)), (2, .int v2), (3, .int v3), (4, .int v4), (5, .int v5), (6, .int v6), (7, .int v7), (8, .int w8)] → zG false D ad cA s μ H locs → kx w8 μ = some (r, μ') → W p l e ({ frames := 7, cells := 0, slots := 0, locals := 163 } : Room) s m args below meth c H locs 0 0 Q (F0 m 110 ls [])) : ∀ (n : Nat) (v8 : Int32) (v9 : Int32) (μ : zM) (H : Heap) (locs : List Loc) (ls : Array Slot), lv_has ls 10 [(0, .ref (ad 100)), (2, .int v2), (3, .int v3), (4, .int v4), (5, .int v5), (6, .int v6), (7, .int v7), (8, .int v8), (9, .int v9)] → zG false D ad cA s μ H locs → f_X7_askOf_L40 v2 v3 v4 v5 v6 v7 kx n v8 v9 μ = some (r, μ') → W p l e ({ frames := 7, cells := 0, slots := 0, locals := 163 } : Room) s m args below meth c H locs 0 0 Q (F0 m 40 ls []) := by
  obtain ⟨hx, hb, hml, hown, hts, -, -, -⟩ := id X
  intro n
  induction n with
  | zero =>
    intro v8 v9 μ H locs ls hl G h
    cases (show (none : Option (Int32 × zM)) = some (r, μ') from h)
  | succ n ih =>
    intro v8 v9 μ H locs ls hl G h
    rw [f_X7_askOf_L40] at h
    refine lv_iload hx hb dX7_askOf_40 (lv_at hl 8 rfl) ?_
    refine lv_bipush (v := (10 : Int32)) hx hb dX7_askOf_42 (by decide) ?_
    refine lv_icmp_ge (tgt := 110) hx hb dX7_askOf_44 (by decide) (fun c4 => ?_) (fun c4 => ?_)
    · have h := (zz_br h).1 c4
      exact HX v8 μ _ _ _ (lv_sub hl [0, 1, 2, 3, 4, 5, 6, 7] rfl) G h
    have h := (zz_br h).2 c4
    refine lv_iload hx hb dX7_askOf_47 (lv_at hl 7 rfl) ?_
    refine lv_iload_n hx hb dX7_askOf_49 rfl (lv_at hl 1 rfl) ?_
    refine lv_iload hx hb dX7_askOf_50 (lv_at hl 6 rfl) ?_
    refine zz_ci (rest := [.int v8]) G h (fun r μ1 hf => zz_runS X G cs_X7_isIn kw_1038 (c_X7_isIn l D ad cA  hf) ⟨rfl, rfl, Nat.le_of_ble_eq_true rfl, Nat.le_of_ble_eq_true rfl⟩ rfl rfl hl.1 (Nat.le_of_ble_eq_true rfl) dX7_askOf_52) (fun x5 μ H locs G h => ?_)
    refine lv_if_eq (tgt := 100) hx hb dX7_askOf_55 (by decide) (fun c6 => ?_) (fun c6 => ?_)
    · have h := (zz_br h).1 c6
      refine lv_iconst (v := (0 : Int32)) hx hb dX7_askOf_100 (by decide) ?_
      refine lv_iadd hx hb dX7_askOf_101 ?_
      refine zz_vi h (fun x7 h => ?_)
      refine lv_istore (lv' := [(8, .int x7), (0, .ref (ad 100)), (2, .int v2), (3, .int v3), (4, .int v4), (5, .int v5), (6, .int v6), (7, .int v7), (9, .int v9)]) hx hb dX7_askOf_102 hl (by decide) rfl (fun ls hl => ?_)
      obtain ⟨x8, ex8, h⟩ := zz_let h
      refine lv_iinc (v := x8) (lv' := [(9, .int x8), (8, .int x7), (0, .ref (ad 100)), (2, .int v2), (3, .int v3), (4, .int v4), (5, .int v5), (6, .int v6), (7, .int v7)]) hx hb dX7_askOf_104 hl (k := 8) rfl (by rw [← ex8]; rfl) (by decide) rfl (fun ls hl => ?_)
      refine lv_goto (tgt := 40) hx hb dX7_askOf_107 (by decide) ?_
      exact ih x7 x8 μ _ _ _ (lv_sub hl [2, 3, 4, 5, 6, 7, 8, 1, 0] rfl) G h
    have h := (zz_br h).2 c6
    refine lv_iload_n hx hb dX7_askOf_58 rfl (lv_at hl 1 rfl) ?_
    refine lv_iload hx hb dX7_askOf_59 (lv_at hl 8 rfl) ?_
    refine zz_ci (rest := [.int v8]) G h (fun r μ1 hf => zz_runS X G cs_X7_isIn kw_1038 (c_X7_isIn l D ad cA  hf) ⟨rfl, rfl, Nat.le_of_ble_eq_true rfl, Nat.le_of_ble_eq_true rfl⟩ rfl rfl hl.1 (Nat.le_of_ble_eq_true rfl) dX7_askOf_61) (fun x9 μ H locs G h => ?_)
    refine lv_if_eq (tgt := 100) hx hb dX7_askOf_64 (by decide) (fun c10 => ?_) (fun c10 => ?_)
    · have h := (zz_br h).1 c10
      refine lv_iconst (v := (0 : Int32)) hx hb dX7_askOf_100 (by decide) ?_
      refine lv_iadd hx hb dX7_askOf_101 ?_
      refine zz_vi h (fun x11 h => ?_)
      refine lv_istore (lv' := [(8, .int x11), (0, .ref (ad 100)), (2, .int v2), (3, .int v3), (4, .int v4), (5, .int v5), (6, .int v6), (7, .int v7), (9, .int v9)]) hx hb dX7_askOf_102 hl (by decide) rfl (fun ls hl => ?_)
      obtain ⟨x12, ex12, h⟩ := zz_let h
      refine lv_iinc (v := x12) (lv' := [(9, .int x12), (8, .int x11), (0, .ref (ad 100)), (2, .int v2), (3, .int v3), (4, .int v4), (5, .int v5), (6, .int v6), (7, .int v7)]) hx hb dX7_askOf_104 hl (k := 8) rfl (by rw [← ex12]; rfl) (by decide) rfl (fun ls hl => ?_)
      refine lv_goto (tgt := 40) hx hb dX7_askOf_107 (by decide) ?_
      exact ih x11 x12 μ _ _ _ (lv_sub hl [2, 3, 4, 5, 6, 7, 8, 1, 0] rfl) G h
    have h := (zz_br h).2 c10
    refine lv_aload_n hx hb dX7_askOf_67 rfl (lv_at hl 0 rfl) ?_
    refine zz_getr X G fr_7_31 tl_100 rl_100_31 kw_813 dX7_askOf_68 ?_
    refine lv_bipush (v := (24 : Int32)) hx hb dX7_askOf_71 (by decide) ?_
    refine lv_iload hx hb dX7_askOf_73 (lv_at hl 6 rfl) ?_
    refine lv_imul hx hb dX7_askOf_75 ?_
    refine lv_iload hx hb dX7_askOf_76 (lv_at hl 4 rfl) ?_
    refine lv_iadd hx hb dX7_askOf_78 ?_
    refine zz_iald X G ia_30 tl_132 dX7_askOf_79 h (fun x13 h => ?_)
    refine lv_aload_n hx hb dX7_askOf_80 rfl (lv_at hl 0 rfl) ?_
    refine zz_getr X G fr_7_31 tl_100 rl_100_31 kw_813 dX7_askOf_81 ?_
    refine lv_bipush (v := (24 : Int32)) hx hb dX7_askOf_84 (by decide) ?_
    refine lv_iload hx hb dX7_askOf_86 (lv_at hl 8 rfl) ?_
    refine lv_imul hx hb dX7_askOf_88 ?_
    refine lv_iload hx hb dX7_askOf_89 (lv_at hl 4 rfl) ?_
    refine lv_iadd hx hb dX7_askOf_91 ?_
    refine zz_iald X G ia_30 tl_132 dX7_askOf_92 h (fun x14 h => ?_)
    refine lv_icmp_ne (tgt := 100) hx hb dX7_askOf_93 (by decide) (fun c15 => ?_) (fun c15 => ?_)
    · have h := (zz_br h).1 c15
      refine lv_iconst (v := (0 : Int32)) hx hb dX7_askOf_100 (by decide) ?_
      refine lv_iadd hx hb dX7_askOf_101 ?_
      refine zz_vi h (fun x16 h => ?_)
      refine lv_istore (lv' := [(8, .int x16), (0, .ref (ad 100)), (2, .int v2), (3, .int v3), (4, .int v4), (5, .int v5), (6, .int v6), (7, .int v7), (9, .int v9)]) hx hb dX7_askOf_102 hl (by decide) rfl (fun ls hl => ?_)
      obtain ⟨x17, ex17, h⟩ := zz_let h
      refine lv_iinc (v := x17) (lv' := [(9, .int x17), (8, .int x16), (0, .ref (ad 100)), (2, .int v2), (3, .int v3), (4, .int v4), (5, .int v5), (6, .int v6), (7, .int v7)]) hx hb dX7_askOf_104 hl (k := 8) rfl (by rw [← ex17]; rfl) (by decide) rfl (fun ls hl => ?_)
      refine lv_goto (tgt := 40) hx hb dX7_askOf_107 (by decide) ?_
      exact ih x16 x17 μ _ _ _ (lv_sub hl [2, 3, 4, 5, 6, 7, 8, 1, 0] rfl) G h
    have h := (zz_br h).2 (fun q => q c15)
    refine lv_iconst (v := (1 : Int32)) hx hb dX7_askOf_96 (by decide) ?_
    refine lv_goto (tgt := 101) hx hb dX7_askOf_97 (by decide) ?_
    refine lv_iadd hx hb dX7_askOf_101 ?_
    refine zz_vi h (fun x18 h => ?_)
    refine lv_istore (lv' := [(8, .int x18), (0, .ref (ad 100)), (2, .int v2), (3, .int v3), (4, .int v4), (5, .int v5), (6, .int v6), (7, .int v7), (9, .int v9)]) hx hb dX7_askOf_102 hl (by decide) rfl (fun ls hl => ?_)
    obtain ⟨x19, ex19, h⟩ := zz_let h
    refine lv_iinc (v := x19) (lv' := [(9, .int x19), (8, .int x18), (0, .ref (ad 100)), (2, .int v2), (3, .int v3), (4, .int v4), (5, .int v5), (6, .int v6), (7, .int v7)]) hx hb dX7_askOf_104 hl (k := 8) rfl (by rw [← ex19]; rfl) (by decide) rfl (fun ls hl => ?_)
    refine lv_goto (tgt := 40) hx hb dX7_askOf_107 (by decide) ?_
    exact ih x18 x19 μ _ _ _ (lv_sub hl [2, 3, 4, 5, 6, 7, 8, 1, 0] rfl) G h
set_option maxHeartbeats 4000000 in
set_option maxRecDepth 100000 in
theorem w_X7_askOf_L27 {p : Program} {l : Launch} {e : Env} {s : State} {m : MethodId} {args : Array Value} {below : List Frame} {meth : Method} {c : Code} {Q : State → Prop} {D : va_G} {ad : Nat → Nat} {cA : Nat → ClassId} {r : Int32} {μ' : zM} (X : zX false D ad cA p s m args c cX7_askOf "ButlerWeatherModel" 10) (hQ : Q = MQ below (zQi false D ad cA r μ') args s 0 0 (zA false ad)) (hr : meth.sig.returnType = (some .int)) (hlk : meth.locks = false) {v2 : Int32} {v3 : Int32} {v4 : Int32} {v5 : Int32} {kx : Int32 → zM → Option (Int32 × zM)} (HX : ∀ (w6 : Int32) (μ : zM) (H : Heap) (locs : List Loc) (ls : Array Slot), lv_has ls 10 [(0, .ref (ad 100)), (2, .int v2), (3, .int v3), (4, .int v4), (5, .int v5), (6, .int w6)] → zG false D ad cA s μ H locs → kx w6 μ = some (r, μ') → W p l e ({ frames := 7, cells := 0, slots := 0, locals := 163 } : Room) s m args below meth c H locs 0 0 Q (F0 m 132 ls [])) : ∀ (n : Nat) (v6 : Int32) (v7 : Int32) (μ : zM) (H : Heap) (locs : List Loc) (ls : Array Slot), lv_has ls 10 [(0, .ref (ad 100)), (2, .int v2), (3, .int v3), (4, .int v4), (5, .int v5), (6, .int v6), (7, .int v7)] → zG false D ad cA s μ H locs → f_X7_askOf_L27 v2 v3 v4 v5 kx n v6 v7 μ = some (r, μ') → W p l e ({ frames := 7, cells := 0, slots := 0, locals := 163 } : Room) s m args below meth c H locs 0 0 Q (F0 m 27 ls []) := by
  obtain ⟨hx, hb, hml, hown, hts, -, -, -⟩ := id X
  intro n
  induction n with
  | zero =>
    intro v6 v7 μ H locs ls hl G h
    cases (show (none : Option (Int32 × zM)) = some (r, μ') from h)
  | succ n ih =>
    intro v6 v7 μ H locs ls hl G h
    rw [f_X7_askOf_L27] at h
    refine lv_iload hx hb dX7_askOf_27 (lv_at hl 6 rfl) ?_
    refine lv_bipush (v := (10 : Int32)) hx hb dX7_askOf_29 (by decide) ?_
    refine lv_icmp_ge (tgt := 132) hx hb dX7_askOf_31 (by decide) (fun c3 => ?_) (fun c3 => ?_)
    · have h := (zz_br h).1 c3
      exact HX v6 μ _ _ _ (lv_sub hl [0, 1, 2, 3, 4, 5] rfl) G h
    have h := (zz_br h).2 c3
    refine lv_iconst (v := (0 : Int32)) hx hb dX7_askOf_34 (by decide) ?_
    refine lv_istore (lv' := [(8, .int (0 : Int32)), (0, .ref (ad 100)), (2, .int v2), (3, .int v3), (4, .int v4), (5, .int v5), (6, .int v6), (7, .int v7)]) hx hb dX7_askOf_35 hl (by decide) rfl (fun ls hl => ?_)
    refine lv_iconst (v := (1 : Int32)) hx hb dX7_askOf_37 (by decide) ?_
    refine lv_istore (lv' := [(9, .int (1 : Int32)), (8, .int (0 : Int32)), (0, .ref (ad 100)), (2, .int v2), (3, .int v3), (4, .int v4), (5, .int v5), (6, .int v6), (7, .int v7)]) hx hb dX7_askOf_38 hl (by decide) rfl (fun ls hl => ?_)
    refine w_X7_askOf_L40 X hQ hr hlk  (fun x20 μ H locs ls hl G h => ?_) 400 (0 : Int32) (1 : Int32) μ _ _ _ (lv_sub hl [2, 3, 4, 5, 6, 7, 8, 1, 0] rfl) G h
    refine lv_iload hx hb dX7_askOf_110 (lv_at hl 7 rfl) ?_
    refine lv_iload hx hb dX7_askOf_112 (lv_at hl 5 rfl) ?_
    refine lv_icmp_le (tgt := 122) hx hb dX7_askOf_114 (by decide) (fun c21 => ?_) (fun c21 => ?_)
    · have h := (zz_br h).1 c21
      refine lv_iload hx hb dX7_askOf_122 (lv_at hl 5 rfl) ?_
      refine lv_istore (lv' := [(6, .int v6), (0, .ref (ad 100)), (2, .int v2), (3, .int v3), (4, .int v4), (5, .int v5), (7, .int v7), (8, .int x20)]) hx hb dX7_askOf_124 hl (by decide) rfl (fun ls hl => ?_)
      obtain ⟨x22, ex22, h⟩ := zz_let h
      refine lv_iinc (v := x22) (lv' := [(7, .int x22), (6, .int v6), (0, .ref (ad 100)), (2, .int v2), (3, .int v3), (4, .int v4), (5, .int v5), (8, .int x20)]) hx hb dX7_askOf_126 hl (k := 6) rfl (by rw [← ex22]; rfl) (by decide) rfl (fun ls hl => ?_)
      refine lv_goto (tgt := 27) hx hb dX7_askOf_129 (by decide) ?_
      exact ih v6 x22 μ _ _ _ (lv_sub hl [2, 3, 4, 5, 6, 1, 0] rfl) G h
    have h := (zz_br h).2 c21
    refine lv_iload hx hb dX7_askOf_117 (lv_at hl 7 rfl) ?_
    refine lv_goto (tgt := 124) hx hb dX7_askOf_119 (by decide) ?_
    refine lv_istore (lv' := [(6, .int x20), (0, .ref (ad 100)), (2, .int v2), (3, .int v3), (4, .int v4), (5, .int v5), (7, .int v7), (8, .int x20)]) hx hb dX7_askOf_124 hl (by decide) rfl (fun ls hl => ?_)
    obtain ⟨x23, ex23, h⟩ := zz_let h
    refine lv_iinc (v := x23) (lv' := [(7, .int x23), (6, .int x20), (0, .ref (ad 100)), (2, .int v2), (3, .int v3), (4, .int v4), (5, .int v5), (8, .int x20)]) hx hb dX7_askOf_126 hl (k := 6) rfl (by rw [← ex23]; rfl) (by decide) rfl (fun ls hl => ?_)
    refine lv_goto (tgt := 27) hx hb dX7_askOf_129 (by decide) ?_
    exact ih x20 x23 μ _ _ _ (lv_sub hl [2, 3, 4, 5, 6, 1, 0] rfl) G h
set_option maxHeartbeats 4000000 in
set_option maxRecDepth 100000 in
theorem w_X7_askOf_L14 {p : Program} {l : Launch} {e : Env} {s : State} {m : MethodId} {args : Array Value} {below : List Frame} {meth : Method} {c : Code} {Q : State → Prop} {D : va_G} {ad : Nat → Nat} {cA : Nat → ClassId} {r : Int32} {μ' : zM} (X : zX false D ad cA p s m args c cX7_askOf "ButlerWeatherModel" 10) (hQ : Q = MQ below (zQi false D ad cA r μ') args s 0 0 (zA false ad)) (hr : meth.sig.returnType = (some .int)) (hlk : meth.locks = false) {v2 : Int32} {kx : Int32 → zM → Option (Int32 × zM)} (HX : ∀ (w3 : Int32) (μ : zM) (H : Heap) (locs : List Loc) (ls : Array Slot), lv_has ls 10 [(3, .int w3)] → zG false D ad cA s μ H locs → kx w3 μ = some (r, μ') → W p l e ({ frames := 7, cells := 0, slots := 0, locals := 163 } : Room) s m args below meth c H locs 0 0 Q (F0 m 183 ls [])) : ∀ (n : Nat) (v3 : Int32) (v4 : Int32) (v5 : Int32) (μ : zM) (H : Heap) (locs : List Loc) (ls : Array Slot), lv_has ls 10 [(0, .ref (ad 100)), (2, .int v2), (3, .int v3), (4, .int v4), (5, .int v5)] → zG false D ad cA s μ H locs → f_X7_askOf_L14 v2 kx n v3 v4 v5 μ = some (r, μ') → W p l e ({ frames := 7, cells := 0, slots := 0, locals := 163 } : Room) s m args below meth c H locs 0 0 Q (F0 m 14 ls []) := by
  obtain ⟨hx, hb, hml, hown, hts, -, -, -⟩ := id X
  intro n
  induction n with
  | zero =>
    intro v3 v4 v5 μ H locs ls hl G h
    cases (show (none : Option (Int32 × zM)) = some (r, μ') from h)
  | succ n ih =>
    intro v3 v4 v5 μ H locs ls hl G h
    rw [f_X7_askOf_L14] at h
    refine lv_iload hx hb dX7_askOf_14 (lv_at hl 4 rfl) ?_
    refine lv_bipush (v := (24 : Int32)) hx hb dX7_askOf_16 (by decide) ?_
    refine lv_icmp_ge (tgt := 183) hx hb dX7_askOf_18 (by decide) (fun c2 => ?_) (fun c2 => ?_)
    · have h := (zz_br h).1 c2
      exact HX v3 μ _ _ _ (lv_sub hl [2] rfl) G h
    have h := (zz_br h).2 c2
    refine lv_iconst (v := (0 : Int32)) hx hb dX7_askOf_21 (by decide) ?_
    refine lv_istore (lv' := [(6, .int (0 : Int32)), (0, .ref (ad 100)), (2, .int v2), (3, .int v3), (4, .int v4), (5, .int v5)]) hx hb dX7_askOf_22 hl (by decide) rfl (fun ls hl => ?_)
    refine lv_iconst (v := (1 : Int32)) hx hb dX7_askOf_24 (by decide) ?_
    refine lv_istore (lv' := [(7, .int (1 : Int32)), (6, .int (0 : Int32)), (0, .ref (ad 100)), (2, .int v2), (3, .int v3), (4, .int v4), (5, .int v5)]) hx hb dX7_askOf_25 hl (by decide) rfl (fun ls hl => ?_)
    refine w_X7_askOf_L27 X hQ hr hlk  (fun x24 μ H locs ls hl G h => ?_) 400 (0 : Int32) (1 : Int32) μ _ _ _ (lv_sub hl [2, 3, 4, 5, 6, 1, 0] rfl) G h
    refine lv_iload_n hx hb dX7_askOf_132 rfl (lv_at hl 2 rfl) ?_
    refine lv_iconst (v := (-1 : Int32)) hx hb dX7_askOf_133 (by decide) ?_
    refine Exists.elim (zz_jn (P := fun (j : Int32 → zM → Option (Int32 × zM)) => ∀ (y25 : Int32) (μ : zM) (H : Heap) (locs : List Loc) (ls : Array Slot), lv_has ls 10 [(0, .ref (ad 100)), (2, .int v2), (3, .int v3), (4, .int v4), (5, .int v5), (6, .int x24)] → zG false D ad cA s μ H locs → j y25 μ = some (r, μ') → W p l e ({ frames := 7, cells := 0, slots := 0, locals := 163 } : Room) s m args below meth c H locs 0 0 Q (F0 m 149 ls [.int y25])) h ?_) (fun j149_1 hj => ?_)
    · intro y25 μ H locs ls hl G h
      refine lv_istore (lv' := [(7, .int y25), (0, .ref (ad 100)), (2, .int v2), (3, .int v3), (4, .int v4), (5, .int v5), (6, .int x24)]) hx hb dX7_askOf_149 hl (by decide) rfl (fun ls hl => ?_)
      refine lv_iload hx hb dX7_askOf_151 (lv_at hl 0 rfl) ?_
      refine Exists.elim (zz_jn (P := fun (j : Int32 → zM → Option (Int32 × zM)) => ∀ (y26 : Int32) (μ : zM) (H : Heap) (locs : List Loc) (ls : Array Slot), lv_has ls 10 [(0, .ref (ad 100)), (2, .int v2), (4, .int v4), (5, .int v5), (6, .int x24), (7, .int y25)] → zG false D ad cA s μ H locs → j y26 μ = some (r, μ') → W p l e ({ frames := 7, cells := 0, slots := 0, locals := 163 } : Room) s m args below meth c H locs 0 0 Q (F0 m 162 ls [.int y26])) h ?_) (fun j162_2 hj => ?_)
      · intro y26 μ H locs ls hl G h
        refine lv_istore_n (lv' := [(3, .int y26), (0, .ref (ad 100)), (2, .int v2), (4, .int v4), (5, .int v5), (6, .int x24), (7, .int y25)]) hx hb dX7_askOf_162 rfl hl (by decide) rfl (fun ls hl => ?_)
        refine lv_iload hx hb dX7_askOf_163 (lv_at hl 6 rfl) ?_
        refine lv_if_eq (tgt := 173) hx hb dX7_askOf_165 (by decide) (fun c27 => ?_) (fun c27 => ?_)
        · have h := (zz_br h).1 c27
          refine lv_iload hx hb dX7_askOf_173 (lv_at hl 3 rfl) ?_
          refine lv_istore (lv' := [(4, .int v4), (3, .int y26), (0, .ref (ad 100)), (2, .int v2), (5, .int v5), (6, .int x24), (7, .int y25)]) hx hb dX7_askOf_175 hl (by decide) rfl (fun ls hl => ?_)
          obtain ⟨x28, ex28, h⟩ := zz_let h
          refine lv_iinc (v := x28) (lv' := [(5, .int x28), (4, .int v4), (3, .int y26), (0, .ref (ad 100)), (2, .int v2), (6, .int x24), (7, .int y25)]) hx hb dX7_askOf_177 hl (k := 4) rfl (by rw [← ex28]; rfl) (by decide) rfl (fun ls hl => ?_)
          refine lv_goto (tgt := 14) hx hb dX7_askOf_180 (by decide) ?_
          exact ih y26 v4 x28 μ _ _ _ (lv_sub hl [3, 4, 2, 1, 0] rfl) G h
        have h := (zz_br h).2 c27
        refine lv_iload hx hb dX7_askOf_168 (lv_at hl 5 rfl) ?_
        refine lv_goto (tgt := 175) hx hb dX7_askOf_170 (by decide) ?_
        refine lv_istore (lv' := [(4, .int x24), (3, .int y26), (0, .ref (ad 100)), (2, .int v2), (5, .int v5), (6, .int x24), (7, .int y25)]) hx hb dX7_askOf_175 hl (by decide) rfl (fun ls hl => ?_)
        obtain ⟨x29, ex29, h⟩ := zz_let h
        refine lv_iinc (v := x29) (lv' := [(5, .int x29), (4, .int x24), (3, .int y26), (0, .ref (ad 100)), (2, .int v2), (6, .int x24), (7, .int y25)]) hx hb dX7_askOf_177 hl (k := 4) rfl (by rw [← ex29]; rfl) (by decide) rfl (fun ls hl => ?_)
        refine lv_goto (tgt := 14) hx hb dX7_askOf_180 (by decide) ?_
        exact ih y26 x24 x29 μ _ _ _ (lv_sub hl [3, 4, 2, 1, 0] rfl) G h
      obtain ⟨hj162_2, h⟩ := hj
      refine lv_if_eq (tgt := 161) hx hb dX7_askOf_153 (by decide) (fun c30 => ?_) (fun c30 => ?_)
      · have h := (zz_br h).1 c30
        refine lv_iload_n hx hb dX7_askOf_161 rfl (lv_at hl 3 rfl) ?_
        exact hj162_2 v3 μ _ _ _ (lv_sub hl [1, 2, 4, 5, 6, 0] rfl) G h
      have h := (zz_br h).2 c30
      refine lv_iload hx hb dX7_askOf_156 (lv_at hl 5 rfl) ?_
      refine lv_goto (tgt := 162) hx hb dX7_askOf_158 (by decide) ?_
      exact hj162_2 v5 μ _ _ _ (lv_sub hl [1, 2, 4, 5, 6, 0] rfl) G h
    obtain ⟨hj149_1, h⟩ := hj
    refine lv_icmp_eq (tgt := 144) hx hb dX7_askOf_134 (by decide) (fun c31 => ?_) (fun c31 => ?_)
    · have h := (zz_br h).1 c31
      refine lv_iconst (v := (1 : Int32)) hx hb dX7_askOf_144 (by decide) ?_
      refine lv_goto (tgt := 149) hx hb dX7_askOf_145 (by decide) ?_
      exact hj149_1 (1 : Int32) μ _ _ _ (lv_sub hl [0, 1, 2, 3, 4, 5] rfl) G h
    have h := (zz_br h).2 c31
    refine lv_iload hx hb dX7_askOf_137 (lv_at hl 5 rfl) ?_
    refine lv_iload hx hb dX7_askOf_139 (lv_at hl 3 rfl) ?_
    refine lv_icmp_ge (tgt := 148) hx hb dX7_askOf_141 (by decide) (fun c32 => ?_) (fun c32 => ?_)
    · have h := (zz_br h).1 c32
      refine lv_iconst (v := (0 : Int32)) hx hb dX7_askOf_148 (by decide) ?_
      exact hj149_1 (0 : Int32) μ _ _ _ (lv_sub hl [0, 1, 2, 3, 4, 5] rfl) G h
    have h := (zz_br h).2 c32
    refine lv_iconst (v := (1 : Int32)) hx hb dX7_askOf_144 (by decide) ?_
    refine lv_goto (tgt := 149) hx hb dX7_askOf_145 (by decide) ?_
    exact hj149_1 (1 : Int32) μ _ _ _ (lv_sub hl [0, 1, 2, 3, 4, 5] rfl) G h
set_option maxHeartbeats 4000000 in
set_option maxRecDepth 100000 in
theorem c_X7_askOf (l : Launch) (D : va_G) (ad : Nat → Nat) (cA : Nat → ClassId) {a1 : Int32} {μ : zM} {r : Int32} {μ' : zM} (h : f_X7_askOf a1 μ = some (r, μ')) : zMet false D ad cA l yX7_askOf cX7_askOf 10 (some .int) ({ frames := 7, cells := 0, slots := 0, locals := 163 } : Room) [.ref (ad 100), .int a1] μ (zQi false D ad cA r μ') := by
  refine zMet_of "ButlerWeatherModel" ⟨by decide, rfl⟩ (Nat.le_of_ble_eq_true rfl) ?_
  intro p e s m args below meth c X G hr hlk ls hl
  have hl : lv_has ls 10 [(0, .ref (ad 100)), (1, .int a1)] := hl
  obtain ⟨hx, hb, hml, hown, hts, -, -, -⟩ := id X
  obtain ⟨Q, hQ⟩ : ∃ Q, Q = MQ below (zQi false D ad cA r μ') args s 0 0 (zA false ad) := ⟨_, rfl⟩
  rw [← hQ]
  unfold f_X7_askOf at h
  refine lv_aload_n hx hb dX7_askOf_0 rfl (lv_at hl 0 rfl) ?_
  refine lv_iload_n hx hb dX7_askOf_1 rfl (lv_at hl 1 rfl) ?_
  refine zz_ci (rest := []) G h (fun r μ1 hf => zz_runV X G rc_7 tl_100 cv_X7_longBy kw_1193 (c_X7_longBy l D ad cA  hf) ⟨rfl, rfl, Nat.le_of_ble_eq_true rfl, Nat.le_of_ble_eq_true rfl⟩ rfl rfl hl.1 (Nat.le_of_ble_eq_true rfl) dX7_askOf_2) (fun x1 μ H locs G h => ?_)
  refine lv_istore_n (lv' := [(2, .int x1), (0, .ref (ad 100)), (1, .int a1)]) hx hb dX7_askOf_5 rfl hl (by decide) rfl (fun ls hl => ?_)
  refine lv_iconst (v := (-1 : Int32)) hx hb dX7_askOf_6 (by decide) ?_
  refine lv_istore_n (lv' := [(3, .int (-1 : Int32)), (2, .int x1), (0, .ref (ad 100)), (1, .int a1)]) hx hb dX7_askOf_7 rfl hl (by decide) rfl (fun ls hl => ?_)
  refine lv_iconst (v := (0 : Int32)) hx hb dX7_askOf_8 (by decide) ?_
  refine lv_istore (lv' := [(4, .int (0 : Int32)), (3, .int (-1 : Int32)), (2, .int x1), (0, .ref (ad 100)), (1, .int a1)]) hx hb dX7_askOf_9 hl (by decide) rfl (fun ls hl => ?_)
  refine lv_iconst (v := (0 : Int32)) hx hb dX7_askOf_11 (by decide) ?_
  refine lv_istore (lv' := [(5, .int (0 : Int32)), (4, .int (0 : Int32)), (3, .int (-1 : Int32)), (2, .int x1), (0, .ref (ad 100)), (1, .int a1)]) hx hb dX7_askOf_12 hl (by decide) rfl (fun ls hl => ?_)
  refine w_X7_askOf_L14 X hQ hr hlk  (fun x33 μ H locs ls hl G h => ?_) 400 (-1 : Int32) (0 : Int32) (0 : Int32) μ _ _ _ (lv_sub hl [4, 3, 2, 1, 0] rfl) G h
  refine lv_iload_n hx hb dX7_askOf_183 rfl (lv_at hl 0 rfl) ?_
  rw [hQ]
  exact zz_iret X G hr hlk dX7_askOf_184 h
set_option maxHeartbeats 4000000 in
set_option maxRecDepth 100000 in
theorem c_X7_ask (l : Launch) (D : va_G) (ad : Nat → Nat) (cA : Nat → ClassId) {a1 : Int32} {μ : zM} {r : Int32} {μ' : zM} (h : f_X7_ask a1 μ = some (r, μ')) : zMet false D ad cA l yX7_ask cX7_ask 2 (some .int) ({ frames := 8, cells := 0, slots := 0, locals := 192 } : Room) [.ref (ad 100), .int a1] μ (zQi false D ad cA r μ') := by
  refine zMet_of "ButlerWeatherModel" ⟨by decide, rfl⟩ (Nat.le_of_ble_eq_true rfl) ?_
  intro p e s m args below meth c X G hr hlk ls hl
  have hl : lv_has ls 2 [(0, .ref (ad 100)), (1, .int a1)] := hl
  obtain ⟨hx, hb, hml, hown, hts, -, -, -⟩ := id X
  obtain ⟨Q, hQ⟩ : ∃ Q, Q = MQ below (zQi false D ad cA r μ') args s 0 0 (zA false ad) := ⟨_, rfl⟩
  rw [← hQ]
  unfold f_X7_ask at h
  refine lv_aload_n hx hb dX7_ask_0 rfl (lv_at hl 0 rfl) ?_
  refine lv_iload_n hx hb dX7_ask_1 rfl (lv_at hl 1 rfl) ?_
  refine zz_ci (rest := []) G h (fun r μ1 hf => zz_runV X G rc_7 tl_100 cv_X7_isCaller kw_947 (c_X7_isCaller l D ad cA  hf) ⟨rfl, rfl, Nat.le_of_ble_eq_true rfl, Nat.le_of_ble_eq_true rfl⟩ rfl rfl hl.1 (Nat.le_of_ble_eq_true rfl) dX7_ask_2) (fun x1 μ H locs G h => ?_)
  refine lv_if_eq (tgt := 16) hx hb dX7_ask_5 (by decide) (fun c2 => ?_) (fun c2 => ?_)
  · have h := (zz_br h).1 c2
    refine lv_bipush (v := (-2 : Int32)) hx hb dX7_ask_16 (by decide) ?_
    rw [hQ]
    exact zz_iret X G hr hlk dX7_ask_18 h
  have h := (zz_br h).2 c2
  refine lv_aload_n hx hb dX7_ask_8 rfl (lv_at hl 0 rfl) ?_
  refine lv_iload_n hx hb dX7_ask_9 rfl (lv_at hl 1 rfl) ?_
  refine zz_ci (rest := []) G h (fun r μ1 hf => zz_runV X G rc_7 tl_100 cv_X7_askOf kw_1201 (c_X7_askOf l D ad cA  hf) ⟨rfl, rfl, Nat.le_of_ble_eq_true rfl, Nat.le_of_ble_eq_true rfl⟩ rfl rfl hl.1 (Nat.le_of_ble_eq_true rfl) dX7_ask_10) (fun x3 μ H locs G h => ?_)
  refine lv_goto (tgt := 18) hx hb dX7_ask_13 (by decide) ?_
  rw [hQ]
  exact zz_iret X G hr hlk dX7_ask_18 h
set_option maxHeartbeats 4000000 in
set_option maxRecDepth 100000 in
theorem w_X7_chanceOf_L27 {p : Program} {l : Launch} {e : Env} {s : State} {m : MethodId} {args : Array Value} {below : List Frame} {meth : Method} {c : Code} {Q : State → Prop} {D : va_G} {ad : Nat → Nat} {cA : Nat → ClassId} {r : Int64} {μ' : zM} (X : zX false D ad cA p s m args c cX7_chanceOf "ButlerWeatherModel" 10) (hQ : Q = MQ below (zQl false D ad cA r μ') args s 0 0 (zA false ad)) (hr : meth.sig.returnType = (some .long)) (hlk : meth.locks = false) {v1 : Int32} {v2 : Int32} {v3 : Int32} {v4 : Int64} {v6 : Int32} {kx : Int64 → zM → Option (Int64 × zM)} (HX : ∀ (w7 : Int64) (μ : zM) (H : Heap) (locs : List Loc) (ls : Array Slot), lv_has ls 10 [(0, .ref (ad 100)), (1, .int v1), (2, .int v2), (3, .int v3), (4, .long v4), (6, .int v6), (7, .long w7)] → zG false D ad cA s μ H locs → kx w7 μ = some (r, μ') → W p l e ({ frames := 6, cells := 0, slots := 0, locals := 138 } : Room) s m args below meth c H locs 0 0 Q (F0 m 67 ls [])) : ∀ (n : Nat) (v7 : Int64) (v9 : Int32) (μ : zM) (H : Heap) (locs : List Loc) (ls : Array Slot), lv_has ls 10 [(0, .ref (ad 100)), (1, .int v1), (2, .int v2), (3, .int v3), (4, .long v4), (6, .int v6), (7, .long v7), (9, .int v9)] → zG false D ad cA s μ H locs → f_X7_chanceOf_L27 v1 v2 v3 v4 v6 kx n v7 v9 μ = some (r, μ') → W p l e ({ frames := 6, cells := 0, slots := 0, locals := 138 } : Room) s m args below meth c H locs 0 0 Q (F0 m 27 ls []) := by
  obtain ⟨hx, hb, hml, hown, hts, -, -, -⟩ := id X
  intro n
  induction n with
  | zero =>
    intro v7 v9 μ H locs ls hl G h
    cases (show (none : Option (Int64 × zM)) = some (r, μ') from h)
  | succ n ih =>
    intro v7 v9 μ H locs ls hl G h
    rw [f_X7_chanceOf_L27] at h
    refine lv_iload hx hb dX7_chanceOf_27 (lv_at hl 7 rfl) ?_
    refine lv_aload_n hx hb dX7_chanceOf_29 rfl (lv_at hl 0 rfl) ?_
    refine zz_geti X G fi_7_11 tl_100 kw_793 dX7_chanceOf_30 h (fun x3 h => ?_)
    refine lv_icmp_ge (tgt := 67) hx hb dX7_chanceOf_33 (by decide) (fun c4 => ?_) (fun c4 => ?_)
    · have h := (zz_br h).1 c4
      exact HX v7 μ _ _ _ (lv_sub hl [0, 1, 2, 3, 4, 5, 6] rfl) G h
    have h := (zz_br h).2 c4
    refine lv_lload hx hb dX7_chanceOf_36 (lv_at hl 6 rfl) ?_
    refine lv_iload hx hb dX7_chanceOf_38 (lv_at hl 5 rfl) ?_
    refine lv_iload hx hb dX7_chanceOf_40 (lv_at hl 7 rfl) ?_
    refine zz_ci (rest := [.long v7]) G h (fun r μ1 hf => zz_runS X G cs_X7_isIn kw_1038 (c_X7_isIn l D ad cA  hf) ⟨rfl, rfl, Nat.le_of_ble_eq_true rfl, Nat.le_of_ble_eq_true rfl⟩ rfl rfl hl.1 (Nat.le_of_ble_eq_true rfl) dX7_chanceOf_42) (fun x5 μ H locs G h => ?_)
    refine lv_if_eq (tgt := 56) hx hb dX7_chanceOf_45 (by decide) (fun c6 => ?_) (fun c6 => ?_)
    · have h := (zz_br h).1 c6
      refine lv_iload_n hx hb dX7_chanceOf_56 rfl (lv_at hl 1 rfl) ?_
      refine lv_i2l hx hb dX7_chanceOf_57 rfl ?_
      refine lv_lmul hx hb dX7_chanceOf_58 ?_
      refine zz_vj h (fun x7 h => ?_)
      refine lv_lstore (lv' := [(7, .long x7), (0, .ref (ad 100)), (1, .int v1), (2, .int v2), (3, .int v3), (4, .long v4), (6, .int v6), (9, .int v9)]) hx hb dX7_chanceOf_59 hl (by decide) rfl (fun ls hl => ?_)
      obtain ⟨x8, ex8, h⟩ := zz_let h
      refine lv_iinc (v := x8) (lv' := [(9, .int x8), (7, .long x7), (0, .ref (ad 100)), (1, .int v1), (2, .int v2), (3, .int v3), (4, .long v4), (6, .int v6)]) hx hb dX7_chanceOf_61 hl (k := 7) rfl (by rw [← ex8]; rfl) (by decide) rfl (fun ls hl => ?_)
      refine lv_goto (tgt := 27) hx hb dX7_chanceOf_64 (by decide) ?_
      exact ih x7 x8 μ _ _ _ (lv_sub hl [2, 3, 4, 5, 6, 7, 1, 0] rfl) G h
    have h := (zz_br h).2 c6
    refine lv_bipush (v := (16 : Int32)) hx hb dX7_chanceOf_48 (by decide) ?_
    refine lv_iload_n hx hb dX7_chanceOf_50 rfl (lv_at hl 1 rfl) ?_
    refine lv_isub hx hb dX7_chanceOf_51 ?_
    refine lv_i2l hx hb dX7_chanceOf_52 rfl ?_
    refine lv_goto (tgt := 58) hx hb dX7_chanceOf_53 (by decide) ?_
    refine lv_lmul hx hb dX7_chanceOf_58 ?_
    refine zz_vj h (fun x9 h => ?_)
    refine lv_lstore (lv' := [(7, .long x9), (0, .ref (ad 100)), (1, .int v1), (2, .int v2), (3, .int v3), (4, .long v4), (6, .int v6), (9, .int v9)]) hx hb dX7_chanceOf_59 hl (by decide) rfl (fun ls hl => ?_)
    obtain ⟨x10, ex10, h⟩ := zz_let h
    refine lv_iinc (v := x10) (lv' := [(9, .int x10), (7, .long x9), (0, .ref (ad 100)), (1, .int v1), (2, .int v2), (3, .int v3), (4, .long v4), (6, .int v6)]) hx hb dX7_chanceOf_61 hl (k := 7) rfl (by rw [← ex10]; rfl) (by decide) rfl (fun ls hl => ?_)
    refine lv_goto (tgt := 27) hx hb dX7_chanceOf_64 (by decide) ?_
    exact ih x9 x10 μ _ _ _ (lv_sub hl [2, 3, 4, 5, 6, 7, 1, 0] rfl) G h
set_option maxHeartbeats 4000000 in
set_option maxRecDepth 100000 in
theorem w_X7_chanceOf_L10 {p : Program} {l : Launch} {e : Env} {s : State} {m : MethodId} {args : Array Value} {below : List Frame} {meth : Method} {c : Code} {Q : State → Prop} {D : va_G} {ad : Nat → Nat} {cA : Nat → ClassId} {r : Int64} {μ' : zM} (X : zX false D ad cA p s m args c cX7_chanceOf "ButlerWeatherModel" 10) (hQ : Q = MQ below (zQl false D ad cA r μ') args s 0 0 (zA false ad)) (hr : meth.sig.returnType = (some .long)) (hlk : meth.locks = false) {v1 : Int32} {v2 : Int32} {v3 : Int32} {kx : Int64 → zM → Option (Int64 × zM)} (HX : ∀ (w4 : Int64) (μ : zM) (H : Heap) (locs : List Loc) (ls : Array Slot), lv_has ls 10 [(0, .ref (ad 100)), (3, .int v3), (4, .long w4)] → zG false D ad cA s μ H locs → kx w4 μ = some (r, μ') → W p l e ({ frames := 6, cells := 0, slots := 0, locals := 138 } : Room) s m args below meth c H locs 0 0 Q (F0 m 111 ls [])) : ∀ (n : Nat) (v4 : Int64) (v6 : Int32) (μ : zM) (H : Heap) (locs : List Loc) (ls : Array Slot), lv_has ls 10 [(0, .ref (ad 100)), (1, .int v1), (2, .int v2), (3, .int v3), (4, .long v4), (6, .int v6)] → zG false D ad cA s μ H locs → f_X7_chanceOf_L10 v1 v2 v3 kx n v4 v6 μ = some (r, μ') → W p l e ({ frames := 6, cells := 0, slots := 0, locals := 138 } : Room) s m args below meth c H locs 0 0 Q (F0 m 10 ls []) := by
  obtain ⟨hx, hb, hml, hown, hts, -, -, -⟩ := id X
  intro n
  induction n with
  | zero =>
    intro v4 v6 μ H locs ls hl G h
    cases (show (none : Option (Int64 × zM)) = some (r, μ') from h)
  | succ n ih =>
    intro v4 v6 μ H locs ls hl G h
    rw [f_X7_chanceOf_L10] at h
    refine lv_iload hx hb dX7_chanceOf_10 (lv_at hl 5 rfl) ?_
    refine lv_iconst (v := (1 : Int32)) hx hb dX7_chanceOf_12 (by decide) ?_
    refine lv_aload_n hx hb dX7_chanceOf_13 rfl (lv_at hl 0 rfl) ?_
    refine zz_geti X G fi_7_11 tl_100 kw_793 dX7_chanceOf_14 h (fun x1 h => ?_)
    refine lv_ishl hx hb dX7_chanceOf_17 ?_
    refine lv_icmp_ge (tgt := 111) hx hb dX7_chanceOf_18 (by decide) (fun c2 => ?_) (fun c2 => ?_)
    · have h := (zz_br h).1 c2
      exact HX v4 μ _ _ _ (lv_sub hl [0, 3, 4] rfl) G h
    have h := (zz_br h).2 c2
    refine lv_lconst (v := (1 : Int64)) hx hb dX7_chanceOf_21 (by decide) ?_
    refine lv_lstore (lv' := [(7, .long (1 : Int64)), (0, .ref (ad 100)), (1, .int v1), (2, .int v2), (3, .int v3), (4, .long v4), (6, .int v6)]) hx hb dX7_chanceOf_22 hl (by decide) rfl (fun ls hl => ?_)
    refine lv_iconst (v := (0 : Int32)) hx hb dX7_chanceOf_24 (by decide) ?_
    refine lv_istore (lv' := [(9, .int (0 : Int32)), (7, .long (1 : Int64)), (0, .ref (ad 100)), (1, .int v1), (2, .int v2), (3, .int v3), (4, .long v4), (6, .int v6)]) hx hb dX7_chanceOf_25 hl (by decide) rfl (fun ls hl => ?_)
    refine w_X7_chanceOf_L27 X hQ hr hlk  (fun x11 μ H locs ls hl G h => ?_) 400 (1 : Int64) (0 : Int32) μ _ _ _ (lv_sub hl [2, 3, 4, 5, 6, 7, 1, 0] rfl) G h
    refine lv_lload hx hb dX7_chanceOf_67 (lv_at hl 6 rfl) ?_
    refine lv_lconst (v := (0 : Int64)) hx hb dX7_chanceOf_69 (by decide) ?_
    refine W.lcmp hx hb dX7_chanceOf_70 ?_
    refine lv_if_le (tgt := 105) hx hb dX7_chanceOf_71 (by decide) (fun c12 => ?_) (fun c12 => ?_)
    · have h := (zz_br h).1 c12
      obtain ⟨x13, ex13, h⟩ := zz_let h
      refine lv_iinc (v := x13) (lv' := [(6, .int x13), (0, .ref (ad 100)), (1, .int v1), (2, .int v2), (3, .int v3), (4, .long v4), (7, .long x11)]) hx hb dX7_chanceOf_105 hl (k := 5) rfl (by rw [← ex13]; rfl) (by decide) rfl (fun ls hl => ?_)
      refine lv_goto (tgt := 10) hx hb dX7_chanceOf_108 (by decide) ?_
      exact ih v4 x13 μ _ _ _ (lv_sub hl [1, 2, 3, 4, 5, 0] rfl) G h
    have h := (zz_br h).2 c12
    refine lv_aload_n hx hb dX7_chanceOf_74 rfl (lv_at hl 0 rfl) ?_
    refine lv_iload hx hb dX7_chanceOf_75 (lv_at hl 5 rfl) ?_
    refine zz_puti X G fp_7_17 tl_100 kw_799 rfl rfl dX7_chanceOf_77 h (fun μ H locs G h => ?_)
    refine lv_aload_n hx hb dX7_chanceOf_80 rfl (lv_at hl 0 rfl) ?_
    refine zz_cv (rest := []) G h (fun r μ1 hf => zz_runV X G rc_7 tl_100 cv_X7_runs kw_1010 (c_X7_runs l D ad cA  hf) ⟨rfl, rfl, Nat.le_of_ble_eq_true rfl, Nat.le_of_ble_eq_true rfl⟩ rfl rfl hl.1 (Nat.le_of_ble_eq_true rfl) dX7_chanceOf_81) (fun _ μ H locs G h => ?_)
    refine lv_lload hx hb dX7_chanceOf_84 (lv_at hl 4 rfl) ?_
    refine lv_aload_n hx hb dX7_chanceOf_86 rfl (lv_at hl 0 rfl) ?_
    refine zz_getr X G fr_7_20 tl_100 rl_100_20 kw_802 dX7_chanceOf_87 ?_
    refine lv_iload_n hx hb dX7_chanceOf_90 rfl (lv_at hl 2 rfl) ?_
    refine zz_iald X G ia_30 tl_121 dX7_chanceOf_91 h (fun x14 h => ?_)
    refine lv_iconst (v := (-1 : Int32)) hx hb dX7_chanceOf_92 (by decide) ?_
    refine lv_icmp_eq (tgt := 101) hx hb dX7_chanceOf_93 (by decide) (fun c15 => ?_) (fun c15 => ?_)
    · have h := (zz_br h).1 c15
      refine lv_lconst (v := (0 : Int64)) hx hb dX7_chanceOf_101 (by decide) ?_
      refine lv_ladd hx hb dX7_chanceOf_102 ?_
      refine zz_vj h (fun x16 h => ?_)
      refine lv_lstore (lv' := [(4, .long x16), (0, .ref (ad 100)), (1, .int v1), (2, .int v2), (3, .int v3), (6, .int v6), (7, .long x11)]) hx hb dX7_chanceOf_103 hl (by decide) rfl (fun ls hl => ?_)
      obtain ⟨x17, ex17, h⟩ := zz_let h
      refine lv_iinc (v := x17) (lv' := [(6, .int x17), (4, .long x16), (0, .ref (ad 100)), (1, .int v1), (2, .int v2), (3, .int v3), (7, .long x11)]) hx hb dX7_chanceOf_105 hl (k := 5) rfl (by rw [← ex17]; rfl) (by decide) rfl (fun ls hl => ?_)
      refine lv_goto (tgt := 10) hx hb dX7_chanceOf_108 (by decide) ?_
      exact ih x16 x17 μ _ _ _ (lv_sub hl [2, 3, 4, 5, 1, 0] rfl) G h
    have h := (zz_br h).2 c15
    refine lv_lload hx hb dX7_chanceOf_96 (lv_at hl 6 rfl) ?_
    refine lv_goto (tgt := 102) hx hb dX7_chanceOf_98 (by decide) ?_
    refine lv_ladd hx hb dX7_chanceOf_102 ?_
    refine zz_vj h (fun x18 h => ?_)
    refine lv_lstore (lv' := [(4, .long x18), (0, .ref (ad 100)), (1, .int v1), (2, .int v2), (3, .int v3), (6, .int v6), (7, .long x11)]) hx hb dX7_chanceOf_103 hl (by decide) rfl (fun ls hl => ?_)
    obtain ⟨x19, ex19, h⟩ := zz_let h
    refine lv_iinc (v := x19) (lv' := [(6, .int x19), (4, .long x18), (0, .ref (ad 100)), (1, .int v1), (2, .int v2), (3, .int v3), (7, .long x11)]) hx hb dX7_chanceOf_105 hl (k := 5) rfl (by rw [← ex19]; rfl) (by decide) rfl (fun ls hl => ?_)
    refine lv_goto (tgt := 10) hx hb dX7_chanceOf_108 (by decide) ?_
    exact ih x18 x19 μ _ _ _ (lv_sub hl [2, 3, 4, 5, 1, 0] rfl) G h
set_option maxHeartbeats 4000000 in
set_option maxRecDepth 100000 in
theorem c_X7_chanceOf (l : Launch) (D : va_G) (ad : Nat → Nat) (cA : Nat → ClassId) {a1 : Int32} {a2 : Int32} {a3 : Int32} {μ : zM} {r : Int64} {μ' : zM} (h : f_X7_chanceOf a1 a2 a3 μ = some (r, μ')) : zMet false D ad cA l yX7_chanceOf cX7_chanceOf 10 (some .long) ({ frames := 6, cells := 0, slots := 0, locals := 138 } : Room) [.ref (ad 100), .int a1, .int a2, .int a3] μ (zQl false D ad cA r μ') := by
  refine zMet_of "ButlerWeatherModel" ⟨by decide, rfl⟩ (Nat.le_of_ble_eq_true rfl) ?_
  intro p e s m args below meth c X G hr hlk ls hl
  have hl : lv_has ls 10 [(0, .ref (ad 100)), (1, .int a1), (2, .int a2), (3, .int a3)] := hl
  obtain ⟨hx, hb, hml, hown, hts, -, -, -⟩ := id X
  obtain ⟨Q, hQ⟩ : ∃ Q, Q = MQ below (zQl false D ad cA r μ') args s 0 0 (zA false ad) := ⟨_, rfl⟩
  rw [← hQ]
  unfold f_X7_chanceOf at h
  refine lv_aload_n hx hb dX7_chanceOf_0 rfl (lv_at hl 0 rfl) ?_
  refine zz_cv (rest := []) G h (fun r μ1 hf => zz_runV X G rc_7 tl_100 cv_X7_asTold kw_1006 (c_X7_asTold l D ad cA  hf) ⟨rfl, rfl, Nat.le_of_ble_eq_true rfl, Nat.le_of_ble_eq_true rfl⟩ rfl rfl hl.1 (Nat.le_of_ble_eq_true rfl) dX7_chanceOf_1) (fun _ μ H locs G h => ?_)
  refine lv_lconst (v := (0 : Int64)) hx hb dX7_chanceOf_4 (by decide) ?_
  refine lv_lstore (lv' := [(4, .long (0 : Int64)), (0, .ref (ad 100)), (1, .int a1), (2, .int a2), (3, .int a3)]) hx hb dX7_chanceOf_5 hl (by decide) rfl (fun ls hl => ?_)
  refine lv_iconst (v := (0 : Int32)) hx hb dX7_chanceOf_7 (by decide) ?_
  refine lv_istore (lv' := [(6, .int (0 : Int32)), (4, .long (0 : Int64)), (0, .ref (ad 100)), (1, .int a1), (2, .int a2), (3, .int a3)]) hx hb dX7_chanceOf_8 hl (by decide) rfl (fun ls hl => ?_)
  refine w_X7_chanceOf_L10 X hQ hr hlk  (fun x20 μ H locs ls hl G h => ?_) 400 (0 : Int64) (0 : Int32) μ _ _ _ (lv_sub hl [2, 3, 4, 5, 1, 0] rfl) G h
  refine lv_lload hx hb dX7_chanceOf_111 (lv_at hl 2 rfl) ?_
  refine lv_lconst (v := (1 : Int64)) hx hb dX7_chanceOf_113 (by decide) ?_
  refine lv_iconst (v := (4 : Int32)) hx hb dX7_chanceOf_114 (by decide) ?_
  refine lv_aload_n hx hb dX7_chanceOf_115 rfl (lv_at hl 0 rfl) ?_
  refine zz_geti X G fi_7_11 tl_100 kw_793 dX7_chanceOf_116 h (fun x21 h => ?_)
  refine lv_imul hx hb dX7_chanceOf_119 ?_
  refine lv_lshl hx hb dX7_chanceOf_120 rfl ?_
  refine lv_iload_n hx hb dX7_chanceOf_121 rfl (lv_at hl 1 rfl) ?_
  refine zz_cj (rest := []) G h (fun r μ1 hf => zz_runS X G cs_X7_lowest kw_1213 (c_X7_lowest l D ad cA  hf) ⟨rfl, rfl, Nat.le_of_ble_eq_true rfl, Nat.le_of_ble_eq_true rfl⟩ rfl rfl hl.1 (Nat.le_of_ble_eq_true rfl) dX7_chanceOf_122) (fun x22 μ H locs G h => ?_)
  rw [hQ]
  exact zz_lret X G hr hlk dX7_chanceOf_125 h
set_option maxHeartbeats 4000000 in
set_option maxRecDepth 100000 in
theorem c_X7_chance (l : Launch) (D : va_G) (ad : Nat → Nat) (cA : Nat → ClassId) {a1 : Int32} {a2 : Int32} {a3 : Int32} {μ : zM} {r : Int64} {μ' : zM} (h : f_X7_chance a1 a2 a3 μ = some (r, μ')) : zMet false D ad cA l yX7_chance cX7_chance 4 (some .long) ({ frames := 7, cells := 0, slots := 0, locals := 167 } : Room) [.ref (ad 100), .int a1, .int a2, .int a3] μ (zQl false D ad cA r μ') := by
  refine zMet_of "ButlerWeatherModel" ⟨by decide, rfl⟩ (Nat.le_of_ble_eq_true rfl) ?_
  intro p e s m args below meth c X G hr hlk ls hl
  have hl : lv_has ls 4 [(0, .ref (ad 100)), (1, .int a1), (2, .int a2), (3, .int a3)] := hl
  obtain ⟨hx, hb, hml, hown, hts, -, -, -⟩ := id X
  obtain ⟨Q, hQ⟩ : ∃ Q, Q = MQ below (zQl false D ad cA r μ') args s 0 0 (zA false ad) := ⟨_, rfl⟩
  rw [← hQ]
  unfold f_X7_chance at h
  refine lv_iload_n hx hb dX7_chance_0 rfl (lv_at hl 1 rfl) ?_
  refine lv_iconst (v := (0 : Int32)) hx hb dX7_chance_1 (by decide) ?_
  refine lv_bipush (v := (16 : Int32)) hx hb dX7_chance_2 (by decide) ?_
  refine zz_ci (rest := []) G h (fun r μ1 hf => zz_runS X G cs_X7_in kw_905 (c_X7_in l D ad cA  hf) ⟨rfl, rfl, Nat.le_of_ble_eq_true rfl, Nat.le_of_ble_eq_true rfl⟩ rfl rfl hl.1 (Nat.le_of_ble_eq_true rfl) dX7_chance_4) (fun x1 μ H locs G h => ?_)
  refine lv_if_eq (tgt := 35) hx hb dX7_chance_7 (by decide) (fun c2 => ?_) (fun c2 => ?_)
  · have h := (zz_br h).1 c2
    refine lv_bipush (v := (-2 : Int32)) hx hb dX7_chance_35 (by decide) ?_
    refine zz_cj (rest := []) G h (fun r μ1 hf => zz_runS X G cs_X7_no kw_1216 (c_X7_no l D ad cA  hf) ⟨rfl, rfl, Nat.le_of_ble_eq_true rfl, Nat.le_of_ble_eq_true rfl⟩ rfl rfl hl.1 (Nat.le_of_ble_eq_true rfl) dX7_chance_37) (fun x3 μ H locs G h => ?_)
    rw [hQ]
    exact zz_lret X G hr hlk dX7_chance_40 h
  have h := (zz_br h).2 c2
  refine lv_aload_n hx hb dX7_chance_10 rfl (lv_at hl 0 rfl) ?_
  refine lv_iload_n hx hb dX7_chance_11 rfl (lv_at hl 2 rfl) ?_
  refine zz_ci (rest := []) G h (fun r μ1 hf => zz_runV X G rc_7 tl_100 cv_X7_isCaller kw_947 (c_X7_isCaller l D ad cA  hf) ⟨rfl, rfl, Nat.le_of_ble_eq_true rfl, Nat.le_of_ble_eq_true rfl⟩ rfl rfl hl.1 (Nat.le_of_ble_eq_true rfl) dX7_chance_12) (fun x4 μ H locs G h => ?_)
  refine lv_if_eq (tgt := 35) hx hb dX7_chance_15 (by decide) (fun c5 => ?_) (fun c5 => ?_)
  · have h := (zz_br h).1 c5
    refine lv_bipush (v := (-2 : Int32)) hx hb dX7_chance_35 (by decide) ?_
    refine zz_cj (rest := []) G h (fun r μ1 hf => zz_runS X G cs_X7_no kw_1216 (c_X7_no l D ad cA  hf) ⟨rfl, rfl, Nat.le_of_ble_eq_true rfl, Nat.le_of_ble_eq_true rfl⟩ rfl rfl hl.1 (Nat.le_of_ble_eq_true rfl) dX7_chance_37) (fun x6 μ H locs G h => ?_)
    rw [hQ]
    exact zz_lret X G hr hlk dX7_chance_40 h
  have h := (zz_br h).2 c5
  refine lv_iload_n hx hb dX7_chance_18 rfl (lv_at hl 3 rfl) ?_
  refine zz_ci (rest := []) G h (fun r μ1 hf => zz_runS X G cs_X7_isTwo kw_1081 (c_X7_isTwo l D ad cA  hf) ⟨rfl, rfl, Nat.le_of_ble_eq_true rfl, Nat.le_of_ble_eq_true rfl⟩ rfl rfl hl.1 (Nat.le_of_ble_eq_true rfl) dX7_chance_19) (fun x7 μ H locs G h => ?_)
  refine lv_if_eq (tgt := 35) hx hb dX7_chance_22 (by decide) (fun c8 => ?_) (fun c8 => ?_)
  · have h := (zz_br h).1 c8
    refine lv_bipush (v := (-2 : Int32)) hx hb dX7_chance_35 (by decide) ?_
    refine zz_cj (rest := []) G h (fun r μ1 hf => zz_runS X G cs_X7_no kw_1216 (c_X7_no l D ad cA  hf) ⟨rfl, rfl, Nat.le_of_ble_eq_true rfl, Nat.le_of_ble_eq_true rfl⟩ rfl rfl hl.1 (Nat.le_of_ble_eq_true rfl) dX7_chance_37) (fun x9 μ H locs G h => ?_)
    rw [hQ]
    exact zz_lret X G hr hlk dX7_chance_40 h
  have h := (zz_br h).2 c8
  refine lv_aload_n hx hb dX7_chance_25 rfl (lv_at hl 0 rfl) ?_
  refine lv_iload_n hx hb dX7_chance_26 rfl (lv_at hl 1 rfl) ?_
  refine lv_iload_n hx hb dX7_chance_27 rfl (lv_at hl 2 rfl) ?_
  refine lv_iload_n hx hb dX7_chance_28 rfl (lv_at hl 3 rfl) ?_
  refine zz_cj (rest := []) G h (fun r μ1 hf => zz_runV X G rc_7 tl_100 cv_X7_chanceOf kw_1209 (c_X7_chanceOf l D ad cA  hf) ⟨rfl, rfl, Nat.le_of_ble_eq_true rfl, Nat.le_of_ble_eq_true rfl⟩ rfl rfl hl.1 (Nat.le_of_ble_eq_true rfl) dX7_chance_29) (fun x10 μ H locs G h => ?_)
  refine lv_goto (tgt := 40) hx hb dX7_chance_32 (by decide) ?_
  rw [hQ]
  exact zz_lret X G hr hlk dX7_chance_40 h
set_option maxHeartbeats 4000000 in
set_option maxRecDepth 100000 in
theorem w_X7_yearsOf_L26 {p : Program} {l : Launch} {e : Env} {s : State} {m : MethodId} {args : Array Value} {below : List Frame} {meth : Method} {c : Code} {Q : State → Prop} {D : va_G} {ad : Nat → Nat} {cA : Nat → ClassId} {r : Int32} {μ' : zM} (X : zX false D ad cA p s m args c cX7_yearsOf "ButlerWeatherModel" 6) (hQ : Q = MQ below (zQi false D ad cA r μ') args s 0 0 (zA false ad)) (hr : meth.sig.returnType = (some .int)) (hlk : meth.locks = false) {v3 : Int32} {kx : zM → Option (Int32 × zM)} (HX : ∀ (μ : zM) (H : Heap) (locs : List Loc) (ls : Array Slot), lv_has ls 6 [(0, .ref (ad 100)), (3, .int v3)] → zG false D ad cA s μ H locs → kx  μ = some (r, μ') → W p l e ({ frames := 6, cells := 0, slots := 0, locals := 138 } : Room) s m args below meth c H locs 0 0 Q (F0 m 97 ls [])) : ∀ (n : Nat) (v4 : Int32) (v5 : Int32) (μ : zM) (H : Heap) (locs : List Loc) (ls : Array Slot), lv_has ls 6 [(0, .ref (ad 100)), (3, .int v3), (4, .int v4), (5, .int v5)] → zG false D ad cA s μ H locs → f_X7_yearsOf_L26 v3 kx n v4 v5 μ = some (r, μ') → W p l e ({ frames := 6, cells := 0, slots := 0, locals := 138 } : Room) s m args below meth c H locs 0 0 Q (F0 m 26 ls []) := by
  obtain ⟨hx, hb, hml, hown, hts, -, -, -⟩ := id X
  intro n
  induction n with
  | zero =>
    intro v4 v5 μ H locs ls hl G h
    cases (show (none : Option (Int32 × zM)) = some (r, μ') from h)
  | succ n ih =>
    intro v4 v5 μ H locs ls hl G h
    rw [f_X7_yearsOf_L26] at h
    refine lv_iload hx hb dX7_yearsOf_26 (lv_at hl 3 rfl) ?_
    refine lv_aload_n hx hb dX7_yearsOf_28 rfl (lv_at hl 0 rfl) ?_
    refine zz_geti X G fi_7_14 tl_100 kw_796 dX7_yearsOf_29 h (fun x3 h => ?_)
    refine lv_icmp_ge (tgt := 97) hx hb dX7_yearsOf_32 (by decide) (fun c4 => ?_) (fun c4 => ?_)
    · have h := (zz_br h).1 c4
      exact HX  μ _ _ _ (lv_sub hl [0, 1] rfl) G h
    have h := (zz_br h).2 c4
    refine lv_ldcw hx hb hown (hts _ kw_1228) dX7_yearsOf_35 ?_
    refine lv_iload hx hb dX7_yearsOf_38 (lv_at hl 2 rfl) ?_
    refine lv_imul hx hb dX7_yearsOf_40 ?_
    refine lv_sipush (v := (12345 : Int32)) hx hb dX7_yearsOf_41 (by decide) ?_
    refine lv_iadd hx hb dX7_yearsOf_44 ?_
    refine zz_vi h (fun x5 h => ?_)
    refine lv_istore (lv' := [(4, .int x5), (0, .ref (ad 100)), (3, .int v3), (5, .int v5)]) hx hb dX7_yearsOf_45 hl (by decide) rfl (fun ls hl => ?_)
    refine lv_aload_n hx hb dX7_yearsOf_47 rfl (lv_at hl 1 rfl) ?_
    refine zz_getr X G fr_7_15 tl_100 rl_100_15 kw_797 dX7_yearsOf_48 ?_
    refine lv_iload hx hb dX7_yearsOf_51 (lv_at hl 3 rfl) ?_
    refine lv_iload hx hb dX7_yearsOf_53 (lv_at hl 0 rfl) ?_
    refine lv_bipush (v := (16 : Int32)) hx hb dX7_yearsOf_55 (by decide) ?_
    refine lv_iushr hx hb dX7_yearsOf_57 rfl ?_
    refine lv_bipush (v := (24 : Int32)) hx hb dX7_yearsOf_58 (by decide) ?_
    obtain ⟨hd, h⟩ := zz_gd h
    refine lv_irem hx hb dX7_yearsOf_60 hd ?_
    refine zz_iast X G ia_30 tl_116 dX7_yearsOf_61 h (fun μ H locs G h => ?_)
    refine lv_ldcw hx hb hown (hts _ kw_1228) dX7_yearsOf_62 ?_
    refine lv_iload hx hb dX7_yearsOf_65 (lv_at hl 0 rfl) ?_
    refine lv_imul hx hb dX7_yearsOf_67 ?_
    refine lv_sipush (v := (12345 : Int32)) hx hb dX7_yearsOf_68 (by decide) ?_
    refine lv_iadd hx hb dX7_yearsOf_71 ?_
    refine zz_vi h (fun x6 h => ?_)
    refine lv_istore (lv' := [(4, .int x6), (0, .ref (ad 100)), (3, .int v3), (5, .int v5)]) hx hb dX7_yearsOf_72 hl (by decide) rfl (fun ls hl => ?_)
    refine lv_aload_n hx hb dX7_yearsOf_74 rfl (lv_at hl 1 rfl) ?_
    refine zz_getr X G fr_7_16 tl_100 rl_100_16 kw_798 dX7_yearsOf_75 ?_
    refine lv_iload hx hb dX7_yearsOf_78 (lv_at hl 3 rfl) ?_
    refine lv_iload hx hb dX7_yearsOf_80 (lv_at hl 0 rfl) ?_
    refine lv_bipush (v := (16 : Int32)) hx hb dX7_yearsOf_82 (by decide) ?_
    refine lv_iushr hx hb dX7_yearsOf_84 rfl ?_
    refine lv_aload_n hx hb dX7_yearsOf_85 rfl (lv_at hl 1 rfl) ?_
    refine zz_geti X G fi_7_2 tl_100 kw_784 dX7_yearsOf_86 h (fun x7 h => ?_)
    obtain ⟨hd, h⟩ := zz_gd h
    refine lv_irem hx hb dX7_yearsOf_89 hd ?_
    refine zz_iast X G ia_30 tl_117 dX7_yearsOf_90 h (fun μ H locs G h => ?_)
    obtain ⟨x8, ex8, h⟩ := zz_let h
    refine lv_iinc (v := x8) (lv' := [(5, .int x8), (4, .int x6), (0, .ref (ad 100)), (3, .int v3)]) hx hb dX7_yearsOf_91 hl (k := 3) rfl (by rw [← ex8]; rfl) (by decide) rfl (fun ls hl => ?_)
    refine lv_goto (tgt := 26) hx hb dX7_yearsOf_94 (by decide) ?_
    exact ih x6 x8 μ _ _ _ (lv_sub hl [2, 3, 1, 0] rfl) G h
set_option maxHeartbeats 4000000 in
set_option maxRecDepth 100000 in
theorem c_X7_yearsOf (l : Launch) (D : va_G) (ad : Nat → Nat) (cA : Nat → ClassId) {a1 : Int32} {a2 : Int32} {a3 : Int32} {μ : zM} {r : Int32} {μ' : zM} (h : f_X7_yearsOf a1 a2 a3 μ = some (r, μ')) : zMet false D ad cA l yX7_yearsOf cX7_yearsOf 6 (some .int) ({ frames := 6, cells := 0, slots := 0, locals := 138 } : Room) [.ref (ad 100), .int a1, .int a2, .int a3] μ (zQi false D ad cA r μ') := by
  refine zMet_of "ButlerWeatherModel" ⟨by decide, rfl⟩ (Nat.le_of_ble_eq_true rfl) ?_
  intro p e s m args below meth c X G hr hlk ls hl
  have hl : lv_has ls 6 [(0, .ref (ad 100)), (1, .int a1), (2, .int a2), (3, .int a3)] := hl
  obtain ⟨hx, hb, hml, hown, hts, -, -, -⟩ := id X
  obtain ⟨Q, hQ⟩ : ∃ Q, Q = MQ below (zQi false D ad cA r μ') args s 0 0 (zA false ad) := ⟨_, rfl⟩
  rw [← hQ]
  unfold f_X7_yearsOf at h
  refine lv_aload_n hx hb dX7_yearsOf_0 rfl (lv_at hl 0 rfl) ?_
  refine zz_cv (rest := []) G h (fun r μ1 hf => zz_runV X G rc_7 tl_100 cv_X7_asTold kw_1006 (c_X7_asTold l D ad cA  hf) ⟨rfl, rfl, Nat.le_of_ble_eq_true rfl, Nat.le_of_ble_eq_true rfl⟩ rfl rfl hl.1 (Nat.le_of_ble_eq_true rfl) dX7_yearsOf_1) (fun _ μ H locs G h => ?_)
  refine lv_iload_n hx hb dX7_yearsOf_4 rfl (lv_at hl 1 rfl) ?_
  refine lv_istore (lv' := [(4, .int a1), (0, .ref (ad 100)), (1, .int a1), (2, .int a2), (3, .int a3)]) hx hb dX7_yearsOf_5 hl (by decide) rfl (fun ls hl => ?_)
  refine lv_aload_n hx hb dX7_yearsOf_7 rfl (lv_at hl 1 rfl) ?_
  refine lv_aload_n hx hb dX7_yearsOf_8 rfl (lv_at hl 1 rfl) ?_
  refine zz_geti X G fi_7_2 tl_100 kw_784 dX7_yearsOf_9 h (fun x1 h => ?_)
  refine Exists.elim (zz_jn (P := fun (j : Int32 → zM → Option (Int32 × zM)) => ∀ (y2 : Int32) (μ : zM) (H : Heap) (locs : List Loc) (ls : Array Slot), lv_has ls 6 [(0, .ref (ad 100)), (3, .int a3), (4, .int a1)] → zG false D ad cA s μ H locs → j y2 μ = some (r, μ') → W p l e ({ frames := 6, cells := 0, slots := 0, locals := 138 } : Room) s m args below meth c H locs 0 0 Q (F0 m 20 ls [.int y2, .ref (ad 100)])) h ?_) (fun j20_1 hj => ?_)
  · intro y2 μ H locs ls hl G h
    refine zz_puti X G fp_7_14 tl_100 kw_796 rfl rfl dX7_yearsOf_20 h (fun μ H locs G h => ?_)
    refine lv_iconst (v := (0 : Int32)) hx hb dX7_yearsOf_23 (by decide) ?_
    refine lv_istore (lv' := [(5, .int (0 : Int32)), (0, .ref (ad 100)), (3, .int a3), (4, .int a1)]) hx hb dX7_yearsOf_24 hl (by decide) rfl (fun ls hl => ?_)
    refine w_X7_yearsOf_L26 X hQ hr hlk  (fun  μ H locs ls hl G h => ?_) 400 a1 (0 : Int32) μ _ _ _ (lv_sub hl [1, 2, 3, 0] rfl) G h
    refine lv_aload_n hx hb dX7_yearsOf_97 rfl (lv_at hl 0 rfl) ?_
    refine zz_cv (rest := []) G h (fun r μ1 hf => zz_runV X G rc_7 tl_100 cv_X7_runs kw_1010 (c_X7_runs l D ad cA  hf) ⟨rfl, rfl, Nat.le_of_ble_eq_true rfl, Nat.le_of_ble_eq_true rfl⟩ rfl rfl hl.1 (Nat.le_of_ble_eq_true rfl) dX7_yearsOf_98) (fun _ μ H locs G h => ?_)
    refine lv_iload_n hx hb dX7_yearsOf_101 rfl (lv_at hl 1 rfl) ?_
    refine lv_if_ne (tgt := 112) hx hb dX7_yearsOf_102 (by decide) (fun c9 => ?_) (fun c9 => ?_)
    · have h := (zz_br h).1 c9
      refine lv_aload_n hx hb dX7_yearsOf_112 rfl (lv_at hl 0 rfl) ?_
      refine zz_ci (rest := []) G h (fun r μ1 hf => zz_runV X G rc_7 tl_100 cv_X7_sumNow kw_1116 (c_X7_sumNow l D ad cA  hf) ⟨rfl, rfl, Nat.le_of_ble_eq_true rfl, Nat.le_of_ble_eq_true rfl⟩ rfl rfl hl.1 (Nat.le_of_ble_eq_true rfl) dX7_yearsOf_113) (fun x10 μ H locs G h => ?_)
      rw [hQ]
      exact zz_iret X G hr hlk dX7_yearsOf_116 h
    have h := (zz_br h).2 (fun q => q c9)
    refine lv_aload_n hx hb dX7_yearsOf_105 rfl (lv_at hl 0 rfl) ?_
    refine zz_ci (rest := []) G h (fun r μ1 hf => zz_runV X G rc_7 tl_100 cv_X7_insNow kw_1137 (c_X7_insNow l D ad cA  hf) ⟨rfl, rfl, Nat.le_of_ble_eq_true rfl, Nat.le_of_ble_eq_true rfl⟩ rfl rfl hl.1 (Nat.le_of_ble_eq_true rfl) dX7_yearsOf_106) (fun x11 μ H locs G h => ?_)
    refine lv_goto (tgt := 116) hx hb dX7_yearsOf_109 (by decide) ?_
    rw [hQ]
    exact zz_iret X G hr hlk dX7_yearsOf_116 h
  obtain ⟨hj20_1, h⟩ := hj
  refine lv_if_ne (tgt := 19) hx hb dX7_yearsOf_12 (by decide) (fun c12 => ?_) (fun c12 => ?_)
  · have h := (zz_br h).1 c12
    refine lv_iload_n hx hb dX7_yearsOf_19 rfl (lv_at hl 3 rfl) ?_
    exact hj20_1 a2 μ _ _ _ (lv_sub hl [1, 4, 0] rfl) G h
  have h := (zz_br h).2 (fun q => q c12)
  refine lv_iconst (v := (0 : Int32)) hx hb dX7_yearsOf_15 (by decide) ?_
  refine lv_goto (tgt := 20) hx hb dX7_yearsOf_16 (by decide) ?_
  exact hj20_1 (0 : Int32) μ _ _ _ (lv_sub hl [1, 4, 0] rfl) G h
set_option maxHeartbeats 4000000 in
set_option maxRecDepth 100000 in
theorem c_X7_years (l : Launch) (D : va_G) (ad : Nat → Nat) (cA : Nat → ClassId) {a1 : Int32} {a2 : Int32} {a3 : Int32} {μ : zM} {r : Int32} {μ' : zM} (h : f_X7_years a1 a2 a3 μ = some (r, μ')) : zMet false D ad cA l yX7_years cX7_years 4 (some .int) ({ frames := 7, cells := 0, slots := 0, locals := 163 } : Room) [.ref (ad 100), .int a1, .int a2, .int a3] μ (zQi false D ad cA r μ') := by
  refine zMet_of "ButlerWeatherModel" ⟨by decide, rfl⟩ (Nat.le_of_ble_eq_true rfl) ?_
  intro p e s m args below meth c X G hr hlk ls hl
  have hl : lv_has ls 4 [(0, .ref (ad 100)), (1, .int a1), (2, .int a2), (3, .int a3)] := hl
  obtain ⟨hx, hb, hml, hown, hts, -, -, -⟩ := id X
  obtain ⟨Q, hQ⟩ : ∃ Q, Q = MQ below (zQi false D ad cA r μ') args s 0 0 (zA false ad) := ⟨_, rfl⟩
  rw [← hQ]
  unfold f_X7_years at h
  refine lv_iload_n hx hb dX7_years_0 rfl (lv_at hl 2 rfl) ?_
  refine lv_iconst (v := (0 : Int32)) hx hb dX7_years_1 (by decide) ?_
  refine lv_bipush (v := (8 : Int32)) hx hb dX7_years_2 (by decide) ?_
  refine zz_ci (rest := []) G h (fun r μ1 hf => zz_runS X G cs_X7_in kw_905 (c_X7_in l D ad cA  hf) ⟨rfl, rfl, Nat.le_of_ble_eq_true rfl, Nat.le_of_ble_eq_true rfl⟩ rfl rfl hl.1 (Nat.le_of_ble_eq_true rfl) dX7_years_4) (fun x1 μ H locs G h => ?_)
  refine lv_if_eq (tgt := 27) hx hb dX7_years_7 (by decide) (fun c2 => ?_) (fun c2 => ?_)
  · have h := (zz_br h).1 c2
    refine lv_ldc hx hb hown (hts _ kw_1068) dX7_years_27 ?_
    rw [hQ]
    exact zz_iret X G hr hlk dX7_years_29 h
  have h := (zz_br h).2 c2
  refine lv_iload_n hx hb dX7_years_10 rfl (lv_at hl 3 rfl) ?_
  refine zz_ci (rest := []) G h (fun r μ1 hf => zz_runS X G cs_X7_isTwo kw_1081 (c_X7_isTwo l D ad cA  hf) ⟨rfl, rfl, Nat.le_of_ble_eq_true rfl, Nat.le_of_ble_eq_true rfl⟩ rfl rfl hl.1 (Nat.le_of_ble_eq_true rfl) dX7_years_11) (fun x3 μ H locs G h => ?_)
  refine lv_if_eq (tgt := 27) hx hb dX7_years_14 (by decide) (fun c4 => ?_) (fun c4 => ?_)
  · have h := (zz_br h).1 c4
    refine lv_ldc hx hb hown (hts _ kw_1068) dX7_years_27 ?_
    rw [hQ]
    exact zz_iret X G hr hlk dX7_years_29 h
  have h := (zz_br h).2 c4
  refine lv_aload_n hx hb dX7_years_17 rfl (lv_at hl 0 rfl) ?_
  refine lv_iload_n hx hb dX7_years_18 rfl (lv_at hl 1 rfl) ?_
  refine lv_iload_n hx hb dX7_years_19 rfl (lv_at hl 2 rfl) ?_
  refine lv_iload_n hx hb dX7_years_20 rfl (lv_at hl 3 rfl) ?_
  refine zz_ci (rest := []) G h (fun r μ1 hf => zz_runV X G rc_7 tl_100 cv_X7_yearsOf kw_1224 (c_X7_yearsOf l D ad cA  hf) ⟨rfl, rfl, Nat.le_of_ble_eq_true rfl, Nat.le_of_ble_eq_true rfl⟩ rfl rfl hl.1 (Nat.le_of_ble_eq_true rfl) dX7_years_21) (fun x5 μ H locs G h => ?_)
  refine lv_goto (tgt := 29) hx hb dX7_years_24 (by decide) ?_
  rw [hQ]
  exact zz_iret X G hr hlk dX7_years_29 h
set_option maxHeartbeats 4000000 in
set_option maxRecDepth 100000 in
theorem w_X7_sheet_L59 {p : Program} {l : Launch} {e : Env} {s : State} {m : MethodId} {args : Array Value} {below : List Frame} {meth : Method} {c : Code} {Q : State → Prop} {D : va_G} {ad : Nat → Nat} {cA : Nat → ClassId} {r : Int32} {μ' : zM} (X : zX false D ad cA p s m args c cX7_sheet "ButlerWeatherModel" 5) (hQ : Q = MQ below (zQi false D ad cA r μ') args s 0 0 (zA false ad)) (hr : meth.sig.returnType = (some .int)) (hlk : meth.locks = false) {v1 : Int32} {v3 : Int32} {kx : zM → Option (Int32 × zM)} (HX : ∀ (μ : zM) (H : Heap) (locs : List Loc) (ls : Array Slot), lv_has ls 5 [(3, .int v3)] → zG false D ad cA s μ H locs → kx  μ = some (r, μ') → W p l e ({ frames := 2, cells := 0, slots := 0, locals := 42 } : Room) s m args below meth c H locs 0 0 Q (F0 m 85 ls [])) : ∀ (n : Nat) (v4 : Int32) (μ : zM) (H : Heap) (locs : List Loc) (ls : Array Slot), lv_has ls 5 [(0, .ref (ad 100)), (1, .int v1), (3, .int v3), (4, .int v4)] → zG false D ad cA s μ H locs → f_X7_sheet_L59 v1 v3 kx n v4 μ = some (r, μ') → W p l e ({ frames := 2, cells := 0, slots := 0, locals := 42 } : Room) s m args below meth c H locs 0 0 Q (F0 m 59 ls []) := by
  obtain ⟨hx, hb, hml, hown, hts, -, -, -⟩ := id X
  intro n
  induction n with
  | zero =>
    intro v4 μ H locs ls hl G h
    cases (show (none : Option (Int32 × zM)) = some (r, μ') from h)
  | succ n ih =>
    intro v4 μ H locs ls hl G h
    rw [f_X7_sheet_L59] at h
    refine lv_iload hx hb dX7_sheet_59 (lv_at hl 3 rfl) ?_
    refine lv_bipush (v := (60 : Int32)) hx hb dX7_sheet_61 (by decide) ?_
    refine lv_icmp_ge (tgt := 85) hx hb dX7_sheet_63 (by decide) (fun c7 => ?_) (fun c7 => ?_)
    · have h := (zz_br h).1 c7
      exact HX  μ _ _ _ (lv_sub hl [2] rfl) G h
    have h := (zz_br h).2 c7
    refine lv_aload_n hx hb dX7_sheet_66 rfl (lv_at hl 0 rfl) ?_
    refine zz_getr X G fr_7_35 tl_100 rl_100_35 kw_817 dX7_sheet_67 ?_
    refine lv_bipush (v := (60 : Int32)) hx hb dX7_sheet_70 (by decide) ?_
    refine lv_iload_n hx hb dX7_sheet_72 rfl (lv_at hl 1 rfl) ?_
    refine lv_imul hx hb dX7_sheet_73 ?_
    refine lv_iload hx hb dX7_sheet_74 (lv_at hl 3 rfl) ?_
    refine lv_iadd hx hb dX7_sheet_76 ?_
    refine lv_iconst (v := (0 : Int32)) hx hb dX7_sheet_77 (by decide) ?_
    refine zz_iast X G ia_30 tl_136 dX7_sheet_78 h (fun μ H locs G h => ?_)
    obtain ⟨x8, ex8, h⟩ := zz_let h
    refine lv_iinc (v := x8) (lv' := [(4, .int x8), (0, .ref (ad 100)), (1, .int v1), (3, .int v3)]) hx hb dX7_sheet_79 hl (k := 3) rfl (by rw [← ex8]; rfl) (by decide) rfl (fun ls hl => ?_)
    refine lv_goto (tgt := 59) hx hb dX7_sheet_82 (by decide) ?_
    exact ih x8 μ _ _ _ (lv_sub hl [1, 2, 3, 0] rfl) G h
set_option maxHeartbeats 4000000 in
set_option maxRecDepth 100000 in
theorem c_X7_sheet (l : Launch) (D : va_G) (ad : Nat → Nat) (cA : Nat → ClassId) {a1 : Int32} {a2 : Int32} {a3 : Int32} {μ : zM} {r : Int32} {μ' : zM} (h : f_X7_sheet a1 a2 a3 μ = some (r, μ')) : zMet false D ad cA l yX7_sheet cX7_sheet 5 (some .int) ({ frames := 2, cells := 0, slots := 0, locals := 42 } : Room) [.ref (ad 100), .int a1, .int a2, .int a3] μ (zQi false D ad cA r μ') := by
  refine zMet_of "ButlerWeatherModel" ⟨by decide, rfl⟩ (Nat.le_of_ble_eq_true rfl) ?_
  intro p e s m args below meth c X G hr hlk ls hl
  have hl : lv_has ls 5 [(0, .ref (ad 100)), (1, .int a1), (2, .int a2), (3, .int a3)] := hl
  obtain ⟨hx, hb, hml, hown, hts, -, -, -⟩ := id X
  obtain ⟨Q, hQ⟩ : ∃ Q, Q = MQ below (zQi false D ad cA r μ') args s 0 0 (zA false ad) := ⟨_, rfl⟩
  rw [← hQ]
  unfold f_X7_sheet at h
  refine lv_iload_n hx hb dX7_sheet_0 rfl (lv_at hl 1 rfl) ?_
  refine zz_ci (rest := []) G h (fun r μ1 hf => zz_runS X G cs_X7_isSheet kw_986 (c_X7_isSheet l D ad cA  hf) ⟨rfl, rfl, Nat.le_of_ble_eq_true rfl, Nat.le_of_ble_eq_true rfl⟩ rfl rfl hl.1 (Nat.le_of_ble_eq_true rfl) dX7_sheet_1) (fun x1 μ H locs G h => ?_)
  refine lv_if_eq (tgt := 22) hx hb dX7_sheet_4 (by decide) (fun c2 => ?_) (fun c2 => ?_)
  · have h := (zz_br h).1 c2
    refine lv_bipush (v := (-2 : Int32)) hx hb dX7_sheet_22 (by decide) ?_
    rw [hQ]
    exact zz_iret X G hr hlk dX7_sheet_24 h
  have h := (zz_br h).2 c2
  refine lv_iload_n hx hb dX7_sheet_7 rfl (lv_at hl 2 rfl) ?_
  refine lv_iconst (v := (0 : Int32)) hx hb dX7_sheet_8 (by decide) ?_
  refine lv_iconst (v := (2 : Int32)) hx hb dX7_sheet_9 (by decide) ?_
  refine zz_ci (rest := []) G h (fun r μ1 hf => zz_runS X G cs_X7_in kw_905 (c_X7_in l D ad cA  hf) ⟨rfl, rfl, Nat.le_of_ble_eq_true rfl, Nat.le_of_ble_eq_true rfl⟩ rfl rfl hl.1 (Nat.le_of_ble_eq_true rfl) dX7_sheet_10) (fun x3 μ H locs G h => ?_)
  refine lv_if_eq (tgt := 22) hx hb dX7_sheet_13 (by decide) (fun c4 => ?_) (fun c4 => ?_)
  · have h := (zz_br h).1 c4
    refine lv_bipush (v := (-2 : Int32)) hx hb dX7_sheet_22 (by decide) ?_
    rw [hQ]
    exact zz_iret X G hr hlk dX7_sheet_24 h
  have h := (zz_br h).2 c4
  refine lv_iload_n hx hb dX7_sheet_16 rfl (lv_at hl 3 rfl) ?_
  refine lv_bipush (v := (60 : Int32)) hx hb dX7_sheet_17 (by decide) ?_
  refine lv_icmp_le (tgt := 25) hx hb dX7_sheet_19 (by decide) (fun c5 => ?_) (fun c5 => ?_)
  · have h := (zz_br h).1 c5
    refine lv_iload_n hx hb dX7_sheet_25 rfl (lv_at hl 3 rfl) ?_
    refine lv_if_ge (tgt := 35) hx hb dX7_sheet_26 (by decide) (fun c6 => ?_) (fun c6 => ?_)
    · have h := (zz_br h).1 c6
      refine lv_aload_n hx hb dX7_sheet_35 rfl (lv_at hl 0 rfl) ?_
      refine zz_getr X G fr_7_32 tl_100 rl_100_32 kw_814 dX7_sheet_36 ?_
      refine lv_iload_n hx hb dX7_sheet_39 rfl (lv_at hl 1 rfl) ?_
      refine lv_iconst (v := (1 : Int32)) hx hb dX7_sheet_40 (by decide) ?_
      refine zz_zast X G ia_31 tl_133 rfl dX7_sheet_41 h (fun μ H locs G h => ?_)
      refine lv_aload_n hx hb dX7_sheet_42 rfl (lv_at hl 0 rfl) ?_
      refine zz_getr X G fr_7_33 tl_100 rl_100_33 kw_815 dX7_sheet_43 ?_
      refine lv_iload_n hx hb dX7_sheet_46 rfl (lv_at hl 1 rfl) ?_
      refine lv_iload_n hx hb dX7_sheet_47 rfl (lv_at hl 2 rfl) ?_
      refine zz_iast X G ia_30 tl_134 dX7_sheet_48 h (fun μ H locs G h => ?_)
      refine lv_aload_n hx hb dX7_sheet_49 rfl (lv_at hl 0 rfl) ?_
      refine zz_getr X G fr_7_34 tl_100 rl_100_34 kw_816 dX7_sheet_50 ?_
      refine lv_iload_n hx hb dX7_sheet_53 rfl (lv_at hl 1 rfl) ?_
      refine lv_iload_n hx hb dX7_sheet_54 rfl (lv_at hl 3 rfl) ?_
      refine zz_iast X G ia_30 tl_135 dX7_sheet_55 h (fun μ H locs G h => ?_)
      refine lv_iconst (v := (0 : Int32)) hx hb dX7_sheet_56 (by decide) ?_
      refine lv_istore (lv' := [(4, .int (0 : Int32)), (0, .ref (ad 100)), (1, .int a1), (2, .int a2), (3, .int a3)]) hx hb dX7_sheet_57 hl (by decide) rfl (fun ls hl => ?_)
      refine w_X7_sheet_L59 X hQ hr hlk  (fun  μ H locs ls hl G h => ?_) 400 (0 : Int32) μ _ _ _ (lv_sub hl [1, 2, 4, 0] rfl) G h
      refine lv_iload_n hx hb dX7_sheet_85 rfl (lv_at hl 0 rfl) ?_
      rw [hQ]
      exact zz_iret X G hr hlk dX7_sheet_86 h
    have h := (zz_br h).2 c6
    refine lv_aload_n hx hb dX7_sheet_29 rfl (lv_at hl 0 rfl) ?_
    refine lv_iconst (v := (5 : Int32)) hx hb dX7_sheet_30 (by decide) ?_
    refine zz_ci (rest := []) G h (fun r μ1 hf => zz_runV X G rc_7 tl_100 cv_X7_meets kw_989 (c_X7_meets l D ad cA  hf) ⟨rfl, rfl, Nat.le_of_ble_eq_true rfl, Nat.le_of_ble_eq_true rfl⟩ rfl rfl hl.1 (Nat.le_of_ble_eq_true rfl) dX7_sheet_31) (fun x9 μ H locs G h => ?_)
    rw [hQ]
    exact zz_iret X G hr hlk dX7_sheet_34 h
  have h := (zz_br h).2 c5
  refine lv_bipush (v := (-2 : Int32)) hx hb dX7_sheet_22 (by decide) ?_
  rw [hQ]
  exact zz_iret X G hr hlk dX7_sheet_24 h
set_option maxHeartbeats 4000000 in
set_option maxRecDepth 100000 in
theorem c_X7_lose (l : Launch) (D : va_G) (ad : Nat → Nat) (cA : Nat → ClassId) {a1 : Int32} {μ : zM} {r : Int32} {μ' : zM} (h : f_X7_lose a1 μ = some (r, μ')) : zMet false D ad cA l yX7_lose cX7_lose 2 (some .int) ({ frames := 2, cells := 0, slots := 0, locals := 42 } : Room) [.ref (ad 100), .int a1] μ (zQi false D ad cA r μ') := by
  refine zMet_of "ButlerWeatherModel" ⟨by decide, rfl⟩ (Nat.le_of_ble_eq_true rfl) ?_
  intro p e s m args below meth c X G hr hlk ls hl
  have hl : lv_has ls 2 [(0, .ref (ad 100)), (1, .int a1)] := hl
  obtain ⟨hx, hb, hml, hown, hts, -, -, -⟩ := id X
  obtain ⟨Q, hQ⟩ : ∃ Q, Q = MQ below (zQi false D ad cA r μ') args s 0 0 (zA false ad) := ⟨_, rfl⟩
  rw [← hQ]
  unfold f_X7_lose at h
  refine lv_iload_n hx hb dX7_lose_0 rfl (lv_at hl 1 rfl) ?_
  refine zz_ci (rest := []) G h (fun r μ1 hf => zz_runS X G cs_X7_isSheet kw_986 (c_X7_isSheet l D ad cA  hf) ⟨rfl, rfl, Nat.le_of_ble_eq_true rfl, Nat.le_of_ble_eq_true rfl⟩ rfl rfl hl.1 (Nat.le_of_ble_eq_true rfl) dX7_lose_1) (fun x1 μ H locs G h => ?_)
  refine lv_if_ne (tgt := 10) hx hb dX7_lose_4 (by decide) (fun c2 => ?_) (fun c2 => ?_)
  · have h := (zz_br h).1 c2
    refine lv_aload_n hx hb dX7_lose_10 rfl (lv_at hl 0 rfl) ?_
    refine zz_getr X G fr_7_32 tl_100 rl_100_32 kw_814 dX7_lose_11 ?_
    refine lv_iload_n hx hb dX7_lose_14 rfl (lv_at hl 1 rfl) ?_
    refine zz_zald X G ia_31 tl_133 dX7_lose_15 h (fun x3 h => ?_)
    refine lv_if_ne (tgt := 25) hx hb dX7_lose_16 (by decide) (fun c4 => ?_) (fun c4 => ?_)
    · have h := (zz_br h).1 c4
      refine lv_aload_n hx hb dX7_lose_25 rfl (lv_at hl 0 rfl) ?_
      refine zz_getr X G fr_7_32 tl_100 rl_100_32 kw_814 dX7_lose_26 ?_
      refine lv_iload_n hx hb dX7_lose_29 rfl (lv_at hl 1 rfl) ?_
      refine lv_iconst (v := (0 : Int32)) hx hb dX7_lose_30 (by decide) ?_
      refine zz_zast X G ia_31 tl_133 rfl dX7_lose_31 h (fun μ H locs G h => ?_)
      refine lv_aload_n hx hb dX7_lose_32 rfl (lv_at hl 0 rfl) ?_
      refine zz_getr X G fr_7_34 tl_100 rl_100_34 kw_816 dX7_lose_33 ?_
      refine lv_iload_n hx hb dX7_lose_36 rfl (lv_at hl 1 rfl) ?_
      refine zz_iald X G ia_30 tl_135 dX7_lose_37 h (fun x5 h => ?_)
      rw [hQ]
      exact zz_iret X G hr hlk dX7_lose_38 h
    have h := (zz_br h).2 (fun q => q c4)
    refine lv_aload_n hx hb dX7_lose_19 rfl (lv_at hl 0 rfl) ?_
    refine lv_iconst (v := (1 : Int32)) hx hb dX7_lose_20 (by decide) ?_
    refine zz_ci (rest := []) G h (fun r μ1 hf => zz_runV X G rc_7 tl_100 cv_X7_meets kw_989 (c_X7_meets l D ad cA  hf) ⟨rfl, rfl, Nat.le_of_ble_eq_true rfl, Nat.le_of_ble_eq_true rfl⟩ rfl rfl hl.1 (Nat.le_of_ble_eq_true rfl) dX7_lose_21) (fun x6 μ H locs G h => ?_)
    rw [hQ]
    exact zz_iret X G hr hlk dX7_lose_24 h
  have h := (zz_br h).2 (fun q => q c2)
  refine lv_bipush (v := (-2 : Int32)) hx hb dX7_lose_7 (by decide) ?_
  rw [hQ]
  exact zz_iret X G hr hlk dX7_lose_9 h
set_option maxHeartbeats 4000000 in
set_option maxRecDepth 100000 in
theorem c_X7_lacks (l : Launch) (D : va_G) (ad : Nat → Nat) (cA : Nat → ClassId) {a1 : Int32} {a2 : Int32} {a3 : Int32} {μ : zM} {r : Int32} {μ' : zM} (h : f_X7_lacks a1 a2 a3 μ = some (r, μ')) : zMet false D ad cA l yX7_lacks cX7_lacks 4 (some .int) ({ frames := 1, cells := 0, slots := 0, locals := 22 } : Room) [.ref (ad 100), .int a1, .int a2, .int a3] μ (zQi false D ad cA r μ') := by
  refine zMet_of "ButlerWeatherModel" ⟨by decide, rfl⟩ (Nat.le_of_ble_eq_true rfl) ?_
  intro p e s m args below meth c X G hr hlk ls hl
  have hl : lv_has ls 4 [(0, .ref (ad 100)), (1, .int a1), (2, .int a2), (3, .int a3)] := hl
  obtain ⟨hx, hb, hml, hown, hts, -, -, -⟩ := id X
  obtain ⟨Q, hQ⟩ : ∃ Q, Q = MQ below (zQi false D ad cA r μ') args s 0 0 (zA false ad) := ⟨_, rfl⟩
  rw [← hQ]
  unfold f_X7_lacks at h
  refine lv_aload_n hx hb dX7_lacks_0 rfl (lv_at hl 0 rfl) ?_
  refine zz_getr X G fr_7_32 tl_100 rl_100_32 kw_814 dX7_lacks_1 ?_
  refine lv_iload_n hx hb dX7_lacks_4 rfl (lv_at hl 1 rfl) ?_
  refine zz_zald X G ia_31 tl_133 dX7_lacks_5 h (fun x1 h => ?_)
  refine lv_if_ne (tgt := 13) hx hb dX7_lacks_6 (by decide) (fun c2 => ?_) (fun c2 => ?_)
  · have h := (zz_br h).1 c2
    refine lv_aload_n hx hb dX7_lacks_13 rfl (lv_at hl 0 rfl) ?_
    refine zz_getr X G fr_7_33 tl_100 rl_100_33 kw_815 dX7_lacks_14 ?_
    refine lv_iload_n hx hb dX7_lacks_17 rfl (lv_at hl 1 rfl) ?_
    refine zz_iald X G ia_30 tl_134 dX7_lacks_18 h (fun x3 h => ?_)
    refine lv_iload_n hx hb dX7_lacks_19 rfl (lv_at hl 2 rfl) ?_
    refine lv_icmp_eq (tgt := 27) hx hb dX7_lacks_20 (by decide) (fun c4 => ?_) (fun c4 => ?_)
    · have h := (zz_br h).1 c4
      refine lv_iload_n hx hb dX7_lacks_27 rfl (lv_at hl 3 rfl) ?_
      refine lv_iconst (v := (0 : Int32)) hx hb dX7_lacks_28 (by decide) ?_
      refine lv_aload_n hx hb dX7_lacks_29 rfl (lv_at hl 0 rfl) ?_
      refine zz_getr X G fr_7_34 tl_100 rl_100_34 kw_816 dX7_lacks_30 ?_
      refine lv_iload_n hx hb dX7_lacks_33 rfl (lv_at hl 1 rfl) ?_
      refine zz_iald X G ia_30 tl_135 dX7_lacks_34 h (fun x5 h => ?_)
      refine lv_iconst (v := (1 : Int32)) hx hb dX7_lacks_35 (by decide) ?_
      refine lv_isub hx hb dX7_lacks_36 ?_
      refine zz_ci (rest := []) G h (fun r μ1 hf => zz_runS X G cs_X7_in kw_905 (c_X7_in l D ad cA  hf) ⟨rfl, rfl, Nat.le_of_ble_eq_true rfl, Nat.le_of_ble_eq_true rfl⟩ rfl rfl hl.1 (Nat.le_of_ble_eq_true rfl) dX7_lacks_37) (fun x6 μ H locs G h => ?_)
      refine lv_if_eq (tgt := 47) hx hb dX7_lacks_40 (by decide) (fun c7 => ?_) (fun c7 => ?_)
      · have h := (zz_br h).1 c7
        refine lv_iconst (v := (2 : Int32)) hx hb dX7_lacks_47 (by decide) ?_
        rw [hQ]
        exact zz_iret X G hr hlk dX7_lacks_48 h
      have h := (zz_br h).2 c7
      refine lv_iconst (v := (0 : Int32)) hx hb dX7_lacks_43 (by decide) ?_
      refine lv_goto (tgt := 48) hx hb dX7_lacks_44 (by decide) ?_
      rw [hQ]
      exact zz_iret X G hr hlk dX7_lacks_48 h
    have h := (zz_br h).2 c4
    refine lv_iconst (v := (3 : Int32)) hx hb dX7_lacks_23 (by decide) ?_
    refine lv_goto (tgt := 48) hx hb dX7_lacks_24 (by decide) ?_
    rw [hQ]
    exact zz_iret X G hr hlk dX7_lacks_48 h
  have h := (zz_br h).2 (fun q => q c2)
  refine lv_iconst (v := (1 : Int32)) hx hb dX7_lacks_9 (by decide) ?_
  refine lv_goto (tgt := 48) hx hb dX7_lacks_10 (by decide) ?_
  rw [hQ]
  exact zz_iret X G hr hlk dX7_lacks_48 h
