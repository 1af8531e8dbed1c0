-- CONTRACTS, by program
set_option maxHeartbeats 4000000 in
set_option maxRecDepth 100000 in
theorem c_X7_keep (l : Launch) (D : va_G) (ad : Nat → Nat) (cA : Nat → ClassId) {a1 : Int32} {a2 : Int32} {a3 : Int32} {μ : zM} {r : Unit} {μ' : zM} (h : f_X7_keep a1 a2 a3 μ = some (r, μ')) : zMet false D ad cA l yX7_keep cX7_keep 4 none ({ frames := 0, cells := 0, slots := 0, locals := 0 } : Room) [.ref (ad 100), .int a1, .int a2, .int a3] μ (zQv false D ad cA r μ') := by
  refine zMet_of "ButlerWeatherModel" ⟨by decide, rfl⟩ (Nat.le_of_ble_eq_true rfl) ?_
  intro p e s m args below meth c X G hr hlk ls hl
  have hl : lv_has ls 4 [(0, .ref (ad 100)), (1, .int a1), (2, .int a2), (3, .int a3)] := hl
  obtain ⟨hx, hb, hml, hown, hts, -, -, -⟩ := id X
  obtain ⟨Q, hQ⟩ : ∃ Q, Q = MQ below (zQv false D ad cA r μ') args s 0 0 (zA false ad) := ⟨_, rfl⟩
  rw [← hQ]
  unfold f_X7_keep at h
  refine lv_aload_n hx hb dX7_keep_0 rfl (lv_at hl 0 rfl) ?_
  refine zz_getr X G fr_7_35 tl_100 rl_100_35 kw_817 dX7_keep_1 ?_
  refine lv_bipush (v := (60 : Int32)) hx hb dX7_keep_4 (by decide) ?_
  refine lv_iload_n hx hb dX7_keep_6 rfl (lv_at hl 1 rfl) ?_
  refine lv_imul hx hb dX7_keep_7 ?_
  refine lv_iload_n hx hb dX7_keep_8 rfl (lv_at hl 2 rfl) ?_
  refine lv_iadd hx hb dX7_keep_9 ?_
  refine lv_aload_n hx hb dX7_keep_10 rfl (lv_at hl 0 rfl) ?_
  refine zz_getr X G fr_7_33 tl_100 rl_100_33 kw_815 dX7_keep_11 ?_
  refine lv_iload_n hx hb dX7_keep_14 rfl (lv_at hl 1 rfl) ?_
  refine zz_iald X G ia_30 tl_134 dX7_keep_15 h (fun x1 h => ?_)
  refine lv_if_ne (tgt := 24) hx hb dX7_keep_16 (by decide) (fun c2 => ?_) (fun c2 => ?_)
  · have h := (zz_br h).1 c2
    refine lv_aload_n hx hb dX7_keep_24 rfl (lv_at hl 0 rfl) ?_
    refine zz_getr X G fr_7_33 tl_100 rl_100_33 kw_815 dX7_keep_25 ?_
    refine lv_iload_n hx hb dX7_keep_28 rfl (lv_at hl 1 rfl) ?_
    refine zz_iald X G ia_30 tl_134 dX7_keep_29 h (fun x3 h => ?_)
    refine lv_iconst (v := (1 : Int32)) hx hb dX7_keep_30 (by decide) ?_
    refine lv_icmp_ne (tgt := 39) hx hb dX7_keep_31 (by decide) (fun c4 => ?_) (fun c4 => ?_)
    · have h := (zz_br h).1 c4
      refine lv_iload_n hx hb dX7_keep_39 rfl (lv_at hl 3 rfl) ?_
      refine zz_iast X G ia_30 tl_136 dX7_keep_40 h (fun μ H locs G h => ?_)
      rw [hQ]
      exact zz_vret X G hr hlk dX7_keep_41 h
    have h := (zz_br h).2 (fun q => q c4)
    refine lv_iload_n hx hb dX7_keep_34 rfl (lv_at hl 3 rfl) ?_
    refine lv_i2s hx hb dX7_keep_35 rfl ?_
    refine lv_goto (tgt := 40) hx hb dX7_keep_36 (by decide) ?_
    refine zz_iast X G ia_30 tl_136 dX7_keep_40 h (fun μ H locs G h => ?_)
    rw [hQ]
    exact zz_vret X G hr hlk dX7_keep_41 h
  have h := (zz_br h).2 (fun q => q c2)
  refine lv_iload_n hx hb dX7_keep_19 rfl (lv_at hl 3 rfl) ?_
  refine lv_i2b hx hb dX7_keep_20 rfl ?_
  refine lv_goto (tgt := 40) hx hb dX7_keep_21 (by decide) ?_
  refine zz_iast X G ia_30 tl_136 dX7_keep_40 h (fun μ H locs G h => ?_)
  rw [hQ]
  exact zz_vret X G hr hlk dX7_keep_41 h
set_option maxHeartbeats 4000000 in
set_option maxRecDepth 100000 in
theorem c_X7_put (l : Launch) (D : va_G) (ad : Nat → Nat) (cA : Nat → ClassId) {a1 : Int32} {a2 : Int32} {a3 : Int32} {a4 : Int32} {μ : zM} {r : Int32} {μ' : zM} (h : f_X7_put a1 a2 a3 a4 μ = some (r, μ')) : zMet false D ad cA l yX7_put cX7_put 6 (some .int) ({ frames := 2, cells := 0, slots := 0, locals := 45 } : Room) [.ref (ad 100), .int a1, .int a2, .int a3, .int a4] μ (zQi false D ad cA r μ') := by
  refine zMet_of "ButlerWeatherModel" ⟨by decide, rfl⟩ (Nat.le_of_ble_eq_true rfl) ?_
  intro p e s m args below meth c X G hr hlk ls hl
  have hl : lv_has ls 6 [(0, .ref (ad 100)), (1, .int a1), (2, .int a2), (3, .int a3), (4, .int a4)] := hl
  obtain ⟨hx, hb, hml, hown, hts, -, -, -⟩ := id X
  obtain ⟨Q, hQ⟩ : ∃ Q, Q = MQ below (zQi false D ad cA r μ') args s 0 0 (zA false ad) := ⟨_, rfl⟩
  rw [← hQ]
  unfold f_X7_put at h
  refine lv_iload_n hx hb dX7_put_0 rfl (lv_at hl 1 rfl) ?_
  refine zz_ci (rest := []) G h (fun r μ1 hf => zz_runS X G cs_X7_isSheet kw_986 (c_X7_isSheet l D ad cA  hf) ⟨rfl, rfl, Nat.le_of_ble_eq_true rfl, Nat.le_of_ble_eq_true rfl⟩ rfl rfl hl.1 (Nat.le_of_ble_eq_true rfl) dX7_put_1) (fun x1 μ H locs G h => ?_)
  refine lv_if_eq (tgt := 16) hx hb dX7_put_4 (by decide) (fun c2 => ?_) (fun c2 => ?_)
  · have h := (zz_br h).1 c2
    refine lv_bipush (v := (-2 : Int32)) hx hb dX7_put_16 (by decide) ?_
    rw [hQ]
    exact zz_iret X G hr hlk dX7_put_18 h
  have h := (zz_br h).2 c2
  refine lv_iload_n hx hb dX7_put_7 rfl (lv_at hl 2 rfl) ?_
  refine lv_iconst (v := (0 : Int32)) hx hb dX7_put_8 (by decide) ?_
  refine lv_iconst (v := (2 : Int32)) hx hb dX7_put_9 (by decide) ?_
  refine zz_ci (rest := []) G h (fun r μ1 hf => zz_runS X G cs_X7_in kw_905 (c_X7_in l D ad cA  hf) ⟨rfl, rfl, Nat.le_of_ble_eq_true rfl, Nat.le_of_ble_eq_true rfl⟩ rfl rfl hl.1 (Nat.le_of_ble_eq_true rfl) dX7_put_10) (fun x3 μ H locs G h => ?_)
  refine lv_if_ne (tgt := 19) hx hb dX7_put_13 (by decide) (fun c4 => ?_) (fun c4 => ?_)
  · have h := (zz_br h).1 c4
    refine lv_aload_n hx hb dX7_put_19 rfl (lv_at hl 0 rfl) ?_
    refine lv_iload_n hx hb dX7_put_20 rfl (lv_at hl 1 rfl) ?_
    refine lv_iload_n hx hb dX7_put_21 rfl (lv_at hl 2 rfl) ?_
    refine lv_iload_n hx hb dX7_put_22 rfl (lv_at hl 3 rfl) ?_
    refine zz_ci (rest := []) G h (fun r μ1 hf => zz_runV X G rc_7 tl_100 cv_X7_lacks kw_1241 (c_X7_lacks l D ad cA  hf) ⟨rfl, rfl, Nat.le_of_ble_eq_true rfl, Nat.le_of_ble_eq_true rfl⟩ rfl rfl hl.1 (Nat.le_of_ble_eq_true rfl) dX7_put_23) (fun x5 μ H locs G h => ?_)
    refine lv_istore (lv' := [(5, .int x5), (0, .ref (ad 100)), (1, .int a1), (2, .int a2), (3, .int a3), (4, .int a4)]) hx hb dX7_put_26 hl (by decide) rfl (fun ls hl => ?_)
    refine lv_iload hx hb dX7_put_28 (lv_at hl 0 rfl) ?_
    refine lv_if_le (tgt := 40) hx hb dX7_put_30 (by decide) (fun c6 => ?_) (fun c6 => ?_)
    · have h := (zz_br h).1 c6
      refine lv_aload_n hx hb dX7_put_40 rfl (lv_at hl 1 rfl) ?_
      refine lv_iload_n hx hb dX7_put_41 rfl (lv_at hl 2 rfl) ?_
      refine lv_iload_n hx hb dX7_put_42 rfl (lv_at hl 4 rfl) ?_
      refine lv_iload hx hb dX7_put_43 (lv_at hl 5 rfl) ?_
      refine zz_cv (rest := []) G h (fun r μ1 hf => zz_runV X G rc_7 tl_100 cv_X7_keep kw_1245 (c_X7_keep l D ad cA  hf) ⟨rfl, rfl, Nat.le_of_ble_eq_true rfl, Nat.le_of_ble_eq_true rfl⟩ rfl rfl hl.1 (Nat.le_of_ble_eq_true rfl) dX7_put_45) (fun _ μ H locs G h => ?_)
      refine lv_iconst (v := (1 : Int32)) hx hb dX7_put_48 (by decide) ?_
      rw [hQ]
      exact zz_iret X G hr hlk dX7_put_49 h
    have h := (zz_br h).2 c6
    refine lv_aload_n hx hb dX7_put_33 rfl (lv_at hl 1 rfl) ?_
    refine lv_iload hx hb dX7_put_34 (lv_at hl 0 rfl) ?_
    refine zz_ci (rest := []) G h (fun r μ1 hf => zz_runV X G rc_7 tl_100 cv_X7_meets kw_989 (c_X7_meets l D ad cA  hf) ⟨rfl, rfl, Nat.le_of_ble_eq_true rfl, Nat.le_of_ble_eq_true rfl⟩ rfl rfl hl.1 (Nat.le_of_ble_eq_true rfl) dX7_put_36) (fun x7 μ H locs G h => ?_)
    rw [hQ]
    exact zz_iret X G hr hlk dX7_put_39 h
  have h := (zz_br h).2 (fun q => q c4)
  refine lv_bipush (v := (-2 : Int32)) hx hb dX7_put_16 (by decide) ?_
  rw [hQ]
  exact zz_iret X G hr hlk dX7_put_18 h
set_option maxHeartbeats 4000000 in
set_option maxRecDepth 100000 in
theorem c_X7_get (l : Launch) (D : va_G) (ad : Nat → Nat) (cA : Nat → ClassId) {a1 : Int32} {a2 : Int32} {a3 : Int32} {μ : zM} {r : Int32} {μ' : zM} (h : f_X7_get a1 a2 a3 μ = some (r, μ')) : zMet false D ad cA l yX7_get cX7_get 5 (some .int) ({ frames := 2, cells := 0, slots := 0, locals := 45 } : Room) [.ref (ad 100), .int a1, .int a2, .int a3] μ (zQi false D ad cA r μ') := by
  refine zMet_of "ButlerWeatherModel" ⟨by decide, rfl⟩ (Nat.le_of_ble_eq_true rfl) ?_
  intro p e s m args below meth c X G hr hlk ls hl
  have hl : lv_has ls 5 [(0, .ref (ad 100)), (1, .int a1), (2, .int a2), (3, .int a3)] := hl
  obtain ⟨hx, hb, hml, hown, hts, -, -, -⟩ := id X
  obtain ⟨Q, hQ⟩ : ∃ Q, Q = MQ below (zQi false D ad cA r μ') args s 0 0 (zA false ad) := ⟨_, rfl⟩
  rw [← hQ]
  unfold f_X7_get at h
  refine lv_iload_n hx hb dX7_get_0 rfl (lv_at hl 1 rfl) ?_
  refine zz_ci (rest := []) G h (fun r μ1 hf => zz_runS X G cs_X7_isSheet kw_986 (c_X7_isSheet l D ad cA  hf) ⟨rfl, rfl, Nat.le_of_ble_eq_true rfl, Nat.le_of_ble_eq_true rfl⟩ rfl rfl hl.1 (Nat.le_of_ble_eq_true rfl) dX7_get_1) (fun x1 μ H locs G h => ?_)
  refine lv_if_eq (tgt := 16) hx hb dX7_get_4 (by decide) (fun c2 => ?_) (fun c2 => ?_)
  · have h := (zz_br h).1 c2
    refine lv_ldc hx hb hown (hts _ kw_1068) dX7_get_16 ?_
    rw [hQ]
    exact zz_iret X G hr hlk dX7_get_18 h
  have h := (zz_br h).2 c2
  refine lv_iload_n hx hb dX7_get_7 rfl (lv_at hl 2 rfl) ?_
  refine lv_iconst (v := (0 : Int32)) hx hb dX7_get_8 (by decide) ?_
  refine lv_iconst (v := (2 : Int32)) hx hb dX7_get_9 (by decide) ?_
  refine zz_ci (rest := []) G h (fun r μ1 hf => zz_runS X G cs_X7_in kw_905 (c_X7_in l D ad cA  hf) ⟨rfl, rfl, Nat.le_of_ble_eq_true rfl, Nat.le_of_ble_eq_true rfl⟩ rfl rfl hl.1 (Nat.le_of_ble_eq_true rfl) dX7_get_10) (fun x3 μ H locs G h => ?_)
  refine lv_if_ne (tgt := 19) hx hb dX7_get_13 (by decide) (fun c4 => ?_) (fun c4 => ?_)
  · have h := (zz_br h).1 c4
    refine lv_aload_n hx hb dX7_get_19 rfl (lv_at hl 0 rfl) ?_
    refine lv_iload_n hx hb dX7_get_20 rfl (lv_at hl 1 rfl) ?_
    refine lv_iload_n hx hb dX7_get_21 rfl (lv_at hl 2 rfl) ?_
    refine lv_iload_n hx hb dX7_get_22 rfl (lv_at hl 3 rfl) ?_
    refine zz_ci (rest := []) G h (fun r μ1 hf => zz_runV X G rc_7 tl_100 cv_X7_lacks kw_1241 (c_X7_lacks l D ad cA  hf) ⟨rfl, rfl, Nat.le_of_ble_eq_true rfl, Nat.le_of_ble_eq_true rfl⟩ rfl rfl hl.1 (Nat.le_of_ble_eq_true rfl) dX7_get_23) (fun x5 μ H locs G h => ?_)
    refine lv_istore (lv' := [(4, .int x5), (0, .ref (ad 100)), (1, .int a1), (2, .int a2), (3, .int a3)]) hx hb dX7_get_26 hl (by decide) rfl (fun ls hl => ?_)
    refine lv_iload hx hb dX7_get_28 (lv_at hl 0 rfl) ?_
    refine lv_if_le (tgt := 42) hx hb dX7_get_30 (by decide) (fun c6 => ?_) (fun c6 => ?_)
    · have h := (zz_br h).1 c6
      refine lv_aload_n hx hb dX7_get_42 rfl (lv_at hl 1 rfl) ?_
      refine zz_getr X G fr_7_35 tl_100 rl_100_35 kw_817 dX7_get_43 ?_
      refine lv_bipush (v := (60 : Int32)) hx hb dX7_get_46 (by decide) ?_
      refine lv_iload_n hx hb dX7_get_48 rfl (lv_at hl 2 rfl) ?_
      refine lv_imul hx hb dX7_get_49 ?_
      refine lv_iload_n hx hb dX7_get_50 rfl (lv_at hl 4 rfl) ?_
      refine lv_iadd hx hb dX7_get_51 ?_
      refine zz_iald X G ia_30 tl_136 dX7_get_52 h (fun x7 h => ?_)
      rw [hQ]
      exact zz_iret X G hr hlk dX7_get_53 h
    have h := (zz_br h).2 c6
    refine lv_aload_n hx hb dX7_get_33 rfl (lv_at hl 1 rfl) ?_
    refine lv_iload hx hb dX7_get_34 (lv_at hl 0 rfl) ?_
    refine zz_puti X G fp_7_37 tl_100 kw_819 rfl rfl dX7_get_36 h (fun μ H locs G h => ?_)
    refine lv_ldc hx hb hown (hts _ kw_1068) dX7_get_39 ?_
    rw [hQ]
    exact zz_iret X G hr hlk dX7_get_41 h
  have h := (zz_br h).2 (fun q => q c4)
  refine lv_ldc hx hb hown (hts _ kw_1068) dX7_get_16 ?_
  rw [hQ]
  exact zz_iret X G hr hlk dX7_get_18 h
set_option maxHeartbeats 4000000 in
set_option maxRecDepth 100000 in
theorem w_X7_copy_L120 {p : Program} {l : Launch} {e : Env} {s : State} {m : MethodId} {args : Array Value} {below : List Frame} {meth : Method} {c : Code} {Q : State → Prop} {D : va_G} {ad : Nat → Nat} {cA : Nat → ClassId} {r : Int32} {μ' : zM} (X : zX false D ad cA p s m args c cX7_copy "ButlerWeatherModel" 7) (hQ : Q = MQ below (zQi false D ad cA r μ') args s 0 0 (zA false ad)) (hr : meth.sig.returnType = (some .int)) (hlk : meth.locks = false) {v1 : Int32} {v2 : Int32} {v3 : Int32} {v4 : Int32} {v5 : Int32} {kx : zM → Option (Int32 × zM)} (HX : ∀ (μ : zM) (H : Heap) (locs : List Loc) (ls : Array Slot), lv_has ls 7 [(0, .ref (ad 100)), (3, .int v3), (4, .int v4), (5, .int v5)] → zG false D ad cA s μ H locs → kx  μ = some (r, μ') → W p l e ({ frames := 2, cells := 0, slots := 0, locals := 42 } : Room) s m args below meth c H locs 0 0 Q (F0 m 154 ls [])) : ∀ (n : Nat) (v6 : Int32) (μ : zM) (H : Heap) (locs : List Loc) (ls : Array Slot), lv_has ls 7 [(0, .ref (ad 100)), (1, .int v1), (2, .int v2), (3, .int v3), (4, .int v4), (5, .int v5), (6, .int v6)] → zG false D ad cA s μ H locs → f_X7_copy_L120 v1 v2 v3 v4 v5 kx n v6 μ = some (r, μ') → W p l e ({ frames := 2, cells := 0, slots := 0, locals := 42 } : Room) s m args below meth c H locs 0 0 Q (F0 m 120 ls []) := by
  obtain ⟨hx, hb, hml, hown, hts, -, -, -⟩ := id X
  intro n
  induction n with
  | zero =>
    intro v6 μ H locs ls hl G h
    cases (show (none : Option (Int32 × zM)) = some (r, μ') from h)
  | succ n ih =>
    intro v6 μ H locs ls hl G h
    rw [f_X7_copy_L120] at h
    refine lv_iload hx hb dX7_copy_120 (lv_at hl 6 rfl) ?_
    refine lv_iload hx hb dX7_copy_122 (lv_at hl 5 rfl) ?_
    refine lv_icmp_ge (tgt := 154) hx hb dX7_copy_124 (by decide) (fun c24 => ?_) (fun c24 => ?_)
    · have h := (zz_br h).1 c24
      exact HX  μ _ _ _ (lv_sub hl [0, 3, 4, 5] rfl) G h
    have h := (zz_br h).2 c24
    refine lv_aload_n hx hb dX7_copy_127 rfl (lv_at hl 0 rfl) ?_
    refine zz_getr X G fr_7_36 tl_100 rl_100_36 kw_818 dX7_copy_128 ?_
    refine lv_iload hx hb dX7_copy_131 (lv_at hl 6 rfl) ?_
    refine lv_aload_n hx hb dX7_copy_133 rfl (lv_at hl 0 rfl) ?_
    refine zz_getr X G fr_7_35 tl_100 rl_100_35 kw_817 dX7_copy_134 ?_
    refine lv_bipush (v := (60 : Int32)) hx hb dX7_copy_137 (by decide) ?_
    refine lv_iload_n hx hb dX7_copy_139 rfl (lv_at hl 1 rfl) ?_
    refine lv_imul hx hb dX7_copy_140 ?_
    refine lv_iload_n hx hb dX7_copy_141 rfl (lv_at hl 2 rfl) ?_
    refine lv_iadd hx hb dX7_copy_142 ?_
    refine lv_iload hx hb dX7_copy_143 (lv_at hl 6 rfl) ?_
    refine lv_iadd hx hb dX7_copy_145 ?_
    refine zz_iald X G ia_30 tl_136 dX7_copy_146 h (fun x25 h => ?_)
    refine zz_iast X G ia_30 tl_137 dX7_copy_147 h (fun μ H locs G h => ?_)
    obtain ⟨x26, ex26, h⟩ := zz_let h
    refine lv_iinc (v := x26) (lv' := [(6, .int x26), (0, .ref (ad 100)), (1, .int v1), (2, .int v2), (3, .int v3), (4, .int v4), (5, .int v5)]) hx hb dX7_copy_148 hl (k := 6) rfl (by rw [← ex26]; rfl) (by decide) rfl (fun ls hl => ?_)
    refine lv_goto (tgt := 120) hx hb dX7_copy_151 (by decide) ?_
    exact ih x26 μ _ _ _ (lv_sub hl [1, 2, 3, 4, 5, 6, 0] rfl) G h
set_option maxHeartbeats 4000000 in
set_option maxRecDepth 100000 in
theorem w_X7_copy_L157 {p : Program} {l : Launch} {e : Env} {s : State} {m : MethodId} {args : Array Value} {below : List Frame} {meth : Method} {c : Code} {Q : State → Prop} {D : va_G} {ad : Nat → Nat} {cA : Nat → ClassId} {r : Int32} {μ' : zM} (X : zX false D ad cA p s m args c cX7_copy "ButlerWeatherModel" 7) (hQ : Q = MQ below (zQi false D ad cA r μ') args s 0 0 (zA false ad)) (hr : meth.sig.returnType = (some .int)) (hlk : meth.locks = false) {v3 : Int32} {v4 : Int32} {v5 : Int32} {kx : zM → Option (Int32 × zM)} (HX : ∀ (μ : zM) (H : Heap) (locs : List Loc) (ls : Array Slot), lv_has ls 7 [] → zG false D ad cA s μ H locs → kx  μ = some (r, μ') → W p l e ({ frames := 2, cells := 0, slots := 0, locals := 42 } : Room) s m args below meth c H locs 0 0 Q (F0 m 192 ls [])) : ∀ (n : Nat) (v6 : Int32) (μ : zM) (H : Heap) (locs : List Loc) (ls : Array Slot), lv_has ls 7 [(0, .ref (ad 100)), (3, .int v3), (4, .int v4), (5, .int v5), (6, .int v6)] → zG false D ad cA s μ H locs → f_X7_copy_L157 v3 v4 v5 kx n v6 μ = some (r, μ') → W p l e ({ frames := 2, cells := 0, slots := 0, locals := 42 } : Room) s m args below meth c H locs 0 0 Q (F0 m 157 ls []) := by
  obtain ⟨hx, hb, hml, hown, hts, -, -, -⟩ := id X
  intro n
  induction n with
  | zero =>
    intro v6 μ H locs ls hl G h
    cases (show (none : Option (Int32 × zM)) = some (r, μ') from h)
  | succ n ih =>
    intro v6 μ H locs ls hl G h
    rw [f_X7_copy_L157] at h
    refine lv_iload hx hb dX7_copy_157 (lv_at hl 4 rfl) ?_
    refine lv_iload hx hb dX7_copy_159 (lv_at hl 3 rfl) ?_
    refine lv_icmp_ge (tgt := 192) hx hb dX7_copy_161 (by decide) (fun c27 => ?_) (fun c27 => ?_)
    · have h := (zz_br h).1 c27
      exact HX  μ _ _ _ (lv_sub hl [] rfl) G h
    have h := (zz_br h).2 c27
    refine lv_aload_n hx hb dX7_copy_164 rfl (lv_at hl 0 rfl) ?_
    refine zz_getr X G fr_7_35 tl_100 rl_100_35 kw_817 dX7_copy_165 ?_
    refine lv_bipush (v := (60 : Int32)) hx hb dX7_copy_168 (by decide) ?_
    refine lv_iload_n hx hb dX7_copy_170 rfl (lv_at hl 1 rfl) ?_
    refine lv_imul hx hb dX7_copy_171 ?_
    refine lv_iload hx hb dX7_copy_172 (lv_at hl 2 rfl) ?_
    refine lv_iadd hx hb dX7_copy_174 ?_
    refine lv_iload hx hb dX7_copy_175 (lv_at hl 4 rfl) ?_
    refine lv_iadd hx hb dX7_copy_177 ?_
    refine lv_aload_n hx hb dX7_copy_178 rfl (lv_at hl 0 rfl) ?_
    refine zz_getr X G fr_7_36 tl_100 rl_100_36 kw_818 dX7_copy_179 ?_
    refine lv_iload hx hb dX7_copy_182 (lv_at hl 4 rfl) ?_
    refine zz_iald X G ia_30 tl_137 dX7_copy_184 h (fun x28 h => ?_)
    refine zz_iast X G ia_30 tl_136 dX7_copy_185 h (fun μ H locs G h => ?_)
    obtain ⟨x29, ex29, h⟩ := zz_let h
    refine lv_iinc (v := x29) (lv' := [(6, .int x29), (0, .ref (ad 100)), (3, .int v3), (4, .int v4), (5, .int v5)]) hx hb dX7_copy_186 hl (k := 4) rfl (by rw [← ex29]; rfl) (by decide) rfl (fun ls hl => ?_)
    refine lv_goto (tgt := 157) hx hb dX7_copy_189 (by decide) ?_
    exact ih x29 μ _ _ _ (lv_sub hl [1, 2, 3, 4, 0] rfl) G h
set_option maxHeartbeats 4000000 in
set_option maxRecDepth 100000 in
theorem c_X7_copy (l : Launch) (D : va_G) (ad : Nat → Nat) (cA : Nat → ClassId) {a1 : Int32} {a2 : Int32} {a3 : Int32} {a4 : Int32} {a5 : Int32} {μ : zM} {r : Int32} {μ' : zM} (h : f_X7_copy a1 a2 a3 a4 a5 μ = some (r, μ')) : zMet false D ad cA l yX7_copy cX7_copy 7 (some .int) ({ frames := 2, cells := 0, slots := 0, locals := 42 } : Room) [.ref (ad 100), .int a1, .int a2, .int a3, .int a4, .int a5] μ (zQi false D ad cA r μ') := by
  refine zMet_of "ButlerWeatherModel" ⟨by decide, rfl⟩ (Nat.le_of_ble_eq_true rfl) ?_
  intro p e s m args below meth c X G hr hlk ls hl
  have hl : lv_has ls 7 [(0, .ref (ad 100)), (1, .int a1), (2, .int a2), (3, .int a3), (4, .int a4), (5, .int a5)] := hl
  obtain ⟨hx, hb, hml, hown, hts, -, -, -⟩ := id X
  obtain ⟨Q, hQ⟩ : ∃ Q, Q = MQ below (zQi false D ad cA r μ') args s 0 0 (zA false ad) := ⟨_, rfl⟩
  rw [← hQ]
  unfold f_X7_copy at h
  refine lv_iload_n hx hb dX7_copy_0 rfl (lv_at hl 1 rfl) ?_
  refine zz_ci (rest := []) G h (fun r μ1 hf => zz_runS X G cs_X7_isSheet kw_986 (c_X7_isSheet l D ad cA  hf) ⟨rfl, rfl, Nat.le_of_ble_eq_true rfl, Nat.le_of_ble_eq_true rfl⟩ rfl rfl hl.1 (Nat.le_of_ble_eq_true rfl) dX7_copy_1) (fun x1 μ H locs G h => ?_)
  refine lv_if_eq (tgt := 14) hx hb dX7_copy_4 (by decide) (fun c2 => ?_) (fun c2 => ?_)
  · have h := (zz_br h).1 c2
    refine lv_bipush (v := (-2 : Int32)) hx hb dX7_copy_14 (by decide) ?_
    rw [hQ]
    exact zz_iret X G hr hlk dX7_copy_16 h
  have h := (zz_br h).2 c2
  refine lv_iload_n hx hb dX7_copy_7 rfl (lv_at hl 3 rfl) ?_
  refine zz_ci (rest := []) G h (fun r μ1 hf => zz_runS X G cs_X7_isSheet kw_986 (c_X7_isSheet l D ad cA  hf) ⟨rfl, rfl, Nat.le_of_ble_eq_true rfl, Nat.le_of_ble_eq_true rfl⟩ rfl rfl hl.1 (Nat.le_of_ble_eq_true rfl) dX7_copy_8) (fun x3 μ H locs G h => ?_)
  refine lv_if_ne (tgt := 17) hx hb dX7_copy_11 (by decide) (fun c4 => ?_) (fun c4 => ?_)
  · have h := (zz_br h).1 c4
    refine lv_aload_n hx hb dX7_copy_17 rfl (lv_at hl 0 rfl) ?_
    refine zz_getr X G fr_7_32 tl_100 rl_100_32 kw_814 dX7_copy_18 ?_
    refine lv_iload_n hx hb dX7_copy_21 rfl (lv_at hl 1 rfl) ?_
    refine zz_zald X G ia_31 tl_133 dX7_copy_22 h (fun x5 h => ?_)
    refine lv_if_eq (tgt := 35) hx hb dX7_copy_23 (by decide) (fun c6 => ?_) (fun c6 => ?_)
    · have h := (zz_br h).1 c6
      refine lv_aload_n hx hb dX7_copy_35 rfl (lv_at hl 0 rfl) ?_
      refine lv_iconst (v := (1 : Int32)) hx hb dX7_copy_36 (by decide) ?_
      refine zz_ci (rest := []) G h (fun r μ1 hf => zz_runV X G rc_7 tl_100 cv_X7_meets kw_989 (c_X7_meets l D ad cA  hf) ⟨rfl, rfl, Nat.le_of_ble_eq_true rfl, Nat.le_of_ble_eq_true rfl⟩ rfl rfl hl.1 (Nat.le_of_ble_eq_true rfl) dX7_copy_37) (fun x7 μ H locs G h => ?_)
      rw [hQ]
      exact zz_iret X G hr hlk dX7_copy_40 h
    have h := (zz_br h).2 c6
    refine lv_aload_n hx hb dX7_copy_26 rfl (lv_at hl 0 rfl) ?_
    refine zz_getr X G fr_7_32 tl_100 rl_100_32 kw_814 dX7_copy_27 ?_
    refine lv_iload_n hx hb dX7_copy_30 rfl (lv_at hl 3 rfl) ?_
    refine zz_zald X G ia_31 tl_133 dX7_copy_31 h (fun x8 h => ?_)
    refine lv_if_ne (tgt := 41) hx hb dX7_copy_32 (by decide) (fun c9 => ?_) (fun c9 => ?_)
    · have h := (zz_br h).1 c9
      refine lv_aload_n hx hb dX7_copy_41 rfl (lv_at hl 0 rfl) ?_
      refine zz_getr X G fr_7_33 tl_100 rl_100_33 kw_815 dX7_copy_42 ?_
      refine lv_iload_n hx hb dX7_copy_45 rfl (lv_at hl 1 rfl) ?_
      refine zz_iald X G ia_30 tl_134 dX7_copy_46 h (fun x10 h => ?_)
      refine lv_aload_n hx hb dX7_copy_47 rfl (lv_at hl 0 rfl) ?_
      refine zz_getr X G fr_7_33 tl_100 rl_100_33 kw_815 dX7_copy_48 ?_
      refine lv_iload_n hx hb dX7_copy_51 rfl (lv_at hl 3 rfl) ?_
      refine zz_iald X G ia_30 tl_134 dX7_copy_52 h (fun x11 h => ?_)
      refine lv_icmp_eq (tgt := 62) hx hb dX7_copy_53 (by decide) (fun c12 => ?_) (fun c12 => ?_)
      · have h := (zz_br h).1 c12
        refine lv_iload_n hx hb dX7_copy_62 rfl (lv_at hl 2 rfl) ?_
        refine lv_if_lt (tgt := 111) hx hb dX7_copy_63 (by decide) (fun c13 => ?_) (fun c13 => ?_)
        · have h := (zz_br h).1 c13
          refine lv_aload_n hx hb dX7_copy_111 rfl (lv_at hl 0 rfl) ?_
          refine lv_iconst (v := (2 : Int32)) hx hb dX7_copy_112 (by decide) ?_
          refine zz_ci (rest := []) G h (fun r μ1 hf => zz_runV X G rc_7 tl_100 cv_X7_meets kw_989 (c_X7_meets l D ad cA  hf) ⟨rfl, rfl, Nat.le_of_ble_eq_true rfl, Nat.le_of_ble_eq_true rfl⟩ rfl rfl hl.1 (Nat.le_of_ble_eq_true rfl) dX7_copy_113) (fun x14 μ H locs G h => ?_)
          rw [hQ]
          exact zz_iret X G hr hlk dX7_copy_116 h
        have h := (zz_br h).2 c13
        refine lv_iload hx hb dX7_copy_66 (lv_at hl 4 rfl) ?_
        refine lv_if_lt (tgt := 111) hx hb dX7_copy_68 (by decide) (fun c15 => ?_) (fun c15 => ?_)
        · have h := (zz_br h).1 c15
          refine lv_aload_n hx hb dX7_copy_111 rfl (lv_at hl 0 rfl) ?_
          refine lv_iconst (v := (2 : Int32)) hx hb dX7_copy_112 (by decide) ?_
          refine zz_ci (rest := []) G h (fun r μ1 hf => zz_runV X G rc_7 tl_100 cv_X7_meets kw_989 (c_X7_meets l D ad cA  hf) ⟨rfl, rfl, Nat.le_of_ble_eq_true rfl, Nat.le_of_ble_eq_true rfl⟩ rfl rfl hl.1 (Nat.le_of_ble_eq_true rfl) dX7_copy_113) (fun x16 μ H locs G h => ?_)
          rw [hQ]
          exact zz_iret X G hr hlk dX7_copy_116 h
        have h := (zz_br h).2 c15
        refine lv_iload hx hb dX7_copy_71 (lv_at hl 5 rfl) ?_
        refine lv_if_lt (tgt := 111) hx hb dX7_copy_73 (by decide) (fun c17 => ?_) (fun c17 => ?_)
        · have h := (zz_br h).1 c17
          refine lv_aload_n hx hb dX7_copy_111 rfl (lv_at hl 0 rfl) ?_
          refine lv_iconst (v := (2 : Int32)) hx hb dX7_copy_112 (by decide) ?_
          refine zz_ci (rest := []) G h (fun r μ1 hf => zz_runV X G rc_7 tl_100 cv_X7_meets kw_989 (c_X7_meets l D ad cA  hf) ⟨rfl, rfl, Nat.le_of_ble_eq_true rfl, Nat.le_of_ble_eq_true rfl⟩ rfl rfl hl.1 (Nat.le_of_ble_eq_true rfl) dX7_copy_113) (fun x18 μ H locs G h => ?_)
          rw [hQ]
          exact zz_iret X G hr hlk dX7_copy_116 h
        have h := (zz_br h).2 c17
        refine lv_iload_n hx hb dX7_copy_76 rfl (lv_at hl 2 rfl) ?_
        refine lv_i2l hx hb dX7_copy_77 rfl ?_
        refine lv_iload hx hb dX7_copy_78 (lv_at hl 5 rfl) ?_
        refine lv_i2l hx hb dX7_copy_80 rfl ?_
        refine lv_ladd hx hb dX7_copy_81 ?_
        refine lv_aload_n hx hb dX7_copy_82 rfl (lv_at hl 0 rfl) ?_
        refine zz_getr X G fr_7_34 tl_100 rl_100_34 kw_816 dX7_copy_83 ?_
        refine lv_iload_n hx hb dX7_copy_86 rfl (lv_at hl 1 rfl) ?_
        refine zz_iald X G ia_30 tl_135 dX7_copy_87 h (fun x19 h => ?_)
        refine lv_i2l hx hb dX7_copy_88 rfl ?_
        refine W.lcmp hx hb dX7_copy_89 ?_
        refine lv_if_gt (tgt := 111) hx hb dX7_copy_90 (by decide) (fun c20 => ?_) (fun c20 => ?_)
        · have h := (zz_br h).1 c20
          refine lv_aload_n hx hb dX7_copy_111 rfl (lv_at hl 0 rfl) ?_
          refine lv_iconst (v := (2 : Int32)) hx hb dX7_copy_112 (by decide) ?_
          refine zz_ci (rest := []) G h (fun r μ1 hf => zz_runV X G rc_7 tl_100 cv_X7_meets kw_989 (c_X7_meets l D ad cA  hf) ⟨rfl, rfl, Nat.le_of_ble_eq_true rfl, Nat.le_of_ble_eq_true rfl⟩ rfl rfl hl.1 (Nat.le_of_ble_eq_true rfl) dX7_copy_113) (fun x21 μ H locs G h => ?_)
          rw [hQ]
          exact zz_iret X G hr hlk dX7_copy_116 h
        have h := (zz_br h).2 c20
        refine lv_iload hx hb dX7_copy_93 (lv_at hl 4 rfl) ?_
        refine lv_i2l hx hb dX7_copy_95 rfl ?_
        refine lv_iload hx hb dX7_copy_96 (lv_at hl 5 rfl) ?_
        refine lv_i2l hx hb dX7_copy_98 rfl ?_
        refine lv_ladd hx hb dX7_copy_99 ?_
        refine lv_aload_n hx hb dX7_copy_100 rfl (lv_at hl 0 rfl) ?_
        refine zz_getr X G fr_7_34 tl_100 rl_100_34 kw_816 dX7_copy_101 ?_
        refine lv_iload_n hx hb dX7_copy_104 rfl (lv_at hl 3 rfl) ?_
        refine zz_iald X G ia_30 tl_135 dX7_copy_105 h (fun x22 h => ?_)
        refine lv_i2l hx hb dX7_copy_106 rfl ?_
        refine W.lcmp hx hb dX7_copy_107 ?_
        refine lv_if_le (tgt := 117) hx hb dX7_copy_108 (by decide) (fun c23 => ?_) (fun c23 => ?_)
        · have h := (zz_br h).1 c23
          refine lv_iconst (v := (0 : Int32)) hx hb dX7_copy_117 (by decide) ?_
          refine lv_istore (lv' := [(6, .int (0 : Int32)), (0, .ref (ad 100)), (1, .int a1), (2, .int a2), (3, .int a3), (4, .int a4), (5, .int a5)]) hx hb dX7_copy_118 hl (by decide) rfl (fun ls hl => ?_)
          refine w_X7_copy_L120 X hQ hr hlk  (fun  μ H locs ls hl G h => ?_) 400 (0 : Int32) μ _ _ _ (lv_sub hl [1, 2, 3, 4, 5, 6, 0] rfl) G h
          refine lv_iconst (v := (0 : Int32)) hx hb dX7_copy_154 (by decide) ?_
          refine lv_istore (lv' := [(6, .int (0 : Int32)), (0, .ref (ad 100)), (3, .int a3), (4, .int a4), (5, .int a5)]) hx hb dX7_copy_155 hl (by decide) rfl (fun ls hl => ?_)
          refine w_X7_copy_L157 X hQ hr hlk  (fun  μ H locs ls hl G h => ?_) 400 (0 : Int32) μ _ _ _ (lv_sub hl [1, 2, 3, 4, 0] rfl) G h
          refine lv_iconst (v := (1 : Int32)) hx hb dX7_copy_192 (by decide) ?_
          rw [hQ]
          exact zz_iret X G hr hlk dX7_copy_193 h
        have h := (zz_br h).2 c23
        refine lv_aload_n hx hb dX7_copy_111 rfl (lv_at hl 0 rfl) ?_
        refine lv_iconst (v := (2 : Int32)) hx hb dX7_copy_112 (by decide) ?_
        refine zz_ci (rest := []) G h (fun r μ1 hf => zz_runV X G rc_7 tl_100 cv_X7_meets kw_989 (c_X7_meets l D ad cA  hf) ⟨rfl, rfl, Nat.le_of_ble_eq_true rfl, Nat.le_of_ble_eq_true rfl⟩ rfl rfl hl.1 (Nat.le_of_ble_eq_true rfl) dX7_copy_113) (fun x30 μ H locs G h => ?_)
        rw [hQ]
        exact zz_iret X G hr hlk dX7_copy_116 h
      have h := (zz_br h).2 c12
      refine lv_aload_n hx hb dX7_copy_56 rfl (lv_at hl 0 rfl) ?_
      refine lv_iconst (v := (4 : Int32)) hx hb dX7_copy_57 (by decide) ?_
      refine zz_ci (rest := []) G h (fun r μ1 hf => zz_runV X G rc_7 tl_100 cv_X7_meets kw_989 (c_X7_meets l D ad cA  hf) ⟨rfl, rfl, Nat.le_of_ble_eq_true rfl, Nat.le_of_ble_eq_true rfl⟩ rfl rfl hl.1 (Nat.le_of_ble_eq_true rfl) dX7_copy_58) (fun x31 μ H locs G h => ?_)
      rw [hQ]
      exact zz_iret X G hr hlk dX7_copy_61 h
    have h := (zz_br h).2 (fun q => q c9)
    refine lv_aload_n hx hb dX7_copy_35 rfl (lv_at hl 0 rfl) ?_
    refine lv_iconst (v := (1 : Int32)) hx hb dX7_copy_36 (by decide) ?_
    refine zz_ci (rest := []) G h (fun r μ1 hf => zz_runV X G rc_7 tl_100 cv_X7_meets kw_989 (c_X7_meets l D ad cA  hf) ⟨rfl, rfl, Nat.le_of_ble_eq_true rfl, Nat.le_of_ble_eq_true rfl⟩ rfl rfl hl.1 (Nat.le_of_ble_eq_true rfl) dX7_copy_37) (fun x32 μ H locs G h => ?_)
    rw [hQ]
    exact zz_iret X G hr hlk dX7_copy_40 h
  have h := (zz_br h).2 (fun q => q c4)
  refine lv_bipush (v := (-2 : Int32)) hx hb dX7_copy_14 (by decide) ?_
  rw [hQ]
  exact zz_iret X G hr hlk dX7_copy_16 h
set_option maxHeartbeats 4000000 in
set_option maxRecDepth 100000 in
theorem w_X7_write_L31 {p : Program} {l : Launch} {e : Env} {s : State} {m : MethodId} {args : Array Value} {below : List Frame} {meth : Method} {c : Code} {Q : State → Prop} {D : va_G} {ad : Nat → Nat} {cA : Nat → ClassId} {r : Int32} {μ' : zM} (X : zX false D ad cA p s m args c cX7_write "ButlerWeatherModel" 3) (hQ : Q = MQ below (zQi false D ad cA r μ') args s 0 0 (zA false ad)) (hr : meth.sig.returnType = (some .int)) (hlk : meth.locks = false) {v1 : Int32} {kx : Int32 → zM → Option (Int32 × zM)} (HX : ∀ (w2 : Int32) (μ : zM) (H : Heap) (locs : List Loc) (ls : Array Slot), lv_has ls 3 [(2, .int w2)] → zG false D ad cA s μ H locs → kx w2 μ = some (r, μ') → W p l e ({ frames := 7, cells := 0, slots := 0, locals := 158 } : Room) s m args below meth c H locs 0 0 Q (F0 m 65 ls [])) : ∀ (n : Nat) (v2 : Int32) (μ : zM) (H : Heap) (locs : List Loc) (ls : Array Slot), lv_has ls 3 [(0, .ref (ad 100)), (1, .int v1), (2, .int v2)] → zG false D ad cA s μ H locs → f_X7_write_L31 v1 kx n v2 μ = some (r, μ') → W p l e ({ frames := 7, cells := 0, slots := 0, locals := 158 } : Room) s m args below meth c H locs 0 0 Q (F0 m 31 ls []) := by
  obtain ⟨hx, hb, hml, hown, hts, -, -, -⟩ := id X
  intro n
  induction n with
  | zero =>
    intro v2 μ H locs ls hl G h
    cases (show (none : Option (Int32 × zM)) = some (r, μ') from h)
  | succ n ih =>
    intro v2 μ H locs ls hl G h
    rw [f_X7_write_L31] at h
    refine lv_iload_n hx hb dX7_write_31 rfl (lv_at hl 2 rfl) ?_
    refine lv_aload_n hx hb dX7_write_32 rfl (lv_at hl 0 rfl) ?_
    refine zz_getr X G fr_7_34 tl_100 rl_100_34 kw_816 dX7_write_33 ?_
    refine lv_iload_n hx hb dX7_write_36 rfl (lv_at hl 1 rfl) ?_
    refine zz_iald X G ia_30 tl_135 dX7_write_37 h (fun x5 h => ?_)
    refine lv_icmp_ge (tgt := 65) hx hb dX7_write_38 (by decide) (fun c6 => ?_) (fun c6 => ?_)
    · have h := (zz_br h).1 c6
      exact HX v2 μ _ _ _ (lv_sub hl [2] rfl) G h
    have h := (zz_br h).2 c6
    refine lv_iload_n hx hb dX7_write_41 rfl (lv_at hl 2 rfl) ?_
    refine lv_bipush (v := (24 : Int32)) hx hb dX7_write_42 (by decide) ?_
    refine lv_icmp_ge (tgt := 65) hx hb dX7_write_44 (by decide) (fun c7 => ?_) (fun c7 => ?_)
    · have h := (zz_br h).1 c7
      exact HX v2 μ _ _ _ (lv_sub hl [2] rfl) G h
    have h := (zz_br h).2 c7
    refine lv_aload_n hx hb dX7_write_47 rfl (lv_at hl 0 rfl) ?_
    refine lv_iload_n hx hb dX7_write_48 rfl (lv_at hl 1 rfl) ?_
    refine lv_iload_n hx hb dX7_write_49 rfl (lv_at hl 2 rfl) ?_
    refine lv_aload_n hx hb dX7_write_50 rfl (lv_at hl 0 rfl) ?_
    refine zz_getr X G fr_7_26 tl_100 rl_100_26 kw_808 dX7_write_51 ?_
    refine lv_iload_n hx hb dX7_write_54 rfl (lv_at hl 2 rfl) ?_
    refine zz_iald X G ia_30 tl_127 dX7_write_55 h (fun x8 h => ?_)
    refine zz_cv (rest := []) G h (fun r μ1 hf => zz_runV X G rc_7 tl_100 cv_X7_keep kw_1245 (c_X7_keep l D ad cA  hf) ⟨rfl, rfl, Nat.le_of_ble_eq_true rfl, Nat.le_of_ble_eq_true rfl⟩ rfl rfl hl.1 (Nat.le_of_ble_eq_true rfl) dX7_write_56) (fun _ μ H locs G h => ?_)
    obtain ⟨x9, ex9, h⟩ := zz_let h
    refine lv_iinc (v := x9) (lv' := [(2, .int x9), (0, .ref (ad 100)), (1, .int v1)]) hx hb dX7_write_59 hl (k := 2) rfl (by rw [← ex9]; rfl) (by decide) rfl (fun ls hl => ?_)
    refine lv_goto (tgt := 31) hx hb dX7_write_62 (by decide) ?_
    exact ih x9 μ _ _ _ (lv_sub hl [1, 2, 0] rfl) G h
set_option maxHeartbeats 4000000 in
set_option maxRecDepth 100000 in
theorem c_X7_write (l : Launch) (D : va_G) (ad : Nat → Nat) (cA : Nat → ClassId) {a1 : Int32} {μ : zM} {r : Int32} {μ' : zM} (h : f_X7_write a1 μ = some (r, μ')) : zMet false D ad cA l yX7_write cX7_write 3 (some .int) ({ frames := 7, cells := 0, slots := 0, locals := 158 } : Room) [.ref (ad 100), .int a1] μ (zQi false D ad cA r μ') := by
  refine zMet_of "ButlerWeatherModel" ⟨by decide, rfl⟩ (Nat.le_of_ble_eq_true rfl) ?_
  intro p e s m args below meth c X G hr hlk ls hl
  have hl : lv_has ls 3 [(0, .ref (ad 100)), (1, .int a1)] := hl
  obtain ⟨hx, hb, hml, hown, hts, -, -, -⟩ := id X
  obtain ⟨Q, hQ⟩ : ∃ Q, Q = MQ below (zQi false D ad cA r μ') args s 0 0 (zA false ad) := ⟨_, rfl⟩
  rw [← hQ]
  unfold f_X7_write at h
  refine lv_iload_n hx hb dX7_write_0 rfl (lv_at hl 1 rfl) ?_
  refine zz_ci (rest := []) G h (fun r μ1 hf => zz_runS X G cs_X7_isSheet kw_986 (c_X7_isSheet l D ad cA  hf) ⟨rfl, rfl, Nat.le_of_ble_eq_true rfl, Nat.le_of_ble_eq_true rfl⟩ rfl rfl hl.1 (Nat.le_of_ble_eq_true rfl) dX7_write_1) (fun x1 μ H locs G h => ?_)
  refine lv_if_ne (tgt := 10) hx hb dX7_write_4 (by decide) (fun c2 => ?_) (fun c2 => ?_)
  · have h := (zz_br h).1 c2
    refine lv_aload_n hx hb dX7_write_10 rfl (lv_at hl 0 rfl) ?_
    refine zz_getr X G fr_7_32 tl_100 rl_100_32 kw_814 dX7_write_11 ?_
    refine lv_iload_n hx hb dX7_write_14 rfl (lv_at hl 1 rfl) ?_
    refine zz_zald X G ia_31 tl_133 dX7_write_15 h (fun x3 h => ?_)
    refine lv_if_ne (tgt := 25) hx hb dX7_write_16 (by decide) (fun c4 => ?_) (fun c4 => ?_)
    · have h := (zz_br h).1 c4
      refine lv_aload_n hx hb dX7_write_25 rfl (lv_at hl 0 rfl) ?_
      refine zz_cv (rest := []) G h (fun r μ1 hf => zz_runV X G rc_7 tl_100 cv_X7_runsTold kw_1002 (c_X7_runsTold l D ad cA  hf) ⟨rfl, rfl, Nat.le_of_ble_eq_true rfl, Nat.le_of_ble_eq_true rfl⟩ rfl rfl hl.1 (Nat.le_of_ble_eq_true rfl) dX7_write_26) (fun _ μ H locs G h => ?_)
      refine lv_iconst (v := (0 : Int32)) hx hb dX7_write_29 (by decide) ?_
      refine lv_istore_n (lv' := [(2, .int (0 : Int32)), (0, .ref (ad 100)), (1, .int a1)]) hx hb dX7_write_30 rfl hl (by decide) rfl (fun ls hl => ?_)
      refine w_X7_write_L31 X hQ hr hlk  (fun x10 μ H locs ls hl G h => ?_) 400 (0 : Int32) μ _ _ _ (lv_sub hl [1, 2, 0] rfl) G h
      refine lv_iload_n hx hb dX7_write_65 rfl (lv_at hl 0 rfl) ?_
      rw [hQ]
      exact zz_iret X G hr hlk dX7_write_66 h
    have h := (zz_br h).2 (fun q => q c4)
    refine lv_aload_n hx hb dX7_write_19 rfl (lv_at hl 0 rfl) ?_
    refine lv_iconst (v := (1 : Int32)) hx hb dX7_write_20 (by decide) ?_
    refine zz_ci (rest := []) G h (fun r μ1 hf => zz_runV X G rc_7 tl_100 cv_X7_meets kw_989 (c_X7_meets l D ad cA  hf) ⟨rfl, rfl, Nat.le_of_ble_eq_true rfl, Nat.le_of_ble_eq_true rfl⟩ rfl rfl hl.1 (Nat.le_of_ble_eq_true rfl) dX7_write_21) (fun x11 μ H locs G h => ?_)
    rw [hQ]
    exact zz_iret X G hr hlk dX7_write_24 h
  have h := (zz_br h).2 (fun q => q c2)
  refine lv_bipush (v := (-2 : Int32)) hx hb dX7_write_7 (by decide) ?_
  rw [hQ]
  exact zz_iret X G hr hlk dX7_write_9 h
set_option maxHeartbeats 4000000 in
set_option maxRecDepth 100000 in
theorem w_X7_ones_L4 {p : Program} {l : Launch} {e : Env} {s : State} {m : MethodId} {args : Array Value} {below : List Frame} {meth : Method} {c : Code} {Q : State → Prop} {D : va_G} {ad : Nat → Nat} {cA : Nat → ClassId} {r : Int32} {μ' : zM} (X : zX false D ad cA p s m args c cX7_ones "ButlerWeatherModel" 4) (hQ : Q = MQ below (zQi false D ad cA r μ') args s 0 0 (zA false ad)) (hr : meth.sig.returnType = (some .int)) (hlk : meth.locks = false) {v1 : Int32} {kx : Int32 → zM → Option (Int32 × zM)} (HX : ∀ (w2 : Int32) (μ : zM) (H : Heap) (locs : List Loc) (ls : Array Slot), lv_has ls 4 [(2, .int w2)] → zG false D ad cA s μ H locs → kx w2 μ = some (r, μ') → W p l e ({ frames := 1, cells := 0, slots := 0, locals := 21 } : Room) s m args below meth c H locs 0 0 Q (F0 m 32 ls [])) : ∀ (n : Nat) (v2 : Int32) (v3 : Int32) (μ : zM) (H : Heap) (locs : List Loc) (ls : Array Slot), lv_has ls 4 [(1, .int v1), (2, .int v2), (3, .int v3)] → zG false D ad cA s μ H locs → f_X7_ones_L4 v1 kx n v2 v3 μ = some (r, μ') → W p l e ({ frames := 1, cells := 0, slots := 0, locals := 21 } : Room) s m args below meth c H locs 0 0 Q (F0 m 4 ls []) := by
  obtain ⟨hx, hb, hml, hown, hts, -, -, -⟩ := id X
  intro n
  induction n with
  | zero =>
    intro v2 v3 μ H locs ls hl G h
    cases (show (none : Option (Int32 × zM)) = some (r, μ') from h)
  | succ n ih =>
    intro v2 v3 μ H locs ls hl G h
    rw [f_X7_ones_L4] at h
    refine lv_iload_n hx hb dX7_ones_4 rfl (lv_at hl 2 rfl) ?_
    refine lv_bipush (v := (8 : Int32)) hx hb dX7_ones_5 (by decide) ?_
    refine lv_icmp_ge (tgt := 32) hx hb dX7_ones_7 (by decide) (fun c1 => ?_) (fun c1 => ?_)
    · have h := (zz_br h).1 c1
      exact HX v2 μ _ _ _ (lv_sub hl [1] rfl) G h
    have h := (zz_br h).2 c1
    refine lv_iload_n hx hb dX7_ones_10 rfl (lv_at hl 1 rfl) ?_
    refine lv_iload_n hx hb dX7_ones_11 rfl (lv_at hl 0 rfl) ?_
    refine lv_iload_n hx hb dX7_ones_12 rfl (lv_at hl 2 rfl) ?_
    refine zz_ci (rest := [.int v2]) G h (fun r μ1 hf => zz_runS X G cs_X7_isIn kw_1038 (c_X7_isIn l D ad cA  hf) ⟨rfl, rfl, Nat.le_of_ble_eq_true rfl, Nat.le_of_ble_eq_true rfl⟩ rfl rfl hl.1 (Nat.le_of_ble_eq_true rfl) dX7_ones_13) (fun x2 μ H locs G h => ?_)
    refine lv_if_eq (tgt := 23) hx hb dX7_ones_16 (by decide) (fun c3 => ?_) (fun c3 => ?_)
    · have h := (zz_br h).1 c3
      refine lv_iconst (v := (0 : Int32)) hx hb dX7_ones_23 (by decide) ?_
      refine lv_iadd hx hb dX7_ones_24 ?_
      refine zz_vi h (fun x4 h => ?_)
      refine lv_istore_n (lv' := [(2, .int x4), (1, .int v1), (3, .int v3)]) hx hb dX7_ones_25 rfl hl (by decide) rfl (fun ls hl => ?_)
      obtain ⟨x5, ex5, h⟩ := zz_let h
      refine lv_iinc (v := x5) (lv' := [(3, .int x5), (2, .int x4), (1, .int v1)]) hx hb dX7_ones_26 hl (k := 2) rfl (by rw [← ex5]; rfl) (by decide) rfl (fun ls hl => ?_)
      refine lv_goto (tgt := 4) hx hb dX7_ones_29 (by decide) ?_
      exact ih x4 x5 μ _ _ _ (lv_sub hl [2, 1, 0] rfl) G h
    have h := (zz_br h).2 c3
    refine lv_iconst (v := (1 : Int32)) hx hb dX7_ones_19 (by decide) ?_
    refine lv_goto (tgt := 24) hx hb dX7_ones_20 (by decide) ?_
    refine lv_iadd hx hb dX7_ones_24 ?_
    refine zz_vi h (fun x6 h => ?_)
    refine lv_istore_n (lv' := [(2, .int x6), (1, .int v1), (3, .int v3)]) hx hb dX7_ones_25 rfl hl (by decide) rfl (fun ls hl => ?_)
    obtain ⟨x7, ex7, h⟩ := zz_let h
    refine lv_iinc (v := x7) (lv' := [(3, .int x7), (2, .int x6), (1, .int v1)]) hx hb dX7_ones_26 hl (k := 2) rfl (by rw [← ex7]; rfl) (by decide) rfl (fun ls hl => ?_)
    refine lv_goto (tgt := 4) hx hb dX7_ones_29 (by decide) ?_
    exact ih x6 x7 μ _ _ _ (lv_sub hl [2, 1, 0] rfl) G h
set_option maxHeartbeats 4000000 in
set_option maxRecDepth 100000 in
theorem c_X7_ones (l : Launch) (D : va_G) (ad : Nat → Nat) (cA : Nat → ClassId) {a1 : Int32} {μ : zM} {r : Int32} {μ' : zM} (h : f_X7_ones a1 μ = some (r, μ')) : zMet false D ad cA l yX7_ones cX7_ones 4 (some .int) ({ frames := 1, cells := 0, slots := 0, locals := 21 } : Room) [.ref (ad 100), .int a1] μ (zQi false D ad cA r μ') := by
  refine zMet_of "ButlerWeatherModel" ⟨by decide, rfl⟩ (Nat.le_of_ble_eq_true rfl) ?_
  intro p e s m args below meth c X G hr hlk ls hl
  have hl : lv_has ls 4 [(0, .ref (ad 100)), (1, .int a1)] := hl
  obtain ⟨hx, hb, hml, hown, hts, -, -, -⟩ := id X
  obtain ⟨Q, hQ⟩ : ∃ Q, Q = MQ below (zQi false D ad cA r μ') args s 0 0 (zA false ad) := ⟨_, rfl⟩
  rw [← hQ]
  unfold f_X7_ones at h
  refine lv_iconst (v := (0 : Int32)) hx hb dX7_ones_0 (by decide) ?_
  refine lv_istore_n (lv' := [(2, .int (0 : Int32)), (0, .ref (ad 100)), (1, .int a1)]) hx hb dX7_ones_1 rfl hl (by decide) rfl (fun ls hl => ?_)
  refine lv_iconst (v := (0 : Int32)) hx hb dX7_ones_2 (by decide) ?_
  refine lv_istore_n (lv' := [(3, .int (0 : Int32)), (2, .int (0 : Int32)), (0, .ref (ad 100)), (1, .int a1)]) hx hb dX7_ones_3 rfl hl (by decide) rfl (fun ls hl => ?_)
  refine w_X7_ones_L4 X hQ hr hlk  (fun x8 μ H locs ls hl G h => ?_) 400 (0 : Int32) (0 : Int32) μ _ _ _ (lv_sub hl [3, 1, 0] rfl) G h
  refine lv_iload_n hx hb dX7_ones_32 rfl (lv_at hl 0 rfl) ?_
  rw [hQ]
  exact zz_iret X G hr hlk dX7_ones_33 h
set_option maxHeartbeats 4000000 in
set_option maxRecDepth 100000 in
theorem c_X7_tellOf (l : Launch) (D : va_G) (ad : Nat → Nat) (cA : Nat → ClassId) {a1 : Int32} {μ : zM} {r : Int32} {μ' : zM} (h : f_X7_tellOf a1 μ = some (r, μ')) : zMet false D ad cA l yX7_tellOf cX7_tellOf 2 (some .int) ({ frames := 7, cells := 0, slots := 0, locals := 158 } : Room) [.ref (ad 100), .int a1] μ (zQi false D ad cA r μ') := by
  refine zMet_of "ButlerWeatherModel" ⟨by decide, rfl⟩ (Nat.le_of_ble_eq_true rfl) ?_
  intro p e s m args below meth c X G hr hlk ls hl
  have hl : lv_has ls 2 [(0, .ref (ad 100)), (1, .int a1)] := hl
  obtain ⟨hx, hb, hml, hown, hts, -, -, -⟩ := id X
  obtain ⟨Q, hQ⟩ : ∃ Q, Q = MQ below (zQi false D ad cA r μ') args s 0 0 (zA false ad) := ⟨_, rfl⟩
  rw [← hQ]
  unfold f_X7_tellOf at h
  refine lv_aload_n hx hb dX7_tellOf_0 rfl (lv_at hl 0 rfl) ?_
  refine zz_cv (rest := []) G h (fun r μ1 hf => zz_runV X G rc_7 tl_100 cv_X7_runsTold kw_1002 (c_X7_runsTold l D ad cA  hf) ⟨rfl, rfl, Nat.le_of_ble_eq_true rfl, Nat.le_of_ble_eq_true rfl⟩ rfl rfl hl.1 (Nat.le_of_ble_eq_true rfl) dX7_tellOf_1) (fun _ μ H locs G h => ?_)
  refine lv_iload_n hx hb dX7_tellOf_4 rfl (lv_at hl 1 rfl) ?_
  refine lv_if_ne (tgt := 15) hx hb dX7_tellOf_5 (by decide) (fun c1 => ?_) (fun c1 => ?_)
  · have h := (zz_br h).1 c1
    refine lv_iload_n hx hb dX7_tellOf_15 rfl (lv_at hl 1 rfl) ?_
    refine lv_iconst (v := (1 : Int32)) hx hb dX7_tellOf_16 (by decide) ?_
    refine lv_icmp_ne (tgt := 27) hx hb dX7_tellOf_17 (by decide) (fun c2 => ?_) (fun c2 => ?_)
    · have h := (zz_br h).1 c2
      refine lv_iload_n hx hb dX7_tellOf_27 rfl (lv_at hl 1 rfl) ?_
      refine lv_iconst (v := (5 : Int32)) hx hb dX7_tellOf_28 (by decide) ?_
      refine lv_icmp_ne (tgt := 39) hx hb dX7_tellOf_29 (by decide) (fun c3 => ?_) (fun c3 => ?_)
      · have h := (zz_br h).1 c3
        refine lv_aload_n hx hb dX7_tellOf_39 rfl (lv_at hl 0 rfl) ?_
        refine lv_aload_n hx hb dX7_tellOf_40 rfl (lv_at hl 0 rfl) ?_
        refine zz_ci (rest := [.ref (ad 100)]) G h (fun r μ1 hf => zz_runV X G rc_7 tl_100 cv_X7_sentNow kw_1096 (c_X7_sentNow l D ad cA  hf) ⟨rfl, rfl, Nat.le_of_ble_eq_true rfl, Nat.le_of_ble_eq_true rfl⟩ rfl rfl hl.1 (Nat.le_of_ble_eq_true rfl) dX7_tellOf_41) (fun x4 μ H locs G h => ?_)
        refine zz_ci (rest := []) G h (fun r μ1 hf => zz_runV X G rc_7 tl_100 cv_X7_ones kw_1269 (c_X7_ones l D ad cA  hf) ⟨rfl, rfl, Nat.le_of_ble_eq_true rfl, Nat.le_of_ble_eq_true rfl⟩ rfl rfl hl.1 (Nat.le_of_ble_eq_true rfl) dX7_tellOf_44) (fun x5 μ H locs G h => ?_)
        rw [hQ]
        exact zz_iret X G hr hlk dX7_tellOf_47 h
      have h := (zz_br h).2 (fun q => q c3)
      refine lv_aload_n hx hb dX7_tellOf_32 rfl (lv_at hl 0 rfl) ?_
      refine zz_ci (rest := []) G h (fun r μ1 hf => zz_runV X G rc_7 tl_100 cv_X7_insNow kw_1137 (c_X7_insNow l D ad cA  hf) ⟨rfl, rfl, Nat.le_of_ble_eq_true rfl, Nat.le_of_ble_eq_true rfl⟩ rfl rfl hl.1 (Nat.le_of_ble_eq_true rfl) dX7_tellOf_33) (fun x6 μ H locs G h => ?_)
      refine lv_goto (tgt := 47) hx hb dX7_tellOf_36 (by decide) ?_
      rw [hQ]
      exact zz_iret X G hr hlk dX7_tellOf_47 h
    have h := (zz_br h).2 (fun q => q c2)
    refine lv_aload_n hx hb dX7_tellOf_20 rfl (lv_at hl 0 rfl) ?_
    refine zz_geti X G fi_7_7 tl_100 kw_789 dX7_tellOf_21 h (fun x7 h => ?_)
    refine lv_goto (tgt := 47) hx hb dX7_tellOf_24 (by decide) ?_
    rw [hQ]
    exact zz_iret X G hr hlk dX7_tellOf_47 h
  have h := (zz_br h).2 (fun q => q c1)
  refine lv_aload_n hx hb dX7_tellOf_8 rfl (lv_at hl 0 rfl) ?_
  refine zz_geti X G fi_7_2 tl_100 kw_784 dX7_tellOf_9 h (fun x8 h => ?_)
  refine lv_goto (tgt := 47) hx hb dX7_tellOf_12 (by decide) ?_
  rw [hQ]
  exact zz_iret X G hr hlk dX7_tellOf_47 h
set_option maxHeartbeats 4000000 in
set_option maxRecDepth 100000 in
theorem c_X7_count (l : Launch) (D : va_G) (ad : Nat → Nat) (cA : Nat → ClassId) {a1 : Int32} {μ : zM} {r : Int32} {μ' : zM} (h : f_X7_count a1 μ = some (r, μ')) : zMet false D ad cA l yX7_count cX7_count 2 (some .int) ({ frames := 8, cells := 0, slots := 0, locals := 179 } : Room) [.ref (ad 100), .int a1] μ (zQi false D ad cA r μ') := by
  refine zMet_of "ButlerWeatherModel" ⟨by decide, rfl⟩ (Nat.le_of_ble_eq_true rfl) ?_
  intro p e s m args below meth c X G hr hlk ls hl
  have hl : lv_has ls 2 [(0, .ref (ad 100)), (1, .int a1)] := hl
  obtain ⟨hx, hb, hml, hown, hts, -, -, -⟩ := id X
  obtain ⟨Q, hQ⟩ : ∃ Q, Q = MQ below (zQi false D ad cA r μ') args s 0 0 (zA false ad) := ⟨_, rfl⟩
  rw [← hQ]
  unfold f_X7_count at h
  refine lv_iload_n hx hb dX7_count_0 rfl (lv_at hl 1 rfl) ?_
  refine zz_sw (k := (0 : Int32)) h (fun c1 h => ?_) (fun c1 h => ?_)
  · refine lv_tableIn (off := 51) (tgt := 52) hx hb dX7_count_1 (by rw [c1]; decide) (by rw [c1]; decide) (by rw [c1]; rfl) (by decide) ?_
    refine lv_aload_n hx hb dX7_count_52 rfl (lv_at hl 0 rfl) ?_
    refine lv_iload_n hx hb dX7_count_53 rfl (lv_at hl 1 rfl) ?_
    refine zz_ci (rest := []) G h (fun r μ1 hf => zz_runV X G rc_7 tl_100 cv_X7_tellOf kw_1265 (c_X7_tellOf l D ad cA  hf) ⟨rfl, rfl, Nat.le_of_ble_eq_true rfl, Nat.le_of_ble_eq_true rfl⟩ rfl rfl hl.1 (Nat.le_of_ble_eq_true rfl) dX7_count_54) (fun x2 μ H locs G h => ?_)
    rw [hQ]
    exact zz_iret X G hr hlk dX7_count_57 h
  refine zz_sw (k := (1 : Int32)) h (fun c3 h => ?_) (fun c3 h => ?_)
  · refine lv_tableIn (off := 51) (tgt := 52) hx hb dX7_count_1 (by rw [c3]; decide) (by rw [c3]; decide) (by rw [c3]; rfl) (by decide) ?_
    refine lv_aload_n hx hb dX7_count_52 rfl (lv_at hl 0 rfl) ?_
    refine lv_iload_n hx hb dX7_count_53 rfl (lv_at hl 1 rfl) ?_
    refine zz_ci (rest := []) G h (fun r μ1 hf => zz_runV X G rc_7 tl_100 cv_X7_tellOf kw_1265 (c_X7_tellOf l D ad cA  hf) ⟨rfl, rfl, Nat.le_of_ble_eq_true rfl, Nat.le_of_ble_eq_true rfl⟩ rfl rfl hl.1 (Nat.le_of_ble_eq_true rfl) dX7_count_54) (fun x4 μ H locs G h => ?_)
    rw [hQ]
    exact zz_iret X G hr hlk dX7_count_57 h
  refine zz_sw (k := (2 : Int32)) h (fun c5 h => ?_) (fun c5 h => ?_)
  · refine lv_tableIn (off := 57) (tgt := 58) hx hb dX7_count_1 (by rw [c5]; decide) (by rw [c5]; decide) (by rw [c5]; rfl) (by decide) ?_
    refine lv_aload_n hx hb dX7_count_58 rfl (lv_at hl 0 rfl) ?_
    refine zz_getr X G fr_7_0 tl_100 rl_100_0 kw_782 dX7_count_59 ?_
    refine lv_iload_n hx hb dX7_count_62 rfl (lv_at hl 1 rfl) ?_
    refine lv_iconst (v := (2 : Int32)) hx hb dX7_count_63 (by decide) ?_
    refine lv_isub hx hb dX7_count_64 ?_
    refine zz_iald X G ia_30 tl_101 dX7_count_65 h (fun x6 h => ?_)
    rw [hQ]
    exact zz_iret X G hr hlk dX7_count_66 h
  refine zz_sw (k := (3 : Int32)) h (fun c7 h => ?_) (fun c7 h => ?_)
  · refine lv_tableIn (off := 57) (tgt := 58) hx hb dX7_count_1 (by rw [c7]; decide) (by rw [c7]; decide) (by rw [c7]; rfl) (by decide) ?_
    refine lv_aload_n hx hb dX7_count_58 rfl (lv_at hl 0 rfl) ?_
    refine zz_getr X G fr_7_0 tl_100 rl_100_0 kw_782 dX7_count_59 ?_
    refine lv_iload_n hx hb dX7_count_62 rfl (lv_at hl 1 rfl) ?_
    refine lv_iconst (v := (2 : Int32)) hx hb dX7_count_63 (by decide) ?_
    refine lv_isub hx hb dX7_count_64 ?_
    refine zz_iald X G ia_30 tl_101 dX7_count_65 h (fun x8 h => ?_)
    rw [hQ]
    exact zz_iret X G hr hlk dX7_count_66 h
  refine zz_sw (k := (4 : Int32)) h (fun c9 h => ?_) (fun c9 h => ?_)
  · refine lv_tableIn (off := 66) (tgt := 67) hx hb dX7_count_1 (by rw [c9]; decide) (by rw [c9]; decide) (by rw [c9]; rfl) (by decide) ?_
    refine lv_aload_n hx hb dX7_count_67 rfl (lv_at hl 0 rfl) ?_
    refine zz_geti X G fi_7_11 tl_100 kw_793 dX7_count_68 h (fun x10 h => ?_)
    rw [hQ]
    exact zz_iret X G hr hlk dX7_count_71 h
  refine zz_sw (k := (5 : Int32)) h (fun c11 h => ?_) (fun c11 h => ?_)
  · refine lv_tableIn (off := 51) (tgt := 52) hx hb dX7_count_1 (by rw [c11]; decide) (by rw [c11]; decide) (by rw [c11]; rfl) (by decide) ?_
    refine lv_aload_n hx hb dX7_count_52 rfl (lv_at hl 0 rfl) ?_
    refine lv_iload_n hx hb dX7_count_53 rfl (lv_at hl 1 rfl) ?_
    refine zz_ci (rest := []) G h (fun r μ1 hf => zz_runV X G rc_7 tl_100 cv_X7_tellOf kw_1265 (c_X7_tellOf l D ad cA  hf) ⟨rfl, rfl, Nat.le_of_ble_eq_true rfl, Nat.le_of_ble_eq_true rfl⟩ rfl rfl hl.1 (Nat.le_of_ble_eq_true rfl) dX7_count_54) (fun x12 μ H locs G h => ?_)
    rw [hQ]
    exact zz_iret X G hr hlk dX7_count_57 h
  refine zz_sw (k := (6 : Int32)) h (fun c13 h => ?_) (fun c13 h => ?_)
  · refine lv_tableIn (off := 51) (tgt := 52) hx hb dX7_count_1 (by rw [c13]; decide) (by rw [c13]; decide) (by rw [c13]; rfl) (by decide) ?_
    refine lv_aload_n hx hb dX7_count_52 rfl (lv_at hl 0 rfl) ?_
    refine lv_iload_n hx hb dX7_count_53 rfl (lv_at hl 1 rfl) ?_
    refine zz_ci (rest := []) G h (fun r μ1 hf => zz_runV X G rc_7 tl_100 cv_X7_tellOf kw_1265 (c_X7_tellOf l D ad cA  hf) ⟨rfl, rfl, Nat.le_of_ble_eq_true rfl, Nat.le_of_ble_eq_true rfl⟩ rfl rfl hl.1 (Nat.le_of_ble_eq_true rfl) dX7_count_54) (fun x14 μ H locs G h => ?_)
    rw [hQ]
    exact zz_iret X G hr hlk dX7_count_57 h
  refine zz_sw (k := (7 : Int32)) h (fun c15 h => ?_) (fun c15 h => ?_)
  · refine lv_tableIn (off := 71) (tgt := 72) hx hb dX7_count_1 (by rw [c15]; decide) (by rw [c15]; decide) (by rw [c15]; rfl) (by decide) ?_
    refine lv_aload_n hx hb dX7_count_72 rfl (lv_at hl 0 rfl) ?_
    refine zz_geti X G fi_7_28 tl_100 kw_810 dX7_count_73 h (fun x16 h => ?_)
    rw [hQ]
    exact zz_iret X G hr hlk dX7_count_76 h
  refine zz_sw (k := (8 : Int32)) h (fun c17 h => ?_) (fun c17 h => ?_)
  · refine lv_tableIn (off := 76) (tgt := 77) hx hb dX7_count_1 (by rw [c17]; decide) (by rw [c17]; decide) (by rw [c17]; rfl) (by decide) ?_
    refine lv_aload_n hx hb dX7_count_77 rfl (lv_at hl 0 rfl) ?_
    refine zz_geti X G fi_7_37 tl_100 kw_819 dX7_count_78 h (fun x18 h => ?_)
    rw [hQ]
    exact zz_iret X G hr hlk dX7_count_81 h
  refine lv_tableOut (tgt := 82) hx hb dX7_count_1 (by have n0 := lv_neT (a := 0) c1 (by decide); have n1 := lv_neT (a := 1) c3 (by decide); have n2 := lv_neT (a := 2) c5 (by decide); have n3 := lv_neT (a := 3) c7 (by decide); have n4 := lv_neT (a := 4) c9 (by decide); have n5 := lv_neT (a := 5) c11 (by decide); have n6 := lv_neT (a := 6) c13 (by decide); have n7 := lv_neT (a := 7) c15 (by decide); have n8 := lv_neT (a := 8) c17 (by decide); omega) (by decide) ?_
  refine lv_bipush (v := (-2 : Int32)) hx hb dX7_count_82 (by decide) ?_
  rw [hQ]
  exact zz_iret X G hr hlk dX7_count_84 h
set_option maxHeartbeats 4000000 in
set_option maxRecDepth 100000 in
theorem w_X7_manDigest_L6 {p : Program} {l : Launch} {e : Env} {s : State} {m : MethodId} {args : Array Value} {below : List Frame} {meth : Method} {c : Code} {Q : State → Prop} {D : va_G} {ad : Nat → Nat} {cA : Nat → ClassId} {r : Int64} {μ' : zM} (X : zX false D ad cA p s m args c cX7_manDigest "ButlerWeatherModel" 7) (hQ : Q = MQ below (zQl false D ad cA r μ') args s 0 0 (zA false ad)) (hr : meth.sig.returnType = (some .long)) (hlk : meth.locks = false) {v3 : Int32} {kx : Int64 → zM → Option (Int64 × zM)} (HX : ∀ (w4 : Int64) (μ : zM) (H : Heap) (locs : List Loc) (ls : Array Slot), lv_has ls 7 [(0, .ref (ad 100)), (3, .int v3), (4, .long w4)] → zG false D ad cA s μ H locs → kx w4 μ = some (r, μ') → W p l e ({ frames := 7, cells := 0, slots := 0, locals := 165 } : Room) s m args below meth c H locs 0 0 Q (F0 m 35 ls [])) : ∀ (n : Nat) (v4 : Int64) (v6 : Int32) (μ : zM) (H : Heap) (locs : List Loc) (ls : Array Slot), lv_has ls 7 [(0, .ref (ad 100)), (3, .int v3), (4, .long v4), (6, .int v6)] → zG false D ad cA s μ H locs → f_X7_manDigest_L6 v3 kx n v4 v6 μ = some (r, μ') → W p l e ({ frames := 7, cells := 0, slots := 0, locals := 165 } : Room) s m args below meth c H locs 0 0 Q (F0 m 6 ls []) := by
  obtain ⟨hx, hb, hml, hown, hts, -, -, -⟩ := id X
  intro n
  induction n with
  | zero =>
    intro v4 v6 μ H locs ls hl G h
    cases (show (none : Option (Int64 × zM)) = some (r, μ') from h)
  | succ n ih =>
    intro v4 v6 μ H locs ls hl G h
    rw [f_X7_manDigest_L6] at h
    refine lv_iload hx hb dX7_manDigest_6 (lv_at hl 3 rfl) ?_
    refine lv_iconst (v := (3 : Int32)) hx hb dX7_manDigest_8 (by decide) ?_
    refine lv_icmp_ge (tgt := 35) hx hb dX7_manDigest_9 (by decide) (fun c1 => ?_) (fun c1 => ?_)
    · have h := (zz_br h).1 c1
      exact HX v4 μ _ _ _ (lv_sub hl [0, 1, 2] rfl) G h
    have h := (zz_br h).2 c1
    refine lv_ldc2 hx hb hown (hts _ kw_1278) dX7_manDigest_12 ?_
    refine lv_lload hx hb dX7_manDigest_15 (lv_at hl 2 rfl) ?_
    refine lv_lmul hx hb dX7_manDigest_17 ?_
    refine lv_aload_n hx hb dX7_manDigest_18 rfl (lv_at hl 0 rfl) ?_
    refine lv_iload_n hx hb dX7_manDigest_19 rfl (lv_at hl 1 rfl) ?_
    refine lv_iload hx hb dX7_manDigest_20 (lv_at hl 3 rfl) ?_
    refine zz_ci (rest := [.long ((31 : Int64) * v4)]) G h (fun r μ1 hf => zz_runV X G rc_7 tl_100 cv_X7_manOf kw_967 (c_X7_manOf l D ad cA  hf) ⟨rfl, rfl, Nat.le_of_ble_eq_true rfl, Nat.le_of_ble_eq_true rfl⟩ rfl rfl hl.1 (Nat.le_of_ble_eq_true rfl) dX7_manDigest_22) (fun x2 μ H locs G h => ?_)
    refine lv_i2l hx hb dX7_manDigest_25 rfl ?_
    refine lv_ladd hx hb dX7_manDigest_26 ?_
    refine zz_vj h (fun x3 h => ?_)
    refine lv_lstore (lv' := [(4, .long x3), (0, .ref (ad 100)), (3, .int v3), (6, .int v6)]) hx hb dX7_manDigest_27 hl (by decide) rfl (fun ls hl => ?_)
    obtain ⟨x4, ex4, h⟩ := zz_let h
    refine lv_iinc (v := x4) (lv' := [(6, .int x4), (4, .long x3), (0, .ref (ad 100)), (3, .int v3)]) hx hb dX7_manDigest_29 hl (k := 3) rfl (by rw [← ex4]; rfl) (by decide) rfl (fun ls hl => ?_)
    refine lv_goto (tgt := 6) hx hb dX7_manDigest_32 (by decide) ?_
    exact ih x3 x4 μ _ _ _ (lv_sub hl [2, 3, 1, 0] rfl) G h
set_option maxHeartbeats 4000000 in
set_option maxRecDepth 100000 in
theorem c_X7_manDigest (l : Launch) (D : va_G) (ad : Nat → Nat) (cA : Nat → ClassId) {a1 : Int64} {a3 : Int32} {μ : zM} {r : Int64} {μ' : zM} (h : f_X7_manDigest a1 a3 μ = some (r, μ')) : zMet false D ad cA l yX7_manDigest cX7_manDigest 7 (some .long) ({ frames := 7, cells := 0, slots := 0, locals := 165 } : Room) [.ref (ad 100), .long a1, .int a3] μ (zQl false D ad cA r μ') := by
  refine zMet_of "ButlerWeatherModel" ⟨by decide, rfl⟩ (Nat.le_of_ble_eq_true rfl) ?_
  intro p e s m args below meth c X G hr hlk ls hl
  have hl : lv_has ls 7 [(0, .ref (ad 100)), (1, .long a1), (3, .int a3)] := hl
  obtain ⟨hx, hb, hml, hown, hts, -, -, -⟩ := id X
  obtain ⟨Q, hQ⟩ : ∃ Q, Q = MQ below (zQl false D ad cA r μ') args s 0 0 (zA false ad) := ⟨_, rfl⟩
  rw [← hQ]
  unfold f_X7_manDigest at h
  refine lv_lload_n hx hb dX7_manDigest_0 rfl (lv_at hl 1 rfl) ?_
  refine lv_lstore (lv' := [(4, .long a1), (0, .ref (ad 100)), (1, .long a1), (3, .int a3)]) hx hb dX7_manDigest_1 hl (by decide) rfl (fun ls hl => ?_)
  refine lv_iconst (v := (0 : Int32)) hx hb dX7_manDigest_3 (by decide) ?_
  refine lv_istore (lv' := [(6, .int (0 : Int32)), (4, .long a1), (0, .ref (ad 100)), (1, .long a1), (3, .int a3)]) hx hb dX7_manDigest_4 hl (by decide) rfl (fun ls hl => ?_)
  refine w_X7_manDigest_L6 X hQ hr hlk  (fun x5 μ H locs ls hl G h => ?_) 400 a1 (0 : Int32) μ _ _ _ (lv_sub hl [2, 4, 1, 0] rfl) G h
  refine lv_ldc2 hx hb hown (hts _ kw_1278) dX7_manDigest_35 ?_
  refine lv_lload hx hb dX7_manDigest_38 (lv_at hl 2 rfl) ?_
  refine lv_lmul hx hb dX7_manDigest_40 ?_
  refine lv_aload_n hx hb dX7_manDigest_41 rfl (lv_at hl 0 rfl) ?_
  refine lv_iload_n hx hb dX7_manDigest_42 rfl (lv_at hl 1 rfl) ?_
  refine lv_iconst (v := (0 : Int32)) hx hb dX7_manDigest_43 (by decide) ?_
  refine zz_ci (rest := [.long ((31 : Int64) * x5)]) G h (fun r μ1 hf => zz_runV X G rc_7 tl_100 cv_X7_beginOf kw_1133 (c_X7_beginOf l D ad cA  hf) ⟨rfl, rfl, Nat.le_of_ble_eq_true rfl, Nat.le_of_ble_eq_true rfl⟩ rfl rfl hl.1 (Nat.le_of_ble_eq_true rfl) dX7_manDigest_44) (fun x6 μ H locs G h => ?_)
  refine lv_i2l hx hb dX7_manDigest_47 rfl ?_
  refine lv_ladd hx hb dX7_manDigest_48 ?_
  refine zz_vj h (fun x7 h => ?_)
  refine lv_lstore (lv' := [(4, .long x7), (0, .ref (ad 100)), (3, .int a3)]) hx hb dX7_manDigest_49 hl (by decide) rfl (fun ls hl => ?_)
  refine lv_ldc2 hx hb hown (hts _ kw_1278) dX7_manDigest_51 ?_
  refine lv_lload hx hb dX7_manDigest_54 (lv_at hl 0 rfl) ?_
  refine lv_lmul hx hb dX7_manDigest_56 ?_
  refine lv_aload_n hx hb dX7_manDigest_57 rfl (lv_at hl 1 rfl) ?_
  refine lv_iload_n hx hb dX7_manDigest_58 rfl (lv_at hl 2 rfl) ?_
  refine lv_iconst (v := (1 : Int32)) hx hb dX7_manDigest_59 (by decide) ?_
  refine zz_ci (rest := [.long ((31 : Int64) * x7)]) G h (fun r μ1 hf => zz_runV X G rc_7 tl_100 cv_X7_beginOf kw_1133 (c_X7_beginOf l D ad cA  hf) ⟨rfl, rfl, Nat.le_of_ble_eq_true rfl, Nat.le_of_ble_eq_true rfl⟩ rfl rfl hl.1 (Nat.le_of_ble_eq_true rfl) dX7_manDigest_60) (fun x8 μ H locs G h => ?_)
  refine lv_i2l hx hb dX7_manDigest_63 rfl ?_
  refine lv_ladd hx hb dX7_manDigest_64 ?_
  rw [hQ]
  exact zz_lret X G hr hlk dX7_manDigest_65 h
set_option maxHeartbeats 4000000 in
set_option maxRecDepth 100000 in
theorem w_X7_callerDigest_L6 {p : Program} {l : Launch} {e : Env} {s : State} {m : MethodId} {args : Array Value} {below : List Frame} {meth : Method} {c : Code} {Q : State → Prop} {D : va_G} {ad : Nat → Nat} {cA : Nat → ClassId} {r : Int64} {μ' : zM} (X : zX false D ad cA p s m args c cX7_callerDigest "ButlerWeatherModel" 7) (hQ : Q = MQ below (zQl false D ad cA r μ') args s 0 0 (zA false ad)) (hr : meth.sig.returnType = (some .long)) (hlk : meth.locks = false) {v3 : Int32} {kx : Int64 → zM → Option (Int64 × zM)} (HX : ∀ (w4 : Int64) (μ : zM) (H : Heap) (locs : List Loc) (ls : Array Slot), lv_has ls 7 [(0, .ref (ad 100)), (3, .int v3), (4, .long w4)] → zG false D ad cA s μ H locs → kx w4 μ = some (r, μ') → W p l e ({ frames := 8, cells := 0, slots := 0, locals := 192 } : Room) s m args below meth c H locs 0 0 Q (F0 m 35 ls [])) : ∀ (n : Nat) (v4 : Int64) (v6 : Int32) (μ : zM) (H : Heap) (locs : List Loc) (ls : Array Slot), lv_has ls 7 [(0, .ref (ad 100)), (3, .int v3), (4, .long v4), (6, .int v6)] → zG false D ad cA s μ H locs → f_X7_callerDigest_L6 v3 kx n v4 v6 μ = some (r, μ') → W p l e ({ frames := 8, cells := 0, slots := 0, locals := 192 } : Room) s m args below meth c H locs 0 0 Q (F0 m 6 ls []) := by
  obtain ⟨hx, hb, hml, hown, hts, -, -, -⟩ := id X
  intro n
  induction n with
  | zero =>
    intro v4 v6 μ H locs ls hl G h
    cases (show (none : Option (Int64 × zM)) = some (r, μ') from h)
  | succ n ih =>
    intro v4 v6 μ H locs ls hl G h
    rw [f_X7_callerDigest_L6] at h
    refine lv_iload hx hb dX7_callerDigest_6 (lv_at hl 3 rfl) ?_
    refine lv_iconst (v := (4 : Int32)) hx hb dX7_callerDigest_8 (by decide) ?_
    refine lv_icmp_ge (tgt := 35) hx hb dX7_callerDigest_9 (by decide) (fun c1 => ?_) (fun c1 => ?_)
    · have h := (zz_br h).1 c1
      exact HX v4 μ _ _ _ (lv_sub hl [0, 1, 2] rfl) G h
    have h := (zz_br h).2 c1
    refine lv_ldc2 hx hb hown (hts _ kw_1278) dX7_callerDigest_12 ?_
    refine lv_lload hx hb dX7_callerDigest_15 (lv_at hl 2 rfl) ?_
    refine lv_lmul hx hb dX7_callerDigest_17 ?_
    refine lv_aload_n hx hb dX7_callerDigest_18 rfl (lv_at hl 0 rfl) ?_
    refine lv_iload_n hx hb dX7_callerDigest_19 rfl (lv_at hl 1 rfl) ?_
    refine lv_iload hx hb dX7_callerDigest_20 (lv_at hl 3 rfl) ?_
    refine zz_ci (rest := [.long ((31 : Int64) * v4)]) G h (fun r μ1 hf => zz_runV X G rc_7 tl_100 cv_X7_callerOf kw_955 (c_X7_callerOf l D ad cA  hf) ⟨rfl, rfl, Nat.le_of_ble_eq_true rfl, Nat.le_of_ble_eq_true rfl⟩ rfl rfl hl.1 (Nat.le_of_ble_eq_true rfl) dX7_callerDigest_22) (fun x2 μ H locs G h => ?_)
    refine lv_i2l hx hb dX7_callerDigest_25 rfl ?_
    refine lv_ladd hx hb dX7_callerDigest_26 ?_
    refine zz_vj h (fun x3 h => ?_)
    refine lv_lstore (lv' := [(4, .long x3), (0, .ref (ad 100)), (3, .int v3), (6, .int v6)]) hx hb dX7_callerDigest_27 hl (by decide) rfl (fun ls hl => ?_)
    obtain ⟨x4, ex4, h⟩ := zz_let h
    refine lv_iinc (v := x4) (lv' := [(6, .int x4), (4, .long x3), (0, .ref (ad 100)), (3, .int v3)]) hx hb dX7_callerDigest_29 hl (k := 3) rfl (by rw [← ex4]; rfl) (by decide) rfl (fun ls hl => ?_)
    refine lv_goto (tgt := 6) hx hb dX7_callerDigest_32 (by decide) ?_
    exact ih x3 x4 μ _ _ _ (lv_sub hl [2, 3, 1, 0] rfl) G h
set_option maxHeartbeats 4000000 in
set_option maxRecDepth 100000 in
theorem c_X7_callerDigest (l : Launch) (D : va_G) (ad : Nat → Nat) (cA : Nat → ClassId) {a1 : Int64} {a3 : Int32} {μ : zM} {r : Int64} {μ' : zM} (h : f_X7_callerDigest a1 a3 μ = some (r, μ')) : zMet false D ad cA l yX7_callerDigest cX7_callerDigest 7 (some .long) ({ frames := 8, cells := 0, slots := 0, locals := 192 } : Room) [.ref (ad 100), .long a1, .int a3] μ (zQl false D ad cA r μ') := by
  refine zMet_of "ButlerWeatherModel" ⟨by decide, rfl⟩ (Nat.le_of_ble_eq_true rfl) ?_
  intro p e s m args below meth c X G hr hlk ls hl
  have hl : lv_has ls 7 [(0, .ref (ad 100)), (1, .long a1), (3, .int a3)] := hl
  obtain ⟨hx, hb, hml, hown, hts, -, -, -⟩ := id X
  obtain ⟨Q, hQ⟩ : ∃ Q, Q = MQ below (zQl false D ad cA r μ') args s 0 0 (zA false ad) := ⟨_, rfl⟩
  rw [← hQ]
  unfold f_X7_callerDigest at h
  refine lv_lload_n hx hb dX7_callerDigest_0 rfl (lv_at hl 1 rfl) ?_
  refine lv_lstore (lv' := [(4, .long a1), (0, .ref (ad 100)), (1, .long a1), (3, .int a3)]) hx hb dX7_callerDigest_1 hl (by decide) rfl (fun ls hl => ?_)
  refine lv_iconst (v := (0 : Int32)) hx hb dX7_callerDigest_3 (by decide) ?_
  refine lv_istore (lv' := [(6, .int (0 : Int32)), (4, .long a1), (0, .ref (ad 100)), (1, .long a1), (3, .int a3)]) hx hb dX7_callerDigest_4 hl (by decide) rfl (fun ls hl => ?_)
  refine w_X7_callerDigest_L6 X hQ hr hlk  (fun x5 μ H locs ls hl G h => ?_) 400 a1 (0 : Int32) μ _ _ _ (lv_sub hl [2, 4, 1, 0] rfl) G h
  refine lv_ldc2 hx hb hown (hts _ kw_1278) dX7_callerDigest_35 ?_
  refine lv_lload hx hb dX7_callerDigest_38 (lv_at hl 2 rfl) ?_
  refine lv_lmul hx hb dX7_callerDigest_40 ?_
  refine lv_aload_n hx hb dX7_callerDigest_41 rfl (lv_at hl 0 rfl) ?_
  refine lv_bipush (v := (6 : Int32)) hx hb dX7_callerDigest_42 (by decide) ?_
  refine lv_iload_n hx hb dX7_callerDigest_44 rfl (lv_at hl 1 rfl) ?_
  refine zz_ci (rest := [.long ((31 : Int64) * x5)]) G h (fun r μ1 hf => zz_runV X G rc_7 tl_100 cv_X7_standsOf kw_998 (c_X7_standsOf l D ad cA  hf) ⟨rfl, rfl, Nat.le_of_ble_eq_true rfl, Nat.le_of_ble_eq_true rfl⟩ rfl rfl hl.1 (Nat.le_of_ble_eq_true rfl) dX7_callerDigest_45) (fun x6 μ H locs G h => ?_)
  refine lv_i2l hx hb dX7_callerDigest_48 rfl ?_
  refine lv_ladd hx hb dX7_callerDigest_49 ?_
  refine zz_vj h (fun x7 h => ?_)
  refine lv_lstore (lv' := [(4, .long x7), (0, .ref (ad 100)), (3, .int a3)]) hx hb dX7_callerDigest_50 hl (by decide) rfl (fun ls hl => ?_)
  refine lv_ldc2 hx hb hown (hts _ kw_1278) dX7_callerDigest_52 ?_
  refine lv_lload hx hb dX7_callerDigest_55 (lv_at hl 0 rfl) ?_
  refine lv_lmul hx hb dX7_callerDigest_57 ?_
  refine lv_aload_n hx hb dX7_callerDigest_58 rfl (lv_at hl 1 rfl) ?_
  refine lv_bipush (v := (14 : Int32)) hx hb dX7_callerDigest_59 (by decide) ?_
  refine lv_iload_n hx hb dX7_callerDigest_61 rfl (lv_at hl 2 rfl) ?_
  refine zz_ci (rest := [.long ((31 : Int64) * x7)]) G h (fun r μ1 hf => zz_runV X G rc_7 tl_100 cv_X7_standsOf kw_998 (c_X7_standsOf l D ad cA  hf) ⟨rfl, rfl, Nat.le_of_ble_eq_true rfl, Nat.le_of_ble_eq_true rfl⟩ rfl rfl hl.1 (Nat.le_of_ble_eq_true rfl) dX7_callerDigest_62) (fun x8 μ H locs G h => ?_)
  refine lv_i2l hx hb dX7_callerDigest_65 rfl ?_
  refine lv_ladd hx hb dX7_callerDigest_66 ?_
  refine zz_vj h (fun x9 h => ?_)
  refine lv_lstore (lv' := [(4, .long x9), (0, .ref (ad 100)), (3, .int a3)]) hx hb dX7_callerDigest_67 hl (by decide) rfl (fun ls hl => ?_)
  refine lv_ldc2 hx hb hown (hts _ kw_1278) dX7_callerDigest_69 ?_
  refine lv_lload hx hb dX7_callerDigest_72 (lv_at hl 0 rfl) ?_
  refine lv_lmul hx hb dX7_callerDigest_74 ?_
  refine lv_aload_n hx hb dX7_callerDigest_75 rfl (lv_at hl 1 rfl) ?_
  refine lv_bipush (v := (23 : Int32)) hx hb dX7_callerDigest_76 (by decide) ?_
  refine lv_iload_n hx hb dX7_callerDigest_78 rfl (lv_at hl 2 rfl) ?_
  refine zz_ci (rest := [.long ((31 : Int64) * x9)]) G h (fun r μ1 hf => zz_runV X G rc_7 tl_100 cv_X7_standsOf kw_998 (c_X7_standsOf l D ad cA  hf) ⟨rfl, rfl, Nat.le_of_ble_eq_true rfl, Nat.le_of_ble_eq_true rfl⟩ rfl rfl hl.1 (Nat.le_of_ble_eq_true rfl) dX7_callerDigest_79) (fun x10 μ H locs G h => ?_)
  refine lv_i2l hx hb dX7_callerDigest_82 rfl ?_
  refine lv_ladd hx hb dX7_callerDigest_83 ?_
  refine zz_vj h (fun x11 h => ?_)
  refine lv_lstore (lv' := [(4, .long x11), (0, .ref (ad 100)), (3, .int a3)]) hx hb dX7_callerDigest_84 hl (by decide) rfl (fun ls hl => ?_)
  refine lv_ldc2 hx hb hown (hts _ kw_1278) dX7_callerDigest_86 ?_
  refine lv_lload hx hb dX7_callerDigest_89 (lv_at hl 0 rfl) ?_
  refine lv_lmul hx hb dX7_callerDigest_91 ?_
  refine lv_aload_n hx hb dX7_callerDigest_92 rfl (lv_at hl 1 rfl) ?_
  refine lv_iload_n hx hb dX7_callerDigest_93 rfl (lv_at hl 2 rfl) ?_
  refine zz_ci (rest := [.long ((31 : Int64) * x11)]) G h (fun r μ1 hf => zz_runV X G rc_7 tl_100 cv_X7_nameOf kw_1048 (c_X7_nameOf l D ad cA  hf) ⟨rfl, rfl, Nat.le_of_ble_eq_true rfl, Nat.le_of_ble_eq_true rfl⟩ rfl rfl hl.1 (Nat.le_of_ble_eq_true rfl) dX7_callerDigest_94) (fun x12 μ H locs G h => ?_)
  refine lv_i2l hx hb dX7_callerDigest_97 rfl ?_
  refine lv_ladd hx hb dX7_callerDigest_98 ?_
  refine zz_vj h (fun x13 h => ?_)
  refine lv_lstore (lv' := [(4, .long x13), (0, .ref (ad 100)), (3, .int a3)]) hx hb dX7_callerDigest_99 hl (by decide) rfl (fun ls hl => ?_)
  refine lv_ldc2 hx hb hown (hts _ kw_1278) dX7_callerDigest_101 ?_
  refine lv_lload hx hb dX7_callerDigest_104 (lv_at hl 0 rfl) ?_
  refine lv_lmul hx hb dX7_callerDigest_106 ?_
  refine lv_aload_n hx hb dX7_callerDigest_107 rfl (lv_at hl 1 rfl) ?_
  refine lv_iload_n hx hb dX7_callerDigest_108 rfl (lv_at hl 2 rfl) ?_
  refine zz_ci (rest := [.long ((31 : Int64) * x13)]) G h (fun r μ1 hf => zz_runV X G rc_7 tl_100 cv_X7_waitOf kw_1145 (c_X7_waitOf l D ad cA  hf) ⟨rfl, rfl, Nat.le_of_ble_eq_true rfl, Nat.le_of_ble_eq_true rfl⟩ rfl rfl hl.1 (Nat.le_of_ble_eq_true rfl) dX7_callerDigest_109) (fun x14 μ H locs G h => ?_)
  refine lv_i2l hx hb dX7_callerDigest_112 rfl ?_
  refine lv_ladd hx hb dX7_callerDigest_113 ?_
  refine zz_vj h (fun x15 h => ?_)
  refine lv_lstore (lv' := [(4, .long x15), (0, .ref (ad 100)), (3, .int a3)]) hx hb dX7_callerDigest_114 hl (by decide) rfl (fun ls hl => ?_)
  refine lv_ldc2 hx hb hown (hts _ kw_1278) dX7_callerDigest_116 ?_
  refine lv_lload hx hb dX7_callerDigest_119 (lv_at hl 0 rfl) ?_
  refine lv_lmul hx hb dX7_callerDigest_121 ?_
  refine lv_aload_n hx hb dX7_callerDigest_122 rfl (lv_at hl 1 rfl) ?_
  refine lv_iload_n hx hb dX7_callerDigest_123 rfl (lv_at hl 2 rfl) ?_
  refine zz_ci (rest := [.long ((31 : Int64) * x15)]) G h (fun r μ1 hf => zz_runV X G rc_7 tl_100 cv_X7_sortsBy kw_1189 (c_X7_sortsBy l D ad cA  hf) ⟨rfl, rfl, Nat.le_of_ble_eq_true rfl, Nat.le_of_ble_eq_true rfl⟩ rfl rfl hl.1 (Nat.le_of_ble_eq_true rfl) dX7_callerDigest_124) (fun x16 μ H locs G h => ?_)
  refine lv_i2l hx hb dX7_callerDigest_127 rfl ?_
  refine lv_ladd hx hb dX7_callerDigest_128 ?_
  refine zz_vj h (fun x17 h => ?_)
  refine lv_lstore (lv' := [(4, .long x17), (0, .ref (ad 100)), (3, .int a3)]) hx hb dX7_callerDigest_129 hl (by decide) rfl (fun ls hl => ?_)
  refine lv_ldc2 hx hb hown (hts _ kw_1278) dX7_callerDigest_131 ?_
  refine lv_lload hx hb dX7_callerDigest_134 (lv_at hl 0 rfl) ?_
  refine lv_lmul hx hb dX7_callerDigest_136 ?_
  refine lv_aload_n hx hb dX7_callerDigest_137 rfl (lv_at hl 1 rfl) ?_
  refine lv_iload_n hx hb dX7_callerDigest_138 rfl (lv_at hl 2 rfl) ?_
  refine zz_ci (rest := [.long ((31 : Int64) * x17)]) G h (fun r μ1 hf => zz_runV X G rc_7 tl_100 cv_X7_longBy kw_1193 (c_X7_longBy l D ad cA  hf) ⟨rfl, rfl, Nat.le_of_ble_eq_true rfl, Nat.le_of_ble_eq_true rfl⟩ rfl rfl hl.1 (Nat.le_of_ble_eq_true rfl) dX7_callerDigest_139) (fun x18 μ H locs G h => ?_)
  refine lv_i2l hx hb dX7_callerDigest_142 rfl ?_
  refine lv_ladd hx hb dX7_callerDigest_143 ?_
  refine zz_vj h (fun x19 h => ?_)
  refine lv_lstore (lv' := [(4, .long x19), (0, .ref (ad 100)), (3, .int a3)]) hx hb dX7_callerDigest_144 hl (by decide) rfl (fun ls hl => ?_)
  refine lv_ldc2 hx hb hown (hts _ kw_1278) dX7_callerDigest_146 ?_
  refine lv_lload hx hb dX7_callerDigest_149 (lv_at hl 0 rfl) ?_
  refine lv_lmul hx hb dX7_callerDigest_151 ?_
  refine lv_aload_n hx hb dX7_callerDigest_152 rfl (lv_at hl 1 rfl) ?_
  refine lv_iload_n hx hb dX7_callerDigest_153 rfl (lv_at hl 2 rfl) ?_
  refine zz_ci (rest := [.long ((31 : Int64) * x19)]) G h (fun r μ1 hf => zz_runV X G rc_7 tl_100 cv_X7_askOf kw_1201 (c_X7_askOf l D ad cA  hf) ⟨rfl, rfl, Nat.le_of_ble_eq_true rfl, Nat.le_of_ble_eq_true rfl⟩ rfl rfl hl.1 (Nat.le_of_ble_eq_true rfl) dX7_callerDigest_154) (fun x20 μ H locs G h => ?_)
  refine lv_i2l hx hb dX7_callerDigest_157 rfl ?_
  refine lv_ladd hx hb dX7_callerDigest_158 ?_
  refine zz_vj h (fun x21 h => ?_)
  refine lv_lstore (lv' := [(4, .long x21), (0, .ref (ad 100)), (3, .int a3)]) hx hb dX7_callerDigest_159 hl (by decide) rfl (fun ls hl => ?_)
  refine lv_ldc2 hx hb hown (hts _ kw_1278) dX7_callerDigest_161 ?_
  refine lv_lload hx hb dX7_callerDigest_164 (lv_at hl 0 rfl) ?_
  refine lv_lmul hx hb dX7_callerDigest_166 ?_
  refine lv_aload_n hx hb dX7_callerDigest_167 rfl (lv_at hl 1 rfl) ?_
  refine lv_iconst (v := (5 : Int32)) hx hb dX7_callerDigest_168 (by decide) ?_
  refine lv_iload_n hx hb dX7_callerDigest_169 rfl (lv_at hl 2 rfl) ?_
  refine lv_iconst (v := (0 : Int32)) hx hb dX7_callerDigest_170 (by decide) ?_
  refine zz_cj (rest := [.long ((31 : Int64) * x21)]) G h (fun r μ1 hf => zz_runV X G rc_7 tl_100 cv_X7_chanceOf kw_1209 (c_X7_chanceOf l D ad cA  hf) ⟨rfl, rfl, Nat.le_of_ble_eq_true rfl, Nat.le_of_ble_eq_true rfl⟩ rfl rfl hl.1 (Nat.le_of_ble_eq_true rfl) dX7_callerDigest_171) (fun x22 μ H locs G h => ?_)
  refine lv_ladd hx hb dX7_callerDigest_174 ?_
  refine zz_vj h (fun x23 h => ?_)
  refine lv_lstore (lv' := [(4, .long x23), (0, .ref (ad 100)), (3, .int a3)]) hx hb dX7_callerDigest_175 hl (by decide) rfl (fun ls hl => ?_)
  refine lv_ldc2 hx hb hown (hts _ kw_1278) dX7_callerDigest_177 ?_
  refine lv_lload hx hb dX7_callerDigest_180 (lv_at hl 0 rfl) ?_
  refine lv_lmul hx hb dX7_callerDigest_182 ?_
  refine lv_aload_n hx hb dX7_callerDigest_183 rfl (lv_at hl 1 rfl) ?_
  refine lv_iconst (v := (5 : Int32)) hx hb dX7_callerDigest_184 (by decide) ?_
  refine lv_iload_n hx hb dX7_callerDigest_185 rfl (lv_at hl 2 rfl) ?_
  refine lv_iconst (v := (1 : Int32)) hx hb dX7_callerDigest_186 (by decide) ?_
  refine zz_cj (rest := [.long ((31 : Int64) * x23)]) G h (fun r μ1 hf => zz_runV X G rc_7 tl_100 cv_X7_chanceOf kw_1209 (c_X7_chanceOf l D ad cA  hf) ⟨rfl, rfl, Nat.le_of_ble_eq_true rfl, Nat.le_of_ble_eq_true rfl⟩ rfl rfl hl.1 (Nat.le_of_ble_eq_true rfl) dX7_callerDigest_187) (fun x24 μ H locs G h => ?_)
  refine lv_ladd hx hb dX7_callerDigest_190 ?_
  rw [hQ]
  exact zz_lret X G hr hlk dX7_callerDigest_191 h
set_option maxHeartbeats 4000000 in
set_option maxRecDepth 100000 in
theorem w_X7_digest_L6 {p : Program} {l : Launch} {e : Env} {s : State} {m : MethodId} {args : Array Value} {below : List Frame} {meth : Method} {c : Code} {Q : State → Prop} {D : va_G} {ad : Nat → Nat} {cA : Nat → ClassId} {r : Int64} {μ' : zM} (X : zX false D ad cA p s m args c cX7_digest "ButlerWeatherModel" 5) (hQ : Q = MQ below (zQl false D ad cA r μ') args s 0 0 (zA false ad)) (hr : meth.sig.returnType = (some .long)) (hlk : meth.locks = false)  {kx : Int64 → zM → Option (Int64 × zM)} (HX : ∀ (w1 : Int64) (μ : zM) (H : Heap) (locs : List Loc) (ls : Array Slot), lv_has ls 5 [(0, .ref (ad 100)), (1, .long w1)] → zG false D ad cA s μ H locs → kx w1 μ = some (r, μ') → W p l e ({ frames := 9, cells := 0, slots := 0, locals := 218 } : Room) s m args below meth c H locs 0 0 Q (F0 m 31 ls [])) : ∀ (n : Nat) (v1 : Int64) (v3 : Int32) (μ : zM) (H : Heap) (locs : List Loc) (ls : Array Slot), lv_has ls 5 [(0, .ref (ad 100)), (1, .long v1), (3, .int v3)] → zG false D ad cA s μ H locs → f_X7_digest_L6 kx n v1 v3 μ = some (r, μ') → W p l e ({ frames := 9, cells := 0, slots := 0, locals := 218 } : Room) s m args below meth c H locs 0 0 Q (F0 m 6 ls []) := by
  obtain ⟨hx, hb, hml, hown, hts, -, -, -⟩ := id X
  intro n
  induction n with
  | zero =>
    intro v1 v3 μ H locs ls hl G h
    cases (show (none : Option (Int64 × zM)) = some (r, μ') from h)
  | succ n ih =>
    intro v1 v3 μ H locs ls hl G h
    rw [f_X7_digest_L6] at h
    refine lv_iload_n hx hb dX7_digest_6 rfl (lv_at hl 2 rfl) ?_
    refine lv_bipush (v := (8 : Int32)) hx hb dX7_digest_7 (by decide) ?_
    refine lv_icmp_ge (tgt := 31) hx hb dX7_digest_9 (by decide) (fun c1 => ?_) (fun c1 => ?_)
    · have h := (zz_br h).1 c1
      exact HX v1 μ _ _ _ (lv_sub hl [0, 1] rfl) G h
    have h := (zz_br h).2 c1
    refine lv_ldc2 hx hb hown (hts _ kw_1278) dX7_digest_12 ?_
    refine lv_lload_n hx hb dX7_digest_15 rfl (lv_at hl 1 rfl) ?_
    refine lv_lmul hx hb dX7_digest_16 ?_
    refine lv_aload_n hx hb dX7_digest_17 rfl (lv_at hl 0 rfl) ?_
    refine lv_iload_n hx hb dX7_digest_18 rfl (lv_at hl 2 rfl) ?_
    refine zz_ci (rest := [.long ((31 : Int64) * v1)]) G h (fun r μ1 hf => zz_runV X G rc_7 tl_100 cv_X7_count kw_1279 (c_X7_count l D ad cA  hf) ⟨rfl, rfl, Nat.le_of_ble_eq_true rfl, Nat.le_of_ble_eq_true rfl⟩ rfl rfl hl.1 (Nat.le_of_ble_eq_true rfl) dX7_digest_19) (fun x2 μ H locs G h => ?_)
    refine lv_i2l hx hb dX7_digest_22 rfl ?_
    refine lv_ladd hx hb dX7_digest_23 ?_
    refine zz_vj h (fun x3 h => ?_)
    refine lv_lstore_n (lv' := [(1, .long x3), (0, .ref (ad 100)), (3, .int v3)]) hx hb dX7_digest_24 rfl hl (by decide) rfl (fun ls hl => ?_)
    obtain ⟨x4, ex4, h⟩ := zz_let h
    refine lv_iinc (v := x4) (lv' := [(3, .int x4), (1, .long x3), (0, .ref (ad 100))]) hx hb dX7_digest_25 hl (k := 2) rfl (by rw [← ex4]; rfl) (by decide) rfl (fun ls hl => ?_)
    refine lv_goto (tgt := 6) hx hb dX7_digest_28 (by decide) ?_
    exact ih x3 x4 μ _ _ _ (lv_sub hl [2, 1, 0] rfl) G h
set_option maxHeartbeats 4000000 in
set_option maxRecDepth 100000 in
theorem w_X7_digest_L59 {p : Program} {l : Launch} {e : Env} {s : State} {m : MethodId} {args : Array Value} {below : List Frame} {meth : Method} {c : Code} {Q : State → Prop} {D : va_G} {ad : Nat → Nat} {cA : Nat → ClassId} {r : Int64} {μ' : zM} (X : zX false D ad cA p s m args c cX7_digest "ButlerWeatherModel" 5) (hQ : Q = MQ below (zQl false D ad cA r μ') args s 0 0 (zA false ad)) (hr : meth.sig.returnType = (some .long)) (hlk : meth.locks = false)  {kx : Int64 → zM → Option (Int64 × zM)} (HX : ∀ (w1 : Int64) (μ : zM) (H : Heap) (locs : List Loc) (ls : Array Slot), lv_has ls 5 [(0, .ref (ad 100)), (1, .long w1)] → zG false D ad cA s μ H locs → kx w1 μ = some (r, μ') → W p l e ({ frames := 9, cells := 0, slots := 0, locals := 218 } : Room) s m args below meth c H locs 0 0 Q (F0 m 80 ls [])) : ∀ (n : Nat) (v1 : Int64) (v3 : Int32) (μ : zM) (H : Heap) (locs : List Loc) (ls : Array Slot), lv_has ls 5 [(0, .ref (ad 100)), (1, .long v1), (3, .int v3)] → zG false D ad cA s μ H locs → f_X7_digest_L59 kx n v1 v3 μ = some (r, μ') → W p l e ({ frames := 9, cells := 0, slots := 0, locals := 218 } : Room) s m args below meth c H locs 0 0 Q (F0 m 59 ls []) := by
  obtain ⟨hx, hb, hml, hown, hts, -, -, -⟩ := id X
  intro n
  induction n with
  | zero =>
    intro v1 v3 μ H locs ls hl G h
    cases (show (none : Option (Int64 × zM)) = some (r, μ') from h)
  | succ n ih =>
    intro v1 v3 μ H locs ls hl G h
    rw [f_X7_digest_L59] at h
    refine lv_iload_n hx hb dX7_digest_59 rfl (lv_at hl 2 rfl) ?_
    refine lv_aload_n hx hb dX7_digest_60 rfl (lv_at hl 0 rfl) ?_
    refine zz_geti X G fi_7_7 tl_100 kw_789 dX7_digest_61 h (fun x10 h => ?_)
    refine lv_icmp_ge (tgt := 80) hx hb dX7_digest_64 (by decide) (fun c11 => ?_) (fun c11 => ?_)
    · have h := (zz_br h).1 c11
      exact HX v1 μ _ _ _ (lv_sub hl [0, 1] rfl) G h
    have h := (zz_br h).2 c11
    refine lv_aload_n hx hb dX7_digest_67 rfl (lv_at hl 0 rfl) ?_
    refine lv_lload_n hx hb dX7_digest_68 rfl (lv_at hl 1 rfl) ?_
    refine lv_iload_n hx hb dX7_digest_69 rfl (lv_at hl 2 rfl) ?_
    refine zz_cj (rest := []) G h (fun r μ1 hf => zz_runV X G rc_7 tl_100 cv_X7_manDigest kw_1280 (c_X7_manDigest l D ad cA  hf) ⟨rfl, rfl, Nat.le_of_ble_eq_true rfl, Nat.le_of_ble_eq_true rfl⟩ rfl rfl hl.1 (Nat.le_of_ble_eq_true rfl) dX7_digest_70) (fun x12 μ H locs G h => ?_)
    refine lv_lstore_n (lv' := [(1, .long x12), (0, .ref (ad 100)), (3, .int v3)]) hx hb dX7_digest_73 rfl hl (by decide) rfl (fun ls hl => ?_)
    obtain ⟨x13, ex13, h⟩ := zz_let h
    refine lv_iinc (v := x13) (lv' := [(3, .int x13), (1, .long x12), (0, .ref (ad 100))]) hx hb dX7_digest_74 hl (k := 2) rfl (by rw [← ex13]; rfl) (by decide) rfl (fun ls hl => ?_)
    refine lv_goto (tgt := 59) hx hb dX7_digest_77 (by decide) ?_
    exact ih x12 x13 μ _ _ _ (lv_sub hl [2, 1, 0] rfl) G h
set_option maxHeartbeats 4000000 in
set_option maxRecDepth 100000 in
theorem w_X7_digest_L82 {p : Program} {l : Launch} {e : Env} {s : State} {m : MethodId} {args : Array Value} {below : List Frame} {meth : Method} {c : Code} {Q : State → Prop} {D : va_G} {ad : Nat → Nat} {cA : Nat → ClassId} {r : Int64} {μ' : zM} (X : zX false D ad cA p s m args c cX7_digest "ButlerWeatherModel" 5) (hQ : Q = MQ below (zQl false D ad cA r μ') args s 0 0 (zA false ad)) (hr : meth.sig.returnType = (some .long)) (hlk : meth.locks = false)  {kx : Int64 → zM → Option (Int64 × zM)} (HX : ∀ (w1 : Int64) (μ : zM) (H : Heap) (locs : List Loc) (ls : Array Slot), lv_has ls 5 [(0, .ref (ad 100)), (1, .long w1)] → zG false D ad cA s μ H locs → kx w1 μ = some (r, μ') → W p l e ({ frames := 9, cells := 0, slots := 0, locals := 218 } : Room) s m args below meth c H locs 0 0 Q (F0 m 103 ls [])) : ∀ (n : Nat) (v1 : Int64) (v3 : Int32) (μ : zM) (H : Heap) (locs : List Loc) (ls : Array Slot), lv_has ls 5 [(0, .ref (ad 100)), (1, .long v1), (3, .int v3)] → zG false D ad cA s μ H locs → f_X7_digest_L82 kx n v1 v3 μ = some (r, μ') → W p l e ({ frames := 9, cells := 0, slots := 0, locals := 218 } : Room) s m args below meth c H locs 0 0 Q (F0 m 82 ls []) := by
  obtain ⟨hx, hb, hml, hown, hts, -, -, -⟩ := id X
  intro n
  induction n with
  | zero =>
    intro v1 v3 μ H locs ls hl G h
    cases (show (none : Option (Int64 × zM)) = some (r, μ') from h)
  | succ n ih =>
    intro v1 v3 μ H locs ls hl G h
    rw [f_X7_digest_L82] at h
    refine lv_iload_n hx hb dX7_digest_82 rfl (lv_at hl 2 rfl) ?_
    refine lv_aload_n hx hb dX7_digest_83 rfl (lv_at hl 0 rfl) ?_
    refine zz_geti X G fi_7_2 tl_100 kw_784 dX7_digest_84 h (fun x15 h => ?_)
    refine lv_icmp_ge (tgt := 103) hx hb dX7_digest_87 (by decide) (fun c16 => ?_) (fun c16 => ?_)
    · have h := (zz_br h).1 c16
      exact HX v1 μ _ _ _ (lv_sub hl [0, 1] rfl) G h
    have h := (zz_br h).2 c16
    refine lv_aload_n hx hb dX7_digest_90 rfl (lv_at hl 0 rfl) ?_
    refine lv_lload_n hx hb dX7_digest_91 rfl (lv_at hl 1 rfl) ?_
    refine lv_iload_n hx hb dX7_digest_92 rfl (lv_at hl 2 rfl) ?_
    refine zz_cj (rest := []) G h (fun r μ1 hf => zz_runV X G rc_7 tl_100 cv_X7_callerDigest kw_1284 (c_X7_callerDigest l D ad cA  hf) ⟨rfl, rfl, Nat.le_of_ble_eq_true rfl, Nat.le_of_ble_eq_true rfl⟩ rfl rfl hl.1 (Nat.le_of_ble_eq_true rfl) dX7_digest_93) (fun x17 μ H locs G h => ?_)
    refine lv_lstore_n (lv' := [(1, .long x17), (0, .ref (ad 100)), (3, .int v3)]) hx hb dX7_digest_96 rfl hl (by decide) rfl (fun ls hl => ?_)
    obtain ⟨x18, ex18, h⟩ := zz_let h
    refine lv_iinc (v := x18) (lv' := [(3, .int x18), (1, .long x17), (0, .ref (ad 100))]) hx hb dX7_digest_97 hl (k := 2) rfl (by rw [← ex18]; rfl) (by decide) rfl (fun ls hl => ?_)
    refine lv_goto (tgt := 82) hx hb dX7_digest_100 (by decide) ?_
    exact ih x17 x18 μ _ _ _ (lv_sub hl [2, 1, 0] rfl) G h
set_option maxHeartbeats 4000000 in
set_option maxRecDepth 100000 in
theorem w_X7_digest_L114 {p : Program} {l : Launch} {e : Env} {s : State} {m : MethodId} {args : Array Value} {below : List Frame} {meth : Method} {c : Code} {Q : State → Prop} {D : va_G} {ad : Nat → Nat} {cA : Nat → ClassId} {r : Int64} {μ' : zM} (X : zX false D ad cA p s m args c cX7_digest "ButlerWeatherModel" 5) (hQ : Q = MQ below (zQl false D ad cA r μ') args s 0 0 (zA false ad)) (hr : meth.sig.returnType = (some .long)) (hlk : meth.locks = false) {v3 : Int32} {kx : Int64 → zM → Option (Int64 × zM)} (HX : ∀ (w1 : Int64) (μ : zM) (H : Heap) (locs : List Loc) (ls : Array Slot), lv_has ls 5 [(0, .ref (ad 100)), (1, .long w1), (3, .int v3)] → zG false D ad cA s μ H locs → kx w1 μ = some (r, μ') → W p l e ({ frames := 9, cells := 0, slots := 0, locals := 218 } : Room) s m args below meth c H locs 0 0 Q (F0 m 141 ls [])) : ∀ (n : Nat) (v1 : Int64) (v4 : Int32) (μ : zM) (H : Heap) (locs : List Loc) (ls : Array Slot), lv_has ls 5 [(0, .ref (ad 100)), (1, .long v1), (3, .int v3), (4, .int v4)] → zG false D ad cA s μ H locs → f_X7_digest_L114 v3 kx n v1 v4 μ = some (r, μ') → W p l e ({ frames := 9, cells := 0, slots := 0, locals := 218 } : Room) s m args below meth c H locs 0 0 Q (F0 m 114 ls []) := by
  obtain ⟨hx, hb, hml, hown, hts, -, -, -⟩ := id X
  intro n
  induction n with
  | zero =>
    intro v1 v4 μ H locs ls hl G h
    cases (show (none : Option (Int64 × zM)) = some (r, μ') from h)
  | succ n ih =>
    intro v1 v4 μ H locs ls hl G h
    rw [f_X7_digest_L114] at h
    refine lv_iload hx hb dX7_digest_114 (lv_at hl 3 rfl) ?_
    refine lv_iconst (v := (3 : Int32)) hx hb dX7_digest_116 (by decide) ?_
    refine lv_icmp_ge (tgt := 141) hx hb dX7_digest_117 (by decide) (fun c21 => ?_) (fun c21 => ?_)
    · have h := (zz_br h).1 c21
      exact HX v1 μ _ _ _ (lv_sub hl [0, 1, 2] rfl) G h
    have h := (zz_br h).2 c21
    refine lv_ldc2 hx hb hown (hts _ kw_1278) dX7_digest_120 ?_
    refine lv_lload_n hx hb dX7_digest_123 rfl (lv_at hl 1 rfl) ?_
    refine lv_lmul hx hb dX7_digest_124 ?_
    refine lv_aload_n hx hb dX7_digest_125 rfl (lv_at hl 0 rfl) ?_
    refine lv_iload_n hx hb dX7_digest_126 rfl (lv_at hl 2 rfl) ?_
    refine lv_iload hx hb dX7_digest_127 (lv_at hl 3 rfl) ?_
    refine zz_ci (rest := [.long ((31 : Int64) * v1)]) G h (fun r μ1 hf => zz_runV X G rc_7 tl_100 cv_X7_doorOf kw_1056 (c_X7_doorOf l D ad cA  hf) ⟨rfl, rfl, Nat.le_of_ble_eq_true rfl, Nat.le_of_ble_eq_true rfl⟩ rfl rfl hl.1 (Nat.le_of_ble_eq_true rfl) dX7_digest_129) (fun x22 μ H locs G h => ?_)
    refine lv_i2l hx hb dX7_digest_132 rfl ?_
    refine lv_ladd hx hb dX7_digest_133 ?_
    refine zz_vj h (fun x23 h => ?_)
    refine lv_lstore_n (lv' := [(1, .long x23), (0, .ref (ad 100)), (3, .int v3), (4, .int v4)]) hx hb dX7_digest_134 rfl hl (by decide) rfl (fun ls hl => ?_)
    obtain ⟨x24, ex24, h⟩ := zz_let h
    refine lv_iinc (v := x24) (lv' := [(4, .int x24), (1, .long x23), (0, .ref (ad 100)), (3, .int v3)]) hx hb dX7_digest_135 hl (k := 3) rfl (by rw [← ex24]; rfl) (by decide) rfl (fun ls hl => ?_)
    refine lv_goto (tgt := 114) hx hb dX7_digest_138 (by decide) ?_
    exact ih x23 x24 μ _ _ _ (lv_sub hl [2, 1, 3, 0] rfl) G h
set_option maxHeartbeats 4000000 in
set_option maxRecDepth 100000 in
theorem w_X7_digest_L105 {p : Program} {l : Launch} {e : Env} {s : State} {m : MethodId} {args : Array Value} {below : List Frame} {meth : Method} {c : Code} {Q : State → Prop} {D : va_G} {ad : Nat → Nat} {cA : Nat → ClassId} {r : Int64} {μ' : zM} (X : zX false D ad cA p s m args c cX7_digest "ButlerWeatherModel" 5) (hQ : Q = MQ below (zQl false D ad cA r μ') args s 0 0 (zA false ad)) (hr : meth.sig.returnType = (some .long)) (hlk : meth.locks = false)  {kx : Int64 → zM → Option (Int64 × zM)} (HX : ∀ (w1 : Int64) (μ : zM) (H : Heap) (locs : List Loc) (ls : Array Slot), lv_has ls 5 [(0, .ref (ad 100)), (1, .long w1)] → zG false D ad cA s μ H locs → kx w1 μ = some (r, μ') → W p l e ({ frames := 9, cells := 0, slots := 0, locals := 218 } : Room) s m args below meth c H locs 0 0 Q (F0 m 160 ls [])) : ∀ (n : Nat) (v1 : Int64) (v3 : Int32) (μ : zM) (H : Heap) (locs : List Loc) (ls : Array Slot), lv_has ls 5 [(0, .ref (ad 100)), (1, .long v1), (3, .int v3)] → zG false D ad cA s μ H locs → f_X7_digest_L105 kx n v1 v3 μ = some (r, μ') → W p l e ({ frames := 9, cells := 0, slots := 0, locals := 218 } : Room) s m args below meth c H locs 0 0 Q (F0 m 105 ls []) := by
  obtain ⟨hx, hb, hml, hown, hts, -, -, -⟩ := id X
  intro n
  induction n with
  | zero =>
    intro v1 v3 μ H locs ls hl G h
    cases (show (none : Option (Int64 × zM)) = some (r, μ') from h)
  | succ n ih =>
    intro v1 v3 μ H locs ls hl G h
    rw [f_X7_digest_L105] at h
    refine lv_iload_n hx hb dX7_digest_105 rfl (lv_at hl 2 rfl) ?_
    refine lv_bipush (v := (24 : Int32)) hx hb dX7_digest_106 (by decide) ?_
    refine lv_icmp_ge (tgt := 160) hx hb dX7_digest_108 (by decide) (fun c20 => ?_) (fun c20 => ?_)
    · have h := (zz_br h).1 c20
      exact HX v1 μ _ _ _ (lv_sub hl [0, 1] rfl) G h
    have h := (zz_br h).2 c20
    refine lv_iconst (v := (0 : Int32)) hx hb dX7_digest_111 (by decide) ?_
    refine lv_istore (lv' := [(4, .int (0 : Int32)), (0, .ref (ad 100)), (1, .long v1), (3, .int v3)]) hx hb dX7_digest_112 hl (by decide) rfl (fun ls hl => ?_)
    refine w_X7_digest_L114 X hQ hr hlk  (fun x25 μ H locs ls hl G h => ?_) 400 v1 (0 : Int32) μ _ _ _ (lv_sub hl [1, 2, 3, 0] rfl) G h
    refine lv_ldc2 hx hb hown (hts _ kw_1278) dX7_digest_141 ?_
    refine lv_lload_n hx hb dX7_digest_144 rfl (lv_at hl 1 rfl) ?_
    refine lv_lmul hx hb dX7_digest_145 ?_
    refine lv_aload_n hx hb dX7_digest_146 rfl (lv_at hl 0 rfl) ?_
    refine lv_iload_n hx hb dX7_digest_147 rfl (lv_at hl 2 rfl) ?_
    refine zz_ci (rest := [.long ((31 : Int64) * x25)]) G h (fun r μ1 hf => zz_runV X G rc_7 tl_100 cv_X7_warmthOf kw_1064 (c_X7_warmthOf l D ad cA  hf) ⟨rfl, rfl, Nat.le_of_ble_eq_true rfl, Nat.le_of_ble_eq_true rfl⟩ rfl rfl hl.1 (Nat.le_of_ble_eq_true rfl) dX7_digest_148) (fun x26 μ H locs G h => ?_)
    refine lv_i2l hx hb dX7_digest_151 rfl ?_
    refine lv_ladd hx hb dX7_digest_152 ?_
    refine zz_vj h (fun x27 h => ?_)
    refine lv_lstore_n (lv' := [(1, .long x27), (0, .ref (ad 100)), (3, .int v3)]) hx hb dX7_digest_153 rfl hl (by decide) rfl (fun ls hl => ?_)
    obtain ⟨x28, ex28, h⟩ := zz_let h
    refine lv_iinc (v := x28) (lv' := [(3, .int x28), (1, .long x27), (0, .ref (ad 100))]) hx hb dX7_digest_154 hl (k := 2) rfl (by rw [← ex28]; rfl) (by decide) rfl (fun ls hl => ?_)
    refine lv_goto (tgt := 105) hx hb dX7_digest_157 (by decide) ?_
    exact ih x27 x28 μ _ _ _ (lv_sub hl [2, 1, 0] rfl) G h
set_option maxHeartbeats 4000000 in
set_option maxRecDepth 100000 in
theorem c_X7_digest (l : Launch) (D : va_G) (ad : Nat → Nat) (cA : Nat → ClassId)  {μ : zM} {r : Int64} {μ' : zM} (h : f_X7_digest μ = some (r, μ')) : zMet false D ad cA l yX7_digest cX7_digest 5 (some .long) ({ frames := 9, cells := 0, slots := 0, locals := 218 } : Room) [.ref (ad 100)] μ (zQl false D ad cA r μ') := by
  refine zMet_of "ButlerWeatherModel" ⟨by decide, rfl⟩ (Nat.le_of_ble_eq_true rfl) ?_
  intro p e s m args below meth c X G hr hlk ls hl
  have hl : lv_has ls 5 [(0, .ref (ad 100))] := hl
  obtain ⟨hx, hb, hml, hown, hts, -, -, -⟩ := id X
  obtain ⟨Q, hQ⟩ : ∃ Q, Q = MQ below (zQl false D ad cA r μ') args s 0 0 (zA false ad) := ⟨_, rfl⟩
  rw [← hQ]
  unfold f_X7_digest at h
  refine lv_ldc2 hx hb hown (hts _ kw_1277) dX7_digest_0 ?_
  refine lv_lstore_n (lv' := [(1, .long (17 : Int64)), (0, .ref (ad 100))]) hx hb dX7_digest_3 rfl hl (by decide) rfl (fun ls hl => ?_)
  refine lv_iconst (v := (0 : Int32)) hx hb dX7_digest_4 (by decide) ?_
  refine lv_istore_n (lv' := [(3, .int (0 : Int32)), (1, .long (17 : Int64)), (0, .ref (ad 100))]) hx hb dX7_digest_5 rfl hl (by decide) rfl (fun ls hl => ?_)
  refine w_X7_digest_L6 X hQ hr hlk  (fun x5 μ H locs ls hl G h => ?_) 400 (17 : Int64) (0 : Int32) μ _ _ _ (lv_sub hl [2, 1, 0] rfl) G h
  refine lv_ldc2 hx hb hown (hts _ kw_1278) dX7_digest_31 ?_
  refine lv_lload_n hx hb dX7_digest_34 rfl (lv_at hl 1 rfl) ?_
  refine lv_lmul hx hb dX7_digest_35 ?_
  refine lv_aload_n hx hb dX7_digest_36 rfl (lv_at hl 0 rfl) ?_
  refine lv_iconst (v := (0 : Int32)) hx hb dX7_digest_37 (by decide) ?_
  refine zz_ci (rest := [.long ((31 : Int64) * x5)]) G h (fun r μ1 hf => zz_runV X G rc_7 tl_100 cv_X7_faultOf kw_920 (c_X7_faultOf l D ad cA  hf) ⟨rfl, rfl, Nat.le_of_ble_eq_true rfl, Nat.le_of_ble_eq_true rfl⟩ rfl rfl hl.1 (Nat.le_of_ble_eq_true rfl) dX7_digest_38) (fun x6 μ H locs G h => ?_)
  refine lv_i2l hx hb dX7_digest_41 rfl ?_
  refine lv_ladd hx hb dX7_digest_42 ?_
  refine zz_vj h (fun x7 h => ?_)
  refine lv_lstore_n (lv' := [(1, .long x7), (0, .ref (ad 100))]) hx hb dX7_digest_43 rfl hl (by decide) rfl (fun ls hl => ?_)
  refine lv_ldc2 hx hb hown (hts _ kw_1278) dX7_digest_44 ?_
  refine lv_lload_n hx hb dX7_digest_47 rfl (lv_at hl 0 rfl) ?_
  refine lv_lmul hx hb dX7_digest_48 ?_
  refine lv_aload_n hx hb dX7_digest_49 rfl (lv_at hl 1 rfl) ?_
  refine lv_iconst (v := (1 : Int32)) hx hb dX7_digest_50 (by decide) ?_
  refine zz_ci (rest := [.long ((31 : Int64) * x7)]) G h (fun r μ1 hf => zz_runV X G rc_7 tl_100 cv_X7_faultOf kw_920 (c_X7_faultOf l D ad cA  hf) ⟨rfl, rfl, Nat.le_of_ble_eq_true rfl, Nat.le_of_ble_eq_true rfl⟩ rfl rfl hl.1 (Nat.le_of_ble_eq_true rfl) dX7_digest_51) (fun x8 μ H locs G h => ?_)
  refine lv_i2l hx hb dX7_digest_54 rfl ?_
  refine lv_ladd hx hb dX7_digest_55 ?_
  refine zz_vj h (fun x9 h => ?_)
  refine lv_lstore_n (lv' := [(1, .long x9), (0, .ref (ad 100))]) hx hb dX7_digest_56 rfl hl (by decide) rfl (fun ls hl => ?_)
  refine lv_iconst (v := (0 : Int32)) hx hb dX7_digest_57 (by decide) ?_
  refine lv_istore_n (lv' := [(3, .int (0 : Int32)), (1, .long x9), (0, .ref (ad 100))]) hx hb dX7_digest_58 rfl hl (by decide) rfl (fun ls hl => ?_)
  refine w_X7_digest_L59 X hQ hr hlk  (fun x14 μ H locs ls hl G h => ?_) 400 x9 (0 : Int32) μ _ _ _ (lv_sub hl [2, 1, 0] rfl) G h
  refine lv_iconst (v := (0 : Int32)) hx hb dX7_digest_80 (by decide) ?_
  refine lv_istore_n (lv' := [(3, .int (0 : Int32)), (0, .ref (ad 100)), (1, .long x14)]) hx hb dX7_digest_81 rfl hl (by decide) rfl (fun ls hl => ?_)
  refine w_X7_digest_L82 X hQ hr hlk  (fun x19 μ H locs ls hl G h => ?_) 400 x14 (0 : Int32) μ _ _ _ (lv_sub hl [1, 2, 0] rfl) G h
  refine lv_iconst (v := (0 : Int32)) hx hb dX7_digest_103 (by decide) ?_
  refine lv_istore_n (lv' := [(3, .int (0 : Int32)), (0, .ref (ad 100)), (1, .long x19)]) hx hb dX7_digest_104 rfl hl (by decide) rfl (fun ls hl => ?_)
  refine w_X7_digest_L105 X hQ hr hlk  (fun x29 μ H locs ls hl G h => ?_) 400 x19 (0 : Int32) μ _ _ _ (lv_sub hl [1, 2, 0] rfl) G h
  refine lv_ldc2 hx hb hown (hts _ kw_1278) dX7_digest_160 ?_
  refine lv_lload_n hx hb dX7_digest_163 rfl (lv_at hl 1 rfl) ?_
  refine lv_lmul hx hb dX7_digest_164 ?_
  refine lv_aload_n hx hb dX7_digest_165 rfl (lv_at hl 0 rfl) ?_
  refine zz_ci (rest := [.long ((31 : Int64) * x29)]) G h (fun r μ1 hf => zz_runV X G rc_7 tl_100 cv_X7_coldestOf kw_1073 (c_X7_coldestOf l D ad cA  hf) ⟨rfl, rfl, Nat.le_of_ble_eq_true rfl, Nat.le_of_ble_eq_true rfl⟩ rfl rfl hl.1 (Nat.le_of_ble_eq_true rfl) dX7_digest_166) (fun x30 μ H locs G h => ?_)
  refine lv_i2l hx hb dX7_digest_169 rfl ?_
  refine lv_ladd hx hb dX7_digest_170 ?_
  refine zz_vj h (fun x31 h => ?_)
  refine lv_lstore_n (lv' := [(1, .long x31), (0, .ref (ad 100))]) hx hb dX7_digest_171 rfl hl (by decide) rfl (fun ls hl => ?_)
  refine lv_ldc2 hx hb hown (hts _ kw_1278) dX7_digest_172 ?_
  refine lv_lload_n hx hb dX7_digest_175 rfl (lv_at hl 0 rfl) ?_
  refine lv_lmul hx hb dX7_digest_176 ?_
  refine lv_aload_n hx hb dX7_digest_177 rfl (lv_at hl 1 rfl) ?_
  refine lv_iconst (v := (0 : Int32)) hx hb dX7_digest_178 (by decide) ?_
  refine zz_ci (rest := [.long ((31 : Int64) * x31)]) G h (fun r μ1 hf => zz_runV X G rc_7 tl_100 cv_X7_firstOf kw_1084 (c_X7_firstOf l D ad cA  hf) ⟨rfl, rfl, Nat.le_of_ble_eq_true rfl, Nat.le_of_ble_eq_true rfl⟩ rfl rfl hl.1 (Nat.le_of_ble_eq_true rfl) dX7_digest_179) (fun x32 μ H locs G h => ?_)
  refine lv_i2l hx hb dX7_digest_182 rfl ?_
  refine lv_ladd hx hb dX7_digest_183 ?_
  refine zz_vj h (fun x33 h => ?_)
  refine lv_lstore_n (lv' := [(1, .long x33), (0, .ref (ad 100))]) hx hb dX7_digest_184 rfl hl (by decide) rfl (fun ls hl => ?_)
  refine lv_ldc2 hx hb hown (hts _ kw_1278) dX7_digest_185 ?_
  refine lv_lload_n hx hb dX7_digest_188 rfl (lv_at hl 0 rfl) ?_
  refine lv_lmul hx hb dX7_digest_189 ?_
  refine lv_aload_n hx hb dX7_digest_190 rfl (lv_at hl 1 rfl) ?_
  refine lv_iconst (v := (1 : Int32)) hx hb dX7_digest_191 (by decide) ?_
  refine zz_ci (rest := [.long ((31 : Int64) * x33)]) G h (fun r μ1 hf => zz_runV X G rc_7 tl_100 cv_X7_firstOf kw_1084 (c_X7_firstOf l D ad cA  hf) ⟨rfl, rfl, Nat.le_of_ble_eq_true rfl, Nat.le_of_ble_eq_true rfl⟩ rfl rfl hl.1 (Nat.le_of_ble_eq_true rfl) dX7_digest_192) (fun x34 μ H locs G h => ?_)
  refine lv_i2l hx hb dX7_digest_195 rfl ?_
  refine lv_ladd hx hb dX7_digest_196 ?_
  refine zz_vj h (fun x35 h => ?_)
  refine lv_lstore_n (lv' := [(1, .long x35), (0, .ref (ad 100))]) hx hb dX7_digest_197 rfl hl (by decide) rfl (fun ls hl => ?_)
  refine lv_ldc2 hx hb hown (hts _ kw_1278) dX7_digest_198 ?_
  refine lv_lload_n hx hb dX7_digest_201 rfl (lv_at hl 0 rfl) ?_
  refine lv_lmul hx hb dX7_digest_202 ?_
  refine lv_aload_n hx hb dX7_digest_203 rfl (lv_at hl 1 rfl) ?_
  refine zz_ci (rest := [.long ((31 : Int64) * x35)]) G h (fun r μ1 hf => zz_runV X G rc_7 tl_100 cv_X7_sentOf kw_1092 (c_X7_sentOf l D ad cA  hf) ⟨rfl, rfl, Nat.le_of_ble_eq_true rfl, Nat.le_of_ble_eq_true rfl⟩ rfl rfl hl.1 (Nat.le_of_ble_eq_true rfl) dX7_digest_204) (fun x36 μ H locs G h => ?_)
  refine lv_i2l hx hb dX7_digest_207 rfl ?_
  refine lv_ladd hx hb dX7_digest_208 ?_
  refine zz_vj h (fun x37 h => ?_)
  refine lv_lstore_n (lv' := [(1, .long x37), (0, .ref (ad 100))]) hx hb dX7_digest_209 rfl hl (by decide) rfl (fun ls hl => ?_)
  refine lv_ldc2 hx hb hown (hts _ kw_1278) dX7_digest_210 ?_
  refine lv_lload_n hx hb dX7_digest_213 rfl (lv_at hl 0 rfl) ?_
  refine lv_lmul hx hb dX7_digest_214 ?_
  refine lv_aload_n hx hb dX7_digest_215 rfl (lv_at hl 1 rfl) ?_
  refine zz_ci (rest := [.long ((31 : Int64) * x37)]) G h (fun r μ1 hf => zz_runV X G rc_7 tl_100 cv_X7_wrongOf kw_1104 (c_X7_wrongOf l D ad cA  hf) ⟨rfl, rfl, Nat.le_of_ble_eq_true rfl, Nat.le_of_ble_eq_true rfl⟩ rfl rfl hl.1 (Nat.le_of_ble_eq_true rfl) dX7_digest_216) (fun x38 μ H locs G h => ?_)
  refine lv_i2l hx hb dX7_digest_219 rfl ?_
  refine lv_ladd hx hb dX7_digest_220 ?_
  refine zz_vj h (fun x39 h => ?_)
  refine lv_lstore_n (lv' := [(1, .long x39), (0, .ref (ad 100))]) hx hb dX7_digest_221 rfl hl (by decide) rfl (fun ls hl => ?_)
  refine lv_ldc2 hx hb hown (hts _ kw_1278) dX7_digest_222 ?_
  refine lv_lload_n hx hb dX7_digest_225 rfl (lv_at hl 0 rfl) ?_
  refine lv_lmul hx hb dX7_digest_226 ?_
  refine lv_aload_n hx hb dX7_digest_227 rfl (lv_at hl 1 rfl) ?_
  refine zz_ci (rest := [.long ((31 : Int64) * x39)]) G h (fun r μ1 hf => zz_runV X G rc_7 tl_100 cv_X7_sumOf kw_1112 (c_X7_sumOf l D ad cA  hf) ⟨rfl, rfl, Nat.le_of_ble_eq_true rfl, Nat.le_of_ble_eq_true rfl⟩ rfl rfl hl.1 (Nat.le_of_ble_eq_true rfl) dX7_digest_228) (fun x40 μ H locs G h => ?_)
  refine lv_i2l hx hb dX7_digest_231 rfl ?_
  refine lv_ladd hx hb dX7_digest_232 ?_
  refine zz_vj h (fun x41 h => ?_)
  refine lv_lstore_n (lv' := [(1, .long x41), (0, .ref (ad 100))]) hx hb dX7_digest_233 rfl hl (by decide) rfl (fun ls hl => ?_)
  refine lv_ldc2 hx hb hown (hts _ kw_1278) dX7_digest_234 ?_
  refine lv_lload_n hx hb dX7_digest_237 rfl (lv_at hl 0 rfl) ?_
  refine lv_lmul hx hb dX7_digest_238 ?_
  refine lv_aload_n hx hb dX7_digest_239 rfl (lv_at hl 1 rfl) ?_
  refine lv_bipush (v := (8 : Int32)) hx hb dX7_digest_240 (by decide) ?_
  refine lv_iconst (v := (0 : Int32)) hx hb dX7_digest_242 (by decide) ?_
  refine zz_ci (rest := [.long ((31 : Int64) * x41)]) G h (fun r μ1 hf => zz_runV X G rc_7 tl_100 cv_X7_leaveOf kw_1124 (c_X7_leaveOf l D ad cA  hf) ⟨rfl, rfl, Nat.le_of_ble_eq_true rfl, Nat.le_of_ble_eq_true rfl⟩ rfl rfl hl.1 (Nat.le_of_ble_eq_true rfl) dX7_digest_243) (fun x42 μ H locs G h => ?_)
  refine lv_i2l hx hb dX7_digest_246 rfl ?_
  refine lv_ladd hx hb dX7_digest_247 ?_
  refine zz_vj h (fun x43 h => ?_)
  refine lv_lstore_n (lv' := [(1, .long x43), (0, .ref (ad 100))]) hx hb dX7_digest_248 rfl hl (by decide) rfl (fun ls hl => ?_)
  refine lv_ldc2 hx hb hown (hts _ kw_1278) dX7_digest_249 ?_
  refine lv_lload_n hx hb dX7_digest_252 rfl (lv_at hl 0 rfl) ?_
  refine lv_lmul hx hb dX7_digest_253 ?_
  refine lv_aload_n hx hb dX7_digest_254 rfl (lv_at hl 1 rfl) ?_
  refine lv_bipush (v := (8 : Int32)) hx hb dX7_digest_255 (by decide) ?_
  refine lv_iconst (v := (1 : Int32)) hx hb dX7_digest_257 (by decide) ?_
  refine zz_ci (rest := [.long ((31 : Int64) * x43)]) G h (fun r μ1 hf => zz_runV X G rc_7 tl_100 cv_X7_leaveOf kw_1124 (c_X7_leaveOf l D ad cA  hf) ⟨rfl, rfl, Nat.le_of_ble_eq_true rfl, Nat.le_of_ble_eq_true rfl⟩ rfl rfl hl.1 (Nat.le_of_ble_eq_true rfl) dX7_digest_258) (fun x44 μ H locs G h => ?_)
  refine lv_i2l hx hb dX7_digest_261 rfl ?_
  refine lv_ladd hx hb dX7_digest_262 ?_
  refine zz_vj h (fun x45 h => ?_)
  refine lv_lstore_n (lv' := [(1, .long x45), (0, .ref (ad 100))]) hx hb dX7_digest_263 rfl hl (by decide) rfl (fun ls hl => ?_)
  refine lv_aload_n hx hb dX7_digest_264 rfl (lv_at hl 1 rfl) ?_
  refine zz_ci (rest := []) G h (fun r μ1 hf => zz_runV X G rc_7 tl_100 cv_X7_burnBy kw_1153 (c_X7_burnBy l D ad cA  hf) ⟨rfl, rfl, Nat.le_of_ble_eq_true rfl, Nat.le_of_ble_eq_true rfl⟩ rfl rfl hl.1 (Nat.le_of_ble_eq_true rfl) dX7_digest_265) (fun x46 μ H locs G h => ?_)
  refine lv_istore_n (lv' := [(3, .int x46), (1, .long x45), (0, .ref (ad 100))]) hx hb dX7_digest_268 rfl hl (by decide) rfl (fun ls hl => ?_)
  refine lv_ldc2 hx hb hown (hts _ kw_1278) dX7_digest_269 ?_
  refine lv_lload_n hx hb dX7_digest_272 rfl (lv_at hl 1 rfl) ?_
  refine lv_lmul hx hb dX7_digest_273 ?_
  refine lv_iload_n hx hb dX7_digest_274 rfl (lv_at hl 0 rfl) ?_
  refine lv_i2l hx hb dX7_digest_275 rfl ?_
  refine lv_ladd hx hb dX7_digest_276 ?_
  refine zz_vj h (fun x47 h => ?_)
  refine lv_lstore_n (lv' := [(1, .long x47), (3, .int x46), (0, .ref (ad 100))]) hx hb dX7_digest_277 rfl hl (by decide) rfl (fun ls hl => ?_)
  refine lv_ldc2 hx hb hown (hts _ kw_1278) dX7_digest_278 ?_
  refine lv_lload_n hx hb dX7_digest_281 rfl (lv_at hl 0 rfl) ?_
  refine lv_lmul hx hb dX7_digest_282 ?_
  refine lv_aload_n hx hb dX7_digest_283 rfl (lv_at hl 2 rfl) ?_
  refine lv_iload_n hx hb dX7_digest_284 rfl (lv_at hl 1 rfl) ?_
  refine lv_iconst (v := (0 : Int32)) hx hb dX7_digest_285 (by decide) ?_
  refine zz_ci (rest := [.long ((31 : Int64) * x47)]) G h (fun r μ1 hf => zz_runV X G rc_7 tl_100 cv_X7_ofRow kw_1161 (c_X7_ofRow l D ad cA  hf) ⟨rfl, rfl, Nat.le_of_ble_eq_true rfl, Nat.le_of_ble_eq_true rfl⟩ rfl rfl hl.1 (Nat.le_of_ble_eq_true rfl) dX7_digest_286) (fun x48 μ H locs G h => ?_)
  refine lv_i2l hx hb dX7_digest_289 rfl ?_
  refine lv_ladd hx hb dX7_digest_290 ?_
  refine zz_vj h (fun x49 h => ?_)
  refine lv_lstore_n (lv' := [(1, .long x49), (3, .int x46), (0, .ref (ad 100))]) hx hb dX7_digest_291 rfl hl (by decide) rfl (fun ls hl => ?_)
  refine lv_ldc2 hx hb hown (hts _ kw_1278) dX7_digest_292 ?_
  refine lv_lload_n hx hb dX7_digest_295 rfl (lv_at hl 0 rfl) ?_
  refine lv_lmul hx hb dX7_digest_296 ?_
  refine lv_aload_n hx hb dX7_digest_297 rfl (lv_at hl 2 rfl) ?_
  refine zz_ci (rest := [.long ((31 : Int64) * x49)]) G h (fun r μ1 hf => zz_runV X G rc_7 tl_100 cv_X7_neverNow kw_1177 (c_X7_neverNow l D ad cA  hf) ⟨rfl, rfl, Nat.le_of_ble_eq_true rfl, Nat.le_of_ble_eq_true rfl⟩ rfl rfl hl.1 (Nat.le_of_ble_eq_true rfl) dX7_digest_298) (fun x50 μ H locs G h => ?_)
  refine lv_i2l hx hb dX7_digest_301 rfl ?_
  refine lv_ladd hx hb dX7_digest_302 ?_
  refine zz_vj h (fun x51 h => ?_)
  refine lv_lstore_n (lv' := [(1, .long x51), (3, .int x46), (0, .ref (ad 100))]) hx hb dX7_digest_303 rfl hl (by decide) rfl (fun ls hl => ?_)
  refine lv_ldc2 hx hb hown (hts _ kw_1278) dX7_digest_304 ?_
  refine lv_lload_n hx hb dX7_digest_307 rfl (lv_at hl 0 rfl) ?_
  refine lv_lmul hx hb dX7_digest_308 ?_
  refine lv_aload_n hx hb dX7_digest_309 rfl (lv_at hl 2 rfl) ?_
  refine lv_bipush (v := (7 : Int32)) hx hb dX7_digest_310 (by decide) ?_
  refine lv_bipush (v := (6 : Int32)) hx hb dX7_digest_312 (by decide) ?_
  refine lv_iconst (v := (0 : Int32)) hx hb dX7_digest_314 (by decide) ?_
  refine zz_ci (rest := [.long ((31 : Int64) * x51)]) G h (fun r μ1 hf => zz_runV X G rc_7 tl_100 cv_X7_yearsOf kw_1224 (c_X7_yearsOf l D ad cA  hf) ⟨rfl, rfl, Nat.le_of_ble_eq_true rfl, Nat.le_of_ble_eq_true rfl⟩ rfl rfl hl.1 (Nat.le_of_ble_eq_true rfl) dX7_digest_315) (fun x52 μ H locs G h => ?_)
  refine lv_i2l hx hb dX7_digest_318 rfl ?_
  refine lv_ladd hx hb dX7_digest_319 ?_
  refine zz_vj h (fun x53 h => ?_)
  refine lv_lstore_n (lv' := [(1, .long x53), (3, .int x46), (0, .ref (ad 100))]) hx hb dX7_digest_320 rfl hl (by decide) rfl (fun ls hl => ?_)
  refine lv_ldc2 hx hb hown (hts _ kw_1278) dX7_digest_321 ?_
  refine lv_lload_n hx hb dX7_digest_324 rfl (lv_at hl 0 rfl) ?_
  refine lv_lmul hx hb dX7_digest_325 ?_
  refine lv_aload_n hx hb dX7_digest_326 rfl (lv_at hl 2 rfl) ?_
  refine lv_bipush (v := (7 : Int32)) hx hb dX7_digest_327 (by decide) ?_
  refine lv_bipush (v := (6 : Int32)) hx hb dX7_digest_329 (by decide) ?_
  refine lv_iconst (v := (1 : Int32)) hx hb dX7_digest_331 (by decide) ?_
  refine zz_ci (rest := [.long ((31 : Int64) * x53)]) G h (fun r μ1 hf => zz_runV X G rc_7 tl_100 cv_X7_yearsOf kw_1224 (c_X7_yearsOf l D ad cA  hf) ⟨rfl, rfl, Nat.le_of_ble_eq_true rfl, Nat.le_of_ble_eq_true rfl⟩ rfl rfl hl.1 (Nat.le_of_ble_eq_true rfl) dX7_digest_332) (fun x54 μ H locs G h => ?_)
  refine lv_i2l hx hb dX7_digest_335 rfl ?_
  refine lv_ladd hx hb dX7_digest_336 ?_
  rw [hQ]
  exact zz_lret X G hr hlk dX7_digest_337 h
