-- CONTRACTS, by program
set_option maxHeartbeats 4000000 in
set_option maxRecDepth 100000 in
theorem w_X6_chance_L106 {p : Program} {l : Launch} {e : Env} {s : State} {m : MethodId} {args : Array Value} {below : List Frame} {meth : Method} {c : Code} {Q : State → Prop} {D : va_G} {ad : Nat → Nat} {cA : Nat → ClassId} {r : Int64} {μ' : zM} (X : zX true D ad cA p s m args c cX6_chance "ButlerWeather" 10) (hQ : Q = MQ below (zQl true D ad cA r μ') args s 0 0 (zA true ad)) (hr : meth.sig.returnType = (some .long)) (hlk : meth.locks = false) {v3 : Int32} {kx : Int64 → Int64 → zM → Option (Int64 × zM)} (HX : ∀ (w5 : Int64) (w7 : Int64) (μ : zM) (H : Heap) (locs : List Loc) (ls : Array Slot), lv_has ls 10 [(3, .int v3), (5, .long w5), (7, .long w7)] → zG true D ad cA s μ H locs → kx w5 w7 μ = some (r, μ') → W p l e ({ frames := 4, cells := 0, slots := 0, locals := 97 } : Room) s m args below meth c H locs 0 0 Q (F0 m 153 ls [])) : ∀ (n : Nat) (v5 : Int64) (v7 : Int64) (v9 : Int32) (μ : zM) (H : Heap) (locs : List Loc) (ls : Array Slot), lv_has ls 10 [(0, .ref (ad 0)), (3, .int v3), (5, .long v5), (7, .long v7), (9, .int v9)] → zG true D ad cA s μ H locs → f_X6_chance_L106 v3 kx n v5 v7 v9 μ = some (r, μ') → W p l e ({ frames := 4, cells := 0, slots := 0, locals := 97 } : Room) s m args below meth c H locs 0 0 Q (F0 m 106 ls []) := by
  obtain ⟨hx, hb, hml, hown, hts, -, -, -⟩ := id X
  intro n
  induction n with
  | zero =>
    intro v5 v7 v9 μ H locs ls hl G h
    cases (show (none : Option (Int64 × zM)) = some (r, μ') from h)
  | succ n ih =>
    intro v5 v7 v9 μ H locs ls hl G h
    rw [f_X6_chance_L106] at h
    refine lv_iload hx hb dX6_chance_106 (lv_at hl 4 rfl) ?_
    refine lv_iconst (v := (4 : Int32)) hx hb dX6_chance_108 (by decide) ?_
    refine lv_aload_n hx hb dX6_chance_109 rfl (lv_at hl 0 rfl) ?_
    refine zz_getr X G fr_6_1 tl_0 rl_0_1 kw_255 dX6_chance_110 ?_
    refine zz_geti X G fi_0_2 tl_6 kw_127 dX6_chance_113 h (fun x12 h => ?_)
    refine lv_imul hx hb dX6_chance_116 ?_
    refine lv_icmp_ge (tgt := 153) hx hb dX6_chance_117 (by decide) (fun c13 => ?_) (fun c13 => ?_)
    · have h := (zz_br h).1 c13
      exact HX v5 v7 μ _ _ _ (lv_sub hl [1, 2, 3] rfl) G h
    have h := (zz_br h).2 c13
    refine lv_lload hx hb dX6_chance_120 (lv_at hl 2 rfl) ?_
    refine lv_ldc2 hx hb hown (hts _ kw_662) dX6_chance_122 ?_
    obtain ⟨hd, h⟩ := zz_gd h
    refine lv_lrem hx hb dX6_chance_125 hd ?_
    refine lv_lconst (v := (0 : Int64)) hx hb dX6_chance_126 (by decide) ?_
    refine W.lcmp hx hb dX6_chance_127 ?_
    refine lv_if_ne (tgt := 153) hx hb dX6_chance_128 (by decide) (fun c14 => ?_) (fun c14 => ?_)
    · have h := (zz_br h).1 c14
      exact HX v5 v7 μ _ _ _ (lv_sub hl [1, 2, 3] rfl) G h
    have h := (zz_br h).2 (fun q => q c14)
    refine lv_lload hx hb dX6_chance_131 (lv_at hl 2 rfl) ?_
    refine lv_ldc2 hx hb hown (hts _ kw_662) dX6_chance_133 ?_
    obtain ⟨hd, h⟩ := zz_gd h
    refine lv_ldiv hx hb dX6_chance_136 hd ?_
    refine zz_vj h (fun x15 h => ?_)
    refine lv_lstore (lv' := [(5, .long x15), (0, .ref (ad 0)), (3, .int v3), (7, .long v7), (9, .int v9)]) hx hb dX6_chance_137 hl (by decide) rfl (fun ls hl => ?_)
    refine lv_lload hx hb dX6_chance_139 (lv_at hl 3 rfl) ?_
    refine lv_ldc2 hx hb hown (hts _ kw_662) dX6_chance_141 ?_
    obtain ⟨hd, h⟩ := zz_gd h
    refine lv_ldiv hx hb dX6_chance_144 hd ?_
    refine zz_vj h (fun x16 h => ?_)
    refine lv_lstore (lv' := [(7, .long x16), (5, .long x15), (0, .ref (ad 0)), (3, .int v3), (9, .int v9)]) hx hb dX6_chance_145 hl (by decide) rfl (fun ls hl => ?_)
    obtain ⟨x17, ex17, h⟩ := zz_let h
    refine lv_iinc (v := x17) (lv' := [(9, .int x17), (7, .long x16), (5, .long x15), (0, .ref (ad 0)), (3, .int v3)]) hx hb dX6_chance_147 hl (k := 4) rfl (by rw [← ex17]; rfl) (by decide) rfl (fun ls hl => ?_)
    refine lv_goto (tgt := 106) hx hb dX6_chance_150 (by decide) ?_
    exact ih x15 x16 x17 μ _ _ _ (lv_sub hl [3, 4, 2, 1, 0] rfl) G h
set_option maxHeartbeats 4000000 in
set_option maxRecDepth 100000 in
theorem c_X6_chance (l : Launch) (D : va_G) (ad : Nat → Nat) (cA : Nat → ClassId) {a1 : Int32} {a2 : Int32} {a3 : Int32} {μ : zM} {r : Int64} {μ' : zM} (h : f_X6_chance a1 a2 a3 μ = some (r, μ')) : zMet true D ad cA l yX6_chance cX6_chance 10 (some .long) ({ frames := 4, cells := 0, slots := 0, locals := 97 } : Room) [.ref (ad 0), .int a1, .int a2, .int a3] μ (zQl true D ad cA r μ') := by
  refine zMet_of "ButlerWeather" ⟨by decide, rfl⟩ (Nat.le_of_ble_eq_true rfl) ?_
  intro p e s m args below meth c X G hr hlk ls hl
  have hl : lv_has ls 10 [(0, .ref (ad 0)), (1, .int a1), (2, .int a2), (3, .int a3)] := hl
  obtain ⟨hx, hb, hml, hown, hts, -, -, -⟩ := id X
  obtain ⟨Q, hQ⟩ : ∃ Q, Q = MQ below (zQl true D ad cA r μ') args s 0 0 (zA true ad) := ⟨_, rfl⟩
  rw [← hQ]
  unfold f_X6_chance at h
  refine lv_aload_n hx hb dX6_chance_0 rfl (lv_at hl 0 rfl) ?_
  refine zz_cr (rest := []) G h (fun r μ1 hf => zz_runV X G rc_6 tl_0 cv_X6_told kw_332 (c_X6_told l D ad cA  hf) ⟨rfl, rfl, Nat.le_of_ble_eq_true rfl, Nat.le_of_ble_eq_true rfl⟩ rfl rfl hl.1 (Nat.le_of_ble_eq_true rfl) dX6_chance_1) (fun _ μ H locs G h => ?_)
  refine lv_astore (lv' := [(4, .ref (ad 21)), (0, .ref (ad 0)), (1, .int a1), (2, .int a2), (3, .int a3)]) hx hb dX6_chance_4 hl (by decide) rfl (fun ls hl => ?_)
  refine lv_iload_n hx hb dX6_chance_6 rfl (lv_at hl 2 rfl) ?_
  refine lv_iconst (v := (0 : Int32)) hx hb dX6_chance_7 (by decide) ?_
  refine lv_bipush (v := (16 : Int32)) hx hb dX6_chance_8 (by decide) ?_
  refine zz_ci (rest := []) G h (fun r μ1 hf => zz_runS X G cs_X6_within kw_289 (c_X6_within l D ad cA  hf) ⟨rfl, rfl, Nat.le_of_ble_eq_true rfl, Nat.le_of_ble_eq_true rfl⟩ rfl rfl hl.1 (Nat.le_of_ble_eq_true rfl) dX6_chance_10) (fun x1 μ H locs G h => ?_)
  refine lv_if_eq (tgt := 34) hx hb dX6_chance_13 (by decide) (fun c2 => ?_) (fun c2 => ?_)
  · have h := (zz_br h).1 c2
    refine lv_ldc2 hx hb hown (hts _ kw_647) dX6_chance_34 ?_
    rw [hQ]
    exact zz_lret X G hr hlk dX6_chance_37 h
  have h := (zz_br h).2 c2
  refine lv_aload hx hb dX6_chance_16 (lv_at hl 0 rfl) ?_
  refine lv_iload_n hx hb dX6_chance_18 rfl (lv_at hl 3 rfl) ?_
  refine zz_ci (rest := []) G h (fun r μ1 hf => zz_runV X G rc_2 tl_21 cv_X2_hasCaller kw_406 (c_X2_hasCaller l D ad cA tl_21 hf) ⟨rfl, rfl, Nat.le_of_ble_eq_true rfl, Nat.le_of_ble_eq_true rfl⟩ rfl rfl hl.1 (Nat.le_of_ble_eq_true rfl) dX6_chance_19) (fun x3 μ H locs G h => ?_)
  refine lv_if_eq (tgt := 34) hx hb dX6_chance_22 (by decide) (fun c4 => ?_) (fun c4 => ?_)
  · have h := (zz_br h).1 c4
    refine lv_ldc2 hx hb hown (hts _ kw_647) dX6_chance_34 ?_
    rw [hQ]
    exact zz_lret X G hr hlk dX6_chance_37 h
  have h := (zz_br h).2 c4
  refine lv_iload_n hx hb dX6_chance_25 rfl (lv_at hl 4 rfl) ?_
  refine lv_iconst (v := (0 : Int32)) hx hb dX6_chance_26 (by decide) ?_
  refine lv_iconst (v := (1 : Int32)) hx hb dX6_chance_27 (by decide) ?_
  refine zz_ci (rest := []) G h (fun r μ1 hf => zz_runS X G cs_X6_within kw_289 (c_X6_within l D ad cA  hf) ⟨rfl, rfl, Nat.le_of_ble_eq_true rfl, Nat.le_of_ble_eq_true rfl⟩ rfl rfl hl.1 (Nat.le_of_ble_eq_true rfl) dX6_chance_28) (fun x5 μ H locs G h => ?_)
  refine lv_if_ne (tgt := 38) hx hb dX6_chance_31 (by decide) (fun c6 => ?_) (fun c6 => ?_)
  · have h := (zz_br h).1 c6
    refine lv_aload_n hx hb dX6_chance_38 rfl (lv_at hl 1 rfl) ?_
    refine zz_getr X G fr_6_6 tl_0 rl_0_6 kw_260 dX6_chance_39 ?_
    refine zz_geti X G fi_3_1 tl_47 kw_245 dX6_chance_42 h (fun x7 h => ?_)
    refine Exists.elim (zz_jn (P := fun (j : zM → Option (Int64 × zM)) => ∀ (μ : zM) (H : Heap) (locs : List Loc) (ls : Array Slot), lv_has ls 10 [(0, .ref (ad 0)), (1, .int a1), (2, .int a2), (3, .int a3)] → zG true D ad cA s μ H locs → j  μ = some (r, μ') → W p l e ({ frames := 4, cells := 0, slots := 0, locals := 97 } : Room) s m args below meth c H locs 0 0 Q (F0 m 72 ls [])) h ?_) (fun j72_1 hj => ?_)
    · intro  μ H locs ls hl G h
      refine lv_aload_n hx hb dX6_chance_72 rfl (lv_at hl 0 rfl) ?_
      refine zz_getr X G fr_6_6 tl_0 rl_0_6 kw_260 dX6_chance_73 ?_
      refine lv_iload_n hx hb dX6_chance_76 rfl (lv_at hl 1 rfl) ?_
      refine lv_iload_n hx hb dX6_chance_77 rfl (lv_at hl 2 rfl) ?_
      refine lv_aload_n hx hb dX6_chance_78 rfl (lv_at hl 0 rfl) ?_
      refine zz_getr X G fr_6_1 tl_0 rl_0_1 kw_255 dX6_chance_79 ?_
      refine zz_geti X G fi_0_2 tl_6 kw_127 dX6_chance_82 h (fun x8 h => ?_)
      refine zz_cj (rest := []) G h (fun r μ1 hf => zz_runV X G rc_3 tl_47 cv_X3_above kw_655 (c_X3_above l D ad cA  hf) ⟨rfl, rfl, Nat.le_of_ble_eq_true rfl, Nat.le_of_ble_eq_true rfl⟩ rfl rfl hl.1 (Nat.le_of_ble_eq_true rfl) dX6_chance_85) (fun x9 μ H locs G h => ?_)
      refine lv_lstore (lv' := [(5, .long x9), (0, .ref (ad 0)), (1, .int a1), (2, .int a2), (3, .int a3)]) hx hb dX6_chance_88 hl (by decide) rfl (fun ls hl => ?_)
      refine lv_lconst (v := (1 : Int64)) hx hb dX6_chance_90 (by decide) ?_
      refine lv_iconst (v := (4 : Int32)) hx hb dX6_chance_91 (by decide) ?_
      refine lv_aload_n hx hb dX6_chance_92 rfl (lv_at hl 1 rfl) ?_
      refine zz_getr X G fr_6_1 tl_0 rl_0_1 kw_255 dX6_chance_93 ?_
      refine zz_geti X G fi_0_2 tl_6 kw_127 dX6_chance_96 h (fun x10 h => ?_)
      refine lv_imul hx hb dX6_chance_99 ?_
      refine lv_lshl hx hb dX6_chance_100 rfl ?_
      refine zz_vj h (fun x11 h => ?_)
      refine lv_lstore (lv' := [(7, .long x11), (5, .long x9), (0, .ref (ad 0)), (1, .int a1), (2, .int a2), (3, .int a3)]) hx hb dX6_chance_101 hl (by decide) rfl (fun ls hl => ?_)
      refine lv_iconst (v := (0 : Int32)) hx hb dX6_chance_103 (by decide) ?_
      refine lv_istore (lv' := [(9, .int (0 : Int32)), (7, .long x11), (5, .long x9), (0, .ref (ad 0)), (1, .int a1), (2, .int a2), (3, .int a3)]) hx hb dX6_chance_104 hl (by decide) rfl (fun ls hl => ?_)
      refine w_X6_chance_L106 X hQ hr hlk  (fun x18 x19 μ H locs ls hl G h => ?_) 400 x9 x11 (0 : Int32) μ _ _ _ (lv_sub hl [3, 6, 2, 1, 0] rfl) G h
      refine lv_iload_n hx hb dX6_chance_153 rfl (lv_at hl 0 rfl) ?_
      refine lv_if_ne (tgt := 162) hx hb dX6_chance_154 (by decide) (fun c20 => ?_) (fun c20 => ?_)
      · have h := (zz_br h).1 c20
        refine lv_lload hx hb dX6_chance_162 (lv_at hl 2 rfl) ?_
        rw [hQ]
        exact zz_lret X G hr hlk dX6_chance_164 h
      have h := (zz_br h).2 (fun q => q c20)
      refine lv_lload hx hb dX6_chance_157 (lv_at hl 1 rfl) ?_
      refine lv_goto (tgt := 164) hx hb dX6_chance_159 (by decide) ?_
      rw [hQ]
      exact zz_lret X G hr hlk dX6_chance_164 h
    obtain ⟨hj72_1, h⟩ := hj
    refine lv_if_ne (tgt := 72) hx hb dX6_chance_45 (by decide) (fun c21 => ?_) (fun c21 => ?_)
    · have h := (zz_br h).1 c21
      exact hj72_1  μ _ _ _ (lv_sub hl [1, 2, 3, 4] rfl) G h
    have h := (zz_br h).2 (fun q => q c21)
    refine lv_aload_n hx hb dX6_chance_48 rfl (lv_at hl 1 rfl) ?_
    refine zz_getr X G fr_6_5 tl_0 rl_0_5 kw_259 dX6_chance_49 ?_
    refine lv_aload hx hb dX6_chance_52 (lv_at hl 0 rfl) ?_
    refine zz_cv (rest := []) G h (fun r μ1 hf => zz_runV X G rc_2 tl_34 cv_X2_become kw_545 (c_X2_become l D ad cA tl_34 tl_21 hf) ⟨rfl, rfl, Nat.le_of_ble_eq_true rfl, Nat.le_of_ble_eq_true rfl⟩ rfl rfl hl.1 (Nat.le_of_ble_eq_true rfl) dX6_chance_54) (fun _ μ H locs G h => ?_)
    refine lv_aload_n hx hb dX6_chance_57 rfl (lv_at hl 1 rfl) ?_
    refine zz_getr X G fr_6_6 tl_0 rl_0_6 kw_260 dX6_chance_58 ?_
    refine lv_aload_n hx hb dX6_chance_61 rfl (lv_at hl 1 rfl) ?_
    refine zz_getr X G fr_6_5 tl_0 rl_0_5 kw_259 dX6_chance_62 ?_
    refine lv_aload_n hx hb dX6_chance_65 rfl (lv_at hl 1 rfl) ?_
    refine zz_getr X G fr_6_1 tl_0 rl_0_1 kw_255 dX6_chance_66 ?_
    refine zz_cv (rest := []) G h (fun r μ1 hf => zz_runV X G rc_3 tl_47 cv_X3_countWays kw_648 (c_X3_countWays l D ad cA tl_34 hf) ⟨rfl, rfl, Nat.le_of_ble_eq_true rfl, Nat.le_of_ble_eq_true rfl⟩ rfl rfl hl.1 (Nat.le_of_ble_eq_true rfl) dX6_chance_69) (fun _ μ H locs G h => ?_)
    exact hj72_1  μ _ _ _ (lv_sub hl [1, 2, 3, 4] rfl) G h
  have h := (zz_br h).2 (fun q => q c6)
  refine lv_ldc2 hx hb hown (hts _ kw_647) dX6_chance_34 ?_
  rw [hQ]
  exact zz_lret X G hr hlk dX6_chance_37 h
set_option maxHeartbeats 4000000 in
set_option maxRecDepth 100000 in
theorem c_X6_nextSeed (l : Launch) (D : va_G) (ad : Nat → Nat) (cA : Nat → ClassId) {a0 : Int32} {μ : zM} {r : Int32} {μ' : zM} (h : f_X6_nextSeed a0 μ = some (r, μ')) : zMet true D ad cA l yX6_nextSeed cX6_nextSeed 1 (some .int) ({ frames := 0, cells := 0, slots := 0, locals := 0 } : Room) [.int a0] μ (zQi true D ad cA r μ') := by
  refine zMet_of "ButlerWeather" ⟨by decide, rfl⟩ (Nat.le_of_ble_eq_true rfl) ?_
  intro p e s m args below meth c X G hr hlk ls hl
  have hl : lv_has ls 1 [(0, .int a0)] := hl
  obtain ⟨hx, hb, hml, hown, hts, -, -, -⟩ := id X
  obtain ⟨Q, hQ⟩ : ∃ Q, Q = MQ below (zQi true D ad cA r μ') args s 0 0 (zA true ad) := ⟨_, rfl⟩
  rw [← hQ]
  unfold f_X6_nextSeed at h
  refine lv_ldcw hx hb hown (hts _ kw_675) dX6_nextSeed_0 ?_
  refine lv_iload_n hx hb dX6_nextSeed_3 rfl (lv_at hl 0 rfl) ?_
  refine lv_imul hx hb dX6_nextSeed_4 ?_
  refine lv_sipush (v := (12345 : Int32)) hx hb dX6_nextSeed_5 (by decide) ?_
  refine lv_iadd hx hb dX6_nextSeed_8 ?_
  rw [hQ]
  exact zz_iret X G hr hlk dX6_nextSeed_9 h
set_option maxHeartbeats 4000000 in
set_option maxRecDepth 100000 in
theorem c_X6_upperBits (l : Launch) (D : va_G) (ad : Nat → Nat) (cA : Nat → ClassId) {a0 : Int32} {μ : zM} {r : Int32} {μ' : zM} (h : f_X6_upperBits a0 μ = some (r, μ')) : zMet true D ad cA l yX6_upperBits cX6_upperBits 1 (some .int) ({ frames := 0, cells := 0, slots := 0, locals := 0 } : Room) [.int a0] μ (zQi true D ad cA r μ') := by
  refine zMet_of "ButlerWeather" ⟨by decide, rfl⟩ (Nat.le_of_ble_eq_true rfl) ?_
  intro p e s m args below meth c X G hr hlk ls hl
  have hl : lv_has ls 1 [(0, .int a0)] := hl
  obtain ⟨hx, hb, hml, hown, hts, -, -, -⟩ := id X
  obtain ⟨Q, hQ⟩ : ∃ Q, Q = MQ below (zQi true D ad cA r μ') args s 0 0 (zA true ad) := ⟨_, rfl⟩
  rw [← hQ]
  unfold f_X6_upperBits at h
  refine lv_iload_n hx hb dX6_upperBits_0 rfl (lv_at hl 0 rfl) ?_
  refine lv_bipush (v := (16 : Int32)) hx hb dX6_upperBits_1 (by decide) ?_
  refine lv_iushr hx hb dX6_upperBits_3 rfl ?_
  rw [hQ]
  exact zz_iret X G hr hlk dX6_upperBits_4 h
set_option maxHeartbeats 4000000 in
set_option maxRecDepth 100000 in
theorem w_X6_inviteByLots_L5 {p : Program} {l : Launch} {e : Env} {s : State} {m : MethodId} {args : Array Value} {below : List Frame} {meth : Method} {c : Code} {Q : State → Prop} {D : va_G} {ad : Nat → Nat} {cA : Nat → ClassId} {r : Unit} {μ' : zM} (X : zX true D ad cA p s m args c cX6_inviteByLots "ButlerWeather" 6) (hQ : Q = MQ below (zQv true D ad cA r μ') args s 0 0 (zA true ad)) (hr : meth.sig.returnType = none) (hlk : meth.locks = false) {v2 : Int32} {kx : zM → Option (Unit × zM)} (HX : ∀ (μ : zM) (H : Heap) (locs : List Loc) (ls : Array Slot), lv_has ls 6 [] → zG true D ad cA s μ H locs → kx  μ = some (r, μ') → W p l e ({ frames := 2, cells := 0, slots := 0, locals := 44 } : Room) s m args below meth c H locs 0 0 Q (F0 m 67 ls [])) : ∀ (n : Nat) (v3 : Int32) (v4 : Int32) (μ : zM) (H : Heap) (locs : List Loc) (ls : Array Slot), lv_has ls 6 [(0, .ref (ad 0)), (2, .int v2), (3, .int v3), (4, .int v4)] → zG true D ad cA s μ H locs → f_X6_inviteByLots_L5 v2 kx n v3 v4 μ = some (r, μ') → W p l e ({ frames := 2, cells := 0, slots := 0, locals := 44 } : Room) s m args below meth c H locs 0 0 Q (F0 m 5 ls []) := by
  obtain ⟨hx, hb, hml, hown, hts, -, -, -⟩ := id X
  intro n
  induction n with
  | zero =>
    intro v3 v4 μ H locs ls hl G h
    cases (show (none : Option (Unit × zM)) = some (r, μ') from h)
  | succ n ih =>
    intro v3 v4 μ H locs ls hl G h
    rw [f_X6_inviteByLots_L5] at h
    refine lv_iload hx hb dX6_inviteByLots_5 (lv_at hl 3 rfl) ?_
    refine lv_iload_n hx hb dX6_inviteByLots_7 rfl (lv_at hl 1 rfl) ?_
    refine lv_icmp_ge (tgt := 67) hx hb dX6_inviteByLots_8 (by decide) (fun c1 => ?_) (fun c1 => ?_)
    · have h := (zz_br h).1 c1
      exact HX  μ _ _ _ (lv_sub hl [] rfl) G h
    have h := (zz_br h).2 c1
    refine lv_aload_n hx hb dX6_inviteByLots_11 rfl (lv_at hl 0 rfl) ?_
    refine zz_getr X G fr_6_5 tl_0 rl_0_5 kw_259 dX6_inviteByLots_12 ?_
    refine zz_geti X G fi_2_0 tl_34 kw_180 dX6_inviteByLots_15 h (fun x2 h => ?_)
    refine lv_if_le (tgt := 67) hx hb dX6_inviteByLots_18 (by decide) (fun c3 => ?_) (fun c3 => ?_)
    · have h := (zz_br h).1 c3
      exact HX  μ _ _ _ (lv_sub hl [] rfl) G h
    have h := (zz_br h).2 c3
    refine lv_iload_n hx hb dX6_inviteByLots_21 rfl (lv_at hl 2 rfl) ?_
    refine zz_ci (rest := []) G h (fun r μ1 hf => zz_runS X G cs_X6_nextSeed kw_672 (c_X6_nextSeed l D ad cA  hf) ⟨rfl, rfl, Nat.le_of_ble_eq_true rfl, Nat.le_of_ble_eq_true rfl⟩ rfl rfl hl.1 (Nat.le_of_ble_eq_true rfl) dX6_inviteByLots_22) (fun x4 μ H locs G h => ?_)
    refine lv_istore_n (lv' := [(3, .int x4), (0, .ref (ad 0)), (2, .int v2), (4, .int v4)]) hx hb dX6_inviteByLots_25 rfl hl (by decide) rfl (fun ls hl => ?_)
    refine lv_iload_n hx hb dX6_inviteByLots_26 rfl (lv_at hl 0 rfl) ?_
    refine zz_ci (rest := []) G h (fun r μ1 hf => zz_runS X G cs_X6_upperBits kw_676 (c_X6_upperBits l D ad cA  hf) ⟨rfl, rfl, Nat.le_of_ble_eq_true rfl, Nat.le_of_ble_eq_true rfl⟩ rfl rfl hl.1 (Nat.le_of_ble_eq_true rfl) dX6_inviteByLots_27) (fun x5 μ H locs G h => ?_)
    refine lv_bipush (v := (24 : Int32)) hx hb dX6_inviteByLots_30 (by decide) ?_
    obtain ⟨hd, h⟩ := zz_gd h
    refine lv_irem hx hb dX6_inviteByLots_32 hd ?_
    refine zz_vi h (fun x6 h => ?_)
    refine lv_istore (lv' := [(5, .int x6), (3, .int x4), (0, .ref (ad 0)), (2, .int v2), (4, .int v4)]) hx hb dX6_inviteByLots_33 hl (by decide) rfl (fun ls hl => ?_)
    refine lv_iload_n hx hb dX6_inviteByLots_35 rfl (lv_at hl 1 rfl) ?_
    refine zz_ci (rest := []) G h (fun r μ1 hf => zz_runS X G cs_X6_nextSeed kw_672 (c_X6_nextSeed l D ad cA  hf) ⟨rfl, rfl, Nat.le_of_ble_eq_true rfl, Nat.le_of_ble_eq_true rfl⟩ rfl rfl hl.1 (Nat.le_of_ble_eq_true rfl) dX6_inviteByLots_36) (fun x7 μ H locs G h => ?_)
    refine lv_istore_n (lv' := [(3, .int x7), (5, .int x6), (0, .ref (ad 0)), (2, .int v2), (4, .int v4)]) hx hb dX6_inviteByLots_39 rfl hl (by decide) rfl (fun ls hl => ?_)
    refine lv_aload_n hx hb dX6_inviteByLots_40 rfl (lv_at hl 2 rfl) ?_
    refine zz_getr X G fr_6_5 tl_0 rl_0_5 kw_259 dX6_inviteByLots_41 ?_
    refine lv_iload hx hb dX6_inviteByLots_44 (lv_at hl 1 rfl) ?_
    refine lv_iload_n hx hb dX6_inviteByLots_46 rfl (lv_at hl 0 rfl) ?_
    refine zz_ci (rest := [.int x6, .ref (ad 34)]) G h (fun r μ1 hf => zz_runS X G cs_X6_upperBits kw_676 (c_X6_upperBits l D ad cA  hf) ⟨rfl, rfl, Nat.le_of_ble_eq_true rfl, Nat.le_of_ble_eq_true rfl⟩ rfl rfl hl.1 (Nat.le_of_ble_eq_true rfl) dX6_inviteByLots_47) (fun x8 μ H locs G h => ?_)
    refine lv_aload_n hx hb dX6_inviteByLots_50 rfl (lv_at hl 2 rfl) ?_
    refine zz_getr X G fr_6_5 tl_0 rl_0_5 kw_259 dX6_inviteByLots_51 ?_
    refine zz_geti X G fi_2_0 tl_34 kw_180 dX6_inviteByLots_54 h (fun x9 h => ?_)
    obtain ⟨hd, h⟩ := zz_gd h
    refine lv_irem hx hb dX6_inviteByLots_57 hd ?_
    refine zz_cv (rest := []) G h (fun r μ1 hf => zz_runV X G rc_2 tl_34 cv_X2_invite kw_549 (c_X2_invite l D ad cA tl_34 hf) ⟨rfl, rfl, Nat.le_of_ble_eq_true rfl, Nat.le_of_ble_eq_true rfl⟩ rfl rfl hl.1 (Nat.le_of_ble_eq_true rfl) dX6_inviteByLots_58) (fun _ μ H locs G h => ?_)
    obtain ⟨x10, ex10, h⟩ := zz_let h
    refine lv_iinc (v := x10) (lv' := [(4, .int x10), (3, .int x7), (5, .int x6), (0, .ref (ad 0)), (2, .int v2)]) hx hb dX6_inviteByLots_61 hl (k := 4) rfl (by rw [← ex10]; rfl) (by decide) rfl (fun ls hl => ?_)
    refine lv_goto (tgt := 5) hx hb dX6_inviteByLots_64 (by decide) ?_
    exact ih x7 x10 μ _ _ _ (lv_sub hl [3, 4, 1, 0] rfl) G h
set_option maxHeartbeats 4000000 in
set_option maxRecDepth 100000 in
theorem c_X6_inviteByLots (l : Launch) (D : va_G) (ad : Nat → Nat) (cA : Nat → ClassId) {a1 : Int32} {a2 : Int32} {μ : zM} {r : Unit} {μ' : zM} (h : f_X6_inviteByLots a1 a2 μ = some (r, μ')) : zMet true D ad cA l yX6_inviteByLots cX6_inviteByLots 6 none ({ frames := 2, cells := 0, slots := 0, locals := 44 } : Room) [.ref (ad 0), .int a1, .int a2] μ (zQv true D ad cA r μ') := by
  refine zMet_of "ButlerWeather" ⟨by decide, rfl⟩ (Nat.le_of_ble_eq_true rfl) ?_
  intro p e s m args below meth c X G hr hlk ls hl
  have hl : lv_has ls 6 [(0, .ref (ad 0)), (1, .int a1), (2, .int a2)] := hl
  obtain ⟨hx, hb, hml, hown, hts, -, -, -⟩ := id X
  obtain ⟨Q, hQ⟩ : ∃ Q, Q = MQ below (zQv true D ad cA r μ') args s 0 0 (zA true ad) := ⟨_, rfl⟩
  rw [← hQ]
  unfold f_X6_inviteByLots at h
  refine lv_iload_n hx hb dX6_inviteByLots_0 rfl (lv_at hl 1 rfl) ?_
  refine lv_istore_n (lv' := [(3, .int a1), (0, .ref (ad 0)), (1, .int a1), (2, .int a2)]) hx hb dX6_inviteByLots_1 rfl hl (by decide) rfl (fun ls hl => ?_)
  refine lv_iconst (v := (0 : Int32)) hx hb dX6_inviteByLots_2 (by decide) ?_
  refine lv_istore (lv' := [(4, .int (0 : Int32)), (3, .int a1), (0, .ref (ad 0)), (1, .int a1), (2, .int a2)]) hx hb dX6_inviteByLots_3 hl (by decide) rfl (fun ls hl => ?_)
  refine w_X6_inviteByLots_L5 X hQ hr hlk  (fun  μ H locs ls hl G h => ?_) 400 a1 (0 : Int32) μ _ _ _ (lv_sub hl [2, 4, 1, 0] rfl) G h
  rw [hQ]
  exact zz_vret X G hr hlk dX6_inviteByLots_67 h
set_option maxHeartbeats 4000000 in
set_option maxRecDepth 100000 in
theorem c_X6_years (l : Launch) (D : va_G) (ad : Nat → Nat) (cA : Nat → ClassId) {a1 : Int32} {a2 : Int32} {a3 : Int32} {μ : zM} {r : Int32} {μ' : zM} (h : f_X6_years a1 a2 a3 μ = some (r, μ')) : zMet true D ad cA l yX6_years cX6_years 4 (some .int) ({ frames := 4, cells := 0, slots := 0, locals := 94 } : Room) [.ref (ad 0), .int a1, .int a2, .int a3] μ (zQi true D ad cA r μ') := by
  refine zMet_of "ButlerWeather" ⟨by decide, rfl⟩ (Nat.le_of_ble_eq_true rfl) ?_
  intro p e s m args below meth c X G hr hlk ls hl
  have hl : lv_has ls 4 [(0, .ref (ad 0)), (1, .int a1), (2, .int a2), (3, .int a3)] := hl
  obtain ⟨hx, hb, hml, hown, hts, -, -, -⟩ := id X
  obtain ⟨Q, hQ⟩ : ∃ Q, Q = MQ below (zQi true D ad cA r μ') args s 0 0 (zA true ad) := ⟨_, rfl⟩
  rw [← hQ]
  unfold f_X6_years at h
  refine lv_iload_n hx hb dX6_years_0 rfl (lv_at hl 2 rfl) ?_
  refine lv_iconst (v := (0 : Int32)) hx hb dX6_years_1 (by decide) ?_
  refine lv_bipush (v := (8 : Int32)) hx hb dX6_years_2 (by decide) ?_
  refine zz_ci (rest := []) G h (fun r μ1 hf => zz_runS X G cs_X6_within kw_289 (c_X6_within l D ad cA  hf) ⟨rfl, rfl, Nat.le_of_ble_eq_true rfl, Nat.le_of_ble_eq_true rfl⟩ rfl rfl hl.1 (Nat.le_of_ble_eq_true rfl) dX6_years_4) (fun x1 μ H locs G h => ?_)
  refine lv_if_eq (tgt := 19) hx hb dX6_years_7 (by decide) (fun c2 => ?_) (fun c2 => ?_)
  · have h := (zz_br h).1 c2
    refine lv_ldc hx hb hown (hts _ kw_500) dX6_years_19 ?_
    rw [hQ]
    exact zz_iret X G hr hlk dX6_years_21 h
  have h := (zz_br h).2 c2
  refine lv_iload_n hx hb dX6_years_10 rfl (lv_at hl 3 rfl) ?_
  refine lv_iconst (v := (0 : Int32)) hx hb dX6_years_11 (by decide) ?_
  refine lv_iconst (v := (1 : Int32)) hx hb dX6_years_12 (by decide) ?_
  refine zz_ci (rest := []) G h (fun r μ1 hf => zz_runS X G cs_X6_within kw_289 (c_X6_within l D ad cA  hf) ⟨rfl, rfl, Nat.le_of_ble_eq_true rfl, Nat.le_of_ble_eq_true rfl⟩ rfl rfl hl.1 (Nat.le_of_ble_eq_true rfl) dX6_years_13) (fun x3 μ H locs G h => ?_)
  refine lv_if_ne (tgt := 22) hx hb dX6_years_16 (by decide) (fun c4 => ?_) (fun c4 => ?_)
  · have h := (zz_br h).1 c4
    refine lv_aload_n hx hb dX6_years_22 rfl (lv_at hl 0 rfl) ?_
    refine zz_getr X G fr_6_5 tl_0 rl_0_5 kw_259 dX6_years_23 ?_
    refine lv_aload_n hx hb dX6_years_26 rfl (lv_at hl 0 rfl) ?_
    refine zz_cr (rest := [.ref (ad 34)]) G h (fun r μ1 hf => zz_runV X G rc_6 tl_0 cv_X6_told kw_332 (c_X6_told l D ad cA  hf) ⟨rfl, rfl, Nat.le_of_ble_eq_true rfl, Nat.le_of_ble_eq_true rfl⟩ rfl rfl hl.1 (Nat.le_of_ble_eq_true rfl) dX6_years_27) (fun _ μ H locs G h => ?_)
    refine zz_cv (rest := []) G h (fun r μ1 hf => zz_runV X G rc_2 tl_34 cv_X2_become kw_545 (c_X2_become l D ad cA tl_34 tl_21 hf) ⟨rfl, rfl, Nat.le_of_ble_eq_true rfl, Nat.le_of_ble_eq_true rfl⟩ rfl rfl hl.1 (Nat.le_of_ble_eq_true rfl) dX6_years_30) (fun _ μ H locs G h => ?_)
    refine lv_aload_n hx hb dX6_years_33 rfl (lv_at hl 0 rfl) ?_
    refine zz_getr X G fr_6_5 tl_0 rl_0_5 kw_259 dX6_years_34 ?_
    refine zz_cv (rest := []) G h (fun r μ1 hf => zz_runV X G rc_2 tl_34 cv_X2_uninviteAll kw_667 (c_X2_uninviteAll l D ad cA tl_34 hf) ⟨rfl, rfl, Nat.le_of_ble_eq_true rfl, Nat.le_of_ble_eq_true rfl⟩ rfl rfl hl.1 (Nat.le_of_ble_eq_true rfl) dX6_years_37) (fun _ μ H locs G h => ?_)
    refine lv_aload_n hx hb dX6_years_40 rfl (lv_at hl 0 rfl) ?_
    refine zz_getr X G fr_6_5 tl_0 rl_0_5 kw_259 dX6_years_41 ?_
    refine zz_geti X G fi_2_0 tl_34 kw_180 dX6_years_44 h (fun x5 h => ?_)
    refine Exists.elim (zz_jn (P := fun (j : zM → Option (Int32 × zM)) => ∀ (μ : zM) (H : Heap) (locs : List Loc) (ls : Array Slot), lv_has ls 4 [(0, .ref (ad 0)), (3, .int a3)] → zG true D ad cA s μ H locs → j  μ = some (r, μ') → W p l e ({ frames := 4, cells := 0, slots := 0, locals := 94 } : Room) s m args below meth c H locs 0 0 Q (F0 m 56 ls [])) h ?_) (fun j56_1 hj => ?_)
    · intro  μ H locs ls hl G h
      refine lv_aload_n hx hb dX6_years_56 rfl (lv_at hl 0 rfl) ?_
      refine zz_getr X G fr_6_5 tl_0 rl_0_5 kw_259 dX6_years_57 ?_
      refine zz_cv (rest := []) G h (fun r μ1 hf => zz_runV X G rc_2 tl_34 cv_X2_live kw_370 (c_X2_live l D ad cA tl_34 hf) ⟨rfl, rfl, Nat.le_of_ble_eq_true rfl, Nat.le_of_ble_eq_true rfl⟩ rfl rfl hl.1 (Nat.le_of_ble_eq_true rfl) dX6_years_60) (fun _ μ H locs G h => ?_)
      refine lv_iload_n hx hb dX6_years_63 rfl (lv_at hl 1 rfl) ?_
      refine lv_if_ne (tgt := 80) hx hb dX6_years_64 (by decide) (fun c6 => ?_) (fun c6 => ?_)
      · have h := (zz_br h).1 c6
        refine lv_aload_n hx hb dX6_years_80 rfl (lv_at hl 0 rfl) ?_
        refine zz_getr X G fr_6_5 tl_0 rl_0_5 kw_259 dX6_years_81 ?_
        refine zz_ci (rest := []) G h (fun r μ1 hf => zz_runV X G rc_2 tl_34 cv_X2_total kw_537 (c_X2_total l D ad cA tl_34 hf) ⟨rfl, rfl, Nat.le_of_ble_eq_true rfl, Nat.le_of_ble_eq_true rfl⟩ rfl rfl hl.1 (Nat.le_of_ble_eq_true rfl) dX6_years_84) (fun x7 μ H locs G h => ?_)
        rw [hQ]
        exact zz_iret X G hr hlk dX6_years_87 h
      have h := (zz_br h).2 (fun q => q c6)
      refine lv_aload_n hx hb dX6_years_67 rfl (lv_at hl 0 rfl) ?_
      refine zz_getr X G fr_6_5 tl_0 rl_0_5 kw_259 dX6_years_68 ?_
      refine zz_ci (rest := []) G h (fun r μ1 hf => zz_runV X G rc_2 tl_34 cv_X2_everIn kw_555 (c_X2_everIn l D ad cA tl_34 hf) ⟨rfl, rfl, Nat.le_of_ble_eq_true rfl, Nat.le_of_ble_eq_true rfl⟩ rfl rfl hl.1 (Nat.le_of_ble_eq_true rfl) dX6_years_71) (fun x8 μ H locs G h => ?_)
      refine zz_ci (rest := []) G h (fun r μ1 hf => zz_runS X G cs_J6_bitCount_0f7a4 kw_559 (c_J6_bitCount_0f7a4 l D ad cA  hf) ⟨rfl, rfl, Nat.le_of_ble_eq_true rfl, Nat.le_of_ble_eq_true rfl⟩ rfl rfl hl.1 (Nat.le_of_ble_eq_true rfl) dX6_years_74) (fun x9 μ H locs G h => ?_)
      refine lv_goto (tgt := 87) hx hb dX6_years_77 (by decide) ?_
      rw [hQ]
      exact zz_iret X G hr hlk dX6_years_87 h
    obtain ⟨hj56_1, h⟩ := hj
    refine lv_if_le (tgt := 56) hx hb dX6_years_47 (by decide) (fun c10 => ?_) (fun c10 => ?_)
    · have h := (zz_br h).1 c10
      exact hj56_1  μ _ _ _ (lv_sub hl [0, 3] rfl) G h
    have h := (zz_br h).2 c10
    refine lv_aload_n hx hb dX6_years_50 rfl (lv_at hl 0 rfl) ?_
    refine lv_iload_n hx hb dX6_years_51 rfl (lv_at hl 1 rfl) ?_
    refine lv_iload_n hx hb dX6_years_52 rfl (lv_at hl 2 rfl) ?_
    refine zz_cv (rest := []) G h (fun r μ1 hf => zz_runV X G rc_6 tl_0 cv_X6_inviteByLots kw_668 (c_X6_inviteByLots l D ad cA  hf) ⟨rfl, rfl, Nat.le_of_ble_eq_true rfl, Nat.le_of_ble_eq_true rfl⟩ rfl rfl hl.1 (Nat.le_of_ble_eq_true rfl) dX6_years_53) (fun _ μ H locs G h => ?_)
    exact hj56_1  μ _ _ _ (lv_sub hl [0, 3] rfl) G h
  have h := (zz_br h).2 (fun q => q c4)
  refine lv_ldc hx hb hown (hts _ kw_500) dX6_years_19 ?_
  rw [hQ]
  exact zz_iret X G hr hlk dX6_years_21 h
set_option maxHeartbeats 4000000 in
set_option maxRecDepth 100000 in
theorem c_X6_isForm (l : Launch) (D : va_G) (ad : Nat → Nat) (cA : Nat → ClassId) {a0 : Int32} {μ : zM} {r : Int32} {μ' : zM} (h : f_X6_isForm a0 μ = some (r, μ')) : zMet true D ad cA l yX6_isForm cX6_isForm 1 (some .boolean) ({ frames := 1, cells := 0, slots := 0, locals := 22 } : Room) [.int a0] μ (zQi true D ad cA r μ') := by
  refine zMet_of "ButlerWeather" ⟨by decide, rfl⟩ (Nat.le_of_ble_eq_true rfl) ?_
  intro p e s m args below meth c X G hr hlk ls hl
  have hl : lv_has ls 1 [(0, .int a0)] := hl
  obtain ⟨hx, hb, hml, hown, hts, -, -, -⟩ := id X
  obtain ⟨Q, hQ⟩ : ∃ Q, Q = MQ below (zQi true D ad cA r μ') args s 0 0 (zA true ad) := ⟨_, rfl⟩
  rw [← hQ]
  unfold f_X6_isForm at h
  refine lv_iload_n hx hb dX6_isForm_0 rfl (lv_at hl 0 rfl) ?_
  refine lv_iconst (v := (0 : Int32)) hx hb dX6_isForm_1 (by decide) ?_
  refine lv_iconst (v := (2 : Int32)) hx hb dX6_isForm_2 (by decide) ?_
  refine zz_ci (rest := []) G h (fun r μ1 hf => zz_runS X G cs_X6_within kw_289 (c_X6_within l D ad cA  hf) ⟨rfl, rfl, Nat.le_of_ble_eq_true rfl, Nat.le_of_ble_eq_true rfl⟩ rfl rfl hl.1 (Nat.le_of_ble_eq_true rfl) dX6_isForm_3) (fun x1 μ H locs G h => ?_)
  rw [hQ]
  exact zz_zret X G hr hlk dX6_isForm_6 h
set_option maxHeartbeats 4000000 in
set_option maxRecDepth 100000 in
theorem c_X6_sheet (l : Launch) (D : va_G) (ad : Nat → Nat) (cA : Nat → ClassId) {a1 : Int32} {a2 : Int32} {a3 : Int32} {μ : zM} {r : Int32} {μ' : zM} (h : f_X6_sheet a1 a2 a3 μ = some (r, μ')) : zMet true D ad cA l yX6_sheet cX6_sheet 4 (some .int) ({ frames := 2, cells := 0, slots := 0, locals := 42 } : Room) [.ref (ad 0), .int a1, .int a2, .int a3] μ (zQi true D ad cA r μ') := by
  refine zMet_of "ButlerWeather" ⟨by decide, rfl⟩ (Nat.le_of_ble_eq_true rfl) ?_
  intro p e s m args below meth c X G hr hlk ls hl
  have hl : lv_has ls 4 [(0, .ref (ad 0)), (1, .int a1), (2, .int a2), (3, .int a3)] := hl
  obtain ⟨hx, hb, hml, hown, hts, -, -, -⟩ := id X
  obtain ⟨Q, hQ⟩ : ∃ Q, Q = MQ below (zQi true D ad cA r μ') args s 0 0 (zA true ad) := ⟨_, rfl⟩
  rw [← hQ]
  unfold f_X6_sheet at h
  refine lv_iload_n hx hb dX6_sheet_0 rfl (lv_at hl 1 rfl) ?_
  refine zz_ci (rest := []) G h (fun r μ1 hf => zz_runS X G cs_X6_isSheet kw_445 (c_X6_isSheet l D ad cA  hf) ⟨rfl, rfl, Nat.le_of_ble_eq_true rfl, Nat.le_of_ble_eq_true rfl⟩ rfl rfl hl.1 (Nat.le_of_ble_eq_true rfl) dX6_sheet_1) (fun x1 μ H locs G h => ?_)
  refine lv_if_eq (tgt := 20) hx hb dX6_sheet_4 (by decide) (fun c2 => ?_) (fun c2 => ?_)
  · have h := (zz_br h).1 c2
    refine lv_bipush (v := (-2 : Int32)) hx hb dX6_sheet_20 (by decide) ?_
    rw [hQ]
    exact zz_iret X G hr hlk dX6_sheet_22 h
  have h := (zz_br h).2 c2
  refine lv_iload_n hx hb dX6_sheet_7 rfl (lv_at hl 2 rfl) ?_
  refine zz_ci (rest := []) G h (fun r μ1 hf => zz_runS X G cs_X6_isForm kw_683 (c_X6_isForm l D ad cA  hf) ⟨rfl, rfl, Nat.le_of_ble_eq_true rfl, Nat.le_of_ble_eq_true rfl⟩ rfl rfl hl.1 (Nat.le_of_ble_eq_true rfl) dX6_sheet_8) (fun x3 μ H locs G h => ?_)
  refine lv_if_eq (tgt := 20) hx hb dX6_sheet_11 (by decide) (fun c4 => ?_) (fun c4 => ?_)
  · have h := (zz_br h).1 c4
    refine lv_bipush (v := (-2 : Int32)) hx hb dX6_sheet_20 (by decide) ?_
    rw [hQ]
    exact zz_iret X G hr hlk dX6_sheet_22 h
  have h := (zz_br h).2 c4
  refine lv_iload_n hx hb dX6_sheet_14 rfl (lv_at hl 3 rfl) ?_
  refine lv_bipush (v := (60 : Int32)) hx hb dX6_sheet_15 (by decide) ?_
  refine lv_icmp_le (tgt := 23) hx hb dX6_sheet_17 (by decide) (fun c5 => ?_) (fun c5 => ?_)
  · have h := (zz_br h).1 c5
    refine lv_iload_n hx hb dX6_sheet_23 rfl (lv_at hl 3 rfl) ?_
    refine lv_if_ge (tgt := 33) hx hb dX6_sheet_24 (by decide) (fun c6 => ?_) (fun c6 => ?_)
    · have h := (zz_br h).1 c6
      refine lv_aload_n hx hb dX6_sheet_33 rfl (lv_at hl 0 rfl) ?_
      refine zz_getr X G fr_6_3 tl_0 rl_0_3 kw_257 dX6_sheet_34 ?_
      refine lv_iload_n hx hb dX6_sheet_37 rfl (lv_at hl 1 rfl) ?_
      refine zz_aald X G ra_14 tl_12 dX6_sheet_38 h (fun q7 hq7 h => ?_)
      refine lv_iload_n hx hb dX6_sheet_39 rfl (lv_at hl 2 rfl) ?_
      refine lv_iload_n hx hb dX6_sheet_40 rfl (lv_at hl 3 rfl) ?_
      refine zz_cv (rest := []) G h (fun r μ1 hf => zz_runV X G rc_4 (rt_12 hq7) cv_X4_renew kw_686 (c_X4_renew l D ad cA (rt_12 hq7) hf) ⟨rfl, rfl, Nat.le_of_ble_eq_true rfl, Nat.le_of_ble_eq_true rfl⟩ rfl rfl hl.1 (Nat.le_of_ble_eq_true rfl) dX6_sheet_41) (fun _ μ H locs G h => ?_)
      refine lv_iload_n hx hb dX6_sheet_44 rfl (lv_at hl 3 rfl) ?_
      rw [hQ]
      exact zz_iret X G hr hlk dX6_sheet_45 h
    have h := (zz_br h).2 c6
    refine lv_aload_n hx hb dX6_sheet_27 rfl (lv_at hl 0 rfl) ?_
    refine lv_iconst (v := (5 : Int32)) hx hb dX6_sheet_28 (by decide) ?_
    refine zz_ci (rest := []) G h (fun r μ1 hf => zz_runV X G rc_6 tl_0 cv_X6_found kw_452 (c_X6_found l D ad cA  hf) ⟨rfl, rfl, Nat.le_of_ble_eq_true rfl, Nat.le_of_ble_eq_true rfl⟩ rfl rfl hl.1 (Nat.le_of_ble_eq_true rfl) dX6_sheet_29) (fun x8 μ H locs G h => ?_)
    rw [hQ]
    exact zz_iret X G hr hlk dX6_sheet_32 h
  have h := (zz_br h).2 c5
  refine lv_bipush (v := (-2 : Int32)) hx hb dX6_sheet_20 (by decide) ?_
  rw [hQ]
  exact zz_iret X G hr hlk dX6_sheet_22 h
set_option maxHeartbeats 4000000 in
set_option maxRecDepth 100000 in
theorem c_X6_lose (l : Launch) (D : va_G) (ad : Nat → Nat) (cA : Nat → ClassId) {a1 : Int32} {μ : zM} {r : Int32} {μ' : zM} (h : f_X6_lose a1 μ = some (r, μ')) : zMet true D ad cA l yX6_lose cX6_lose 2 (some .int) ({ frames := 2, cells := 0, slots := 0, locals := 42 } : Room) [.ref (ad 0), .int a1] μ (zQi true D ad cA r μ') := by
  refine zMet_of "ButlerWeather" ⟨by decide, rfl⟩ (Nat.le_of_ble_eq_true rfl) ?_
  intro p e s m args below meth c X G hr hlk ls hl
  have hl : lv_has ls 2 [(0, .ref (ad 0)), (1, .int a1)] := hl
  obtain ⟨hx, hb, hml, hown, hts, -, -, -⟩ := id X
  obtain ⟨Q, hQ⟩ : ∃ Q, Q = MQ below (zQi true D ad cA r μ') args s 0 0 (zA true ad) := ⟨_, rfl⟩
  rw [← hQ]
  unfold f_X6_lose at h
  refine lv_iload_n hx hb dX6_lose_0 rfl (lv_at hl 1 rfl) ?_
  refine zz_ci (rest := []) G h (fun r μ1 hf => zz_runS X G cs_X6_isSheet kw_445 (c_X6_isSheet l D ad cA  hf) ⟨rfl, rfl, Nat.le_of_ble_eq_true rfl, Nat.le_of_ble_eq_true rfl⟩ rfl rfl hl.1 (Nat.le_of_ble_eq_true rfl) dX6_lose_1) (fun x1 μ H locs G h => ?_)
  refine lv_if_ne (tgt := 10) hx hb dX6_lose_4 (by decide) (fun c2 => ?_) (fun c2 => ?_)
  · have h := (zz_br h).1 c2
    refine lv_aload_n hx hb dX6_lose_10 rfl (lv_at hl 0 rfl) ?_
    refine zz_getr X G fr_6_3 tl_0 rl_0_3 kw_257 dX6_lose_11 ?_
    refine lv_iload_n hx hb dX6_lose_14 rfl (lv_at hl 1 rfl) ?_
    refine zz_aald X G ra_14 tl_12 dX6_lose_15 h (fun q3 hq3 h => ?_)
    refine zz_ci (rest := []) G h (fun r μ1 hf => zz_runV X G rc_4 (rt_12 hq3) cv_X4_isLost kw_448 (c_X4_isLost l D ad cA (rt_12 hq3) hf) ⟨rfl, rfl, Nat.le_of_ble_eq_true rfl, Nat.le_of_ble_eq_true rfl⟩ rfl rfl hl.1 (Nat.le_of_ble_eq_true rfl) dX6_lose_16) (fun x4 μ H locs G h => ?_)
    refine lv_if_eq (tgt := 28) hx hb dX6_lose_19 (by decide) (fun c5 => ?_) (fun c5 => ?_)
    · have h := (zz_br h).1 c5
      refine lv_aload_n hx hb dX6_lose_28 rfl (lv_at hl 0 rfl) ?_
      refine zz_getr X G fr_6_3 tl_0 rl_0_3 kw_257 dX6_lose_29 ?_
      refine lv_iload_n hx hb dX6_lose_32 rfl (lv_at hl 1 rfl) ?_
      refine zz_aald X G ra_14 tl_12 dX6_lose_33 h (fun q6 hq6 h => ?_)
      refine zz_ci (rest := []) G h (fun r μ1 hf => zz_runV X G rc_4 (rt_12 hq6) cv_X4_beLost kw_694 (c_X4_beLost l D ad cA (rt_12 hq6) hf) ⟨rfl, rfl, Nat.le_of_ble_eq_true rfl, Nat.le_of_ble_eq_true rfl⟩ rfl rfl hl.1 (Nat.le_of_ble_eq_true rfl) dX6_lose_34) (fun x7 μ H locs G h => ?_)
      rw [hQ]
      exact zz_iret X G hr hlk dX6_lose_37 h
    have h := (zz_br h).2 c5
    refine lv_aload_n hx hb dX6_lose_22 rfl (lv_at hl 0 rfl) ?_
    refine lv_iconst (v := (1 : Int32)) hx hb dX6_lose_23 (by decide) ?_
    refine zz_ci (rest := []) G h (fun r μ1 hf => zz_runV X G rc_6 tl_0 cv_X6_found kw_452 (c_X6_found l D ad cA  hf) ⟨rfl, rfl, Nat.le_of_ble_eq_true rfl, Nat.le_of_ble_eq_true rfl⟩ rfl rfl hl.1 (Nat.le_of_ble_eq_true rfl) dX6_lose_24) (fun x8 μ H locs G h => ?_)
    rw [hQ]
    exact zz_iret X G hr hlk dX6_lose_27 h
  have h := (zz_br h).2 (fun q => q c2)
  refine lv_bipush (v := (-2 : Int32)) hx hb dX6_lose_7 (by decide) ?_
  rw [hQ]
  exact zz_iret X G hr hlk dX6_lose_9 h
set_option maxHeartbeats 4000000 in
set_option maxRecDepth 100000 in
theorem c_X6_put (l : Launch) (D : va_G) (ad : Nat → Nat) (cA : Nat → ClassId) {a1 : Int32} {a2 : Int32} {a3 : Int32} {a4 : Int32} {μ : zM} {r : Int32} {μ' : zM} (h : f_X6_put a1 a2 a3 a4 μ = some (r, μ')) : zMet true D ad cA l yX6_put cX6_put 6 (some .int) ({ frames := 2, cells := 0, slots := 0, locals := 44 } : Room) [.ref (ad 0), .int a1, .int a2, .int a3, .int a4] μ (zQi true D ad cA r μ') := by
  refine zMet_of "ButlerWeather" ⟨by decide, rfl⟩ (Nat.le_of_ble_eq_true rfl) ?_
  intro p e s m args below meth c X G hr hlk ls hl
  have hl : lv_has ls 6 [(0, .ref (ad 0)), (1, .int a1), (2, .int a2), (3, .int a3), (4, .int a4)] := hl
  obtain ⟨hx, hb, hml, hown, hts, -, -, -⟩ := id X
  obtain ⟨Q, hQ⟩ : ∃ Q, Q = MQ below (zQi true D ad cA r μ') args s 0 0 (zA true ad) := ⟨_, rfl⟩
  rw [← hQ]
  unfold f_X6_put at h
  refine lv_iload_n hx hb dX6_put_0 rfl (lv_at hl 1 rfl) ?_
  refine zz_ci (rest := []) G h (fun r μ1 hf => zz_runS X G cs_X6_isSheet kw_445 (c_X6_isSheet l D ad cA  hf) ⟨rfl, rfl, Nat.le_of_ble_eq_true rfl, Nat.le_of_ble_eq_true rfl⟩ rfl rfl hl.1 (Nat.le_of_ble_eq_true rfl) dX6_put_1) (fun x1 μ H locs G h => ?_)
  refine lv_if_eq (tgt := 14) hx hb dX6_put_4 (by decide) (fun c2 => ?_) (fun c2 => ?_)
  · have h := (zz_br h).1 c2
    refine lv_bipush (v := (-2 : Int32)) hx hb dX6_put_14 (by decide) ?_
    rw [hQ]
    exact zz_iret X G hr hlk dX6_put_16 h
  have h := (zz_br h).2 c2
  refine lv_iload_n hx hb dX6_put_7 rfl (lv_at hl 2 rfl) ?_
  refine zz_ci (rest := []) G h (fun r μ1 hf => zz_runS X G cs_X6_isForm kw_683 (c_X6_isForm l D ad cA  hf) ⟨rfl, rfl, Nat.le_of_ble_eq_true rfl, Nat.le_of_ble_eq_true rfl⟩ rfl rfl hl.1 (Nat.le_of_ble_eq_true rfl) dX6_put_8) (fun x3 μ H locs G h => ?_)
  refine lv_if_ne (tgt := 17) hx hb dX6_put_11 (by decide) (fun c4 => ?_) (fun c4 => ?_)
  · have h := (zz_br h).1 c4
    refine lv_aload_n hx hb dX6_put_17 rfl (lv_at hl 0 rfl) ?_
    refine zz_getr X G fr_6_3 tl_0 rl_0_3 kw_257 dX6_put_18 ?_
    refine lv_iload_n hx hb dX6_put_21 rfl (lv_at hl 1 rfl) ?_
    refine zz_aald X G ra_14 tl_12 dX6_put_22 h (fun q5 hq5 h => ?_)
    refine lv_iload_n hx hb dX6_put_23 rfl (lv_at hl 2 rfl) ?_
    refine lv_iload_n hx hb dX6_put_24 rfl (lv_at hl 3 rfl) ?_
    refine zz_ci (rest := []) G h (fun r μ1 hf => zz_runV X G rc_4 (rt_12 hq5) cv_X4_hindrance kw_702 (c_X4_hindrance l D ad cA (rt_12 hq5) hf) ⟨rfl, rfl, Nat.le_of_ble_eq_true rfl, Nat.le_of_ble_eq_true rfl⟩ rfl rfl hl.1 (Nat.le_of_ble_eq_true rfl) dX6_put_25) (fun x6 μ H locs G h => ?_)
    refine lv_istore (lv' := [(5, .int x6), (0, .ref (ad 0)), (1, .int a1), (2, .int a2), (3, .int a3), (4, .int a4)]) hx hb dX6_put_28 hl (by decide) rfl (fun ls hl => ?_)
    refine lv_iload hx hb dX6_put_30 (lv_at hl 0 rfl) ?_
    refine lv_if_eq (tgt := 42) hx hb dX6_put_32 (by decide) (fun c7 => ?_) (fun c7 => ?_)
    · have h := (zz_br h).1 c7
      refine lv_aload_n hx hb dX6_put_42 rfl (lv_at hl 1 rfl) ?_
      refine zz_getr X G fr_6_3 tl_0 rl_0_3 kw_257 dX6_put_43 ?_
      refine lv_iload_n hx hb dX6_put_46 rfl (lv_at hl 2 rfl) ?_
      refine zz_aald X G ra_14 tl_12 dX6_put_47 h (fun q8 hq8 h => ?_)
      refine lv_iload_n hx hb dX6_put_48 rfl (lv_at hl 4 rfl) ?_
      refine lv_iload hx hb dX6_put_49 (lv_at hl 5 rfl) ?_
      refine zz_cv (rest := []) G h (fun r μ1 hf => zz_runV X G rc_4 (rt_12 hq8) cv_X4_store kw_708 (c_X4_store l D ad cA (rt_12 hq8) hf) ⟨rfl, rfl, Nat.le_of_ble_eq_true rfl, Nat.le_of_ble_eq_true rfl⟩ rfl rfl hl.1 (Nat.le_of_ble_eq_true rfl) dX6_put_51) (fun _ μ H locs G h => ?_)
      refine lv_iconst (v := (1 : Int32)) hx hb dX6_put_54 (by decide) ?_
      rw [hQ]
      exact zz_iret X G hr hlk dX6_put_55 h
    have h := (zz_br h).2 c7
    refine lv_aload_n hx hb dX6_put_35 rfl (lv_at hl 1 rfl) ?_
    refine lv_iload hx hb dX6_put_36 (lv_at hl 0 rfl) ?_
    refine zz_ci (rest := []) G h (fun r μ1 hf => zz_runV X G rc_6 tl_0 cv_X6_found kw_452 (c_X6_found l D ad cA  hf) ⟨rfl, rfl, Nat.le_of_ble_eq_true rfl, Nat.le_of_ble_eq_true rfl⟩ rfl rfl hl.1 (Nat.le_of_ble_eq_true rfl) dX6_put_38) (fun x9 μ H locs G h => ?_)
    rw [hQ]
    exact zz_iret X G hr hlk dX6_put_41 h
  have h := (zz_br h).2 (fun q => q c4)
  refine lv_bipush (v := (-2 : Int32)) hx hb dX6_put_14 (by decide) ?_
  rw [hQ]
  exact zz_iret X G hr hlk dX6_put_16 h
set_option maxHeartbeats 4000000 in
set_option maxRecDepth 100000 in
theorem c_X6_get (l : Launch) (D : va_G) (ad : Nat → Nat) (cA : Nat → ClassId) {a1 : Int32} {a2 : Int32} {a3 : Int32} {μ : zM} {r : Int32} {μ' : zM} (h : f_X6_get a1 a2 a3 μ = some (r, μ')) : zMet true D ad cA l yX6_get cX6_get 5 (some .int) ({ frames := 2, cells := 0, slots := 0, locals := 44 } : Room) [.ref (ad 0), .int a1, .int a2, .int a3] μ (zQi true D ad cA r μ') := by
  refine zMet_of "ButlerWeather" ⟨by decide, rfl⟩ (Nat.le_of_ble_eq_true rfl) ?_
  intro p e s m args below meth c X G hr hlk ls hl
  have hl : lv_has ls 5 [(0, .ref (ad 0)), (1, .int a1), (2, .int a2), (3, .int a3)] := hl
  obtain ⟨hx, hb, hml, hown, hts, -, -, -⟩ := id X
  obtain ⟨Q, hQ⟩ : ∃ Q, Q = MQ below (zQi true D ad cA r μ') args s 0 0 (zA true ad) := ⟨_, rfl⟩
  rw [← hQ]
  unfold f_X6_get at h
  refine lv_iload_n hx hb dX6_get_0 rfl (lv_at hl 1 rfl) ?_
  refine zz_ci (rest := []) G h (fun r μ1 hf => zz_runS X G cs_X6_isSheet kw_445 (c_X6_isSheet l D ad cA  hf) ⟨rfl, rfl, Nat.le_of_ble_eq_true rfl, Nat.le_of_ble_eq_true rfl⟩ rfl rfl hl.1 (Nat.le_of_ble_eq_true rfl) dX6_get_1) (fun x1 μ H locs G h => ?_)
  refine lv_if_eq (tgt := 14) hx hb dX6_get_4 (by decide) (fun c2 => ?_) (fun c2 => ?_)
  · have h := (zz_br h).1 c2
    refine lv_ldc hx hb hown (hts _ kw_500) dX6_get_14 ?_
    rw [hQ]
    exact zz_iret X G hr hlk dX6_get_16 h
  have h := (zz_br h).2 c2
  refine lv_iload_n hx hb dX6_get_7 rfl (lv_at hl 2 rfl) ?_
  refine zz_ci (rest := []) G h (fun r μ1 hf => zz_runS X G cs_X6_isForm kw_683 (c_X6_isForm l D ad cA  hf) ⟨rfl, rfl, Nat.le_of_ble_eq_true rfl, Nat.le_of_ble_eq_true rfl⟩ rfl rfl hl.1 (Nat.le_of_ble_eq_true rfl) dX6_get_8) (fun x3 μ H locs G h => ?_)
  refine lv_if_ne (tgt := 17) hx hb dX6_get_11 (by decide) (fun c4 => ?_) (fun c4 => ?_)
  · have h := (zz_br h).1 c4
    refine lv_aload_n hx hb dX6_get_17 rfl (lv_at hl 0 rfl) ?_
    refine zz_getr X G fr_6_3 tl_0 rl_0_3 kw_257 dX6_get_18 ?_
    refine lv_iload_n hx hb dX6_get_21 rfl (lv_at hl 1 rfl) ?_
    refine zz_aald X G ra_14 tl_12 dX6_get_22 h (fun q5 hq5 h => ?_)
    refine lv_iload_n hx hb dX6_get_23 rfl (lv_at hl 2 rfl) ?_
    refine lv_iload_n hx hb dX6_get_24 rfl (lv_at hl 3 rfl) ?_
    refine zz_ci (rest := []) G h (fun r μ1 hf => zz_runV X G rc_4 (rt_12 hq5) cv_X4_hindrance kw_702 (c_X4_hindrance l D ad cA (rt_12 hq5) hf) ⟨rfl, rfl, Nat.le_of_ble_eq_true rfl, Nat.le_of_ble_eq_true rfl⟩ rfl rfl hl.1 (Nat.le_of_ble_eq_true rfl) dX6_get_25) (fun x6 μ H locs G h => ?_)
    refine lv_istore (lv' := [(4, .int x6), (0, .ref (ad 0)), (1, .int a1), (2, .int a2), (3, .int a3)]) hx hb dX6_get_28 hl (by decide) rfl (fun ls hl => ?_)
    refine lv_iload hx hb dX6_get_30 (lv_at hl 0 rfl) ?_
    refine lv_if_eq (tgt := 44) hx hb dX6_get_32 (by decide) (fun c7 => ?_) (fun c7 => ?_)
    · have h := (zz_br h).1 c7
      refine lv_aload_n hx hb dX6_get_44 rfl (lv_at hl 1 rfl) ?_
      refine zz_getr X G fr_6_3 tl_0 rl_0_3 kw_257 dX6_get_45 ?_
      refine lv_iload_n hx hb dX6_get_48 rfl (lv_at hl 2 rfl) ?_
      refine zz_aald X G ra_14 tl_12 dX6_get_49 h (fun q8 hq8 h => ?_)
      refine zz_getr X G fr_4_2 (rt_12 hq8) (rs_4_2 (rt_12 hq8)) kw_164 dX6_get_50 ?_
      refine lv_iload_n hx hb dX6_get_53 rfl (lv_at hl 4 rfl) ?_
      refine zz_iald X G ia_10 (ft_4_2 (rt_12 hq8)) dX6_get_54 h (fun x9 h => ?_)
      rw [hQ]
      exact zz_iret X G hr hlk dX6_get_55 h
    have h := (zz_br h).2 c7
    refine lv_aload_n hx hb dX6_get_35 rfl (lv_at hl 1 rfl) ?_
    refine lv_iload hx hb dX6_get_36 (lv_at hl 0 rfl) ?_
    refine zz_puti X G fp_6_8 tl_0 kw_262 rfl rfl dX6_get_38 h (fun μ H locs G h => ?_)
    refine lv_ldc hx hb hown (hts _ kw_500) dX6_get_41 ?_
    rw [hQ]
    exact zz_iret X G hr hlk dX6_get_43 h
  have h := (zz_br h).2 (fun q => q c4)
  refine lv_ldc hx hb hown (hts _ kw_500) dX6_get_14 ?_
  rw [hQ]
  exact zz_iret X G hr hlk dX6_get_16 h
set_option maxHeartbeats 4000000 in
set_option maxRecDepth 100000 in
theorem c_X6_copy (l : Launch) (D : va_G) (ad : Nat → Nat) (cA : Nat → ClassId) {a1 : Int32} {a2 : Int32} {a3 : Int32} {a4 : Int32} {a5 : Int32} {μ : zM} {r : Int32} {μ' : zM} (h : f_X6_copy a1 a2 a3 a4 a5 μ = some (r, μ')) : zMet true D ad cA l yX6_copy cX6_copy 8 (some .int) ({ frames := 2, cells := 0, slots := 0, locals := 44 } : Room) [.ref (ad 0), .int a1, .int a2, .int a3, .int a4, .int a5] μ (zQi true D ad cA r μ') := by
  refine zMet_of "ButlerWeather" ⟨by decide, rfl⟩ (Nat.le_of_ble_eq_true rfl) ?_
  intro p e s m args below meth c X G hr hlk ls hl
  have hl : lv_has ls 8 [(0, .ref (ad 0)), (1, .int a1), (2, .int a2), (3, .int a3), (4, .int a4), (5, .int a5)] := hl
  obtain ⟨hx, hb, hml, hown, hts, -, -, -⟩ := id X
  obtain ⟨Q, hQ⟩ : ∃ Q, Q = MQ below (zQi true D ad cA r μ') args s 0 0 (zA true ad) := ⟨_, rfl⟩
  rw [← hQ]
  unfold f_X6_copy at h
  refine lv_iload_n hx hb dX6_copy_0 rfl (lv_at hl 1 rfl) ?_
  refine zz_ci (rest := []) G h (fun r μ1 hf => zz_runS X G cs_X6_isSheet kw_445 (c_X6_isSheet l D ad cA  hf) ⟨rfl, rfl, Nat.le_of_ble_eq_true rfl, Nat.le_of_ble_eq_true rfl⟩ rfl rfl hl.1 (Nat.le_of_ble_eq_true rfl) dX6_copy_1) (fun x1 μ H locs G h => ?_)
  refine lv_if_eq (tgt := 14) hx hb dX6_copy_4 (by decide) (fun c2 => ?_) (fun c2 => ?_)
  · have h := (zz_br h).1 c2
    refine lv_bipush (v := (-2 : Int32)) hx hb dX6_copy_14 (by decide) ?_
    rw [hQ]
    exact zz_iret X G hr hlk dX6_copy_16 h
  have h := (zz_br h).2 c2
  refine lv_iload_n hx hb dX6_copy_7 rfl (lv_at hl 3 rfl) ?_
  refine zz_ci (rest := []) G h (fun r μ1 hf => zz_runS X G cs_X6_isSheet kw_445 (c_X6_isSheet l D ad cA  hf) ⟨rfl, rfl, Nat.le_of_ble_eq_true rfl, Nat.le_of_ble_eq_true rfl⟩ rfl rfl hl.1 (Nat.le_of_ble_eq_true rfl) dX6_copy_8) (fun x3 μ H locs G h => ?_)
  refine lv_if_ne (tgt := 17) hx hb dX6_copy_11 (by decide) (fun c4 => ?_) (fun c4 => ?_)
  · have h := (zz_br h).1 c4
    refine lv_aload_n hx hb dX6_copy_17 rfl (lv_at hl 0 rfl) ?_
    refine zz_getr X G fr_6_3 tl_0 rl_0_3 kw_257 dX6_copy_18 ?_
    refine lv_iload_n hx hb dX6_copy_21 rfl (lv_at hl 1 rfl) ?_
    refine zz_aald X G ra_14 tl_12 dX6_copy_22 h (fun q5 hq5 h => ?_)
    refine lv_astore (lv' := [(6, .ref (ad q5)), (0, .ref (ad 0)), (1, .int a1), (2, .int a2), (3, .int a3), (4, .int a4), (5, .int a5)]) hx hb dX6_copy_23 hl (by decide) rfl (fun ls hl => ?_)
    refine lv_aload_n hx hb dX6_copy_25 rfl (lv_at hl 1 rfl) ?_
    refine zz_getr X G fr_6_3 tl_0 rl_0_3 kw_257 dX6_copy_26 ?_
    refine lv_iload_n hx hb dX6_copy_29 rfl (lv_at hl 4 rfl) ?_
    refine zz_aald X G ra_14 tl_12 dX6_copy_30 h (fun q6 hq6 h => ?_)
    refine lv_astore (lv' := [(7, .ref (ad q6)), (6, .ref (ad q5)), (0, .ref (ad 0)), (1, .int a1), (2, .int a2), (3, .int a3), (4, .int a4), (5, .int a5)]) hx hb dX6_copy_31 hl (by decide) rfl (fun ls hl => ?_)
    refine lv_aload hx hb dX6_copy_33 (lv_at hl 1 rfl) ?_
    refine zz_ci (rest := []) G h (fun r μ1 hf => zz_runV X G rc_4 (rt_12 hq5) cv_X4_isLost kw_448 (c_X4_isLost l D ad cA (rt_12 hq5) hf) ⟨rfl, rfl, Nat.le_of_ble_eq_true rfl, Nat.le_of_ble_eq_true rfl⟩ rfl rfl hl.1 (Nat.le_of_ble_eq_true rfl) dX6_copy_35) (fun x7 μ H locs G h => ?_)
    refine lv_if_ne (tgt := 49) hx hb dX6_copy_38 (by decide) (fun c8 => ?_) (fun c8 => ?_)
    · have h := (zz_br h).1 c8
      refine lv_aload_n hx hb dX6_copy_49 rfl (lv_at hl 2 rfl) ?_
      refine lv_iconst (v := (1 : Int32)) hx hb dX6_copy_50 (by decide) ?_
      refine zz_ci (rest := []) G h (fun r μ1 hf => zz_runV X G rc_6 tl_0 cv_X6_found kw_452 (c_X6_found l D ad cA  hf) ⟨rfl, rfl, Nat.le_of_ble_eq_true rfl, Nat.le_of_ble_eq_true rfl⟩ rfl rfl hl.1 (Nat.le_of_ble_eq_true rfl) dX6_copy_51) (fun x9 μ H locs G h => ?_)
      rw [hQ]
      exact zz_iret X G hr hlk dX6_copy_54 h
    have h := (zz_br h).2 (fun q => q c8)
    refine lv_aload hx hb dX6_copy_41 (lv_at hl 0 rfl) ?_
    refine zz_ci (rest := []) G h (fun r μ1 hf => zz_runV X G rc_4 (rt_12 hq6) cv_X4_isLost kw_448 (c_X4_isLost l D ad cA (rt_12 hq6) hf) ⟨rfl, rfl, Nat.le_of_ble_eq_true rfl, Nat.le_of_ble_eq_true rfl⟩ rfl rfl hl.1 (Nat.le_of_ble_eq_true rfl) dX6_copy_43) (fun x10 μ H locs G h => ?_)
    refine lv_if_eq (tgt := 55) hx hb dX6_copy_46 (by decide) (fun c11 => ?_) (fun c11 => ?_)
    · have h := (zz_br h).1 c11
      refine lv_aload hx hb dX6_copy_55 (lv_at hl 1 rfl) ?_
      refine zz_geti X G fi_4_0 (rt_12 hq5) kw_160 dX6_copy_57 h (fun x12 h => ?_)
      refine lv_aload hx hb dX6_copy_60 (lv_at hl 0 rfl) ?_
      refine zz_geti X G fi_4_0 (rt_12 hq6) kw_160 dX6_copy_62 h (fun x13 h => ?_)
      refine lv_icmp_eq (tgt := 74) hx hb dX6_copy_65 (by decide) (fun c14 => ?_) (fun c14 => ?_)
      · have h := (zz_br h).1 c14
        refine lv_aload hx hb dX6_copy_74 (lv_at hl 1 rfl) ?_
        refine lv_iload_n hx hb dX6_copy_76 rfl (lv_at hl 4 rfl) ?_
        refine lv_iload hx hb dX6_copy_77 (lv_at hl 7 rfl) ?_
        refine zz_ci (rest := []) G h (fun r μ1 hf => zz_runV X G rc_4 (rt_12 hq5) cv_X4_hasRun kw_720 (c_X4_hasRun l D ad cA (rt_12 hq5) hf) ⟨rfl, rfl, Nat.le_of_ble_eq_true rfl, Nat.le_of_ble_eq_true rfl⟩ rfl rfl hl.1 (Nat.le_of_ble_eq_true rfl) dX6_copy_79) (fun x15 μ H locs G h => ?_)
        refine lv_if_eq (tgt := 97) hx hb dX6_copy_82 (by decide) (fun c16 => ?_) (fun c16 => ?_)
        · have h := (zz_br h).1 c16
          refine lv_aload_n hx hb dX6_copy_97 rfl (lv_at hl 2 rfl) ?_
          refine lv_iconst (v := (2 : Int32)) hx hb dX6_copy_98 (by decide) ?_
          refine zz_ci (rest := []) G h (fun r μ1 hf => zz_runV X G rc_6 tl_0 cv_X6_found kw_452 (c_X6_found l D ad cA  hf) ⟨rfl, rfl, Nat.le_of_ble_eq_true rfl, Nat.le_of_ble_eq_true rfl⟩ rfl rfl hl.1 (Nat.le_of_ble_eq_true rfl) dX6_copy_99) (fun x17 μ H locs G h => ?_)
          rw [hQ]
          exact zz_iret X G hr hlk dX6_copy_102 h
        have h := (zz_br h).2 c16
        refine lv_aload hx hb dX6_copy_85 (lv_at hl 0 rfl) ?_
        refine lv_iload hx hb dX6_copy_87 (lv_at hl 6 rfl) ?_
        refine lv_iload hx hb dX6_copy_89 (lv_at hl 7 rfl) ?_
        refine zz_ci (rest := []) G h (fun r μ1 hf => zz_runV X G rc_4 (rt_12 hq6) cv_X4_hasRun kw_720 (c_X4_hasRun l D ad cA (rt_12 hq6) hf) ⟨rfl, rfl, Nat.le_of_ble_eq_true rfl, Nat.le_of_ble_eq_true rfl⟩ rfl rfl hl.1 (Nat.le_of_ble_eq_true rfl) dX6_copy_91) (fun x18 μ H locs G h => ?_)
        refine lv_if_ne (tgt := 103) hx hb dX6_copy_94 (by decide) (fun c19 => ?_) (fun c19 => ?_)
        · have h := (zz_br h).1 c19
          refine lv_aload hx hb dX6_copy_103 (lv_at hl 1 rfl) ?_
          refine zz_getr X G fr_4_2 (rt_12 hq5) (rs_4_2 (rt_12 hq5)) kw_164 dX6_copy_105 ?_
          refine lv_iload_n hx hb dX6_copy_108 rfl (lv_at hl 4 rfl) ?_
          refine lv_aload hx hb dX6_copy_109 (lv_at hl 0 rfl) ?_
          refine zz_getr X G fr_4_2 (rt_12 hq6) (rs_4_2 (rt_12 hq6)) kw_164 dX6_copy_111 ?_
          refine lv_iload hx hb dX6_copy_114 (lv_at hl 6 rfl) ?_
          refine lv_iload hx hb dX6_copy_116 (lv_at hl 7 rfl) ?_
          refine zz_copy X G hl.1 (hts _ kw_724) (hts _ kw_726) (hts _ kw_725) (hts _ kw_82) ia_10 (ft_4_2 (rt_12 hq5)) (ft_4_2 (rt_12 hq6)) (Nat.le_of_ble_eq_true rfl) (Nat.le_of_ble_eq_true rfl) dX6_copy_118 h (fun μ H locs G h => ?_)
          refine lv_iconst (v := (1 : Int32)) hx hb dX6_copy_121 (by decide) ?_
          rw [hQ]
          exact zz_iret X G hr hlk dX6_copy_122 h
        have h := (zz_br h).2 (fun q => q c19)
        refine lv_aload_n hx hb dX6_copy_97 rfl (lv_at hl 2 rfl) ?_
        refine lv_iconst (v := (2 : Int32)) hx hb dX6_copy_98 (by decide) ?_
        refine zz_ci (rest := []) G h (fun r μ1 hf => zz_runV X G rc_6 tl_0 cv_X6_found kw_452 (c_X6_found l D ad cA  hf) ⟨rfl, rfl, Nat.le_of_ble_eq_true rfl, Nat.le_of_ble_eq_true rfl⟩ rfl rfl hl.1 (Nat.le_of_ble_eq_true rfl) dX6_copy_99) (fun x20 μ H locs G h => ?_)
        rw [hQ]
        exact zz_iret X G hr hlk dX6_copy_102 h
      have h := (zz_br h).2 c14
      refine lv_aload_n hx hb dX6_copy_68 rfl (lv_at hl 2 rfl) ?_
      refine lv_iconst (v := (4 : Int32)) hx hb dX6_copy_69 (by decide) ?_
      refine zz_ci (rest := []) G h (fun r μ1 hf => zz_runV X G rc_6 tl_0 cv_X6_found kw_452 (c_X6_found l D ad cA  hf) ⟨rfl, rfl, Nat.le_of_ble_eq_true rfl, Nat.le_of_ble_eq_true rfl⟩ rfl rfl hl.1 (Nat.le_of_ble_eq_true rfl) dX6_copy_70) (fun x21 μ H locs G h => ?_)
      rw [hQ]
      exact zz_iret X G hr hlk dX6_copy_73 h
    have h := (zz_br h).2 c11
    refine lv_aload_n hx hb dX6_copy_49 rfl (lv_at hl 2 rfl) ?_
    refine lv_iconst (v := (1 : Int32)) hx hb dX6_copy_50 (by decide) ?_
    refine zz_ci (rest := []) G h (fun r μ1 hf => zz_runV X G rc_6 tl_0 cv_X6_found kw_452 (c_X6_found l D ad cA  hf) ⟨rfl, rfl, Nat.le_of_ble_eq_true rfl, Nat.le_of_ble_eq_true rfl⟩ rfl rfl hl.1 (Nat.le_of_ble_eq_true rfl) dX6_copy_51) (fun x22 μ H locs G h => ?_)
    rw [hQ]
    exact zz_iret X G hr hlk dX6_copy_54 h
  have h := (zz_br h).2 (fun q => q c4)
  refine lv_bipush (v := (-2 : Int32)) hx hb dX6_copy_14 (by decide) ?_
  rw [hQ]
  exact zz_iret X G hr hlk dX6_copy_16 h
set_option maxHeartbeats 4000000 in
set_option maxRecDepth 100000 in
theorem w_X6_write_L49 {p : Program} {l : Launch} {e : Env} {s : State} {m : MethodId} {args : Array Value} {below : List Frame} {meth : Method} {c : Code} {Q : State → Prop} {D : va_G} {ad : Nat → Nat} {cA : Nat → ClassId} {r : Int32} {μ' : zM} (X : zX true D ad cA p s m args c cX6_write "ButlerWeather" 6) (hQ : Q = MQ below (zQi true D ad cA r μ') args s 0 0 (zA true ad)) (hr : meth.sig.returnType = (some .int)) (hlk : meth.locks = false) {r2 : Nat} (t_r2 : zty r2 = 4) {v4 : Int32} {kx : zM → Option (Int32 × zM)} (HX : ∀ (μ : zM) (H : Heap) (locs : List Loc) (ls : Array Slot), lv_has ls 6 [(4, .int v4)] → zG true D ad cA s μ H locs → kx  μ = some (r, μ') → W p l e ({ frames := 4, cells := 0, slots := 0, locals := 94 } : Room) s m args below meth c H locs 0 0 Q (F0 m 74 ls [])) : ∀ (n : Nat) (v5 : Int32) (μ : zM) (H : Heap) (locs : List Loc) (ls : Array Slot), lv_has ls 6 [(2, .ref (ad r2)), (3, .ref (ad 21)), (4, .int v4), (5, .int v5)] → zG true D ad cA s μ H locs → f_X6_write_L49 r2 v4 kx n v5 μ = some (r, μ') → W p l e ({ frames := 4, cells := 0, slots := 0, locals := 94 } : Room) s m args below meth c H locs 0 0 Q (F0 m 49 ls []) := by
  obtain ⟨hx, hb, hml, hown, hts, -, -, -⟩ := id X
  intro n
  induction n with
  | zero =>
    intro v5 μ H locs ls hl G h
    cases (show (none : Option (Int32 × zM)) = some (r, μ') from h)
  | succ n ih =>
    intro v5 μ H locs ls hl G h
    rw [f_X6_write_L49] at h
    refine lv_iload hx hb dX6_write_49 (lv_at hl 3 rfl) ?_
    refine lv_iload hx hb dX6_write_51 (lv_at hl 2 rfl) ?_
    refine lv_icmp_ge (tgt := 74) hx hb dX6_write_53 (by decide) (fun c8 => ?_) (fun c8 => ?_)
    · have h := (zz_br h).1 c8
      exact HX  μ _ _ _ (lv_sub hl [2] rfl) G h
    have h := (zz_br h).2 c8
    refine lv_aload_n hx hb dX6_write_56 rfl (lv_at hl 0 rfl) ?_
    refine lv_iload hx hb dX6_write_57 (lv_at hl 3 rfl) ?_
    refine lv_aload_n hx hb dX6_write_59 rfl (lv_at hl 1 rfl) ?_
    refine lv_iload hx hb dX6_write_60 (lv_at hl 3 rfl) ?_
    refine zz_ci (rest := [.int v5, .ref (ad r2)]) G h (fun r μ1 hf => zz_runV X G rc_2 tl_21 cv_X2_warmthOn kw_490 (c_X2_warmthOn l D ad cA tl_21 hf) ⟨rfl, rfl, Nat.le_of_ble_eq_true rfl, Nat.le_of_ble_eq_true rfl⟩ rfl rfl hl.1 (Nat.le_of_ble_eq_true rfl) dX6_write_62) (fun x9 μ H locs G h => ?_)
    refine zz_cv (rest := []) G h (fun r μ1 hf => zz_runV X G rc_4 t_r2 cv_X4_store kw_708 (c_X4_store l D ad cA t_r2 hf) ⟨rfl, rfl, Nat.le_of_ble_eq_true rfl, Nat.le_of_ble_eq_true rfl⟩ rfl rfl hl.1 (Nat.le_of_ble_eq_true rfl) dX6_write_65) (fun _ μ H locs G h => ?_)
    obtain ⟨x10, ex10, h⟩ := zz_let h
    refine lv_iinc (v := x10) (lv' := [(5, .int x10), (2, .ref (ad r2)), (3, .ref (ad 21)), (4, .int v4)]) hx hb dX6_write_68 hl (k := 3) rfl (by rw [← ex10]; rfl) (by decide) rfl (fun ls hl => ?_)
    refine lv_goto (tgt := 49) hx hb dX6_write_71 (by decide) ?_
    exact ih x10 μ _ _ _ (lv_sub hl [1, 2, 3, 0] rfl) G h
set_option maxHeartbeats 4000000 in
set_option maxRecDepth 100000 in
theorem c_X6_write (l : Launch) (D : va_G) (ad : Nat → Nat) (cA : Nat → ClassId) {a1 : Int32} {μ : zM} {r : Int32} {μ' : zM} (h : f_X6_write a1 μ = some (r, μ')) : zMet true D ad cA l yX6_write cX6_write 6 (some .int) ({ frames := 4, cells := 0, slots := 0, locals := 94 } : Room) [.ref (ad 0), .int a1] μ (zQi true D ad cA r μ') := by
  refine zMet_of "ButlerWeather" ⟨by decide, rfl⟩ (Nat.le_of_ble_eq_true rfl) ?_
  intro p e s m args below meth c X G hr hlk ls hl
  have hl : lv_has ls 6 [(0, .ref (ad 0)), (1, .int a1)] := hl
  obtain ⟨hx, hb, hml, hown, hts, -, -, -⟩ := id X
  obtain ⟨Q, hQ⟩ : ∃ Q, Q = MQ below (zQi true D ad cA r μ') args s 0 0 (zA true ad) := ⟨_, rfl⟩
  rw [← hQ]
  unfold f_X6_write at h
  refine lv_iload_n hx hb dX6_write_0 rfl (lv_at hl 1 rfl) ?_
  refine zz_ci (rest := []) G h (fun r μ1 hf => zz_runS X G cs_X6_isSheet kw_445 (c_X6_isSheet l D ad cA  hf) ⟨rfl, rfl, Nat.le_of_ble_eq_true rfl, Nat.le_of_ble_eq_true rfl⟩ rfl rfl hl.1 (Nat.le_of_ble_eq_true rfl) dX6_write_1) (fun x1 μ H locs G h => ?_)
  refine lv_if_ne (tgt := 10) hx hb dX6_write_4 (by decide) (fun c2 => ?_) (fun c2 => ?_)
  · have h := (zz_br h).1 c2
    refine lv_aload_n hx hb dX6_write_10 rfl (lv_at hl 0 rfl) ?_
    refine zz_getr X G fr_6_3 tl_0 rl_0_3 kw_257 dX6_write_11 ?_
    refine lv_iload_n hx hb dX6_write_14 rfl (lv_at hl 1 rfl) ?_
    refine zz_aald X G ra_14 tl_12 dX6_write_15 h (fun q3 hq3 h => ?_)
    refine lv_astore_n (lv' := [(2, .ref (ad q3)), (0, .ref (ad 0)), (1, .int a1)]) hx hb dX6_write_16 rfl hl (by decide) rfl (fun ls hl => ?_)
    refine lv_aload_n hx hb dX6_write_17 rfl (lv_at hl 0 rfl) ?_
    refine zz_ci (rest := []) G h (fun r μ1 hf => zz_runV X G rc_4 (rt_12 hq3) cv_X4_isLost kw_448 (c_X4_isLost l D ad cA (rt_12 hq3) hf) ⟨rfl, rfl, Nat.le_of_ble_eq_true rfl, Nat.le_of_ble_eq_true rfl⟩ rfl rfl hl.1 (Nat.le_of_ble_eq_true rfl) dX6_write_18) (fun x4 μ H locs G h => ?_)
    refine lv_if_eq (tgt := 30) hx hb dX6_write_21 (by decide) (fun c5 => ?_) (fun c5 => ?_)
    · have h := (zz_br h).1 c5
      refine lv_aload_n hx hb dX6_write_30 rfl (lv_at hl 1 rfl) ?_
      refine zz_cr (rest := []) G h (fun r μ1 hf => zz_runV X G rc_6 tl_0 cv_X6_told kw_332 (c_X6_told l D ad cA  hf) ⟨rfl, rfl, Nat.le_of_ble_eq_true rfl, Nat.le_of_ble_eq_true rfl⟩ rfl rfl hl.1 (Nat.le_of_ble_eq_true rfl) dX6_write_31) (fun _ μ H locs G h => ?_)
      refine lv_astore_n (lv' := [(3, .ref (ad 21)), (2, .ref (ad q3)), (0, .ref (ad 0)), (1, .int a1)]) hx hb dX6_write_34 rfl hl (by decide) rfl (fun ls hl => ?_)
      refine lv_aload_n hx hb dX6_write_35 rfl (lv_at hl 1 rfl) ?_
      refine zz_geti X G fi_4_1 (rt_12 hq3) kw_162 dX6_write_36 h (fun x6 h => ?_)
      refine lv_bipush (v := (24 : Int32)) hx hb dX6_write_39 (by decide) ?_
      refine va_mmin hx hb (hml.trans hl.1.symm) hown (hts _ kw_731) (hts _ kw_346) (hts _ kw_80) (hts _ kw_347) (Nat.le_of_ble_eq_true rfl) (Nat.le_of_ble_eq_true rfl) (Nat.zero_le _) (Nat.zero_le _) dX6_write_41 ?_
      refine zz_vi h (fun x7 h => ?_)
      refine lv_istore (lv' := [(4, .int x7), (3, .ref (ad 21)), (2, .ref (ad q3)), (0, .ref (ad 0)), (1, .int a1)]) hx hb dX6_write_44 hl (by decide) rfl (fun ls hl => ?_)
      refine lv_iconst (v := (0 : Int32)) hx hb dX6_write_46 (by decide) ?_
      refine lv_istore (lv' := [(5, .int (0 : Int32)), (4, .int x7), (3, .ref (ad 21)), (2, .ref (ad q3)), (0, .ref (ad 0)), (1, .int a1)]) hx hb dX6_write_47 hl (by decide) rfl (fun ls hl => ?_)
      refine w_X6_write_L49 X hQ hr hlk (rt_12 hq3) (fun  μ H locs ls hl G h => ?_) 400 (0 : Int32) μ _ _ _ (lv_sub hl [3, 2, 1, 0] rfl) G h
      refine lv_iload hx hb dX6_write_74 (lv_at hl 0 rfl) ?_
      rw [hQ]
      exact zz_iret X G hr hlk dX6_write_76 h
    have h := (zz_br h).2 c5
    refine lv_aload_n hx hb dX6_write_24 rfl (lv_at hl 1 rfl) ?_
    refine lv_iconst (v := (1 : Int32)) hx hb dX6_write_25 (by decide) ?_
    refine zz_ci (rest := []) G h (fun r μ1 hf => zz_runV X G rc_6 tl_0 cv_X6_found kw_452 (c_X6_found l D ad cA  hf) ⟨rfl, rfl, Nat.le_of_ble_eq_true rfl, Nat.le_of_ble_eq_true rfl⟩ rfl rfl hl.1 (Nat.le_of_ble_eq_true rfl) dX6_write_26) (fun x11 μ H locs G h => ?_)
    rw [hQ]
    exact zz_iret X G hr hlk dX6_write_29 h
  have h := (zz_br h).2 (fun q => q c2)
  refine lv_bipush (v := (-2 : Int32)) hx hb dX6_write_7 (by decide) ?_
  rw [hQ]
  exact zz_iret X G hr hlk dX6_write_9 h
set_option maxHeartbeats 4000000 in
set_option maxRecDepth 100000 in
theorem c_X6_count (l : Launch) (D : va_G) (ad : Nat → Nat) (cA : Nat → ClassId) {a1 : Int32} {μ : zM} {r : Int32} {μ' : zM} (h : f_X6_count a1 μ = some (r, μ')) : zMet true D ad cA l yX6_count cX6_count 2 (some .int) ({ frames := 4, cells := 0, slots := 0, locals := 94 } : Room) [.ref (ad 0), .int a1] μ (zQi true D ad cA r μ') := by
  refine zMet_of "ButlerWeather" ⟨by decide, rfl⟩ (Nat.le_of_ble_eq_true rfl) ?_
  intro p e s m args below meth c X G hr hlk ls hl
  have hl : lv_has ls 2 [(0, .ref (ad 0)), (1, .int a1)] := hl
  obtain ⟨hx, hb, hml, hown, hts, -, -, -⟩ := id X
  obtain ⟨Q, hQ⟩ : ∃ Q, Q = MQ below (zQi true D ad cA r μ') args s 0 0 (zA true ad) := ⟨_, rfl⟩
  rw [← hQ]
  unfold f_X6_count at h
  refine lv_iload_n hx hb dX6_count_0 rfl (lv_at hl 1 rfl) ?_
  refine zz_sw (k := (0 : Int32)) h (fun c1 h => ?_) (fun c1 h => ?_)
  · refine lv_tableIn (off := 51) (tgt := 52) hx hb dX6_count_1 (by rw [c1]; decide) (by rw [c1]; decide) (by rw [c1]; rfl) (by decide) ?_
    refine lv_aload_n hx hb dX6_count_52 rfl (lv_at hl 0 rfl) ?_
    refine zz_cr (rest := []) G h (fun r μ1 hf => zz_runV X G rc_6 tl_0 cv_X6_told kw_332 (c_X6_told l D ad cA  hf) ⟨rfl, rfl, Nat.le_of_ble_eq_true rfl, Nat.le_of_ble_eq_true rfl⟩ rfl rfl hl.1 (Nat.le_of_ble_eq_true rfl) dX6_count_53) (fun _ μ H locs G h => ?_)
    refine zz_geti X G fi_2_0 tl_21 kw_180 dX6_count_56 h (fun x2 h => ?_)
    rw [hQ]
    exact zz_iret X G hr hlk dX6_count_59 h
  refine zz_sw (k := (1 : Int32)) h (fun c3 h => ?_) (fun c3 h => ?_)
  · refine lv_tableIn (off := 59) (tgt := 60) hx hb dX6_count_1 (by rw [c3]; decide) (by rw [c3]; decide) (by rw [c3]; rfl) (by decide) ?_
    refine lv_aload_n hx hb dX6_count_60 rfl (lv_at hl 0 rfl) ?_
    refine zz_cr (rest := []) G h (fun r μ1 hf => zz_runV X G rc_6 tl_0 cv_X6_told kw_332 (c_X6_told l D ad cA  hf) ⟨rfl, rfl, Nat.le_of_ble_eq_true rfl, Nat.le_of_ble_eq_true rfl⟩ rfl rfl hl.1 (Nat.le_of_ble_eq_true rfl) dX6_count_61) (fun _ μ H locs G h => ?_)
    refine zz_geti X G fi_2_6 tl_21 kw_192 dX6_count_64 h (fun x4 h => ?_)
    rw [hQ]
    exact zz_iret X G hr hlk dX6_count_67 h
  refine zz_sw (k := (2 : Int32)) h (fun c5 h => ?_) (fun c5 h => ?_)
  · refine lv_tableIn (off := 67) (tgt := 68) hx hb dX6_count_1 (by rw [c5]; decide) (by rw [c5]; decide) (by rw [c5]; rfl) (by decide) ?_
    refine lv_aload_n hx hb dX6_count_68 rfl (lv_at hl 0 rfl) ?_
    refine zz_getr X G fr_6_0 tl_0 rl_0_0 kw_254 dX6_count_69 ?_
    refine lv_iconst (v := (0 : Int32)) hx hb dX6_count_72 (by decide) ?_
    refine zz_aald X G ra_13 tl_1 dX6_count_73 h (fun q6 hq6 h => ?_)
    refine zz_geti X G fi_5_3 (rt_1 hq6) kw_104 dX6_count_74 h (fun x7 h => ?_)
    rw [hQ]
    exact zz_iret X G hr hlk dX6_count_77 h
  refine zz_sw (k := (3 : Int32)) h (fun c8 h => ?_) (fun c8 h => ?_)
  · refine lv_tableIn (off := 77) (tgt := 78) hx hb dX6_count_1 (by rw [c8]; decide) (by rw [c8]; decide) (by rw [c8]; rfl) (by decide) ?_
    refine lv_aload_n hx hb dX6_count_78 rfl (lv_at hl 0 rfl) ?_
    refine zz_getr X G fr_6_0 tl_0 rl_0_0 kw_254 dX6_count_79 ?_
    refine lv_iconst (v := (1 : Int32)) hx hb dX6_count_82 (by decide) ?_
    refine zz_aald X G ra_13 tl_1 dX6_count_83 h (fun q9 hq9 h => ?_)
    refine zz_geti X G fi_5_3 (rt_1 hq9) kw_104 dX6_count_84 h (fun x10 h => ?_)
    rw [hQ]
    exact zz_iret X G hr hlk dX6_count_87 h
  refine zz_sw (k := (4 : Int32)) h (fun c11 h => ?_) (fun c11 h => ?_)
  · refine lv_tableIn (off := 87) (tgt := 88) hx hb dX6_count_1 (by rw [c11]; decide) (by rw [c11]; decide) (by rw [c11]; rfl) (by decide) ?_
    refine lv_aload_n hx hb dX6_count_88 rfl (lv_at hl 0 rfl) ?_
    refine zz_getr X G fr_6_1 tl_0 rl_0_1 kw_255 dX6_count_89 ?_
    refine zz_geti X G fi_0_2 tl_6 kw_127 dX6_count_92 h (fun x12 h => ?_)
    rw [hQ]
    exact zz_iret X G hr hlk dX6_count_95 h
  refine zz_sw (k := (5 : Int32)) h (fun c13 h => ?_) (fun c13 h => ?_)
  · refine lv_tableIn (off := 95) (tgt := 96) hx hb dX6_count_1 (by rw [c13]; decide) (by rw [c13]; decide) (by rw [c13]; rfl) (by decide) ?_
    refine lv_aload_n hx hb dX6_count_96 rfl (lv_at hl 0 rfl) ?_
    refine zz_cr (rest := []) G h (fun r μ1 hf => zz_runV X G rc_6 tl_0 cv_X6_told kw_332 (c_X6_told l D ad cA  hf) ⟨rfl, rfl, Nat.le_of_ble_eq_true rfl, Nat.le_of_ble_eq_true rfl⟩ rfl rfl hl.1 (Nat.le_of_ble_eq_true rfl) dX6_count_97) (fun _ μ H locs G h => ?_)
    refine zz_ci (rest := []) G h (fun r μ1 hf => zz_runV X G rc_2 tl_21 cv_X2_everIn kw_555 (c_X2_everIn l D ad cA tl_21 hf) ⟨rfl, rfl, Nat.le_of_ble_eq_true rfl, Nat.le_of_ble_eq_true rfl⟩ rfl rfl hl.1 (Nat.le_of_ble_eq_true rfl) dX6_count_100) (fun x14 μ H locs G h => ?_)
    refine zz_ci (rest := []) G h (fun r μ1 hf => zz_runS X G cs_J6_bitCount_0f7a4 kw_559 (c_J6_bitCount_0f7a4 l D ad cA  hf) ⟨rfl, rfl, Nat.le_of_ble_eq_true rfl, Nat.le_of_ble_eq_true rfl⟩ rfl rfl hl.1 (Nat.le_of_ble_eq_true rfl) dX6_count_103) (fun x15 μ H locs G h => ?_)
    rw [hQ]
    exact zz_iret X G hr hlk dX6_count_106 h
  refine zz_sw (k := (6 : Int32)) h (fun c16 h => ?_) (fun c16 h => ?_)
  · refine lv_tableIn (off := 106) (tgt := 107) hx hb dX6_count_1 (by rw [c16]; decide) (by rw [c16]; decide) (by rw [c16]; rfl) (by decide) ?_
    refine lv_aload_n hx hb dX6_count_107 rfl (lv_at hl 0 rfl) ?_
    refine zz_cr (rest := []) G h (fun r μ1 hf => zz_runV X G rc_6 tl_0 cv_X6_told kw_332 (c_X6_told l D ad cA  hf) ⟨rfl, rfl, Nat.le_of_ble_eq_true rfl, Nat.le_of_ble_eq_true rfl⟩ rfl rfl hl.1 (Nat.le_of_ble_eq_true rfl) dX6_count_108) (fun _ μ H locs G h => ?_)
    refine zz_ci (rest := []) G h (fun r μ1 hf => zz_runV X G rc_2 tl_21 cv_X2_sentBits kw_517 (c_X2_sentBits l D ad cA tl_21 hf) ⟨rfl, rfl, Nat.le_of_ble_eq_true rfl, Nat.le_of_ble_eq_true rfl⟩ rfl rfl hl.1 (Nat.le_of_ble_eq_true rfl) dX6_count_111) (fun x17 μ H locs G h => ?_)
    refine zz_ci (rest := []) G h (fun r μ1 hf => zz_runS X G cs_J6_bitCount_0f7a4 kw_559 (c_J6_bitCount_0f7a4 l D ad cA  hf) ⟨rfl, rfl, Nat.le_of_ble_eq_true rfl, Nat.le_of_ble_eq_true rfl⟩ rfl rfl hl.1 (Nat.le_of_ble_eq_true rfl) dX6_count_114) (fun x18 μ H locs G h => ?_)
    rw [hQ]
    exact zz_iret X G hr hlk dX6_count_117 h
  refine zz_sw (k := (7 : Int32)) h (fun c19 h => ?_) (fun c19 h => ?_)
  · refine lv_tableIn (off := 117) (tgt := 118) hx hb dX6_count_1 (by rw [c19]; decide) (by rw [c19]; decide) (by rw [c19]; rfl) (by decide) ?_
    refine lv_aload_n hx hb dX6_count_118 rfl (lv_at hl 0 rfl) ?_
    refine zz_getr X G fr_6_2 tl_0 rl_0_2 kw_256 dX6_count_119 ?_
    refine zz_geti X G fi_1_2 tl_9 kw_144 dX6_count_122 h (fun x20 h => ?_)
    rw [hQ]
    exact zz_iret X G hr hlk dX6_count_125 h
  refine zz_sw (k := (8 : Int32)) h (fun c21 h => ?_) (fun c21 h => ?_)
  · refine lv_tableIn (off := 125) (tgt := 126) hx hb dX6_count_1 (by rw [c21]; decide) (by rw [c21]; decide) (by rw [c21]; rfl) (by decide) ?_
    refine lv_aload_n hx hb dX6_count_126 rfl (lv_at hl 0 rfl) ?_
    refine zz_geti X G fi_6_8 tl_0 kw_262 dX6_count_127 h (fun x22 h => ?_)
    rw [hQ]
    exact zz_iret X G hr hlk dX6_count_130 h
  refine lv_tableOut (tgt := 131) hx hb dX6_count_1 (by have n0 := lv_neT (a := 0) c1 (by decide); have n1 := lv_neT (a := 1) c3 (by decide); have n2 := lv_neT (a := 2) c5 (by decide); have n3 := lv_neT (a := 3) c8 (by decide); have n4 := lv_neT (a := 4) c11 (by decide); have n5 := lv_neT (a := 5) c13 (by decide); have n6 := lv_neT (a := 6) c16 (by decide); have n7 := lv_neT (a := 7) c19 (by decide); have n8 := lv_neT (a := 8) c21 (by decide); omega) (by decide) ?_
  refine lv_bipush (v := (-2 : Int32)) hx hb dX6_count_131 (by decide) ?_
  rw [hQ]
  exact zz_iret X G hr hlk dX6_count_133 h
set_option maxHeartbeats 4000000 in
set_option maxRecDepth 100000 in
theorem w_X6_digestMen_L24 {p : Program} {l : Launch} {e : Env} {s : State} {m : MethodId} {args : Array Value} {below : List Frame} {meth : Method} {c : Code} {Q : State → Prop} {D : va_G} {ad : Nat → Nat} {cA : Nat → ClassId} {r : Int64} {μ' : zM} (X : zX true D ad cA p s m args c cX6_digestMen "ButlerWeather" 8) (hQ : Q = MQ below (zQl true D ad cA r μ') args s 0 0 (zA true ad)) (hr : meth.sig.returnType = (some .long)) (hlk : meth.locks = false) {v5 : Int32} {v6 : Int32} {kx : Int64 → zM → Option (Int64 × zM)} (HX : ∀ (w3 : Int64) (μ : zM) (H : Heap) (locs : List Loc) (ls : Array Slot), lv_has ls 8 [(0, .ref (ad 0)), (3, .long w3), (5, .int v5), (6, .int v6)] → zG true D ad cA s μ H locs → kx w3 μ = some (r, μ') → W p l e ({ frames := 5, cells := 0, slots := 0, locals := 121 } : Room) s m args below meth c H locs 0 0 Q (F0 m 52 ls [])) : ∀ (n : Nat) (v3 : Int64) (v7 : Int32) (μ : zM) (H : Heap) (locs : List Loc) (ls : Array Slot), lv_has ls 8 [(0, .ref (ad 0)), (3, .long v3), (5, .int v5), (6, .int v6), (7, .int v7)] → zG true D ad cA s μ H locs → f_X6_digestMen_L24 v5 v6 kx n v3 v7 μ = some (r, μ') → W p l e ({ frames := 5, cells := 0, slots := 0, locals := 121 } : Room) s m args below meth c H locs 0 0 Q (F0 m 24 ls []) := by
  obtain ⟨hx, hb, hml, hown, hts, -, -, -⟩ := id X
  intro n
  induction n with
  | zero =>
    intro v3 v7 μ H locs ls hl G h
    cases (show (none : Option (Int64 × zM)) = some (r, μ') from h)
  | succ n ih =>
    intro v3 v7 μ H locs ls hl G h
    rw [f_X6_digestMen_L24] at h
    refine lv_iload hx hb dX6_digestMen_24 (lv_at hl 4 rfl) ?_
    refine lv_iconst (v := (2 : Int32)) hx hb dX6_digestMen_26 (by decide) ?_
    refine lv_icmp_gt (tgt := 52) hx hb dX6_digestMen_27 (by decide) (fun c3 => ?_) (fun c3 => ?_)
    · have h := (zz_br h).1 c3
      exact HX v3 μ _ _ _ (lv_sub hl [0, 1, 2, 3] rfl) G h
    have h := (zz_br h).2 c3
    refine lv_ldc2 hx hb hown (hts _ kw_741) dX6_digestMen_30 ?_
    refine lv_lload_n hx hb dX6_digestMen_33 rfl (lv_at hl 1 rfl) ?_
    refine lv_lmul hx hb dX6_digestMen_34 ?_
    refine lv_aload_n hx hb dX6_digestMen_35 rfl (lv_at hl 0 rfl) ?_
    refine lv_iload hx hb dX6_digestMen_36 (lv_at hl 3 rfl) ?_
    refine lv_iload hx hb dX6_digestMen_38 (lv_at hl 4 rfl) ?_
    refine zz_ci (rest := [.long ((31 : Int64) * v3)]) G h (fun r μ1 hf => zz_runV X G rc_6 tl_0 cv_X6_man kw_748 (c_X6_man l D ad cA  hf) ⟨rfl, rfl, Nat.le_of_ble_eq_true rfl, Nat.le_of_ble_eq_true rfl⟩ rfl rfl hl.1 (Nat.le_of_ble_eq_true rfl) dX6_digestMen_40) (fun x4 μ H locs G h => ?_)
    refine lv_i2l hx hb dX6_digestMen_43 rfl ?_
    refine lv_ladd hx hb dX6_digestMen_44 ?_
    refine zz_vj h (fun x5 h => ?_)
    refine lv_lstore_n (lv' := [(3, .long x5), (0, .ref (ad 0)), (5, .int v5), (6, .int v6), (7, .int v7)]) hx hb dX6_digestMen_45 rfl hl (by decide) rfl (fun ls hl => ?_)
    obtain ⟨x6, ex6, h⟩ := zz_let h
    refine lv_iinc (v := x6) (lv' := [(7, .int x6), (3, .long x5), (0, .ref (ad 0)), (5, .int v5), (6, .int v6)]) hx hb dX6_digestMen_46 hl (k := 4) rfl (by rw [← ex6]; rfl) (by decide) rfl (fun ls hl => ?_)
    refine lv_goto (tgt := 24) hx hb dX6_digestMen_49 (by decide) ?_
    exact ih x5 x6 μ _ _ _ (lv_sub hl [2, 1, 3, 4, 0] rfl) G h
set_option maxHeartbeats 4000000 in
set_option maxRecDepth 100000 in
theorem w_X6_digestMen_L14 {p : Program} {l : Launch} {e : Env} {s : State} {m : MethodId} {args : Array Value} {below : List Frame} {meth : Method} {c : Code} {Q : State → Prop} {D : va_G} {ad : Nat → Nat} {cA : Nat → ClassId} {r : Int64} {μ' : zM} (X : zX true D ad cA p s m args c cX6_digestMen "ButlerWeather" 8) (hQ : Q = MQ below (zQl true D ad cA r μ') args s 0 0 (zA true ad)) (hr : meth.sig.returnType = (some .long)) (hlk : meth.locks = false) {v5 : Int32} {kx : Int64 → zM → Option (Int64 × zM)} (HX : ∀ (w3 : Int64) (μ : zM) (H : Heap) (locs : List Loc) (ls : Array Slot), lv_has ls 8 [(3, .long w3)] → zG true D ad cA s μ H locs → kx w3 μ = some (r, μ') → W p l e ({ frames := 5, cells := 0, slots := 0, locals := 121 } : Room) s m args below meth c H locs 0 0 Q (F0 m 88 ls [])) : ∀ (n : Nat) (v3 : Int64) (v6 : Int32) (μ : zM) (H : Heap) (locs : List Loc) (ls : Array Slot), lv_has ls 8 [(0, .ref (ad 0)), (3, .long v3), (5, .int v5), (6, .int v6)] → zG true D ad cA s μ H locs → f_X6_digestMen_L14 v5 kx n v3 v6 μ = some (r, μ') → W p l e ({ frames := 5, cells := 0, slots := 0, locals := 121 } : Room) s m args below meth c H locs 0 0 Q (F0 m 14 ls []) := by
  obtain ⟨hx, hb, hml, hown, hts, -, -, -⟩ := id X
  intro n
  induction n with
  | zero =>
    intro v3 v6 μ H locs ls hl G h
    cases (show (none : Option (Int64 × zM)) = some (r, μ') from h)
  | succ n ih =>
    intro v3 v6 μ H locs ls hl G h
    rw [f_X6_digestMen_L14] at h
    refine lv_iload hx hb dX6_digestMen_14 (lv_at hl 3 rfl) ?_
    refine lv_iload hx hb dX6_digestMen_16 (lv_at hl 2 rfl) ?_
    refine lv_icmp_ge (tgt := 88) hx hb dX6_digestMen_18 (by decide) (fun c2 => ?_) (fun c2 => ?_)
    · have h := (zz_br h).1 c2
      exact HX v3 μ _ _ _ (lv_sub hl [1] rfl) G h
    have h := (zz_br h).2 c2
    refine lv_iconst (v := (0 : Int32)) hx hb dX6_digestMen_21 (by decide) ?_
    refine lv_istore (lv' := [(7, .int (0 : Int32)), (0, .ref (ad 0)), (3, .long v3), (5, .int v5), (6, .int v6)]) hx hb dX6_digestMen_22 hl (by decide) rfl (fun ls hl => ?_)
    refine w_X6_digestMen_L24 X hQ hr hlk  (fun x7 μ H locs ls hl G h => ?_) 400 v3 (0 : Int32) μ _ _ _ (lv_sub hl [1, 2, 3, 4, 0] rfl) G h
    refine lv_ldc2 hx hb hown (hts _ kw_741) dX6_digestMen_52 ?_
    refine lv_lload_n hx hb dX6_digestMen_55 rfl (lv_at hl 1 rfl) ?_
    refine lv_lmul hx hb dX6_digestMen_56 ?_
    refine lv_aload_n hx hb dX6_digestMen_57 rfl (lv_at hl 0 rfl) ?_
    refine lv_iload hx hb dX6_digestMen_58 (lv_at hl 3 rfl) ?_
    refine lv_iconst (v := (0 : Int32)) hx hb dX6_digestMen_60 (by decide) ?_
    refine zz_ci (rest := [.long ((31 : Int64) * x7)]) G h (fun r μ1 hf => zz_runV X G rc_6 tl_0 cv_X6_begin kw_749 (c_X6_begin l D ad cA  hf) ⟨rfl, rfl, Nat.le_of_ble_eq_true rfl, Nat.le_of_ble_eq_true rfl⟩ rfl rfl hl.1 (Nat.le_of_ble_eq_true rfl) dX6_digestMen_61) (fun x8 μ H locs G h => ?_)
    refine lv_i2l hx hb dX6_digestMen_64 rfl ?_
    refine lv_ladd hx hb dX6_digestMen_65 ?_
    refine zz_vj h (fun x9 h => ?_)
    refine lv_lstore_n (lv' := [(3, .long x9), (0, .ref (ad 0)), (5, .int v5), (6, .int v6)]) hx hb dX6_digestMen_66 rfl hl (by decide) rfl (fun ls hl => ?_)
    refine lv_ldc2 hx hb hown (hts _ kw_741) dX6_digestMen_67 ?_
    refine lv_lload_n hx hb dX6_digestMen_70 rfl (lv_at hl 0 rfl) ?_
    refine lv_lmul hx hb dX6_digestMen_71 ?_
    refine lv_aload_n hx hb dX6_digestMen_72 rfl (lv_at hl 1 rfl) ?_
    refine lv_iload hx hb dX6_digestMen_73 (lv_at hl 3 rfl) ?_
    refine lv_iconst (v := (1 : Int32)) hx hb dX6_digestMen_75 (by decide) ?_
    refine zz_ci (rest := [.long ((31 : Int64) * x9)]) G h (fun r μ1 hf => zz_runV X G rc_6 tl_0 cv_X6_begin kw_749 (c_X6_begin l D ad cA  hf) ⟨rfl, rfl, Nat.le_of_ble_eq_true rfl, Nat.le_of_ble_eq_true rfl⟩ rfl rfl hl.1 (Nat.le_of_ble_eq_true rfl) dX6_digestMen_76) (fun x10 μ H locs G h => ?_)
    refine lv_i2l hx hb dX6_digestMen_79 rfl ?_
    refine lv_ladd hx hb dX6_digestMen_80 ?_
    refine zz_vj h (fun x11 h => ?_)
    refine lv_lstore_n (lv' := [(3, .long x11), (0, .ref (ad 0)), (5, .int v5), (6, .int v6)]) hx hb dX6_digestMen_81 rfl hl (by decide) rfl (fun ls hl => ?_)
    obtain ⟨x12, ex12, h⟩ := zz_let h
    refine lv_iinc (v := x12) (lv' := [(6, .int x12), (3, .long x11), (0, .ref (ad 0)), (5, .int v5)]) hx hb dX6_digestMen_82 hl (k := 3) rfl (by rw [← ex12]; rfl) (by decide) rfl (fun ls hl => ?_)
    refine lv_goto (tgt := 14) hx hb dX6_digestMen_85 (by decide) ?_
    exact ih x11 x12 μ _ _ _ (lv_sub hl [2, 1, 3, 0] rfl) G h
set_option maxHeartbeats 4000000 in
set_option maxRecDepth 100000 in
theorem c_X6_digestMen (l : Launch) (D : va_G) (ad : Nat → Nat) (cA : Nat → ClassId) {a1 : Int64} {μ : zM} {r : Int64} {μ' : zM} (h : f_X6_digestMen a1 μ = some (r, μ')) : zMet true D ad cA l yX6_digestMen cX6_digestMen 8 (some .long) ({ frames := 5, cells := 0, slots := 0, locals := 121 } : Room) [.ref (ad 0), .long a1] μ (zQl true D ad cA r μ') := by
  refine zMet_of "ButlerWeather" ⟨by decide, rfl⟩ (Nat.le_of_ble_eq_true rfl) ?_
  intro p e s m args below meth c X G hr hlk ls hl
  have hl : lv_has ls 8 [(0, .ref (ad 0)), (1, .long a1)] := hl
  obtain ⟨hx, hb, hml, hown, hts, -, -, -⟩ := id X
  obtain ⟨Q, hQ⟩ : ∃ Q, Q = MQ below (zQl true D ad cA r μ') args s 0 0 (zA true ad) := ⟨_, rfl⟩
  rw [← hQ]
  unfold f_X6_digestMen at h
  refine lv_lload_n hx hb dX6_digestMen_0 rfl (lv_at hl 1 rfl) ?_
  refine lv_lstore_n (lv' := [(3, .long a1), (0, .ref (ad 0)), (1, .long a1)]) hx hb dX6_digestMen_1 rfl hl (by decide) rfl (fun ls hl => ?_)
  refine lv_aload_n hx hb dX6_digestMen_2 rfl (lv_at hl 1 rfl) ?_
  refine zz_cr (rest := []) G h (fun r μ1 hf => zz_runV X G rc_6 tl_0 cv_X6_told kw_332 (c_X6_told l D ad cA  hf) ⟨rfl, rfl, Nat.le_of_ble_eq_true rfl, Nat.le_of_ble_eq_true rfl⟩ rfl rfl hl.1 (Nat.le_of_ble_eq_true rfl) dX6_digestMen_3) (fun _ μ H locs G h => ?_)
  refine zz_geti X G fi_2_6 tl_21 kw_192 dX6_digestMen_6 h (fun x1 h => ?_)
  refine lv_istore (lv' := [(5, .int x1), (3, .long a1), (0, .ref (ad 0)), (1, .long a1)]) hx hb dX6_digestMen_9 hl (by decide) rfl (fun ls hl => ?_)
  refine lv_iconst (v := (0 : Int32)) hx hb dX6_digestMen_11 (by decide) ?_
  refine lv_istore (lv' := [(6, .int (0 : Int32)), (5, .int x1), (3, .long a1), (0, .ref (ad 0)), (1, .long a1)]) hx hb dX6_digestMen_12 hl (by decide) rfl (fun ls hl => ?_)
  refine w_X6_digestMen_L14 X hQ hr hlk  (fun x13 μ H locs ls hl G h => ?_) 400 a1 (0 : Int32) μ _ _ _ (lv_sub hl [3, 2, 1, 0] rfl) G h
  refine lv_lload_n hx hb dX6_digestMen_88 rfl (lv_at hl 0 rfl) ?_
  rw [hQ]
  exact zz_lret X G hr hlk dX6_digestMen_89 h
set_option maxHeartbeats 4000000 in
set_option maxRecDepth 100000 in
theorem w_X6_digestCallers_L24 {p : Program} {l : Launch} {e : Env} {s : State} {m : MethodId} {args : Array Value} {below : List Frame} {meth : Method} {c : Code} {Q : State → Prop} {D : va_G} {ad : Nat → Nat} {cA : Nat → ClassId} {r : Int64} {μ' : zM} (X : zX true D ad cA p s m args c cX6_digestCallers "ButlerWeather" 8) (hQ : Q = MQ below (zQl true D ad cA r μ') args s 0 0 (zA true ad)) (hr : meth.sig.returnType = (some .long)) (hlk : meth.locks = false) {v5 : Int32} {v6 : Int32} {kx : Int64 → zM → Option (Int64 × zM)} (HX : ∀ (w3 : Int64) (μ : zM) (H : Heap) (locs : List Loc) (ls : Array Slot), lv_has ls 8 [(0, .ref (ad 0)), (3, .long w3), (5, .int v5), (6, .int v6)] → zG true D ad cA s μ H locs → kx w3 μ = some (r, μ') → W p l e ({ frames := 5, cells := 0, slots := 0, locals := 126 } : Room) s m args below meth c H locs 0 0 Q (F0 m 52 ls [])) : ∀ (n : Nat) (v3 : Int64) (v7 : Int32) (μ : zM) (H : Heap) (locs : List Loc) (ls : Array Slot), lv_has ls 8 [(0, .ref (ad 0)), (3, .long v3), (5, .int v5), (6, .int v6), (7, .int v7)] → zG true D ad cA s μ H locs → f_X6_digestCallers_L24 v5 v6 kx n v3 v7 μ = some (r, μ') → W p l e ({ frames := 5, cells := 0, slots := 0, locals := 126 } : Room) s m args below meth c H locs 0 0 Q (F0 m 24 ls []) := by
  obtain ⟨hx, hb, hml, hown, hts, -, -, -⟩ := id X
  intro n
  induction n with
  | zero =>
    intro v3 v7 μ H locs ls hl G h
    cases (show (none : Option (Int64 × zM)) = some (r, μ') from h)
  | succ n ih =>
    intro v3 v7 μ H locs ls hl G h
    rw [f_X6_digestCallers_L24] at h
    refine lv_iload hx hb dX6_digestCallers_24 (lv_at hl 4 rfl) ?_
    refine lv_iconst (v := (3 : Int32)) hx hb dX6_digestCallers_26 (by decide) ?_
    refine lv_icmp_gt (tgt := 52) hx hb dX6_digestCallers_27 (by decide) (fun c3 => ?_) (fun c3 => ?_)
    · have h := (zz_br h).1 c3
      exact HX v3 μ _ _ _ (lv_sub hl [0, 1, 2, 3] rfl) G h
    have h := (zz_br h).2 c3
    refine lv_ldc2 hx hb hown (hts _ kw_741) dX6_digestCallers_30 ?_
    refine lv_lload_n hx hb dX6_digestCallers_33 rfl (lv_at hl 1 rfl) ?_
    refine lv_lmul hx hb dX6_digestCallers_34 ?_
    refine lv_aload_n hx hb dX6_digestCallers_35 rfl (lv_at hl 0 rfl) ?_
    refine lv_iload hx hb dX6_digestCallers_36 (lv_at hl 3 rfl) ?_
    refine lv_iload hx hb dX6_digestCallers_38 (lv_at hl 4 rfl) ?_
    refine zz_ci (rest := [.long ((31 : Int64) * v3)]) G h (fun r μ1 hf => zz_runV X G rc_6 tl_0 cv_X6_caller kw_754 (c_X6_caller l D ad cA  hf) ⟨rfl, rfl, Nat.le_of_ble_eq_true rfl, Nat.le_of_ble_eq_true rfl⟩ rfl rfl hl.1 (Nat.le_of_ble_eq_true rfl) dX6_digestCallers_40) (fun x4 μ H locs G h => ?_)
    refine lv_i2l hx hb dX6_digestCallers_43 rfl ?_
    refine lv_ladd hx hb dX6_digestCallers_44 ?_
    refine zz_vj h (fun x5 h => ?_)
    refine lv_lstore_n (lv' := [(3, .long x5), (0, .ref (ad 0)), (5, .int v5), (6, .int v6), (7, .int v7)]) hx hb dX6_digestCallers_45 rfl hl (by decide) rfl (fun ls hl => ?_)
    obtain ⟨x6, ex6, h⟩ := zz_let h
    refine lv_iinc (v := x6) (lv' := [(7, .int x6), (3, .long x5), (0, .ref (ad 0)), (5, .int v5), (6, .int v6)]) hx hb dX6_digestCallers_46 hl (k := 4) rfl (by rw [← ex6]; rfl) (by decide) rfl (fun ls hl => ?_)
    refine lv_goto (tgt := 24) hx hb dX6_digestCallers_49 (by decide) ?_
    exact ih x5 x6 μ _ _ _ (lv_sub hl [2, 1, 3, 4, 0] rfl) G h
set_option maxHeartbeats 4000000 in
set_option maxRecDepth 100000 in
theorem w_X6_digestCallers_L14 {p : Program} {l : Launch} {e : Env} {s : State} {m : MethodId} {args : Array Value} {below : List Frame} {meth : Method} {c : Code} {Q : State → Prop} {D : va_G} {ad : Nat → Nat} {cA : Nat → ClassId} {r : Int64} {μ' : zM} (X : zX true D ad cA p s m args c cX6_digestCallers "ButlerWeather" 8) (hQ : Q = MQ below (zQl true D ad cA r μ') args s 0 0 (zA true ad)) (hr : meth.sig.returnType = (some .long)) (hlk : meth.locks = false) {v5 : Int32} {kx : Int64 → zM → Option (Int64 × zM)} (HX : ∀ (w3 : Int64) (μ : zM) (H : Heap) (locs : List Loc) (ls : Array Slot), lv_has ls 8 [(3, .long w3)] → zG true D ad cA s μ H locs → kx w3 μ = some (r, μ') → W p l e ({ frames := 5, cells := 0, slots := 0, locals := 126 } : Room) s m args below meth c H locs 0 0 Q (F0 m 208 ls [])) : ∀ (n : Nat) (v3 : Int64) (v6 : Int32) (μ : zM) (H : Heap) (locs : List Loc) (ls : Array Slot), lv_has ls 8 [(0, .ref (ad 0)), (3, .long v3), (5, .int v5), (6, .int v6)] → zG true D ad cA s μ H locs → f_X6_digestCallers_L14 v5 kx n v3 v6 μ = some (r, μ') → W p l e ({ frames := 5, cells := 0, slots := 0, locals := 126 } : Room) s m args below meth c H locs 0 0 Q (F0 m 14 ls []) := by
  obtain ⟨hx, hb, hml, hown, hts, -, -, -⟩ := id X
  intro n
  induction n with
  | zero =>
    intro v3 v6 μ H locs ls hl G h
    cases (show (none : Option (Int64 × zM)) = some (r, μ') from h)
  | succ n ih =>
    intro v3 v6 μ H locs ls hl G h
    rw [f_X6_digestCallers_L14] at h
    refine lv_iload hx hb dX6_digestCallers_14 (lv_at hl 3 rfl) ?_
    refine lv_iload hx hb dX6_digestCallers_16 (lv_at hl 2 rfl) ?_
    refine lv_icmp_ge (tgt := 208) hx hb dX6_digestCallers_18 (by decide) (fun c2 => ?_) (fun c2 => ?_)
    · have h := (zz_br h).1 c2
      exact HX v3 μ _ _ _ (lv_sub hl [1] rfl) G h
    have h := (zz_br h).2 c2
    refine lv_iconst (v := (0 : Int32)) hx hb dX6_digestCallers_21 (by decide) ?_
    refine lv_istore (lv' := [(7, .int (0 : Int32)), (0, .ref (ad 0)), (3, .long v3), (5, .int v5), (6, .int v6)]) hx hb dX6_digestCallers_22 hl (by decide) rfl (fun ls hl => ?_)
    refine w_X6_digestCallers_L24 X hQ hr hlk  (fun x7 μ H locs ls hl G h => ?_) 400 v3 (0 : Int32) μ _ _ _ (lv_sub hl [1, 2, 3, 4, 0] rfl) G h
    refine lv_ldc2 hx hb hown (hts _ kw_741) dX6_digestCallers_52 ?_
    refine lv_lload_n hx hb dX6_digestCallers_55 rfl (lv_at hl 1 rfl) ?_
    refine lv_lmul hx hb dX6_digestCallers_56 ?_
    refine lv_aload_n hx hb dX6_digestCallers_57 rfl (lv_at hl 0 rfl) ?_
    refine lv_bipush (v := (6 : Int32)) hx hb dX6_digestCallers_58 (by decide) ?_
    refine lv_iload hx hb dX6_digestCallers_60 (lv_at hl 3 rfl) ?_
    refine zz_ci (rest := [.long ((31 : Int64) * x7)]) G h (fun r μ1 hf => zz_runV X G rc_6 tl_0 cv_X6_stands kw_755 (c_X6_stands l D ad cA  hf) ⟨rfl, rfl, Nat.le_of_ble_eq_true rfl, Nat.le_of_ble_eq_true rfl⟩ rfl rfl hl.1 (Nat.le_of_ble_eq_true rfl) dX6_digestCallers_62) (fun x8 μ H locs G h => ?_)
    refine lv_i2l hx hb dX6_digestCallers_65 rfl ?_
    refine lv_ladd hx hb dX6_digestCallers_66 ?_
    refine zz_vj h (fun x9 h => ?_)
    refine lv_lstore_n (lv' := [(3, .long x9), (0, .ref (ad 0)), (5, .int v5), (6, .int v6)]) hx hb dX6_digestCallers_67 rfl hl (by decide) rfl (fun ls hl => ?_)
    refine lv_ldc2 hx hb hown (hts _ kw_741) dX6_digestCallers_68 ?_
    refine lv_lload_n hx hb dX6_digestCallers_71 rfl (lv_at hl 0 rfl) ?_
    refine lv_lmul hx hb dX6_digestCallers_72 ?_
    refine lv_aload_n hx hb dX6_digestCallers_73 rfl (lv_at hl 1 rfl) ?_
    refine lv_bipush (v := (14 : Int32)) hx hb dX6_digestCallers_74 (by decide) ?_
    refine lv_iload hx hb dX6_digestCallers_76 (lv_at hl 3 rfl) ?_
    refine zz_ci (rest := [.long ((31 : Int64) * x9)]) G h (fun r μ1 hf => zz_runV X G rc_6 tl_0 cv_X6_stands kw_755 (c_X6_stands l D ad cA  hf) ⟨rfl, rfl, Nat.le_of_ble_eq_true rfl, Nat.le_of_ble_eq_true rfl⟩ rfl rfl hl.1 (Nat.le_of_ble_eq_true rfl) dX6_digestCallers_78) (fun x10 μ H locs G h => ?_)
    refine lv_i2l hx hb dX6_digestCallers_81 rfl ?_
    refine lv_ladd hx hb dX6_digestCallers_82 ?_
    refine zz_vj h (fun x11 h => ?_)
    refine lv_lstore_n (lv' := [(3, .long x11), (0, .ref (ad 0)), (5, .int v5), (6, .int v6)]) hx hb dX6_digestCallers_83 rfl hl (by decide) rfl (fun ls hl => ?_)
    refine lv_ldc2 hx hb hown (hts _ kw_741) dX6_digestCallers_84 ?_
    refine lv_lload_n hx hb dX6_digestCallers_87 rfl (lv_at hl 0 rfl) ?_
    refine lv_lmul hx hb dX6_digestCallers_88 ?_
    refine lv_aload_n hx hb dX6_digestCallers_89 rfl (lv_at hl 1 rfl) ?_
    refine lv_bipush (v := (23 : Int32)) hx hb dX6_digestCallers_90 (by decide) ?_
    refine lv_iload hx hb dX6_digestCallers_92 (lv_at hl 3 rfl) ?_
    refine zz_ci (rest := [.long ((31 : Int64) * x11)]) G h (fun r μ1 hf => zz_runV X G rc_6 tl_0 cv_X6_stands kw_755 (c_X6_stands l D ad cA  hf) ⟨rfl, rfl, Nat.le_of_ble_eq_true rfl, Nat.le_of_ble_eq_true rfl⟩ rfl rfl hl.1 (Nat.le_of_ble_eq_true rfl) dX6_digestCallers_94) (fun x12 μ H locs G h => ?_)
    refine lv_i2l hx hb dX6_digestCallers_97 rfl ?_
    refine lv_ladd hx hb dX6_digestCallers_98 ?_
    refine zz_vj h (fun x13 h => ?_)
    refine lv_lstore_n (lv' := [(3, .long x13), (0, .ref (ad 0)), (5, .int v5), (6, .int v6)]) hx hb dX6_digestCallers_99 rfl hl (by decide) rfl (fun ls hl => ?_)
    refine lv_ldc2 hx hb hown (hts _ kw_741) dX6_digestCallers_100 ?_
    refine lv_lload_n hx hb dX6_digestCallers_103 rfl (lv_at hl 0 rfl) ?_
    refine lv_lmul hx hb dX6_digestCallers_104 ?_
    refine lv_aload_n hx hb dX6_digestCallers_105 rfl (lv_at hl 1 rfl) ?_
    refine lv_iload hx hb dX6_digestCallers_106 (lv_at hl 3 rfl) ?_
    refine zz_ci (rest := [.long ((31 : Int64) * x13)]) G h (fun r μ1 hf => zz_runV X G rc_6 tl_0 cv_X6_name kw_756 (c_X6_name l D ad cA  hf) ⟨rfl, rfl, Nat.le_of_ble_eq_true rfl, Nat.le_of_ble_eq_true rfl⟩ rfl rfl hl.1 (Nat.le_of_ble_eq_true rfl) dX6_digestCallers_108) (fun x14 μ H locs G h => ?_)
    refine lv_i2l hx hb dX6_digestCallers_111 rfl ?_
    refine lv_ladd hx hb dX6_digestCallers_112 ?_
    refine zz_vj h (fun x15 h => ?_)
    refine lv_lstore_n (lv' := [(3, .long x15), (0, .ref (ad 0)), (5, .int v5), (6, .int v6)]) hx hb dX6_digestCallers_113 rfl hl (by decide) rfl (fun ls hl => ?_)
    refine lv_ldc2 hx hb hown (hts _ kw_741) dX6_digestCallers_114 ?_
    refine lv_lload_n hx hb dX6_digestCallers_117 rfl (lv_at hl 0 rfl) ?_
    refine lv_lmul hx hb dX6_digestCallers_118 ?_
    refine lv_aload_n hx hb dX6_digestCallers_119 rfl (lv_at hl 1 rfl) ?_
    refine lv_iload hx hb dX6_digestCallers_120 (lv_at hl 3 rfl) ?_
    refine zz_ci (rest := [.long ((31 : Int64) * x15)]) G h (fun r μ1 hf => zz_runV X G rc_6 tl_0 cv_X6_patience kw_757 (c_X6_patience l D ad cA  hf) ⟨rfl, rfl, Nat.le_of_ble_eq_true rfl, Nat.le_of_ble_eq_true rfl⟩ rfl rfl hl.1 (Nat.le_of_ble_eq_true rfl) dX6_digestCallers_122) (fun x16 μ H locs G h => ?_)
    refine lv_i2l hx hb dX6_digestCallers_125 rfl ?_
    refine lv_ladd hx hb dX6_digestCallers_126 ?_
    refine zz_vj h (fun x17 h => ?_)
    refine lv_lstore_n (lv' := [(3, .long x17), (0, .ref (ad 0)), (5, .int v5), (6, .int v6)]) hx hb dX6_digestCallers_127 rfl hl (by decide) rfl (fun ls hl => ?_)
    refine lv_ldc2 hx hb hown (hts _ kw_741) dX6_digestCallers_128 ?_
    refine lv_lload_n hx hb dX6_digestCallers_131 rfl (lv_at hl 0 rfl) ?_
    refine lv_lmul hx hb dX6_digestCallers_132 ?_
    refine lv_aload_n hx hb dX6_digestCallers_133 rfl (lv_at hl 1 rfl) ?_
    refine lv_iload hx hb dX6_digestCallers_134 (lv_at hl 3 rfl) ?_
    refine lv_iconst (v := (0 : Int32)) hx hb dX6_digestCallers_136 (by decide) ?_
    refine zz_ci (rest := [.long ((31 : Int64) * x17)]) G h (fun r μ1 hf => zz_runV X G rc_6 tl_0 cv_X6_was kw_758 (c_X6_was l D ad cA  hf) ⟨rfl, rfl, Nat.le_of_ble_eq_true rfl, Nat.le_of_ble_eq_true rfl⟩ rfl rfl hl.1 (Nat.le_of_ble_eq_true rfl) dX6_digestCallers_137) (fun x18 μ H locs G h => ?_)
    refine lv_i2l hx hb dX6_digestCallers_140 rfl ?_
    refine lv_ladd hx hb dX6_digestCallers_141 ?_
    refine zz_vj h (fun x19 h => ?_)
    refine lv_lstore_n (lv' := [(3, .long x19), (0, .ref (ad 0)), (5, .int v5), (6, .int v6)]) hx hb dX6_digestCallers_142 rfl hl (by decide) rfl (fun ls hl => ?_)
    refine lv_ldc2 hx hb hown (hts _ kw_741) dX6_digestCallers_143 ?_
    refine lv_lload_n hx hb dX6_digestCallers_146 rfl (lv_at hl 0 rfl) ?_
    refine lv_lmul hx hb dX6_digestCallers_147 ?_
    refine lv_aload_n hx hb dX6_digestCallers_148 rfl (lv_at hl 1 rfl) ?_
    refine lv_iload hx hb dX6_digestCallers_149 (lv_at hl 3 rfl) ?_
    refine lv_iconst (v := (1 : Int32)) hx hb dX6_digestCallers_151 (by decide) ?_
    refine zz_ci (rest := [.long ((31 : Int64) * x19)]) G h (fun r μ1 hf => zz_runV X G rc_6 tl_0 cv_X6_was kw_758 (c_X6_was l D ad cA  hf) ⟨rfl, rfl, Nat.le_of_ble_eq_true rfl, Nat.le_of_ble_eq_true rfl⟩ rfl rfl hl.1 (Nat.le_of_ble_eq_true rfl) dX6_digestCallers_152) (fun x20 μ H locs G h => ?_)
    refine lv_i2l hx hb dX6_digestCallers_155 rfl ?_
    refine lv_ladd hx hb dX6_digestCallers_156 ?_
    refine zz_vj h (fun x21 h => ?_)
    refine lv_lstore_n (lv' := [(3, .long x21), (0, .ref (ad 0)), (5, .int v5), (6, .int v6)]) hx hb dX6_digestCallers_157 rfl hl (by decide) rfl (fun ls hl => ?_)
    refine lv_ldc2 hx hb hown (hts _ kw_741) dX6_digestCallers_158 ?_
    refine lv_lload_n hx hb dX6_digestCallers_161 rfl (lv_at hl 0 rfl) ?_
    refine lv_lmul hx hb dX6_digestCallers_162 ?_
    refine lv_aload_n hx hb dX6_digestCallers_163 rfl (lv_at hl 1 rfl) ?_
    refine lv_iload hx hb dX6_digestCallers_164 (lv_at hl 3 rfl) ?_
    refine zz_ci (rest := [.long ((31 : Int64) * x21)]) G h (fun r μ1 hf => zz_runV X G rc_6 tl_0 cv_X6_ask kw_759 (c_X6_ask l D ad cA  hf) ⟨rfl, rfl, Nat.le_of_ble_eq_true rfl, Nat.le_of_ble_eq_true rfl⟩ rfl rfl hl.1 (Nat.le_of_ble_eq_true rfl) dX6_digestCallers_166) (fun x22 μ H locs G h => ?_)
    refine lv_i2l hx hb dX6_digestCallers_169 rfl ?_
    refine lv_ladd hx hb dX6_digestCallers_170 ?_
    refine zz_vj h (fun x23 h => ?_)
    refine lv_lstore_n (lv' := [(3, .long x23), (0, .ref (ad 0)), (5, .int v5), (6, .int v6)]) hx hb dX6_digestCallers_171 rfl hl (by decide) rfl (fun ls hl => ?_)
    refine lv_ldc2 hx hb hown (hts _ kw_741) dX6_digestCallers_172 ?_
    refine lv_lload_n hx hb dX6_digestCallers_175 rfl (lv_at hl 0 rfl) ?_
    refine lv_lmul hx hb dX6_digestCallers_176 ?_
    refine lv_aload_n hx hb dX6_digestCallers_177 rfl (lv_at hl 1 rfl) ?_
    refine lv_iconst (v := (5 : Int32)) hx hb dX6_digestCallers_178 (by decide) ?_
    refine lv_iload hx hb dX6_digestCallers_179 (lv_at hl 3 rfl) ?_
    refine lv_iconst (v := (0 : Int32)) hx hb dX6_digestCallers_181 (by decide) ?_
    refine zz_cj (rest := [.long ((31 : Int64) * x23)]) G h (fun r μ1 hf => zz_runV X G rc_6 tl_0 cv_X6_chance kw_760 (c_X6_chance l D ad cA  hf) ⟨rfl, rfl, Nat.le_of_ble_eq_true rfl, Nat.le_of_ble_eq_true rfl⟩ rfl rfl hl.1 (Nat.le_of_ble_eq_true rfl) dX6_digestCallers_182) (fun x24 μ H locs G h => ?_)
    refine lv_ladd hx hb dX6_digestCallers_185 ?_
    refine zz_vj h (fun x25 h => ?_)
    refine lv_lstore_n (lv' := [(3, .long x25), (0, .ref (ad 0)), (5, .int v5), (6, .int v6)]) hx hb dX6_digestCallers_186 rfl hl (by decide) rfl (fun ls hl => ?_)
    refine lv_ldc2 hx hb hown (hts _ kw_741) dX6_digestCallers_187 ?_
    refine lv_lload_n hx hb dX6_digestCallers_190 rfl (lv_at hl 0 rfl) ?_
    refine lv_lmul hx hb dX6_digestCallers_191 ?_
    refine lv_aload_n hx hb dX6_digestCallers_192 rfl (lv_at hl 1 rfl) ?_
    refine lv_iconst (v := (5 : Int32)) hx hb dX6_digestCallers_193 (by decide) ?_
    refine lv_iload hx hb dX6_digestCallers_194 (lv_at hl 3 rfl) ?_
    refine lv_iconst (v := (1 : Int32)) hx hb dX6_digestCallers_196 (by decide) ?_
    refine zz_cj (rest := [.long ((31 : Int64) * x25)]) G h (fun r μ1 hf => zz_runV X G rc_6 tl_0 cv_X6_chance kw_760 (c_X6_chance l D ad cA  hf) ⟨rfl, rfl, Nat.le_of_ble_eq_true rfl, Nat.le_of_ble_eq_true rfl⟩ rfl rfl hl.1 (Nat.le_of_ble_eq_true rfl) dX6_digestCallers_197) (fun x26 μ H locs G h => ?_)
    refine lv_ladd hx hb dX6_digestCallers_200 ?_
    refine zz_vj h (fun x27 h => ?_)
    refine lv_lstore_n (lv' := [(3, .long x27), (0, .ref (ad 0)), (5, .int v5), (6, .int v6)]) hx hb dX6_digestCallers_201 rfl hl (by decide) rfl (fun ls hl => ?_)
    obtain ⟨x28, ex28, h⟩ := zz_let h
    refine lv_iinc (v := x28) (lv' := [(6, .int x28), (3, .long x27), (0, .ref (ad 0)), (5, .int v5)]) hx hb dX6_digestCallers_202 hl (k := 3) rfl (by rw [← ex28]; rfl) (by decide) rfl (fun ls hl => ?_)
    refine lv_goto (tgt := 14) hx hb dX6_digestCallers_205 (by decide) ?_
    exact ih x27 x28 μ _ _ _ (lv_sub hl [2, 1, 3, 0] rfl) G h
set_option maxHeartbeats 4000000 in
set_option maxRecDepth 100000 in
theorem c_X6_digestCallers (l : Launch) (D : va_G) (ad : Nat → Nat) (cA : Nat → ClassId) {a1 : Int64} {μ : zM} {r : Int64} {μ' : zM} (h : f_X6_digestCallers a1 μ = some (r, μ')) : zMet true D ad cA l yX6_digestCallers cX6_digestCallers 8 (some .long) ({ frames := 5, cells := 0, slots := 0, locals := 126 } : Room) [.ref (ad 0), .long a1] μ (zQl true D ad cA r μ') := by
  refine zMet_of "ButlerWeather" ⟨by decide, rfl⟩ (Nat.le_of_ble_eq_true rfl) ?_
  intro p e s m args below meth c X G hr hlk ls hl
  have hl : lv_has ls 8 [(0, .ref (ad 0)), (1, .long a1)] := hl
  obtain ⟨hx, hb, hml, hown, hts, -, -, -⟩ := id X
  obtain ⟨Q, hQ⟩ : ∃ Q, Q = MQ below (zQl true D ad cA r μ') args s 0 0 (zA true ad) := ⟨_, rfl⟩
  rw [← hQ]
  unfold f_X6_digestCallers at h
  refine lv_lload_n hx hb dX6_digestCallers_0 rfl (lv_at hl 1 rfl) ?_
  refine lv_lstore_n (lv' := [(3, .long a1), (0, .ref (ad 0)), (1, .long a1)]) hx hb dX6_digestCallers_1 rfl hl (by decide) rfl (fun ls hl => ?_)
  refine lv_aload_n hx hb dX6_digestCallers_2 rfl (lv_at hl 1 rfl) ?_
  refine zz_cr (rest := []) G h (fun r μ1 hf => zz_runV X G rc_6 tl_0 cv_X6_told kw_332 (c_X6_told l D ad cA  hf) ⟨rfl, rfl, Nat.le_of_ble_eq_true rfl, Nat.le_of_ble_eq_true rfl⟩ rfl rfl hl.1 (Nat.le_of_ble_eq_true rfl) dX6_digestCallers_3) (fun _ μ H locs G h => ?_)
  refine zz_geti X G fi_2_0 tl_21 kw_180 dX6_digestCallers_6 h (fun x1 h => ?_)
  refine lv_istore (lv' := [(5, .int x1), (3, .long a1), (0, .ref (ad 0)), (1, .long a1)]) hx hb dX6_digestCallers_9 hl (by decide) rfl (fun ls hl => ?_)
  refine lv_iconst (v := (0 : Int32)) hx hb dX6_digestCallers_11 (by decide) ?_
  refine lv_istore (lv' := [(6, .int (0 : Int32)), (5, .int x1), (3, .long a1), (0, .ref (ad 0)), (1, .long a1)]) hx hb dX6_digestCallers_12 hl (by decide) rfl (fun ls hl => ?_)
  refine w_X6_digestCallers_L14 X hQ hr hlk  (fun x29 μ H locs ls hl G h => ?_) 400 a1 (0 : Int32) μ _ _ _ (lv_sub hl [3, 2, 1, 0] rfl) G h
  refine lv_lload_n hx hb dX6_digestCallers_208 rfl (lv_at hl 0 rfl) ?_
  rw [hQ]
  exact zz_lret X G hr hlk dX6_digestCallers_209 h
