-- CONTRACTS, by program
set_option maxHeartbeats 4000000 in
set_option maxRecDepth 100000 in
theorem c_X0_append (l : Launch) (D : va_G) (ad : Nat → Nat) (cA : Nat → ClassId) {a1 : Int32} {a2 : Int32} {μ : zM} {r : Int32} {μ' : zM} (h : f_X0_append a1 a2 μ = some (r, μ')) : zMet true D ad cA l yX0_append cX0_append 3 (some .int) ({ frames := 0, cells := 0, slots := 0, locals := 0 } : Room) [.ref (ad 6), .int a1, .int a2] μ (zQi true D ad cA r μ') := by
  refine zMet_of "ButlerWeather$Cards" ⟨by decide, rfl⟩ (Nat.le_of_ble_eq_true rfl) ?_
  intro p e s m args below meth c X G hr hlk ls hl
  have hl : lv_has ls 3 [(0, .ref (ad 6)), (1, .int a1), (2, .int a2)] := hl
  obtain ⟨hx, hb, hml, hown, hts, -, -, -⟩ := id X
  obtain ⟨Q, hQ⟩ : ∃ Q, Q = MQ below (zQi true D ad cA r μ') args s 0 0 (zA true ad) := ⟨_, rfl⟩
  rw [← hQ]
  unfold f_X0_append at h
  refine lv_aload_n hx hb dX0_append_0 rfl (lv_at hl 0 rfl) ?_
  refine zz_geti X G fi_0_2 tl_6 kw_125 dX0_append_1 h (fun x1 h => ?_)
  refine lv_bipush (v := (8 : Int32)) hx hb dX0_append_4 (by decide) ?_
  refine lv_icmp_ge (tgt := 39) hx hb dX0_append_6 (by decide) (fun c2 => ?_) (fun c2 => ?_)
  · have h := (zz_br h).1 c2
    refine lv_aload_n hx hb dX0_append_39 rfl (lv_at hl 0 rfl) ?_
    refine zz_geti X G fi_0_2 tl_6 kw_125 dX0_append_40 h (fun x3 h => ?_)
    rw [hQ]
    exact zz_iret X G hr hlk dX0_append_43 h
  have h := (zz_br h).2 c2
  refine lv_aload_n hx hb dX0_append_9 rfl (lv_at hl 0 rfl) ?_
  refine zz_getr X G fr_0_0 tl_6 rl_6_0 kw_123 dX0_append_10 ?_
  refine lv_aload_n hx hb dX0_append_13 rfl (lv_at hl 0 rfl) ?_
  refine zz_geti X G fi_0_2 tl_6 kw_125 dX0_append_14 h (fun x4 h => ?_)
  refine lv_iload_n hx hb dX0_append_17 rfl (lv_at hl 1 rfl) ?_
  refine zz_iast X G ia_10 tl_7 dX0_append_18 h (fun μ H locs G h => ?_)
  refine lv_aload_n hx hb dX0_append_19 rfl (lv_at hl 0 rfl) ?_
  refine zz_getr X G fr_0_1 tl_6 rl_6_1 kw_124 dX0_append_20 ?_
  refine lv_aload_n hx hb dX0_append_23 rfl (lv_at hl 0 rfl) ?_
  refine zz_geti X G fi_0_2 tl_6 kw_125 dX0_append_24 h (fun x5 h => ?_)
  refine lv_iload_n hx hb dX0_append_27 rfl (lv_at hl 2 rfl) ?_
  refine zz_iast X G ia_10 tl_8 dX0_append_28 h (fun μ H locs G h => ?_)
  refine lv_aload_n hx hb dX0_append_29 rfl (lv_at hl 0 rfl) ?_
  refine lv_dup hx hb dX0_append_30 rfl ?_
  refine zz_geti X G fi_0_2 tl_6 kw_125 dX0_append_31 h (fun x6 h => ?_)
  refine lv_iconst (v := (1 : Int32)) hx hb dX0_append_34 (by decide) ?_
  refine lv_iadd hx hb dX0_append_35 ?_
  refine zz_puti X G fp_0_2 tl_6 kw_125 rfl rfl dX0_append_36 h (fun μ H locs G h => ?_)
  refine lv_aload_n hx hb dX0_append_39 rfl (lv_at hl 0 rfl) ?_
  refine zz_geti X G fi_0_2 tl_6 kw_125 dX0_append_40 h (fun x7 h => ?_)
  rw [hQ]
  exact zz_iret X G hr hlk dX0_append_43 h
set_option maxHeartbeats 4000000 in
set_option maxRecDepth 100000 in
theorem c_X0_dropLast (l : Launch) (D : va_G) (ad : Nat → Nat) (cA : Nat → ClassId)  {μ : zM} {r : Int32} {μ' : zM} (h : f_X0_dropLast μ = some (r, μ')) : zMet true D ad cA l yX0_dropLast cX0_dropLast 1 (some .int) ({ frames := 0, cells := 0, slots := 0, locals := 0 } : Room) [.ref (ad 6)] μ (zQi true D ad cA r μ') := by
  refine zMet_of "ButlerWeather$Cards" ⟨by decide, rfl⟩ (Nat.le_of_ble_eq_true rfl) ?_
  intro p e s m args below meth c X G hr hlk ls hl
  have hl : lv_has ls 1 [(0, .ref (ad 6))] := hl
  obtain ⟨hx, hb, hml, hown, hts, -, -, -⟩ := id X
  obtain ⟨Q, hQ⟩ : ∃ Q, Q = MQ below (zQi true D ad cA r μ') args s 0 0 (zA true ad) := ⟨_, rfl⟩
  rw [← hQ]
  unfold f_X0_dropLast at h
  refine lv_aload_n hx hb dX0_dropLast_0 rfl (lv_at hl 0 rfl) ?_
  refine zz_geti X G fi_0_2 tl_6 kw_125 dX0_dropLast_1 h (fun x1 h => ?_)
  refine lv_if_le (tgt := 17) hx hb dX0_dropLast_4 (by decide) (fun c2 => ?_) (fun c2 => ?_)
  · have h := (zz_br h).1 c2
    refine lv_aload_n hx hb dX0_dropLast_17 rfl (lv_at hl 0 rfl) ?_
    refine zz_geti X G fi_0_2 tl_6 kw_125 dX0_dropLast_18 h (fun x3 h => ?_)
    rw [hQ]
    exact zz_iret X G hr hlk dX0_dropLast_21 h
  have h := (zz_br h).2 c2
  refine lv_aload_n hx hb dX0_dropLast_7 rfl (lv_at hl 0 rfl) ?_
  refine lv_dup hx hb dX0_dropLast_8 rfl ?_
  refine zz_geti X G fi_0_2 tl_6 kw_125 dX0_dropLast_9 h (fun x4 h => ?_)
  refine lv_iconst (v := (1 : Int32)) hx hb dX0_dropLast_12 (by decide) ?_
  refine lv_isub hx hb dX0_dropLast_13 ?_
  refine zz_puti X G fp_0_2 tl_6 kw_125 rfl rfl dX0_dropLast_14 h (fun μ H locs G h => ?_)
  refine lv_aload_n hx hb dX0_dropLast_17 rfl (lv_at hl 0 rfl) ?_
  refine zz_geti X G fi_0_2 tl_6 kw_125 dX0_dropLast_18 h (fun x5 h => ?_)
  rw [hQ]
  exact zz_iret X G hr hlk dX0_dropLast_21 h
set_option maxHeartbeats 4000000 in
set_option maxRecDepth 100000 in
theorem w_X2_uninviteAll_L2 {p : Program} {l : Launch} {e : Env} {s : State} {m : MethodId} {args : Array Value} {below : List Frame} {meth : Method} {c : Code} {Q : State → Prop} {D : va_G} {ad : Nat → Nat} {cA : Nat → ClassId} {r : Unit} {μ' : zM} (X : zX true D ad cA p s m args c cX2_uninviteAll "ButlerWeather$House" 2) (hQ : Q = MQ below (zQv true D ad cA r μ') args s 0 0 (zA true ad)) (hr : meth.sig.returnType = none) (hlk : meth.locks = false) {r0 : Nat} (t_r0 : zty r0 = 2) {kx : zM → Option (Unit × zM)} (HX : ∀ (μ : zM) (H : Heap) (locs : List Loc) (ls : Array Slot), lv_has ls 2 [] → zG true D ad cA s μ H locs → kx  μ = some (r, μ') → W p l e ({ frames := 0, cells := 0, slots := 0, locals := 0 } : Room) s m args below meth c H locs 0 0 Q (F0 m 22 ls [])) : ∀ (n : Nat) (v1 : Int32) (μ : zM) (H : Heap) (locs : List Loc) (ls : Array Slot), lv_has ls 2 [(0, .ref (ad r0)), (1, .int v1)] → zG true D ad cA s μ H locs → f_X2_uninviteAll_L2 r0 kx n v1 μ = some (r, μ') → W p l e ({ frames := 0, cells := 0, slots := 0, locals := 0 } : Room) s m args below meth c H locs 0 0 Q (F0 m 2 ls []) := by
  obtain ⟨hx, hb, hml, hown, hts, -, -, -⟩ := id X
  intro n
  induction n with
  | zero =>
    intro v1 μ H locs ls hl G h
    cases (show (none : Option (Unit × zM)) = some (r, μ') from h)
  | succ n ih =>
    intro v1 μ H locs ls hl G h
    rw [f_X2_uninviteAll_L2] at h
    refine lv_iload_n hx hb dX2_uninviteAll_2 rfl (lv_at hl 1 rfl) ?_
    refine lv_bipush (v := (8 : Int32)) hx hb dX2_uninviteAll_3 (by decide) ?_
    refine lv_icmp_ge (tgt := 22) hx hb dX2_uninviteAll_5 (by decide) (fun c1 => ?_) (fun c1 => ?_)
    · have h := (zz_br h).1 c1
      exact HX  μ _ _ _ (lv_sub hl [] rfl) G h
    have h := (zz_br h).2 c1
    refine lv_aload_n hx hb dX2_uninviteAll_8 rfl (lv_at hl 0 rfl) ?_
    refine zz_getr X G fr_2_5 t_r0 (rs_2_5 t_r0) kw_190 dX2_uninviteAll_9 ?_
    refine lv_iload_n hx hb dX2_uninviteAll_12 rfl (lv_at hl 1 rfl) ?_
    refine lv_bipush (v := (24 : Int32)) hx hb dX2_uninviteAll_13 (by decide) ?_
    refine zz_iast X G ia_10 (ft_2_5 t_r0) dX2_uninviteAll_15 h (fun μ H locs G h => ?_)
    obtain ⟨x2, ex2, h⟩ := zz_let h
    refine lv_iinc (v := x2) (lv' := [(1, .int x2), (0, .ref (ad r0))]) hx hb dX2_uninviteAll_16 hl (k := 1) rfl (by rw [← ex2]; rfl) (by decide) rfl (fun ls hl => ?_)
    refine lv_goto (tgt := 2) hx hb dX2_uninviteAll_19 (by decide) ?_
    exact ih x2 μ _ _ _ (lv_sub hl [1, 0] rfl) G h
set_option maxHeartbeats 4000000 in
set_option maxRecDepth 100000 in
theorem c_X2_uninviteAll (l : Launch) (D : va_G) (ad : Nat → Nat) (cA : Nat → ClassId) {r0 : Nat} (t_r0 : zty r0 = 2) {μ : zM} {r : Unit} {μ' : zM} (h : f_X2_uninviteAll r0 μ = some (r, μ')) : zMet true D ad cA l yX2_uninviteAll cX2_uninviteAll 2 none ({ frames := 0, cells := 0, slots := 0, locals := 0 } : Room) [.ref (ad r0)] μ (zQv true D ad cA r μ') := by
  refine zMet_of "ButlerWeather$House" ⟨by decide, rfl⟩ (Nat.le_of_ble_eq_true rfl) ?_
  intro p e s m args below meth c X G hr hlk ls hl
  have hl : lv_has ls 2 [(0, .ref (ad r0))] := hl
  obtain ⟨hx, hb, hml, hown, hts, -, -, -⟩ := id X
  obtain ⟨Q, hQ⟩ : ∃ Q, Q = MQ below (zQv true D ad cA r μ') args s 0 0 (zA true ad) := ⟨_, rfl⟩
  rw [← hQ]
  unfold f_X2_uninviteAll at h
  refine lv_iconst (v := (0 : Int32)) hx hb dX2_uninviteAll_0 (by decide) ?_
  refine lv_istore_n (lv' := [(1, .int (0 : Int32)), (0, .ref (ad r0))]) hx hb dX2_uninviteAll_1 rfl hl (by decide) rfl (fun ls hl => ?_)
  refine w_X2_uninviteAll_L2 X hQ hr hlk t_r0 (fun  μ H locs ls hl G h => ?_) 400 (0 : Int32) μ _ _ _ (lv_sub hl [1, 0] rfl) G h
  rw [hQ]
  exact zz_vret X G hr hlk dX2_uninviteAll_22 h
set_option maxHeartbeats 4000000 in
set_option maxRecDepth 100000 in
theorem c_X6_within (l : Launch) (D : va_G) (ad : Nat → Nat) (cA : Nat → ClassId) {a0 : Int32} {a1 : Int32} {a2 : Int32} {μ : zM} {r : Int32} {μ' : zM} (h : f_X6_within a0 a1 a2 μ = some (r, μ')) : zMet true D ad cA l yX6_within cX6_within 3 (some .boolean) ({ frames := 0, cells := 0, slots := 0, locals := 0 } : Room) [.int a0, .int a1, .int a2] μ (zQi true D ad cA r μ') := by
  refine zMet_of "ButlerWeather" ⟨by decide, rfl⟩ (Nat.le_of_ble_eq_true rfl) ?_
  intro p e s m args below meth c X G hr hlk ls hl
  have hl : lv_has ls 3 [(0, .int a0), (1, .int a1), (2, .int a2)] := hl
  obtain ⟨hx, hb, hml, hown, hts, -, -, -⟩ := id X
  obtain ⟨Q, hQ⟩ : ∃ Q, Q = MQ below (zQi true D ad cA r μ') args s 0 0 (zA true ad) := ⟨_, rfl⟩
  rw [← hQ]
  unfold f_X6_within at h
  refine lv_iload_n hx hb dX6_within_0 rfl (lv_at hl 0 rfl) ?_
  refine lv_iload_n hx hb dX6_within_1 rfl (lv_at hl 1 rfl) ?_
  refine lv_icmp_lt (tgt := 14) hx hb dX6_within_2 (by decide) (fun c1 => ?_) (fun c1 => ?_)
  · have h := (zz_br h).1 c1
    refine lv_iconst (v := (0 : Int32)) hx hb dX6_within_14 (by decide) ?_
    rw [hQ]
    exact zz_zret X G hr hlk dX6_within_15 h
  have h := (zz_br h).2 c1
  refine lv_iload_n hx hb dX6_within_5 rfl (lv_at hl 0 rfl) ?_
  refine lv_iload_n hx hb dX6_within_6 rfl (lv_at hl 2 rfl) ?_
  refine lv_icmp_gt (tgt := 14) hx hb dX6_within_7 (by decide) (fun c2 => ?_) (fun c2 => ?_)
  · have h := (zz_br h).1 c2
    refine lv_iconst (v := (0 : Int32)) hx hb dX6_within_14 (by decide) ?_
    rw [hQ]
    exact zz_zret X G hr hlk dX6_within_15 h
  have h := (zz_br h).2 c2
  refine lv_iconst (v := (1 : Int32)) hx hb dX6_within_10 (by decide) ?_
  refine lv_goto (tgt := 15) hx hb dX6_within_11 (by decide) ?_
  rw [hQ]
  exact zz_zret X G hr hlk dX6_within_15 h
set_option maxHeartbeats 4000000 in
set_option maxRecDepth 100000 in
theorem c_X2_invite (l : Launch) (D : va_G) (ad : Nat → Nat) (cA : Nat → ClassId) {r0 : Nat} (t_r0 : zty r0 = 2) {a1 : Int32} {a2 : Int32} {μ : zM} {r : Unit} {μ' : zM} (h : f_X2_invite r0 a1 a2 μ = some (r, μ')) : zMet true D ad cA l yX2_invite cX2_invite 3 none ({ frames := 1, cells := 0, slots := 0, locals := 22 } : Room) [.ref (ad r0), .int a1, .int a2] μ (zQv true D ad cA r μ') := by
  refine zMet_of "ButlerWeather$House" ⟨by decide, rfl⟩ (Nat.le_of_ble_eq_true rfl) ?_
  intro p e s m args below meth c X G hr hlk ls hl
  have hl : lv_has ls 3 [(0, .ref (ad r0)), (1, .int a1), (2, .int a2)] := hl
  obtain ⟨hx, hb, hml, hown, hts, -, -, -⟩ := id X
  obtain ⟨Q, hQ⟩ : ∃ Q, Q = MQ below (zQv true D ad cA r μ') args s 0 0 (zA true ad) := ⟨_, rfl⟩
  rw [← hQ]
  unfold f_X2_invite at h
  refine lv_iload_n hx hb dX2_invite_0 rfl (lv_at hl 2 rfl) ?_
  refine lv_iconst (v := (0 : Int32)) hx hb dX2_invite_1 (by decide) ?_
  refine lv_bipush (v := (7 : Int32)) hx hb dX2_invite_2 (by decide) ?_
  refine zz_ci (rest := []) G h (fun r μ1 hf => zz_runSN X G cs_X6_within nw_X2_52 (c_X6_within l D ad cA  hf) ⟨rfl, rfl, Nat.le_of_ble_eq_true rfl, Nat.le_of_ble_eq_true rfl⟩ rfl rfl hl.1 (Nat.le_of_ble_eq_true rfl) dX2_invite_4) (fun x1 μ H locs G h => ?_)
  refine lv_if_eq (tgt := 26) hx hb dX2_invite_7 (by decide) (fun c2 => ?_) (fun c2 => ?_)
  · have h := (zz_br h).1 c2
    rw [hQ]
    exact zz_vret X G hr hlk dX2_invite_26 h
  have h := (zz_br h).2 c2
  refine lv_aload_n hx hb dX2_invite_10 rfl (lv_at hl 0 rfl) ?_
  refine zz_getr X G fr_2_5 t_r0 (rs_2_5 t_r0) kw_190 dX2_invite_11 ?_
  refine lv_iload_n hx hb dX2_invite_14 rfl (lv_at hl 2 rfl) ?_
  refine lv_aload_n hx hb dX2_invite_15 rfl (lv_at hl 0 rfl) ?_
  refine zz_getr X G fr_2_5 t_r0 (rs_2_5 t_r0) kw_190 dX2_invite_16 ?_
  refine lv_iload_n hx hb dX2_invite_19 rfl (lv_at hl 2 rfl) ?_
  refine zz_iald X G ia_10 (ft_2_5 t_r0) dX2_invite_20 h (fun x3 h => ?_)
  refine lv_iload_n hx hb dX2_invite_21 rfl (lv_at hl 1 rfl) ?_
  refine va_mmin hx hb (hml.trans hl.1.symm) hown (hts _ kw_345) (hts _ kw_346) (hts _ kw_80) (hts _ kw_347) (Nat.le_of_ble_eq_true rfl) (Nat.le_of_ble_eq_true rfl) (Nat.zero_le _) (Nat.zero_le _) dX2_invite_22 ?_
  refine zz_vi h (fun x4 h => ?_)
  refine zz_iast X G ia_10 (ft_2_5 t_r0) dX2_invite_25 h (fun μ H locs G h => ?_)
  rw [hQ]
  exact zz_vret X G hr hlk dX2_invite_26 h
set_option maxHeartbeats 4000000 in
set_option maxRecDepth 100000 in
theorem w_X0_inviteAllBut_L6 {p : Program} {l : Launch} {e : Env} {s : State} {m : MethodId} {args : Array Value} {below : List Frame} {meth : Method} {c : Code} {Q : State → Prop} {D : va_G} {ad : Nat → Nat} {cA : Nat → ClassId} {r : Unit} {μ' : zM} (X : zX true D ad cA p s m args c cX0_inviteAllBut "ButlerWeather$Cards" 4) (hQ : Q = MQ below (zQv true D ad cA r μ') args s 0 0 (zA true ad)) (hr : meth.sig.returnType = none) (hlk : meth.locks = false) {v1 : Int32} {r2 : Nat} (t_r2 : zty r2 = 2) {kx : zM → Option (Unit × zM)} (HX : ∀ (μ : zM) (H : Heap) (locs : List Loc) (ls : Array Slot), lv_has ls 4 [] → zG true D ad cA s μ H locs → kx  μ = some (r, μ') → W p l e ({ frames := 2, cells := 0, slots := 0, locals := 44 } : Room) s m args below meth c H locs 0 0 Q (F0 m 44 ls [])) : ∀ (n : Nat) (v3 : Int32) (μ : zM) (H : Heap) (locs : List Loc) (ls : Array Slot), lv_has ls 4 [(0, .ref (ad 6)), (1, .int v1), (2, .ref (ad r2)), (3, .int v3)] → zG true D ad cA s μ H locs → f_X0_inviteAllBut_L6 v1 r2 kx n v3 μ = some (r, μ') → W p l e ({ frames := 2, cells := 0, slots := 0, locals := 44 } : Room) s m args below meth c H locs 0 0 Q (F0 m 6 ls []) := by
  obtain ⟨hx, hb, hml, hown, hts, -, -, -⟩ := id X
  intro n
  induction n with
  | zero =>
    intro v3 μ H locs ls hl G h
    cases (show (none : Option (Unit × zM)) = some (r, μ') from h)
  | succ n ih =>
    intro v3 μ H locs ls hl G h
    rw [f_X0_inviteAllBut_L6] at h
    refine lv_iload_n hx hb dX0_inviteAllBut_6 rfl (lv_at hl 3 rfl) ?_
    refine lv_aload_n hx hb dX0_inviteAllBut_7 rfl (lv_at hl 0 rfl) ?_
    refine zz_geti X G fi_0_2 tl_6 kw_125 dX0_inviteAllBut_8 h (fun x1 h => ?_)
    refine lv_icmp_ge (tgt := 44) hx hb dX0_inviteAllBut_11 (by decide) (fun c2 => ?_) (fun c2 => ?_)
    · have h := (zz_br h).1 c2
      exact HX  μ _ _ _ (lv_sub hl [] rfl) G h
    have h := (zz_br h).2 c2
    refine lv_iload_n hx hb dX0_inviteAllBut_14 rfl (lv_at hl 1 rfl) ?_
    refine lv_iload_n hx hb dX0_inviteAllBut_15 rfl (lv_at hl 3 rfl) ?_
    refine lv_ishr hx hb dX0_inviteAllBut_16 ?_
    refine lv_iconst (v := (1 : Int32)) hx hb dX0_inviteAllBut_17 (by decide) ?_
    refine lv_iand hx hb dX0_inviteAllBut_18 ?_
    refine lv_if_ne (tgt := 38) hx hb dX0_inviteAllBut_19 (by decide) (fun c3 => ?_) (fun c3 => ?_)
    · have h := (zz_br h).1 c3
      obtain ⟨x4, ex4, h⟩ := zz_let h
      refine lv_iinc (v := x4) (lv' := [(3, .int x4), (0, .ref (ad 6)), (1, .int v1), (2, .ref (ad r2))]) hx hb dX0_inviteAllBut_38 hl (k := 3) rfl (by rw [← ex4]; rfl) (by decide) rfl (fun ls hl => ?_)
      refine lv_goto (tgt := 6) hx hb dX0_inviteAllBut_41 (by decide) ?_
      exact ih x4 μ _ _ _ (lv_sub hl [1, 2, 3, 0] rfl) G h
    have h := (zz_br h).2 (fun q => q c3)
    refine lv_aload_n hx hb dX0_inviteAllBut_22 rfl (lv_at hl 2 rfl) ?_
    refine lv_aload_n hx hb dX0_inviteAllBut_23 rfl (lv_at hl 0 rfl) ?_
    refine zz_getr X G fr_0_0 tl_6 rl_6_0 kw_123 dX0_inviteAllBut_24 ?_
    refine lv_iload_n hx hb dX0_inviteAllBut_27 rfl (lv_at hl 3 rfl) ?_
    refine zz_iald X G ia_10 tl_7 dX0_inviteAllBut_28 h (fun x5 h => ?_)
    refine lv_aload_n hx hb dX0_inviteAllBut_29 rfl (lv_at hl 0 rfl) ?_
    refine zz_getr X G fr_0_1 tl_6 rl_6_1 kw_124 dX0_inviteAllBut_30 ?_
    refine lv_iload_n hx hb dX0_inviteAllBut_33 rfl (lv_at hl 3 rfl) ?_
    refine zz_iald X G ia_10 tl_8 dX0_inviteAllBut_34 h (fun x6 h => ?_)
    refine zz_cv (rest := []) G h (fun r μ1 hf => zz_runV X G rc_2 t_r2 cv_X2_invite kw_365 (c_X2_invite l D ad cA t_r2 hf) ⟨rfl, rfl, Nat.le_of_ble_eq_true rfl, Nat.le_of_ble_eq_true rfl⟩ rfl rfl hl.1 (Nat.le_of_ble_eq_true rfl) dX0_inviteAllBut_35) (fun _ μ H locs G h => ?_)
    obtain ⟨x7, ex7, h⟩ := zz_let h
    refine lv_iinc (v := x7) (lv' := [(3, .int x7), (0, .ref (ad 6)), (1, .int v1), (2, .ref (ad r2))]) hx hb dX0_inviteAllBut_38 hl (k := 3) rfl (by rw [← ex7]; rfl) (by decide) rfl (fun ls hl => ?_)
    refine lv_goto (tgt := 6) hx hb dX0_inviteAllBut_41 (by decide) ?_
    exact ih x7 μ _ _ _ (lv_sub hl [1, 2, 3, 0] rfl) G h
set_option maxHeartbeats 4000000 in
set_option maxRecDepth 100000 in
theorem c_X0_inviteAllBut (l : Launch) (D : va_G) (ad : Nat → Nat) (cA : Nat → ClassId) {a1 : Int32} {r2 : Nat} (t_r2 : zty r2 = 2) {μ : zM} {r : Unit} {μ' : zM} (h : f_X0_inviteAllBut a1 r2 μ = some (r, μ')) : zMet true D ad cA l yX0_inviteAllBut cX0_inviteAllBut 4 none ({ frames := 2, cells := 0, slots := 0, locals := 44 } : Room) [.ref (ad 6), .int a1, .ref (ad r2)] μ (zQv true D ad cA r μ') := by
  refine zMet_of "ButlerWeather$Cards" ⟨by decide, rfl⟩ (Nat.le_of_ble_eq_true rfl) ?_
  intro p e s m args below meth c X G hr hlk ls hl
  have hl : lv_has ls 4 [(0, .ref (ad 6)), (1, .int a1), (2, .ref (ad r2))] := hl
  obtain ⟨hx, hb, hml, hown, hts, -, -, -⟩ := id X
  obtain ⟨Q, hQ⟩ : ∃ Q, Q = MQ below (zQv true D ad cA r μ') args s 0 0 (zA true ad) := ⟨_, rfl⟩
  rw [← hQ]
  unfold f_X0_inviteAllBut at h
  refine lv_aload_n hx hb dX0_inviteAllBut_0 rfl (lv_at hl 2 rfl) ?_
  refine zz_cv (rest := []) G h (fun r μ1 hf => zz_runV X G rc_2 t_r2 cv_X2_uninviteAll kw_361 (c_X2_uninviteAll l D ad cA t_r2 hf) ⟨rfl, rfl, Nat.le_of_ble_eq_true rfl, Nat.le_of_ble_eq_true rfl⟩ rfl rfl hl.1 (Nat.le_of_ble_eq_true rfl) dX0_inviteAllBut_1) (fun _ μ H locs G h => ?_)
  refine lv_iconst (v := (0 : Int32)) hx hb dX0_inviteAllBut_4 (by decide) ?_
  refine lv_istore_n (lv' := [(3, .int (0 : Int32)), (0, .ref (ad 6)), (1, .int a1), (2, .ref (ad r2))]) hx hb dX0_inviteAllBut_5 rfl hl (by decide) rfl (fun ls hl => ?_)
  refine w_X0_inviteAllBut_L6 X hQ hr hlk t_r2 (fun  μ H locs ls hl G h => ?_) 400 (0 : Int32) μ _ _ _ (lv_sub hl [1, 2, 3, 0] rfl) G h
  rw [hQ]
  exact zz_vret X G hr hlk dX0_inviteAllBut_44 h
set_option maxHeartbeats 4000000 in
set_option maxRecDepth 100000 in
theorem c_X1_append (l : Launch) (D : va_G) (ad : Nat → Nat) (cA : Nat → ClassId) {a1 : Int32} {a2 : Int32} {μ : zM} {r : Int32} {μ' : zM} (h : f_X1_append a1 a2 μ = some (r, μ')) : zMet true D ad cA l yX1_append cX1_append 3 (some .int) ({ frames := 0, cells := 0, slots := 0, locals := 0 } : Room) [.ref (ad 9), .int a1, .int a2] μ (zQi true D ad cA r μ') := by
  refine zMet_of "ButlerWeather$Felt" ⟨by decide, rfl⟩ (Nat.le_of_ble_eq_true rfl) ?_
  intro p e s m args below meth c X G hr hlk ls hl
  have hl : lv_has ls 3 [(0, .ref (ad 9)), (1, .int a1), (2, .int a2)] := hl
  obtain ⟨hx, hb, hml, hown, hts, -, -, -⟩ := id X
  obtain ⟨Q, hQ⟩ : ∃ Q, Q = MQ below (zQi true D ad cA r μ') args s 0 0 (zA true ad) := ⟨_, rfl⟩
  rw [← hQ]
  unfold f_X1_append at h
  refine lv_aload_n hx hb dX1_append_0 rfl (lv_at hl 0 rfl) ?_
  refine zz_geti X G fi_1_2 tl_9 kw_143 dX1_append_1 h (fun x1 h => ?_)
  refine lv_bipush (v := (8 : Int32)) hx hb dX1_append_4 (by decide) ?_
  refine lv_icmp_ge (tgt := 39) hx hb dX1_append_6 (by decide) (fun c2 => ?_) (fun c2 => ?_)
  · have h := (zz_br h).1 c2
    refine lv_aload_n hx hb dX1_append_39 rfl (lv_at hl 0 rfl) ?_
    refine zz_geti X G fi_1_2 tl_9 kw_143 dX1_append_40 h (fun x3 h => ?_)
    rw [hQ]
    exact zz_iret X G hr hlk dX1_append_43 h
  have h := (zz_br h).2 c2
  refine lv_aload_n hx hb dX1_append_9 rfl (lv_at hl 0 rfl) ?_
  refine zz_getr X G fr_1_0 tl_9 rl_9_0 kw_141 dX1_append_10 ?_
  refine lv_aload_n hx hb dX1_append_13 rfl (lv_at hl 0 rfl) ?_
  refine zz_geti X G fi_1_2 tl_9 kw_143 dX1_append_14 h (fun x4 h => ?_)
  refine lv_iload_n hx hb dX1_append_17 rfl (lv_at hl 1 rfl) ?_
  refine zz_iast X G ia_10 tl_10 dX1_append_18 h (fun μ H locs G h => ?_)
  refine lv_aload_n hx hb dX1_append_19 rfl (lv_at hl 0 rfl) ?_
  refine zz_getr X G fr_1_1 tl_9 rl_9_1 kw_142 dX1_append_20 ?_
  refine lv_aload_n hx hb dX1_append_23 rfl (lv_at hl 0 rfl) ?_
  refine zz_geti X G fi_1_2 tl_9 kw_143 dX1_append_24 h (fun x5 h => ?_)
  refine lv_iload_n hx hb dX1_append_27 rfl (lv_at hl 2 rfl) ?_
  refine zz_iast X G ia_10 tl_11 dX1_append_28 h (fun μ H locs G h => ?_)
  refine lv_aload_n hx hb dX1_append_29 rfl (lv_at hl 0 rfl) ?_
  refine lv_dup hx hb dX1_append_30 rfl ?_
  refine zz_geti X G fi_1_2 tl_9 kw_143 dX1_append_31 h (fun x6 h => ?_)
  refine lv_iconst (v := (1 : Int32)) hx hb dX1_append_34 (by decide) ?_
  refine lv_iadd hx hb dX1_append_35 ?_
  refine zz_puti X G fp_1_2 tl_9 kw_143 rfl rfl dX1_append_36 h (fun μ H locs G h => ?_)
  refine lv_aload_n hx hb dX1_append_39 rfl (lv_at hl 0 rfl) ?_
  refine zz_geti X G fi_1_2 tl_9 kw_143 dX1_append_40 h (fun x7 h => ?_)
  rw [hQ]
  exact zz_iret X G hr hlk dX1_append_43 h
set_option maxHeartbeats 4000000 in
set_option maxRecDepth 100000 in
theorem c_X1_clear (l : Launch) (D : va_G) (ad : Nat → Nat) (cA : Nat → ClassId)  {μ : zM} {r : Int32} {μ' : zM} (h : f_X1_clear μ = some (r, μ')) : zMet true D ad cA l yX1_clear cX1_clear 2 (some .int) ({ frames := 0, cells := 0, slots := 0, locals := 0 } : Room) [.ref (ad 9)] μ (zQi true D ad cA r μ') := by
  refine zMet_of "ButlerWeather$Felt" ⟨by decide, rfl⟩ (Nat.le_of_ble_eq_true rfl) ?_
  intro p e s m args below meth c X G hr hlk ls hl
  have hl : lv_has ls 2 [(0, .ref (ad 9))] := hl
  obtain ⟨hx, hb, hml, hown, hts, -, -, -⟩ := id X
  obtain ⟨Q, hQ⟩ : ∃ Q, Q = MQ below (zQi true D ad cA r μ') args s 0 0 (zA true ad) := ⟨_, rfl⟩
  rw [← hQ]
  unfold f_X1_clear at h
  refine lv_aload_n hx hb dX1_clear_0 rfl (lv_at hl 0 rfl) ?_
  refine zz_geti X G fi_1_2 tl_9 kw_143 dX1_clear_1 h (fun x1 h => ?_)
  refine lv_istore_n (lv' := [(1, .int x1), (0, .ref (ad 9))]) hx hb dX1_clear_4 rfl hl (by decide) rfl (fun ls hl => ?_)
  refine lv_aload_n hx hb dX1_clear_5 rfl (lv_at hl 1 rfl) ?_
  refine lv_iconst (v := (0 : Int32)) hx hb dX1_clear_6 (by decide) ?_
  refine zz_puti X G fp_1_2 tl_9 kw_143 rfl rfl dX1_clear_7 h (fun μ H locs G h => ?_)
  refine lv_iload_n hx hb dX1_clear_10 rfl (lv_at hl 0 rfl) ?_
  rw [hQ]
  exact zz_iret X G hr hlk dX1_clear_11 h
set_option maxHeartbeats 4000000 in
set_option maxRecDepth 100000 in
theorem c_X2_isIn (l : Launch) (D : va_G) (ad : Nat → Nat) (cA : Nat → ClassId) {r0 : Nat} (t_r0 : zty r0 = 2) {a1 : Int32} {a2 : Int32} {μ : zM} {r : Int32} {μ' : zM} (h : f_X2_isIn r0 a1 a2 μ = some (r, μ')) : zMet true D ad cA l yX2_isIn cX2_isIn 3 (some .boolean) ({ frames := 0, cells := 0, slots := 0, locals := 0 } : Room) [.ref (ad r0), .int a1, .int a2] μ (zQi true D ad cA r μ') := by
  refine zMet_of "ButlerWeather$House" ⟨by decide, rfl⟩ (Nat.le_of_ble_eq_true rfl) ?_
  intro p e s m args below meth c X G hr hlk ls hl
  have hl : lv_has ls 3 [(0, .ref (ad r0)), (1, .int a1), (2, .int a2)] := hl
  obtain ⟨hx, hb, hml, hown, hts, -, -, -⟩ := id X
  obtain ⟨Q, hQ⟩ : ∃ Q, Q = MQ below (zQi true D ad cA r μ') args s 0 0 (zA true ad) := ⟨_, rfl⟩
  rw [← hQ]
  unfold f_X2_isIn at h
  refine lv_aload_n hx hb dX2_isIn_0 rfl (lv_at hl 0 rfl) ?_
  refine zz_getr X G fr_2_11 t_r0 (rs_2_11 t_r0) kw_200 dX2_isIn_1 ?_
  refine lv_iload_n hx hb dX2_isIn_4 rfl (lv_at hl 1 rfl) ?_
  refine zz_iald X G ia_10 (ft_2_11 t_r0) dX2_isIn_5 h (fun x1 h => ?_)
  refine lv_iconst (v := (-1 : Int32)) hx hb dX2_isIn_6 (by decide) ?_
  refine lv_icmp_eq (tgt := 41) hx hb dX2_isIn_7 (by decide) (fun c2 => ?_) (fun c2 => ?_)
  · have h := (zz_br h).1 c2
    refine lv_iconst (v := (0 : Int32)) hx hb dX2_isIn_41 (by decide) ?_
    rw [hQ]
    exact zz_zret X G hr hlk dX2_isIn_42 h
  have h := (zz_br h).2 c2
  refine lv_aload_n hx hb dX2_isIn_10 rfl (lv_at hl 0 rfl) ?_
  refine zz_getr X G fr_2_11 t_r0 (rs_2_11 t_r0) kw_200 dX2_isIn_11 ?_
  refine lv_iload_n hx hb dX2_isIn_14 rfl (lv_at hl 1 rfl) ?_
  refine zz_iald X G ia_10 (ft_2_11 t_r0) dX2_isIn_15 h (fun x3 h => ?_)
  refine lv_iload_n hx hb dX2_isIn_16 rfl (lv_at hl 2 rfl) ?_
  refine lv_icmp_gt (tgt := 41) hx hb dX2_isIn_17 (by decide) (fun c4 => ?_) (fun c4 => ?_)
  · have h := (zz_br h).1 c4
    refine lv_iconst (v := (0 : Int32)) hx hb dX2_isIn_41 (by decide) ?_
    rw [hQ]
    exact zz_zret X G hr hlk dX2_isIn_42 h
  have h := (zz_br h).2 c4
  refine lv_iload_n hx hb dX2_isIn_20 rfl (lv_at hl 2 rfl) ?_
  refine lv_aload_n hx hb dX2_isIn_21 rfl (lv_at hl 0 rfl) ?_
  refine zz_getr X G fr_2_11 t_r0 (rs_2_11 t_r0) kw_200 dX2_isIn_22 ?_
  refine lv_iload_n hx hb dX2_isIn_25 rfl (lv_at hl 1 rfl) ?_
  refine zz_iald X G ia_10 (ft_2_11 t_r0) dX2_isIn_26 h (fun x5 h => ?_)
  refine lv_aload_n hx hb dX2_isIn_27 rfl (lv_at hl 0 rfl) ?_
  refine zz_getr X G fr_2_4 t_r0 (rs_2_4 t_r0) kw_188 dX2_isIn_28 ?_
  refine lv_iload_n hx hb dX2_isIn_31 rfl (lv_at hl 1 rfl) ?_
  refine zz_iald X G ia_10 (ft_2_4 t_r0) dX2_isIn_32 h (fun x6 h => ?_)
  refine lv_iadd hx hb dX2_isIn_33 ?_
  refine lv_icmp_ge (tgt := 41) hx hb dX2_isIn_34 (by decide) (fun c7 => ?_) (fun c7 => ?_)
  · have h := (zz_br h).1 c7
    refine lv_iconst (v := (0 : Int32)) hx hb dX2_isIn_41 (by decide) ?_
    rw [hQ]
    exact zz_zret X G hr hlk dX2_isIn_42 h
  have h := (zz_br h).2 c7
  refine lv_iconst (v := (1 : Int32)) hx hb dX2_isIn_37 (by decide) ?_
  refine lv_goto (tgt := 42) hx hb dX2_isIn_38 (by decide) ?_
  rw [hQ]
  exact zz_zret X G hr hlk dX2_isIn_42 h
set_option maxHeartbeats 4000000 in
set_option maxRecDepth 100000 in
theorem c_X2_warmer (l : Launch) (D : va_G) (ad : Nat → Nat) (cA : Nat → ClassId) {r0 : Nat} (t_r0 : zty r0 = 2) {a1 : Int32} {μ : zM} {r : Int32} {μ' : zM} (h : f_X2_warmer r0 a1 μ = some (r, μ')) : zMet true D ad cA l yX2_warmer cX2_warmer 2 (some .int) ({ frames := 0, cells := 0, slots := 0, locals := 0 } : Room) [.ref (ad r0), .int a1] μ (zQi true D ad cA r μ') := by
  refine zMet_of "ButlerWeather$House" ⟨by decide, rfl⟩ (Nat.le_of_ble_eq_true rfl) ?_
  intro p e s m args below meth c X G hr hlk ls hl
  have hl : lv_has ls 2 [(0, .ref (ad r0)), (1, .int a1)] := hl
  obtain ⟨hx, hb, hml, hown, hts, -, -, -⟩ := id X
  obtain ⟨Q, hQ⟩ : ∃ Q, Q = MQ below (zQi true D ad cA r μ') args s 0 0 (zA true ad) := ⟨_, rfl⟩
  rw [← hQ]
  unfold f_X2_warmer at h
  refine lv_aload_n hx hb dX2_warmer_0 rfl (lv_at hl 0 rfl) ?_
  refine zz_getr X G fr_2_13 t_r0 (rs_2_13 t_r0) kw_204 dX2_warmer_1 ?_
  refine lv_iload_n hx hb dX2_warmer_4 rfl (lv_at hl 1 rfl) ?_
  refine zz_iald X G ia_10 (ft_2_13 t_r0) dX2_warmer_5 h (fun x1 h => ?_)
  refine lv_if_lt (tgt := 35) hx hb dX2_warmer_6 (by decide) (fun c2 => ?_) (fun c2 => ?_)
  · have h := (zz_br h).1 c2
    refine lv_iconst (v := (0 : Int32)) hx hb dX2_warmer_35 (by decide) ?_
    rw [hQ]
    exact zz_iret X G hr hlk dX2_warmer_36 h
  have h := (zz_br h).2 c2
  refine lv_aload_n hx hb dX2_warmer_9 rfl (lv_at hl 0 rfl) ?_
  refine zz_getr X G fr_2_13 t_r0 (rs_2_13 t_r0) kw_204 dX2_warmer_10 ?_
  refine lv_iload_n hx hb dX2_warmer_13 rfl (lv_at hl 1 rfl) ?_
  refine zz_iald X G ia_10 (ft_2_13 t_r0) dX2_warmer_14 h (fun x3 h => ?_)
  refine zz_gets X G dX2_warmer_15 ?_
  refine zz_alenS X G tl_72 dX2_warmer_18 ?_
  refine lv_icmp_ge (tgt := 35) hx hb dX2_warmer_19 (by decide) (fun c4 => ?_) (fun c4 => ?_)
  · have h := (zz_br h).1 c4
    refine lv_iconst (v := (0 : Int32)) hx hb dX2_warmer_35 (by decide) ?_
    rw [hQ]
    exact zz_iret X G hr hlk dX2_warmer_36 h
  have h := (zz_br h).2 c4
  refine zz_gets X G dX2_warmer_22 ?_
  refine lv_aload_n hx hb dX2_warmer_25 rfl (lv_at hl 0 rfl) ?_
  refine zz_getr X G fr_2_13 t_r0 (rs_2_13 t_r0) kw_204 dX2_warmer_26 ?_
  refine lv_iload_n hx hb dX2_warmer_29 rfl (lv_at hl 1 rfl) ?_
  refine zz_iald X G ia_10 (ft_2_13 t_r0) dX2_warmer_30 h (fun x5 h => ?_)
  refine zz_ialdS X G tl_72 dX2_warmer_31 h (fun x6 h => ?_)
  refine lv_goto (tgt := 36) hx hb dX2_warmer_32 (by decide) ?_
  rw [hQ]
  exact zz_iret X G hr hlk dX2_warmer_36 h
set_option maxHeartbeats 4000000 in
set_option maxRecDepth 100000 in
theorem w_X2_warmthOn_L4 {p : Program} {l : Launch} {e : Env} {s : State} {m : MethodId} {args : Array Value} {below : List Frame} {meth : Method} {c : Code} {Q : State → Prop} {D : va_G} {ad : Nat → Nat} {cA : Nat → ClassId} {r : Int32} {μ' : zM} (X : zX true D ad cA p s m args c cX2_warmthOn "ButlerWeather$House" 4) (hQ : Q = MQ below (zQi true D ad cA r μ') args s 0 0 (zA true ad)) (hr : meth.sig.returnType = (some .int)) (hlk : meth.locks = false) {r0 : Nat} (t_r0 : zty r0 = 2) {v1 : Int32} {kx : Int32 → zM → Option (Int32 × zM)} (HX : ∀ (w2 : Int32) (μ : zM) (H : Heap) (locs : List Loc) (ls : Array Slot), lv_has ls 4 [(2, .int w2)] → zG true D ad cA s μ H locs → kx w2 μ = some (r, μ') → W p l e ({ frames := 1, cells := 0, slots := 0, locals := 22 } : Room) s m args below meth c H locs 0 0 Q (F0 m 35 ls [])) : ∀ (n : Nat) (v2 : Int32) (v3 : Int32) (μ : zM) (H : Heap) (locs : List Loc) (ls : Array Slot), lv_has ls 4 [(0, .ref (ad r0)), (1, .int v1), (2, .int v2), (3, .int v3)] → zG true D ad cA s μ H locs → f_X2_warmthOn_L4 r0 v1 kx n v2 v3 μ = some (r, μ') → W p l e ({ frames := 1, cells := 0, slots := 0, locals := 22 } : Room) s m args below meth c H locs 0 0 Q (F0 m 4 ls []) := by
  obtain ⟨hx, hb, hml, hown, hts, -, -, -⟩ := id X
  intro n
  induction n with
  | zero =>
    intro v2 v3 μ H locs ls hl G h
    cases (show (none : Option (Int32 × zM)) = some (r, μ') from h)
  | succ n ih =>
    intro v2 v3 μ H locs ls hl G h
    rw [f_X2_warmthOn_L4] at h
    refine lv_iload_n hx hb dX2_warmthOn_4 rfl (lv_at hl 3 rfl) ?_
    refine lv_aload_n hx hb dX2_warmthOn_5 rfl (lv_at hl 0 rfl) ?_
    refine zz_geti X G fi_2_0 t_r0 kw_178 dX2_warmthOn_6 h (fun x1 h => ?_)
    refine lv_icmp_ge (tgt := 35) hx hb dX2_warmthOn_9 (by decide) (fun c2 => ?_) (fun c2 => ?_)
    · have h := (zz_br h).1 c2
      exact HX v2 μ _ _ _ (lv_sub hl [2] rfl) G h
    have h := (zz_br h).2 c2
    refine lv_aload_n hx hb dX2_warmthOn_12 rfl (lv_at hl 0 rfl) ?_
    refine lv_iload_n hx hb dX2_warmthOn_13 rfl (lv_at hl 3 rfl) ?_
    refine lv_iload_n hx hb dX2_warmthOn_14 rfl (lv_at hl 1 rfl) ?_
    refine zz_ci (rest := []) G h (fun r μ1 hf => zz_runV X G rc_2 t_r0 cv_X2_isIn kw_464 (c_X2_isIn l D ad cA t_r0 hf) ⟨rfl, rfl, Nat.le_of_ble_eq_true rfl, Nat.le_of_ble_eq_true rfl⟩ rfl rfl hl.1 (Nat.le_of_ble_eq_true rfl) dX2_warmthOn_15) (fun x3 μ H locs G h => ?_)
    refine lv_if_eq (tgt := 29) hx hb dX2_warmthOn_18 (by decide) (fun c4 => ?_) (fun c4 => ?_)
    · have h := (zz_br h).1 c4
      obtain ⟨x5, ex5, h⟩ := zz_let h
      refine lv_iinc (v := x5) (lv' := [(3, .int x5), (0, .ref (ad r0)), (1, .int v1), (2, .int v2)]) hx hb dX2_warmthOn_29 hl (k := 3) rfl (by rw [← ex5]; rfl) (by decide) rfl (fun ls hl => ?_)
      refine lv_goto (tgt := 4) hx hb dX2_warmthOn_32 (by decide) ?_
      exact ih v2 x5 μ _ _ _ (lv_sub hl [1, 2, 3, 0] rfl) G h
    have h := (zz_br h).2 c4
    refine lv_iload_n hx hb dX2_warmthOn_21 rfl (lv_at hl 2 rfl) ?_
    refine lv_aload_n hx hb dX2_warmthOn_22 rfl (lv_at hl 0 rfl) ?_
    refine lv_iload_n hx hb dX2_warmthOn_23 rfl (lv_at hl 3 rfl) ?_
    refine zz_ci (rest := [.int v2]) G h (fun r μ1 hf => zz_runV X G rc_2 t_r0 cv_X2_warmer kw_494 (c_X2_warmer l D ad cA t_r0 hf) ⟨rfl, rfl, Nat.le_of_ble_eq_true rfl, Nat.le_of_ble_eq_true rfl⟩ rfl rfl hl.1 (Nat.le_of_ble_eq_true rfl) dX2_warmthOn_24) (fun x6 μ H locs G h => ?_)
    refine lv_iadd hx hb dX2_warmthOn_27 ?_
    refine zz_vi h (fun x7 h => ?_)
    refine lv_istore_n (lv' := [(2, .int x7), (0, .ref (ad r0)), (1, .int v1), (3, .int v3)]) hx hb dX2_warmthOn_28 rfl hl (by decide) rfl (fun ls hl => ?_)
    obtain ⟨x8, ex8, h⟩ := zz_let h
    refine lv_iinc (v := x8) (lv' := [(3, .int x8), (2, .int x7), (0, .ref (ad r0)), (1, .int v1)]) hx hb dX2_warmthOn_29 hl (k := 3) rfl (by rw [← ex8]; rfl) (by decide) rfl (fun ls hl => ?_)
    refine lv_goto (tgt := 4) hx hb dX2_warmthOn_32 (by decide) ?_
    exact ih x7 x8 μ _ _ _ (lv_sub hl [2, 3, 1, 0] rfl) G h
set_option maxHeartbeats 4000000 in
set_option maxRecDepth 100000 in
theorem c_X2_warmthOn (l : Launch) (D : va_G) (ad : Nat → Nat) (cA : Nat → ClassId) {r0 : Nat} (t_r0 : zty r0 = 2) {a1 : Int32} {μ : zM} {r : Int32} {μ' : zM} (h : f_X2_warmthOn r0 a1 μ = some (r, μ')) : zMet true D ad cA l yX2_warmthOn cX2_warmthOn 4 (some .int) ({ frames := 1, cells := 0, slots := 0, locals := 22 } : Room) [.ref (ad r0), .int a1] μ (zQi true D ad cA r μ') := by
  refine zMet_of "ButlerWeather$House" ⟨by decide, rfl⟩ (Nat.le_of_ble_eq_true rfl) ?_
  intro p e s m args below meth c X G hr hlk ls hl
  have hl : lv_has ls 4 [(0, .ref (ad r0)), (1, .int a1)] := hl
  obtain ⟨hx, hb, hml, hown, hts, -, -, -⟩ := id X
  obtain ⟨Q, hQ⟩ : ∃ Q, Q = MQ below (zQi true D ad cA r μ') args s 0 0 (zA true ad) := ⟨_, rfl⟩
  rw [← hQ]
  unfold f_X2_warmthOn at h
  refine lv_iconst (v := (0 : Int32)) hx hb dX2_warmthOn_0 (by decide) ?_
  refine lv_istore_n (lv' := [(2, .int (0 : Int32)), (0, .ref (ad r0)), (1, .int a1)]) hx hb dX2_warmthOn_1 rfl hl (by decide) rfl (fun ls hl => ?_)
  refine lv_iconst (v := (0 : Int32)) hx hb dX2_warmthOn_2 (by decide) ?_
  refine lv_istore_n (lv' := [(3, .int (0 : Int32)), (2, .int (0 : Int32)), (0, .ref (ad r0)), (1, .int a1)]) hx hb dX2_warmthOn_3 rfl hl (by decide) rfl (fun ls hl => ?_)
  refine w_X2_warmthOn_L4 X hQ hr hlk t_r0 (fun x9 μ H locs ls hl G h => ?_) 400 (0 : Int32) (0 : Int32) μ _ _ _ (lv_sub hl [2, 3, 1, 0] rfl) G h
  refine lv_iload_n hx hb dX2_warmthOn_35 rfl (lv_at hl 0 rfl) ?_
  rw [hQ]
  exact zz_iret X G hr hlk dX2_warmthOn_36 h
set_option maxHeartbeats 4000000 in
set_option maxRecDepth 100000 in
theorem w_X1_fits_L2 {p : Program} {l : Launch} {e : Env} {s : State} {m : MethodId} {args : Array Value} {below : List Frame} {meth : Method} {c : Code} {Q : State → Prop} {D : va_G} {ad : Nat → Nat} {cA : Nat → ClassId} {r : Int32} {μ' : zM} (X : zX true D ad cA p s m args c cX1_fits "ButlerWeather$Felt" 3) (hQ : Q = MQ below (zQi true D ad cA r μ') args s 0 0 (zA true ad)) (hr : meth.sig.returnType = (some .boolean)) (hlk : meth.locks = false) {r1 : Nat} (t_r1 : zty r1 = 2) {kx : zM → Option (Int32 × zM)} (HX : ∀ (μ : zM) (H : Heap) (locs : List Loc) (ls : Array Slot), lv_has ls 3 [] → zG true D ad cA s μ H locs → kx  μ = some (r, μ') → W p l e ({ frames := 2, cells := 0, slots := 0, locals := 45 } : Room) s m args below meth c H locs 0 0 Q (F0 m 37 ls [])) : ∀ (n : Nat) (v2 : Int32) (μ : zM) (H : Heap) (locs : List Loc) (ls : Array Slot), lv_has ls 3 [(0, .ref (ad 9)), (1, .ref (ad r1)), (2, .int v2)] → zG true D ad cA s μ H locs → f_X1_fits_L2 r1 kx n v2 μ = some (r, μ') → W p l e ({ frames := 2, cells := 0, slots := 0, locals := 45 } : Room) s m args below meth c H locs 0 0 Q (F0 m 2 ls []) := by
  obtain ⟨hx, hb, hml, hown, hts, -, -, -⟩ := id X
  intro n
  induction n with
  | zero =>
    intro v2 μ H locs ls hl G h
    cases (show (none : Option (Int32 × zM)) = some (r, μ') from h)
  | succ n ih =>
    intro v2 μ H locs ls hl G h
    rw [f_X1_fits_L2] at h
    refine lv_iload_n hx hb dX1_fits_2 rfl (lv_at hl 2 rfl) ?_
    refine lv_aload_n hx hb dX1_fits_3 rfl (lv_at hl 0 rfl) ?_
    refine zz_geti X G fi_1_2 tl_9 kw_143 dX1_fits_4 h (fun x1 h => ?_)
    refine lv_icmp_ge (tgt := 37) hx hb dX1_fits_7 (by decide) (fun c2 => ?_) (fun c2 => ?_)
    · have h := (zz_br h).1 c2
      exact HX  μ _ _ _ (lv_sub hl [] rfl) G h
    have h := (zz_br h).2 c2
    refine lv_aload_n hx hb dX1_fits_10 rfl (lv_at hl 1 rfl) ?_
    refine lv_aload_n hx hb dX1_fits_11 rfl (lv_at hl 0 rfl) ?_
    refine zz_getr X G fr_1_0 tl_9 rl_9_0 kw_141 dX1_fits_12 ?_
    refine lv_iload_n hx hb dX1_fits_15 rfl (lv_at hl 2 rfl) ?_
    refine zz_iald X G ia_10 tl_10 dX1_fits_16 h (fun x3 h => ?_)
    refine zz_ci (rest := []) G h (fun r μ1 hf => zz_runV X G rc_2 t_r1 cv_X2_warmthOn kw_612 (c_X2_warmthOn l D ad cA t_r1 hf) ⟨rfl, rfl, Nat.le_of_ble_eq_true rfl, Nat.le_of_ble_eq_true rfl⟩ rfl rfl hl.1 (Nat.le_of_ble_eq_true rfl) dX1_fits_17) (fun x4 μ H locs G h => ?_)
    refine lv_aload_n hx hb dX1_fits_20 rfl (lv_at hl 0 rfl) ?_
    refine zz_getr X G fr_1_1 tl_9 rl_9_1 kw_142 dX1_fits_21 ?_
    refine lv_iload_n hx hb dX1_fits_24 rfl (lv_at hl 2 rfl) ?_
    refine zz_iald X G ia_10 tl_11 dX1_fits_25 h (fun x5 h => ?_)
    refine lv_icmp_eq (tgt := 31) hx hb dX1_fits_26 (by decide) (fun c6 => ?_) (fun c6 => ?_)
    · have h := (zz_br h).1 c6
      obtain ⟨x7, ex7, h⟩ := zz_let h
      refine lv_iinc (v := x7) (lv' := [(2, .int x7), (0, .ref (ad 9)), (1, .ref (ad r1))]) hx hb dX1_fits_31 hl (k := 2) rfl (by rw [← ex7]; rfl) (by decide) rfl (fun ls hl => ?_)
      refine lv_goto (tgt := 2) hx hb dX1_fits_34 (by decide) ?_
      exact ih x7 μ _ _ _ (lv_sub hl [1, 2, 0] rfl) G h
    have h := (zz_br h).2 c6
    refine lv_iconst (v := (0 : Int32)) hx hb dX1_fits_29 (by decide) ?_
    rw [hQ]
    exact zz_zret X G hr hlk dX1_fits_30 h
set_option maxHeartbeats 4000000 in
set_option maxRecDepth 100000 in
theorem c_X1_fits (l : Launch) (D : va_G) (ad : Nat → Nat) (cA : Nat → ClassId) {r1 : Nat} (t_r1 : zty r1 = 2) {μ : zM} {r : Int32} {μ' : zM} (h : f_X1_fits r1 μ = some (r, μ')) : zMet true D ad cA l yX1_fits cX1_fits 3 (some .boolean) ({ frames := 2, cells := 0, slots := 0, locals := 45 } : Room) [.ref (ad 9), .ref (ad r1)] μ (zQi true D ad cA r μ') := by
  refine zMet_of "ButlerWeather$Felt" ⟨by decide, rfl⟩ (Nat.le_of_ble_eq_true rfl) ?_
  intro p e s m args below meth c X G hr hlk ls hl
  have hl : lv_has ls 3 [(0, .ref (ad 9)), (1, .ref (ad r1))] := hl
  obtain ⟨hx, hb, hml, hown, hts, -, -, -⟩ := id X
  obtain ⟨Q, hQ⟩ : ∃ Q, Q = MQ below (zQi true D ad cA r μ') args s 0 0 (zA true ad) := ⟨_, rfl⟩
  rw [← hQ]
  unfold f_X1_fits at h
  refine lv_iconst (v := (0 : Int32)) hx hb dX1_fits_0 (by decide) ?_
  refine lv_istore_n (lv' := [(2, .int (0 : Int32)), (0, .ref (ad 9)), (1, .ref (ad r1))]) hx hb dX1_fits_1 rfl hl (by decide) rfl (fun ls hl => ?_)
  refine w_X1_fits_L2 X hQ hr hlk t_r1 (fun  μ H locs ls hl G h => ?_) 400 (0 : Int32) μ _ _ _ (lv_sub hl [1, 2, 0] rfl) G h
  refine lv_iconst (v := (1 : Int32)) hx hb dX1_fits_37 (by decide) ?_
  rw [hQ]
  exact zz_zret X G hr hlk dX1_fits_38 h
set_option maxHeartbeats 4000000 in
set_option maxRecDepth 100000 in
theorem c_X2_hasCaller (l : Launch) (D : va_G) (ad : Nat → Nat) (cA : Nat → ClassId) {r0 : Nat} (t_r0 : zty r0 = 2) {a1 : Int32} {μ : zM} {r : Int32} {μ' : zM} (h : f_X2_hasCaller r0 a1 μ = some (r, μ')) : zMet true D ad cA l yX2_hasCaller cX2_hasCaller 2 (some .boolean) ({ frames := 1, cells := 0, slots := 0, locals := 22 } : Room) [.ref (ad r0), .int a1] μ (zQi true D ad cA r μ') := by
  refine zMet_of "ButlerWeather$House" ⟨by decide, rfl⟩ (Nat.le_of_ble_eq_true rfl) ?_
  intro p e s m args below meth c X G hr hlk ls hl
  have hl : lv_has ls 2 [(0, .ref (ad r0)), (1, .int a1)] := hl
  obtain ⟨hx, hb, hml, hown, hts, -, -, -⟩ := id X
  obtain ⟨Q, hQ⟩ : ∃ Q, Q = MQ below (zQi true D ad cA r μ') args s 0 0 (zA true ad) := ⟨_, rfl⟩
  rw [← hQ]
  unfold f_X2_hasCaller at h
  refine lv_iload_n hx hb dX2_hasCaller_0 rfl (lv_at hl 1 rfl) ?_
  refine lv_iconst (v := (0 : Int32)) hx hb dX2_hasCaller_1 (by decide) ?_
  refine lv_aload_n hx hb dX2_hasCaller_2 rfl (lv_at hl 0 rfl) ?_
  refine zz_geti X G fi_2_0 t_r0 kw_178 dX2_hasCaller_3 h (fun x1 h => ?_)
  refine lv_iconst (v := (1 : Int32)) hx hb dX2_hasCaller_6 (by decide) ?_
  refine lv_isub hx hb dX2_hasCaller_7 ?_
  refine zz_ci (rest := []) G h (fun r μ1 hf => zz_runSN X G cs_X6_within nw_X2_52 (c_X6_within l D ad cA  hf) ⟨rfl, rfl, Nat.le_of_ble_eq_true rfl, Nat.le_of_ble_eq_true rfl⟩ rfl rfl hl.1 (Nat.le_of_ble_eq_true rfl) dX2_hasCaller_8) (fun x2 μ H locs G h => ?_)
  rw [hQ]
  exact zz_zret X G hr hlk dX2_hasCaller_11 h
set_option maxHeartbeats 4000000 in
set_option maxRecDepth 100000 in
theorem c_X2_hasMan (l : Launch) (D : va_G) (ad : Nat → Nat) (cA : Nat → ClassId) {r0 : Nat} (t_r0 : zty r0 = 2) {a1 : Int32} {μ : zM} {r : Int32} {μ' : zM} (h : f_X2_hasMan r0 a1 μ = some (r, μ')) : zMet true D ad cA l yX2_hasMan cX2_hasMan 2 (some .boolean) ({ frames := 1, cells := 0, slots := 0, locals := 22 } : Room) [.ref (ad r0), .int a1] μ (zQi true D ad cA r μ') := by
  refine zMet_of "ButlerWeather$House" ⟨by decide, rfl⟩ (Nat.le_of_ble_eq_true rfl) ?_
  intro p e s m args below meth c X G hr hlk ls hl
  have hl : lv_has ls 2 [(0, .ref (ad r0)), (1, .int a1)] := hl
  obtain ⟨hx, hb, hml, hown, hts, -, -, -⟩ := id X
  obtain ⟨Q, hQ⟩ : ∃ Q, Q = MQ below (zQi true D ad cA r μ') args s 0 0 (zA true ad) := ⟨_, rfl⟩
  rw [← hQ]
  unfold f_X2_hasMan at h
  refine lv_iload_n hx hb dX2_hasMan_0 rfl (lv_at hl 1 rfl) ?_
  refine lv_iconst (v := (0 : Int32)) hx hb dX2_hasMan_1 (by decide) ?_
  refine lv_aload_n hx hb dX2_hasMan_2 rfl (lv_at hl 0 rfl) ?_
  refine zz_geti X G fi_2_6 t_r0 kw_191 dX2_hasMan_3 h (fun x1 h => ?_)
  refine lv_iconst (v := (1 : Int32)) hx hb dX2_hasMan_6 (by decide) ?_
  refine lv_isub hx hb dX2_hasMan_7 ?_
  refine zz_ci (rest := []) G h (fun r μ1 hf => zz_runSN X G cs_X6_within nw_X2_52 (c_X6_within l D ad cA  hf) ⟨rfl, rfl, Nat.le_of_ble_eq_true rfl, Nat.le_of_ble_eq_true rfl⟩ rfl rfl hl.1 (Nat.le_of_ble_eq_true rfl) dX2_hasMan_8) (fun x2 μ H locs G h => ?_)
  rw [hQ]
  exact zz_zret X G hr hlk dX2_hasMan_11 h
set_option maxHeartbeats 4000000 in
set_option maxRecDepth 100000 in
theorem c_X5_meaning (l : Launch) (D : va_G) (ad : Nat → Nat) (cA : Nat → ClassId) {a0 : Int32} {a1 : Int32} {μ : zM} {r : Int32} {μ' : zM} (h : f_X5_meaning a0 a1 μ = some (r, μ')) : zMet true D ad cA l yX5_meaning cX5_meaning 2 (some .int) ({ frames := 0, cells := 0, slots := 0, locals := 0 } : Room) [.int a0, .int a1] μ (zQi true D ad cA r μ') := by
  refine zMet_of "ButlerWeather$Text" ⟨by decide, rfl⟩ (Nat.le_of_ble_eq_true rfl) ?_
  intro p e s m args below meth c X G hr hlk ls hl
  have hl : lv_has ls 2 [(0, .int a0), (1, .int a1)] := hl
  obtain ⟨hx, hb, hml, hown, hts, -, -, -⟩ := id X
  obtain ⟨Q, hQ⟩ : ∃ Q, Q = MQ below (zQi true D ad cA r μ') args s 0 0 (zA true ad) := ⟨_, rfl⟩
  rw [← hQ]
  unfold f_X5_meaning at h
  refine lv_iload_n hx hb dX5_meaning_0 rfl (lv_at hl 0 rfl) ?_
  refine zz_sw (k := (0 : Int32)) h (fun c1 h => ?_) (fun c1 h => ?_)
  · refine lv_tableIn (off := 31) (tgt := 32) hx hb dX5_meaning_1 (by rw [c1]; decide) (by rw [c1]; decide) (by rw [c1]; rfl) (by decide) ?_
    refine lv_iload_n hx hb dX5_meaning_32 rfl (lv_at hl 1 rfl) ?_
    refine lv_bipush (v := (114 : Int32)) hx hb dX5_meaning_33 (by decide) ?_
    refine lv_icmp_ne (tgt := 42) hx hb dX5_meaning_35 (by decide) (fun c2 => ?_) (fun c2 => ?_)
    · have h := (zz_br h).1 c2
      refine lv_iload_n hx hb dX5_meaning_42 rfl (lv_at hl 1 rfl) ?_
      refine lv_bipush (v := (102 : Int32)) hx hb dX5_meaning_43 (by decide) ?_
      refine lv_icmp_ne (tgt := 52) hx hb dX5_meaning_45 (by decide) (fun c3 => ?_) (fun c3 => ?_)
      · have h := (zz_br h).1 c3
        refine lv_iload_n hx hb dX5_meaning_52 rfl (lv_at hl 1 rfl) ?_
        refine lv_bipush (v := (103 : Int32)) hx hb dX5_meaning_53 (by decide) ?_
        refine lv_icmp_ne (tgt := 62) hx hb dX5_meaning_55 (by decide) (fun c4 => ?_) (fun c4 => ?_)
        · have h := (zz_br h).1 c4
          refine lv_iload_n hx hb dX5_meaning_62 rfl (lv_at hl 1 rfl) ?_
          refine lv_bipush (v := (115 : Int32)) hx hb dX5_meaning_63 (by decide) ?_
          refine lv_icmp_ne (tgt := 72) hx hb dX5_meaning_65 (by decide) (fun c5 => ?_) (fun c5 => ?_)
          · have h := (zz_br h).1 c5
            refine lv_iconst (v := (-1 : Int32)) hx hb dX5_meaning_72 (by decide) ?_
            rw [hQ]
            exact zz_iret X G hr hlk dX5_meaning_73 h
          have h := (zz_br h).2 (fun q => q c5)
          refine lv_iconst (v := (3 : Int32)) hx hb dX5_meaning_68 (by decide) ?_
          refine lv_goto (tgt := 73) hx hb dX5_meaning_69 (by decide) ?_
          rw [hQ]
          exact zz_iret X G hr hlk dX5_meaning_73 h
        have h := (zz_br h).2 (fun q => q c4)
        refine lv_iconst (v := (2 : Int32)) hx hb dX5_meaning_58 (by decide) ?_
        refine lv_goto (tgt := 73) hx hb dX5_meaning_59 (by decide) ?_
        rw [hQ]
        exact zz_iret X G hr hlk dX5_meaning_73 h
      have h := (zz_br h).2 (fun q => q c3)
      refine lv_iconst (v := (1 : Int32)) hx hb dX5_meaning_48 (by decide) ?_
      refine lv_goto (tgt := 73) hx hb dX5_meaning_49 (by decide) ?_
      rw [hQ]
      exact zz_iret X G hr hlk dX5_meaning_73 h
    have h := (zz_br h).2 (fun q => q c2)
    refine lv_iconst (v := (0 : Int32)) hx hb dX5_meaning_38 (by decide) ?_
    refine lv_goto (tgt := 73) hx hb dX5_meaning_39 (by decide) ?_
    rw [hQ]
    exact zz_iret X G hr hlk dX5_meaning_73 h
  refine zz_sw (k := (1 : Int32)) h (fun c6 h => ?_) (fun c6 h => ?_)
  · refine lv_tableIn (off := 73) (tgt := 74) hx hb dX5_meaning_1 (by rw [c6]; decide) (by rw [c6]; decide) (by rw [c6]; rfl) (by decide) ?_
    refine lv_iload_n hx hb dX5_meaning_74 rfl (lv_at hl 1 rfl) ?_
    refine lv_bipush (v := (98 : Int32)) hx hb dX5_meaning_75 (by decide) ?_
    refine lv_icmp_ne (tgt := 84) hx hb dX5_meaning_77 (by decide) (fun c7 => ?_) (fun c7 => ?_)
    · have h := (zz_br h).1 c7
      refine lv_iload_n hx hb dX5_meaning_84 rfl (lv_at hl 1 rfl) ?_
      refine lv_bipush (v := (106 : Int32)) hx hb dX5_meaning_85 (by decide) ?_
      refine lv_icmp_ne (tgt := 94) hx hb dX5_meaning_87 (by decide) (fun c8 => ?_) (fun c8 => ?_)
      · have h := (zz_br h).1 c8
        refine lv_iconst (v := (-1 : Int32)) hx hb dX5_meaning_94 (by decide) ?_
        rw [hQ]
        exact zz_iret X G hr hlk dX5_meaning_95 h
      have h := (zz_br h).2 (fun q => q c8)
      refine lv_iconst (v := (1 : Int32)) hx hb dX5_meaning_90 (by decide) ?_
      refine lv_goto (tgt := 95) hx hb dX5_meaning_91 (by decide) ?_
      rw [hQ]
      exact zz_iret X G hr hlk dX5_meaning_95 h
    have h := (zz_br h).2 (fun q => q c7)
    refine lv_iconst (v := (0 : Int32)) hx hb dX5_meaning_80 (by decide) ?_
    refine lv_goto (tgt := 95) hx hb dX5_meaning_81 (by decide) ?_
    rw [hQ]
    exact zz_iret X G hr hlk dX5_meaning_95 h
  refine zz_sw (k := (2 : Int32)) h (fun c9 h => ?_) (fun c9 h => ?_)
  · refine lv_tableIn (off := 95) (tgt := 96) hx hb dX5_meaning_1 (by rw [c9]; decide) (by rw [c9]; decide) (by rw [c9]; rfl) (by decide) ?_
    refine lv_iload_n hx hb dX5_meaning_96 rfl (lv_at hl 1 rfl) ?_
    refine lv_bipush (v := (49 : Int32)) hx hb dX5_meaning_97 (by decide) ?_
    refine lv_icmp_lt (tgt := 115) hx hb dX5_meaning_99 (by decide) (fun c10 => ?_) (fun c10 => ?_)
    · have h := (zz_br h).1 c10
      refine lv_iconst (v := (-1 : Int32)) hx hb dX5_meaning_115 (by decide) ?_
      rw [hQ]
      exact zz_iret X G hr hlk dX5_meaning_116 h
    have h := (zz_br h).2 c10
    refine lv_iload_n hx hb dX5_meaning_102 rfl (lv_at hl 1 rfl) ?_
    refine lv_bipush (v := (57 : Int32)) hx hb dX5_meaning_103 (by decide) ?_
    refine lv_icmp_gt (tgt := 115) hx hb dX5_meaning_105 (by decide) (fun c11 => ?_) (fun c11 => ?_)
    · have h := (zz_br h).1 c11
      refine lv_iconst (v := (-1 : Int32)) hx hb dX5_meaning_115 (by decide) ?_
      rw [hQ]
      exact zz_iret X G hr hlk dX5_meaning_116 h
    have h := (zz_br h).2 c11
    refine lv_iload_n hx hb dX5_meaning_108 rfl (lv_at hl 1 rfl) ?_
    refine lv_bipush (v := (48 : Int32)) hx hb dX5_meaning_109 (by decide) ?_
    refine lv_isub hx hb dX5_meaning_111 ?_
    refine lv_goto (tgt := 116) hx hb dX5_meaning_112 (by decide) ?_
    rw [hQ]
    exact zz_iret X G hr hlk dX5_meaning_116 h
  refine zz_sw (k := (3 : Int32)) h (fun c12 h => ?_) (fun c12 h => ?_)
  · refine lv_tableIn (off := 116) (tgt := 117) hx hb dX5_meaning_1 (by rw [c12]; decide) (by rw [c12]; decide) (by rw [c12]; rfl) (by decide) ?_
    refine lv_iload_n hx hb dX5_meaning_117 rfl (lv_at hl 1 rfl) ?_
    refine lv_bipush (v := (97 : Int32)) hx hb dX5_meaning_118 (by decide) ?_
    refine lv_icmp_lt (tgt := 136) hx hb dX5_meaning_120 (by decide) (fun c13 => ?_) (fun c13 => ?_)
    · have h := (zz_br h).1 c13
      refine lv_iconst (v := (-1 : Int32)) hx hb dX5_meaning_136 (by decide) ?_
      rw [hQ]
      exact zz_iret X G hr hlk dX5_meaning_137 h
    have h := (zz_br h).2 c13
    refine lv_iload_n hx hb dX5_meaning_123 rfl (lv_at hl 1 rfl) ?_
    refine lv_bipush (v := (120 : Int32)) hx hb dX5_meaning_124 (by decide) ?_
    refine lv_icmp_gt (tgt := 136) hx hb dX5_meaning_126 (by decide) (fun c14 => ?_) (fun c14 => ?_)
    · have h := (zz_br h).1 c14
      refine lv_iconst (v := (-1 : Int32)) hx hb dX5_meaning_136 (by decide) ?_
      rw [hQ]
      exact zz_iret X G hr hlk dX5_meaning_137 h
    have h := (zz_br h).2 c14
    refine lv_iload_n hx hb dX5_meaning_129 rfl (lv_at hl 1 rfl) ?_
    refine lv_bipush (v := (97 : Int32)) hx hb dX5_meaning_130 (by decide) ?_
    refine lv_isub hx hb dX5_meaning_132 ?_
    refine lv_goto (tgt := 137) hx hb dX5_meaning_133 (by decide) ?_
    rw [hQ]
    exact zz_iret X G hr hlk dX5_meaning_137 h
  refine lv_tableOut (tgt := 138) hx hb dX5_meaning_1 (by have n0 := lv_neT (a := 0) c1 (by decide); have n1 := lv_neT (a := 1) c6 (by decide); have n2 := lv_neT (a := 2) c9 (by decide); have n3 := lv_neT (a := 3) c12 (by decide); omega) (by decide) ?_
  refine lv_iconst (v := (-1 : Int32)) hx hb dX5_meaning_138 (by decide) ?_
  rw [hQ]
  exact zz_iret X G hr hlk dX5_meaning_139 h
set_option maxHeartbeats 4000000 in
set_option maxRecDepth 100000 in
theorem c_X5_value (l : Launch) (D : va_G) (ad : Nat → Nat) (cA : Nat → ClassId) {r0 : Nat} (t_r0 : zty r0 = 5) {a1 : Int32} {a2 : Int32} {μ : zM} {r : Int32} {μ' : zM} (h : f_X5_value r0 a1 a2 μ = some (r, μ')) : zMet true D ad cA l yX5_value cX5_value 4 (some .int) ({ frames := 1, cells := 0, slots := 0, locals := 22 } : Room) [.ref (ad r0), .int a1, .int a2] μ (zQi true D ad cA r μ') := by
  refine zMet_of "ButlerWeather$Text" ⟨by decide, rfl⟩ (Nat.le_of_ble_eq_true rfl) ?_
  intro p e s m args below meth c X G hr hlk ls hl
  have hl : lv_has ls 4 [(0, .ref (ad r0)), (1, .int a1), (2, .int a2)] := hl
  obtain ⟨hx, hb, hml, hown, hts, -, -, -⟩ := id X
  obtain ⟨Q, hQ⟩ : ∃ Q, Q = MQ below (zQi true D ad cA r μ') args s 0 0 (zA true ad) := ⟨_, rfl⟩
  rw [← hQ]
  unfold f_X5_value at h
  refine lv_iload_n hx hb dX5_value_0 rfl (lv_at hl 1 rfl) ?_
  refine lv_aload_n hx hb dX5_value_1 rfl (lv_at hl 0 rfl) ?_
  refine zz_getr X G fr_5_0 t_r0 rfl kw_100 dX5_value_2 ?_
  refine zz_alenS X G (ft_5_0 t_r0) dX5_value_5 ?_
  refine lv_iconst (v := (1 : Int32)) hx hb dX5_value_6 (by decide) ?_
  refine lv_iadd hx hb dX5_value_7 ?_
  refine lv_imul hx hb dX5_value_8 ?_
  refine lv_iload_n hx hb dX5_value_9 rfl (lv_at hl 2 rfl) ?_
  refine lv_iadd hx hb dX5_value_10 ?_
  refine zz_vi h (fun x1 h => ?_)
  refine lv_istore_n (lv' := [(3, .int x1), (0, .ref (ad r0)), (1, .int a1), (2, .int a2)]) hx hb dX5_value_11 rfl hl (by decide) rfl (fun ls hl => ?_)
  refine lv_iload_n hx hb dX5_value_12 rfl (lv_at hl 0 rfl) ?_
  refine lv_if_lt (tgt := 57) hx hb dX5_value_13 (by decide) (fun c2 => ?_) (fun c2 => ?_)
  · have h := (zz_br h).1 c2
    refine lv_iconst (v := (-1 : Int32)) hx hb dX5_value_57 (by decide) ?_
    rw [hQ]
    exact zz_iret X G hr hlk dX5_value_58 h
  have h := (zz_br h).2 c2
  refine lv_iload_n hx hb dX5_value_16 rfl (lv_at hl 0 rfl) ?_
  refine lv_aload_n hx hb dX5_value_17 rfl (lv_at hl 1 rfl) ?_
  refine zz_geti X G fi_5_3 t_r0 kw_103 dX5_value_18 h (fun x3 h => ?_)
  refine lv_icmp_ge (tgt := 57) hx hb dX5_value_21 (by decide) (fun c4 => ?_) (fun c4 => ?_)
  · have h := (zz_br h).1 c4
    refine lv_iconst (v := (-1 : Int32)) hx hb dX5_value_57 (by decide) ?_
    rw [hQ]
    exact zz_iret X G hr hlk dX5_value_58 h
  have h := (zz_br h).2 c4
  refine lv_iload_n hx hb dX5_value_24 rfl (lv_at hl 3 rfl) ?_
  refine lv_iconst (v := (0 : Int32)) hx hb dX5_value_25 (by decide) ?_
  refine lv_aload_n hx hb dX5_value_26 rfl (lv_at hl 1 rfl) ?_
  refine zz_getr X G fr_5_0 t_r0 rfl kw_100 dX5_value_27 ?_
  refine zz_alenS X G (ft_5_0 t_r0) dX5_value_30 ?_
  refine lv_iconst (v := (1 : Int32)) hx hb dX5_value_31 (by decide) ?_
  refine lv_isub hx hb dX5_value_32 ?_
  refine zz_ci (rest := []) G h (fun r μ1 hf => zz_runSN X G cs_X6_within nw_X5_37 (c_X6_within l D ad cA  hf) ⟨rfl, rfl, Nat.le_of_ble_eq_true rfl, Nat.le_of_ble_eq_true rfl⟩ rfl rfl hl.1 (Nat.le_of_ble_eq_true rfl) dX5_value_33) (fun x5 μ H locs G h => ?_)
  refine lv_if_eq (tgt := 57) hx hb dX5_value_36 (by decide) (fun c6 => ?_) (fun c6 => ?_)
  · have h := (zz_br h).1 c6
    refine lv_iconst (v := (-1 : Int32)) hx hb dX5_value_57 (by decide) ?_
    rw [hQ]
    exact zz_iret X G hr hlk dX5_value_58 h
  have h := (zz_br h).2 c6
  refine lv_aload_n hx hb dX5_value_39 rfl (lv_at hl 1 rfl) ?_
  refine zz_getr X G fr_5_0 t_r0 rfl kw_100 dX5_value_40 ?_
  refine lv_iload_n hx hb dX5_value_43 rfl (lv_at hl 3 rfl) ?_
  refine zz_ialdS X G (ft_5_0 t_r0) dX5_value_44 h (fun x7 h => ?_)
  refine lv_aload_n hx hb dX5_value_45 rfl (lv_at hl 1 rfl) ?_
  refine zz_getr X G fr_5_2 t_r0 (rs_5_2 t_r0) kw_102 dX5_value_46 ?_
  refine lv_iload_n hx hb dX5_value_49 rfl (lv_at hl 0 rfl) ?_
  refine zz_iald X G ia_10 (ft_5_2 t_r0) dX5_value_50 h (fun x8 h => ?_)
  refine zz_ci (rest := []) G h (fun r μ1 hf => zz_runS X G cs_X5_meaning kw_325 (c_X5_meaning l D ad cA  hf) ⟨rfl, rfl, Nat.le_of_ble_eq_true rfl, Nat.le_of_ble_eq_true rfl⟩ rfl rfl hl.1 (Nat.le_of_ble_eq_true rfl) dX5_value_51) (fun x9 μ H locs G h => ?_)
  refine lv_goto (tgt := 58) hx hb dX5_value_54 (by decide) ?_
  rw [hQ]
  exact zz_iret X G hr hlk dX5_value_58 h
set_option maxHeartbeats 4000000 in
set_option maxRecDepth 100000 in
theorem w_X2_takeCallers_L12 {p : Program} {l : Launch} {e : Env} {s : State} {m : MethodId} {args : Array Value} {below : List Frame} {meth : Method} {c : Code} {Q : State → Prop} {D : va_G} {ad : Nat → Nat} {cA : Nat → ClassId} {r : Unit} {μ' : zM} (X : zX true D ad cA p s m args c cX2_takeCallers "ButlerWeather$House" 4) (hQ : Q = MQ below (zQv true D ad cA r μ') args s 0 0 (zA true ad)) (hr : meth.sig.returnType = none) (hlk : meth.locks = false) {r0 : Nat} (t_r0 : zty r0 = 2) {r1 : Nat} (t_r1 : zty r1 = 5) {kx : zM → Option (Unit × zM)} (HX : ∀ (μ : zM) (H : Heap) (locs : List Loc) (ls : Array Slot), lv_has ls 4 [] → zG true D ad cA s μ H locs → kx  μ = some (r, μ') → W p l e ({ frames := 2, cells := 0, slots := 0, locals := 45 } : Room) s m args below meth c H locs 0 0 Q (F0 m 74 ls [])) : ∀ (n : Nat) (v3 : Int32) (μ : zM) (H : Heap) (locs : List Loc) (ls : Array Slot), lv_has ls 4 [(0, .ref (ad r0)), (1, .ref (ad r1)), (3, .int v3)] → zG true D ad cA s μ H locs → f_X2_takeCallers_L12 r0 r1 kx n v3 μ = some (r, μ') → W p l e ({ frames := 2, cells := 0, slots := 0, locals := 45 } : Room) s m args below meth c H locs 0 0 Q (F0 m 12 ls []) := by
  obtain ⟨hx, hb, hml, hown, hts, -, -, -⟩ := id X
  intro n
  induction n with
  | zero =>
    intro v3 μ H locs ls hl G h
    cases (show (none : Option (Unit × zM)) = some (r, μ') from h)
  | succ n ih =>
    intro v3 μ H locs ls hl G h
    rw [f_X2_takeCallers_L12] at h
    refine lv_iload_n hx hb dX2_takeCallers_12 rfl (lv_at hl 2 rfl) ?_
    refine lv_aload_n hx hb dX2_takeCallers_13 rfl (lv_at hl 0 rfl) ?_
    refine zz_geti X G fi_2_0 t_r0 kw_178 dX2_takeCallers_14 h (fun x2 h => ?_)
    refine lv_icmp_ge (tgt := 74) hx hb dX2_takeCallers_17 (by decide) (fun c3 => ?_) (fun c3 => ?_)
    · have h := (zz_br h).1 c3
      exact HX  μ _ _ _ (lv_sub hl [] rfl) G h
    have h := (zz_br h).2 c3
    refine lv_aload_n hx hb dX2_takeCallers_20 rfl (lv_at hl 0 rfl) ?_
    refine zz_getr X G fr_2_1 t_r0 (rs_2_1 t_r0) kw_181 dX2_takeCallers_21 ?_
    refine lv_iload_n hx hb dX2_takeCallers_24 rfl (lv_at hl 2 rfl) ?_
    refine lv_aload_n hx hb dX2_takeCallers_25 rfl (lv_at hl 1 rfl) ?_
    refine lv_iload_n hx hb dX2_takeCallers_26 rfl (lv_at hl 2 rfl) ?_
    refine lv_iconst (v := (0 : Int32)) hx hb dX2_takeCallers_27 (by decide) ?_
    refine zz_ci (rest := [.int v3, .ref (ad (r0 + 1))]) G h (fun r μ1 hf => zz_runV X G rc_5 t_r1 cv_X5_value kw_348 (c_X5_value l D ad cA t_r1 hf) ⟨rfl, rfl, Nat.le_of_ble_eq_true rfl, Nat.le_of_ble_eq_true rfl⟩ rfl rfl hl.1 (Nat.le_of_ble_eq_true rfl) dX2_takeCallers_28) (fun x4 μ H locs G h => ?_)
    refine zz_iast X G ia_10 (ft_2_1 t_r0) dX2_takeCallers_31 h (fun μ H locs G h => ?_)
    refine lv_aload_n hx hb dX2_takeCallers_32 rfl (lv_at hl 0 rfl) ?_
    refine zz_getr X G fr_2_2 t_r0 (rs_2_2 t_r0) kw_183 dX2_takeCallers_33 ?_
    refine lv_iload_n hx hb dX2_takeCallers_36 rfl (lv_at hl 2 rfl) ?_
    refine lv_aload_n hx hb dX2_takeCallers_37 rfl (lv_at hl 1 rfl) ?_
    refine lv_iload_n hx hb dX2_takeCallers_38 rfl (lv_at hl 2 rfl) ?_
    refine lv_iconst (v := (1 : Int32)) hx hb dX2_takeCallers_39 (by decide) ?_
    refine zz_ci (rest := [.int v3, .ref (ad (r0 + 2))]) G h (fun r μ1 hf => zz_runV X G rc_5 t_r1 cv_X5_value kw_348 (c_X5_value l D ad cA t_r1 hf) ⟨rfl, rfl, Nat.le_of_ble_eq_true rfl, Nat.le_of_ble_eq_true rfl⟩ rfl rfl hl.1 (Nat.le_of_ble_eq_true rfl) dX2_takeCallers_40) (fun x5 μ H locs G h => ?_)
    refine zz_iast X G ia_10 (ft_2_2 t_r0) dX2_takeCallers_43 h (fun μ H locs G h => ?_)
    refine lv_aload_n hx hb dX2_takeCallers_44 rfl (lv_at hl 0 rfl) ?_
    refine zz_getr X G fr_2_3 t_r0 (rs_2_3 t_r0) kw_186 dX2_takeCallers_45 ?_
    refine lv_iload_n hx hb dX2_takeCallers_48 rfl (lv_at hl 2 rfl) ?_
    refine lv_aload_n hx hb dX2_takeCallers_49 rfl (lv_at hl 1 rfl) ?_
    refine lv_iload_n hx hb dX2_takeCallers_50 rfl (lv_at hl 2 rfl) ?_
    refine lv_iconst (v := (2 : Int32)) hx hb dX2_takeCallers_51 (by decide) ?_
    refine zz_ci (rest := [.int v3, .ref (ad (r0 + 3))]) G h (fun r μ1 hf => zz_runV X G rc_5 t_r1 cv_X5_value kw_348 (c_X5_value l D ad cA t_r1 hf) ⟨rfl, rfl, Nat.le_of_ble_eq_true rfl, Nat.le_of_ble_eq_true rfl⟩ rfl rfl hl.1 (Nat.le_of_ble_eq_true rfl) dX2_takeCallers_52) (fun x6 μ H locs G h => ?_)
    refine zz_iast X G ia_10 (ft_2_3 t_r0) dX2_takeCallers_55 h (fun μ H locs G h => ?_)
    refine lv_aload_n hx hb dX2_takeCallers_56 rfl (lv_at hl 0 rfl) ?_
    refine zz_getr X G fr_2_4 t_r0 (rs_2_4 t_r0) kw_188 dX2_takeCallers_57 ?_
    refine lv_iload_n hx hb dX2_takeCallers_60 rfl (lv_at hl 2 rfl) ?_
    refine lv_aload_n hx hb dX2_takeCallers_61 rfl (lv_at hl 1 rfl) ?_
    refine lv_iload_n hx hb dX2_takeCallers_62 rfl (lv_at hl 2 rfl) ?_
    refine lv_iconst (v := (3 : Int32)) hx hb dX2_takeCallers_63 (by decide) ?_
    refine zz_ci (rest := [.int v3, .ref (ad (r0 + 4))]) G h (fun r μ1 hf => zz_runV X G rc_5 t_r1 cv_X5_value kw_348 (c_X5_value l D ad cA t_r1 hf) ⟨rfl, rfl, Nat.le_of_ble_eq_true rfl, Nat.le_of_ble_eq_true rfl⟩ rfl rfl hl.1 (Nat.le_of_ble_eq_true rfl) dX2_takeCallers_64) (fun x7 μ H locs G h => ?_)
    refine zz_iast X G ia_10 (ft_2_4 t_r0) dX2_takeCallers_67 h (fun μ H locs G h => ?_)
    obtain ⟨x8, ex8, h⟩ := zz_let h
    refine lv_iinc (v := x8) (lv' := [(3, .int x8), (0, .ref (ad r0)), (1, .ref (ad r1))]) hx hb dX2_takeCallers_68 hl (k := 2) rfl (by rw [← ex8]; rfl) (by decide) rfl (fun ls hl => ?_)
    refine lv_goto (tgt := 12) hx hb dX2_takeCallers_71 (by decide) ?_
    exact ih x8 μ _ _ _ (lv_sub hl [1, 2, 0] rfl) G h
set_option maxHeartbeats 4000000 in
set_option maxRecDepth 100000 in
theorem c_X2_takeCallers (l : Launch) (D : va_G) (ad : Nat → Nat) (cA : Nat → ClassId) {r0 : Nat} (t_r0 : zty r0 = 2) {r1 : Nat} (t_r1 : zty r1 = 5) {a2 : Int32} {μ : zM} {r : Unit} {μ' : zM} (h : f_X2_takeCallers r0 r1 a2 μ = some (r, μ')) : zMet true D ad cA l yX2_takeCallers cX2_takeCallers 4 none ({ frames := 2, cells := 0, slots := 0, locals := 45 } : Room) [.ref (ad r0), .ref (ad r1), .int a2] μ (zQv true D ad cA r μ') := by
  refine zMet_of "ButlerWeather$House" ⟨by decide, rfl⟩ (Nat.le_of_ble_eq_true rfl) ?_
  intro p e s m args below meth c X G hr hlk ls hl
  have hl : lv_has ls 4 [(0, .ref (ad r0)), (1, .ref (ad r1)), (2, .int a2)] := hl
  obtain ⟨hx, hb, hml, hown, hts, -, -, -⟩ := id X
  obtain ⟨Q, hQ⟩ : ∃ Q, Q = MQ below (zQv true D ad cA r μ') args s 0 0 (zA true ad) := ⟨_, rfl⟩
  rw [← hQ]
  unfold f_X2_takeCallers at h
  refine lv_aload_n hx hb dX2_takeCallers_0 rfl (lv_at hl 0 rfl) ?_
  refine lv_iload_n hx hb dX2_takeCallers_1 rfl (lv_at hl 2 rfl) ?_
  refine lv_bipush (v := (8 : Int32)) hx hb dX2_takeCallers_2 (by decide) ?_
  refine va_mmin hx hb (hml.trans hl.1.symm) hown (hts _ kw_345) (hts _ kw_346) (hts _ kw_80) (hts _ kw_347) (Nat.le_of_ble_eq_true rfl) (Nat.le_of_ble_eq_true rfl) (Nat.zero_le _) (Nat.zero_le _) dX2_takeCallers_4 ?_
  refine zz_vi h (fun x1 h => ?_)
  refine zz_puti X G fp_2_0 t_r0 kw_178 rfl rfl dX2_takeCallers_7 h (fun μ H locs G h => ?_)
  refine lv_iconst (v := (0 : Int32)) hx hb dX2_takeCallers_10 (by decide) ?_
  refine lv_istore_n (lv' := [(3, .int (0 : Int32)), (0, .ref (ad r0)), (1, .ref (ad r1)), (2, .int a2)]) hx hb dX2_takeCallers_11 rfl hl (by decide) rfl (fun ls hl => ?_)
  refine w_X2_takeCallers_L12 X hQ hr hlk t_r0 t_r1 (fun  μ H locs ls hl G h => ?_) 400 (0 : Int32) μ _ _ _ (lv_sub hl [1, 2, 0] rfl) G h
  rw [hQ]
  exact zz_vret X G hr hlk dX2_takeCallers_74 h
set_option maxHeartbeats 4000000 in
set_option maxRecDepth 100000 in
theorem w_X2_takeMen_L11 {p : Program} {l : Launch} {e : Env} {s : State} {m : MethodId} {args : Array Value} {below : List Frame} {meth : Method} {c : Code} {Q : State → Prop} {D : va_G} {ad : Nat → Nat} {cA : Nat → ClassId} {r : Unit} {μ' : zM} (X : zX true D ad cA p s m args c cX2_takeMen "ButlerWeather$House" 4) (hQ : Q = MQ below (zQv true D ad cA r μ') args s 0 0 (zA true ad)) (hr : meth.sig.returnType = none) (hlk : meth.locks = false) {r0 : Nat} (t_r0 : zty r0 = 2) {r1 : Nat} (t_r1 : zty r1 = 5) {kx : zM → Option (Unit × zM)} (HX : ∀ (μ : zM) (H : Heap) (locs : List Loc) (ls : Array Slot), lv_has ls 4 [] → zG true D ad cA s μ H locs → kx  μ = some (r, μ') → W p l e ({ frames := 2, cells := 0, slots := 0, locals := 45 } : Room) s m args below meth c H locs 0 0 Q (F0 m 61 ls [])) : ∀ (n : Nat) (v3 : Int32) (μ : zM) (H : Heap) (locs : List Loc) (ls : Array Slot), lv_has ls 4 [(0, .ref (ad r0)), (1, .ref (ad r1)), (3, .int v3)] → zG true D ad cA s μ H locs → f_X2_takeMen_L11 r0 r1 kx n v3 μ = some (r, μ') → W p l e ({ frames := 2, cells := 0, slots := 0, locals := 45 } : Room) s m args below meth c H locs 0 0 Q (F0 m 11 ls []) := by
  obtain ⟨hx, hb, hml, hown, hts, -, -, -⟩ := id X
  intro n
  induction n with
  | zero =>
    intro v3 μ H locs ls hl G h
    cases (show (none : Option (Unit × zM)) = some (r, μ') from h)
  | succ n ih =>
    intro v3 μ H locs ls hl G h
    rw [f_X2_takeMen_L11] at h
    refine lv_iload_n hx hb dX2_takeMen_11 rfl (lv_at hl 2 rfl) ?_
    refine lv_aload_n hx hb dX2_takeMen_12 rfl (lv_at hl 0 rfl) ?_
    refine zz_geti X G fi_2_6 t_r0 kw_191 dX2_takeMen_13 h (fun x2 h => ?_)
    refine lv_icmp_ge (tgt := 61) hx hb dX2_takeMen_16 (by decide) (fun c3 => ?_) (fun c3 => ?_)
    · have h := (zz_br h).1 c3
      exact HX  μ _ _ _ (lv_sub hl [] rfl) G h
    have h := (zz_br h).2 c3
    refine lv_aload_n hx hb dX2_takeMen_19 rfl (lv_at hl 0 rfl) ?_
    refine zz_getr X G fr_2_7 t_r0 (rs_2_7 t_r0) kw_193 dX2_takeMen_20 ?_
    refine lv_iload_n hx hb dX2_takeMen_23 rfl (lv_at hl 2 rfl) ?_
    refine lv_aload_n hx hb dX2_takeMen_24 rfl (lv_at hl 1 rfl) ?_
    refine lv_iload_n hx hb dX2_takeMen_25 rfl (lv_at hl 2 rfl) ?_
    refine lv_iconst (v := (0 : Int32)) hx hb dX2_takeMen_26 (by decide) ?_
    refine zz_ci (rest := [.int v3, .ref (ad (r0 + 6))]) G h (fun r μ1 hf => zz_runV X G rc_5 t_r1 cv_X5_value kw_348 (c_X5_value l D ad cA t_r1 hf) ⟨rfl, rfl, Nat.le_of_ble_eq_true rfl, Nat.le_of_ble_eq_true rfl⟩ rfl rfl hl.1 (Nat.le_of_ble_eq_true rfl) dX2_takeMen_27) (fun x4 μ H locs G h => ?_)
    refine zz_iast X G ia_10 (ft_2_7 t_r0) dX2_takeMen_30 h (fun μ H locs G h => ?_)
    refine lv_aload_n hx hb dX2_takeMen_31 rfl (lv_at hl 0 rfl) ?_
    refine zz_getr X G fr_2_8 t_r0 (rs_2_8 t_r0) kw_195 dX2_takeMen_32 ?_
    refine lv_iload_n hx hb dX2_takeMen_35 rfl (lv_at hl 2 rfl) ?_
    refine lv_aload_n hx hb dX2_takeMen_36 rfl (lv_at hl 1 rfl) ?_
    refine lv_iload_n hx hb dX2_takeMen_37 rfl (lv_at hl 2 rfl) ?_
    refine lv_iconst (v := (1 : Int32)) hx hb dX2_takeMen_38 (by decide) ?_
    refine zz_ci (rest := [.int v3, .ref (ad (r0 + 7))]) G h (fun r μ1 hf => zz_runV X G rc_5 t_r1 cv_X5_value kw_348 (c_X5_value l D ad cA t_r1 hf) ⟨rfl, rfl, Nat.le_of_ble_eq_true rfl, Nat.le_of_ble_eq_true rfl⟩ rfl rfl hl.1 (Nat.le_of_ble_eq_true rfl) dX2_takeMen_39) (fun x5 μ H locs G h => ?_)
    refine zz_iast X G ia_10 (ft_2_8 t_r0) dX2_takeMen_42 h (fun μ H locs G h => ?_)
    refine lv_aload_n hx hb dX2_takeMen_43 rfl (lv_at hl 0 rfl) ?_
    refine zz_getr X G fr_2_9 t_r0 (rs_2_9 t_r0) kw_197 dX2_takeMen_44 ?_
    refine lv_iload_n hx hb dX2_takeMen_47 rfl (lv_at hl 2 rfl) ?_
    refine lv_aload_n hx hb dX2_takeMen_48 rfl (lv_at hl 1 rfl) ?_
    refine lv_iload_n hx hb dX2_takeMen_49 rfl (lv_at hl 2 rfl) ?_
    refine lv_iconst (v := (2 : Int32)) hx hb dX2_takeMen_50 (by decide) ?_
    refine zz_ci (rest := [.int v3, .ref (ad (r0 + 8))]) G h (fun r μ1 hf => zz_runV X G rc_5 t_r1 cv_X5_value kw_348 (c_X5_value l D ad cA t_r1 hf) ⟨rfl, rfl, Nat.le_of_ble_eq_true rfl, Nat.le_of_ble_eq_true rfl⟩ rfl rfl hl.1 (Nat.le_of_ble_eq_true rfl) dX2_takeMen_51) (fun x6 μ H locs G h => ?_)
    refine zz_iast X G ia_10 (ft_2_9 t_r0) dX2_takeMen_54 h (fun μ H locs G h => ?_)
    obtain ⟨x7, ex7, h⟩ := zz_let h
    refine lv_iinc (v := x7) (lv' := [(3, .int x7), (0, .ref (ad r0)), (1, .ref (ad r1))]) hx hb dX2_takeMen_55 hl (k := 2) rfl (by rw [← ex7]; rfl) (by decide) rfl (fun ls hl => ?_)
    refine lv_goto (tgt := 11) hx hb dX2_takeMen_58 (by decide) ?_
    exact ih x7 μ _ _ _ (lv_sub hl [1, 2, 0] rfl) G h
set_option maxHeartbeats 4000000 in
set_option maxRecDepth 100000 in
theorem c_X2_takeMen (l : Launch) (D : va_G) (ad : Nat → Nat) (cA : Nat → ClassId) {r0 : Nat} (t_r0 : zty r0 = 2) {r1 : Nat} (t_r1 : zty r1 = 5) {a2 : Int32} {μ : zM} {r : Unit} {μ' : zM} (h : f_X2_takeMen r0 r1 a2 μ = some (r, μ')) : zMet true D ad cA l yX2_takeMen cX2_takeMen 4 none ({ frames := 2, cells := 0, slots := 0, locals := 45 } : Room) [.ref (ad r0), .ref (ad r1), .int a2] μ (zQv true D ad cA r μ') := by
  refine zMet_of "ButlerWeather$House" ⟨by decide, rfl⟩ (Nat.le_of_ble_eq_true rfl) ?_
  intro p e s m args below meth c X G hr hlk ls hl
  have hl : lv_has ls 4 [(0, .ref (ad r0)), (1, .ref (ad r1)), (2, .int a2)] := hl
  obtain ⟨hx, hb, hml, hown, hts, -, -, -⟩ := id X
  obtain ⟨Q, hQ⟩ : ∃ Q, Q = MQ below (zQv true D ad cA r μ') args s 0 0 (zA true ad) := ⟨_, rfl⟩
  rw [← hQ]
  unfold f_X2_takeMen at h
  refine lv_aload_n hx hb dX2_takeMen_0 rfl (lv_at hl 0 rfl) ?_
  refine lv_iload_n hx hb dX2_takeMen_1 rfl (lv_at hl 2 rfl) ?_
  refine lv_iconst (v := (4 : Int32)) hx hb dX2_takeMen_2 (by decide) ?_
  refine va_mmin hx hb (hml.trans hl.1.symm) hown (hts _ kw_345) (hts _ kw_346) (hts _ kw_80) (hts _ kw_347) (Nat.le_of_ble_eq_true rfl) (Nat.le_of_ble_eq_true rfl) (Nat.zero_le _) (Nat.zero_le _) dX2_takeMen_3 ?_
  refine zz_vi h (fun x1 h => ?_)
  refine zz_puti X G fp_2_6 t_r0 kw_191 rfl rfl dX2_takeMen_6 h (fun μ H locs G h => ?_)
  refine lv_iconst (v := (0 : Int32)) hx hb dX2_takeMen_9 (by decide) ?_
  refine lv_istore_n (lv' := [(3, .int (0 : Int32)), (0, .ref (ad r0)), (1, .ref (ad r1)), (2, .int a2)]) hx hb dX2_takeMen_10 rfl hl (by decide) rfl (fun ls hl => ?_)
  refine w_X2_takeMen_L11 X hQ hr hlk t_r0 t_r1 (fun  μ H locs ls hl G h => ?_) 400 (0 : Int32) μ _ _ _ (lv_sub hl [1, 2, 0] rfl) G h
  rw [hQ]
  exact zz_vret X G hr hlk dX2_takeMen_61 h
set_option maxHeartbeats 4000000 in
set_option maxRecDepth 100000 in
theorem w_X2_become_L18 {p : Program} {l : Launch} {e : Env} {s : State} {m : MethodId} {args : Array Value} {below : List Frame} {meth : Method} {c : Code} {Q : State → Prop} {D : va_G} {ad : Nat → Nat} {cA : Nat → ClassId} {r : Unit} {μ' : zM} (X : zX true D ad cA p s m args c cX2_become "ButlerWeather$House" 3) (hQ : Q = MQ below (zQv true D ad cA r μ') args s 0 0 (zA true ad)) (hr : meth.sig.returnType = none) (hlk : meth.locks = false) {r0 : Nat} (t_r0 : zty r0 = 2) {r1 : Nat} (t_r1 : zty r1 = 2) {kx : zM → Option (Unit × zM)} (HX : ∀ (μ : zM) (H : Heap) (locs : List Loc) (ls : Array Slot), lv_has ls 3 [(0, .ref (ad r0)), (1, .ref (ad r1))] → zG true D ad cA s μ H locs → kx  μ = some (r, μ') → W p l e ({ frames := 0, cells := 0, slots := 0, locals := 0 } : Room) s m args below meth c H locs 0 0 Q (F0 m 92 ls [])) : ∀ (n : Nat) (v2 : Int32) (μ : zM) (H : Heap) (locs : List Loc) (ls : Array Slot), lv_has ls 3 [(0, .ref (ad r0)), (1, .ref (ad r1)), (2, .int v2)] → zG true D ad cA s μ H locs → f_X2_become_L18 r0 r1 kx n v2 μ = some (r, μ') → W p l e ({ frames := 0, cells := 0, slots := 0, locals := 0 } : Room) s m args below meth c H locs 0 0 Q (F0 m 18 ls []) := by
  obtain ⟨hx, hb, hml, hown, hts, -, -, -⟩ := id X
  intro n
  induction n with
  | zero =>
    intro v2 μ H locs ls hl G h
    cases (show (none : Option (Unit × zM)) = some (r, μ') from h)
  | succ n ih =>
    intro v2 μ H locs ls hl G h
    rw [f_X2_become_L18] at h
    refine lv_iload_n hx hb dX2_become_18 rfl (lv_at hl 2 rfl) ?_
    refine lv_aload_n hx hb dX2_become_19 rfl (lv_at hl 0 rfl) ?_
    refine zz_geti X G fi_2_0 t_r0 kw_178 dX2_become_20 h (fun x3 h => ?_)
    refine lv_icmp_ge (tgt := 92) hx hb dX2_become_23 (by decide) (fun c4 => ?_) (fun c4 => ?_)
    · have h := (zz_br h).1 c4
      exact HX  μ _ _ _ (lv_sub hl [0, 1] rfl) G h
    have h := (zz_br h).2 c4
    refine lv_aload_n hx hb dX2_become_26 rfl (lv_at hl 0 rfl) ?_
    refine zz_getr X G fr_2_1 t_r0 (rs_2_1 t_r0) kw_181 dX2_become_27 ?_
    refine lv_iload_n hx hb dX2_become_30 rfl (lv_at hl 2 rfl) ?_
    refine lv_aload_n hx hb dX2_become_31 rfl (lv_at hl 1 rfl) ?_
    refine zz_getr X G fr_2_1 t_r1 (rs_2_1 t_r1) kw_181 dX2_become_32 ?_
    refine lv_iload_n hx hb dX2_become_35 rfl (lv_at hl 2 rfl) ?_
    refine zz_iald X G ia_10 (ft_2_1 t_r1) dX2_become_36 h (fun x5 h => ?_)
    refine zz_iast X G ia_10 (ft_2_1 t_r0) dX2_become_37 h (fun μ H locs G h => ?_)
    refine lv_aload_n hx hb dX2_become_38 rfl (lv_at hl 0 rfl) ?_
    refine zz_getr X G fr_2_2 t_r0 (rs_2_2 t_r0) kw_183 dX2_become_39 ?_
    refine lv_iload_n hx hb dX2_become_42 rfl (lv_at hl 2 rfl) ?_
    refine lv_aload_n hx hb dX2_become_43 rfl (lv_at hl 1 rfl) ?_
    refine zz_getr X G fr_2_2 t_r1 (rs_2_2 t_r1) kw_183 dX2_become_44 ?_
    refine lv_iload_n hx hb dX2_become_47 rfl (lv_at hl 2 rfl) ?_
    refine zz_iald X G ia_10 (ft_2_2 t_r1) dX2_become_48 h (fun x6 h => ?_)
    refine zz_iast X G ia_10 (ft_2_2 t_r0) dX2_become_49 h (fun μ H locs G h => ?_)
    refine lv_aload_n hx hb dX2_become_50 rfl (lv_at hl 0 rfl) ?_
    refine zz_getr X G fr_2_3 t_r0 (rs_2_3 t_r0) kw_186 dX2_become_51 ?_
    refine lv_iload_n hx hb dX2_become_54 rfl (lv_at hl 2 rfl) ?_
    refine lv_aload_n hx hb dX2_become_55 rfl (lv_at hl 1 rfl) ?_
    refine zz_getr X G fr_2_3 t_r1 (rs_2_3 t_r1) kw_186 dX2_become_56 ?_
    refine lv_iload_n hx hb dX2_become_59 rfl (lv_at hl 2 rfl) ?_
    refine zz_iald X G ia_10 (ft_2_3 t_r1) dX2_become_60 h (fun x7 h => ?_)
    refine zz_iast X G ia_10 (ft_2_3 t_r0) dX2_become_61 h (fun μ H locs G h => ?_)
    refine lv_aload_n hx hb dX2_become_62 rfl (lv_at hl 0 rfl) ?_
    refine zz_getr X G fr_2_4 t_r0 (rs_2_4 t_r0) kw_188 dX2_become_63 ?_
    refine lv_iload_n hx hb dX2_become_66 rfl (lv_at hl 2 rfl) ?_
    refine lv_aload_n hx hb dX2_become_67 rfl (lv_at hl 1 rfl) ?_
    refine zz_getr X G fr_2_4 t_r1 (rs_2_4 t_r1) kw_188 dX2_become_68 ?_
    refine lv_iload_n hx hb dX2_become_71 rfl (lv_at hl 2 rfl) ?_
    refine zz_iald X G ia_10 (ft_2_4 t_r1) dX2_become_72 h (fun x8 h => ?_)
    refine zz_iast X G ia_10 (ft_2_4 t_r0) dX2_become_73 h (fun μ H locs G h => ?_)
    refine lv_aload_n hx hb dX2_become_74 rfl (lv_at hl 0 rfl) ?_
    refine zz_getr X G fr_2_5 t_r0 (rs_2_5 t_r0) kw_190 dX2_become_75 ?_
    refine lv_iload_n hx hb dX2_become_78 rfl (lv_at hl 2 rfl) ?_
    refine lv_aload_n hx hb dX2_become_79 rfl (lv_at hl 1 rfl) ?_
    refine zz_getr X G fr_2_5 t_r1 (rs_2_5 t_r1) kw_190 dX2_become_80 ?_
    refine lv_iload_n hx hb dX2_become_83 rfl (lv_at hl 2 rfl) ?_
    refine zz_iald X G ia_10 (ft_2_5 t_r1) dX2_become_84 h (fun x9 h => ?_)
    refine zz_iast X G ia_10 (ft_2_5 t_r0) dX2_become_85 h (fun μ H locs G h => ?_)
    obtain ⟨x10, ex10, h⟩ := zz_let h
    refine lv_iinc (v := x10) (lv' := [(2, .int x10), (0, .ref (ad r0)), (1, .ref (ad r1))]) hx hb dX2_become_86 hl (k := 2) rfl (by rw [← ex10]; rfl) (by decide) rfl (fun ls hl => ?_)
    refine lv_goto (tgt := 18) hx hb dX2_become_89 (by decide) ?_
    exact ih x10 μ _ _ _ (lv_sub hl [1, 2, 0] rfl) G h
set_option maxHeartbeats 4000000 in
set_option maxRecDepth 100000 in
theorem w_X2_become_L94 {p : Program} {l : Launch} {e : Env} {s : State} {m : MethodId} {args : Array Value} {below : List Frame} {meth : Method} {c : Code} {Q : State → Prop} {D : va_G} {ad : Nat → Nat} {cA : Nat → ClassId} {r : Unit} {μ' : zM} (X : zX true D ad cA p s m args c cX2_become "ButlerWeather$House" 3) (hQ : Q = MQ below (zQv true D ad cA r μ') args s 0 0 (zA true ad)) (hr : meth.sig.returnType = none) (hlk : meth.locks = false) {r0 : Nat} (t_r0 : zty r0 = 2) {r1 : Nat} (t_r1 : zty r1 = 2) {kx : zM → Option (Unit × zM)} (HX : ∀ (μ : zM) (H : Heap) (locs : List Loc) (ls : Array Slot), lv_has ls 3 [] → zG true D ad cA s μ H locs → kx  μ = some (r, μ') → W p l e ({ frames := 0, cells := 0, slots := 0, locals := 0 } : Room) s m args below meth c H locs 0 0 Q (F0 m 144 ls [])) : ∀ (n : Nat) (v2 : Int32) (μ : zM) (H : Heap) (locs : List Loc) (ls : Array Slot), lv_has ls 3 [(0, .ref (ad r0)), (1, .ref (ad r1)), (2, .int v2)] → zG true D ad cA s μ H locs → f_X2_become_L94 r0 r1 kx n v2 μ = some (r, μ') → W p l e ({ frames := 0, cells := 0, slots := 0, locals := 0 } : Room) s m args below meth c H locs 0 0 Q (F0 m 94 ls []) := by
  obtain ⟨hx, hb, hml, hown, hts, -, -, -⟩ := id X
  intro n
  induction n with
  | zero =>
    intro v2 μ H locs ls hl G h
    cases (show (none : Option (Unit × zM)) = some (r, μ') from h)
  | succ n ih =>
    intro v2 μ H locs ls hl G h
    rw [f_X2_become_L94] at h
    refine lv_iload_n hx hb dX2_become_94 rfl (lv_at hl 2 rfl) ?_
    refine lv_aload_n hx hb dX2_become_95 rfl (lv_at hl 0 rfl) ?_
    refine zz_geti X G fi_2_6 t_r0 kw_191 dX2_become_96 h (fun x11 h => ?_)
    refine lv_icmp_ge (tgt := 144) hx hb dX2_become_99 (by decide) (fun c12 => ?_) (fun c12 => ?_)
    · have h := (zz_br h).1 c12
      exact HX  μ _ _ _ (lv_sub hl [] rfl) G h
    have h := (zz_br h).2 c12
    refine lv_aload_n hx hb dX2_become_102 rfl (lv_at hl 0 rfl) ?_
    refine zz_getr X G fr_2_7 t_r0 (rs_2_7 t_r0) kw_193 dX2_become_103 ?_
    refine lv_iload_n hx hb dX2_become_106 rfl (lv_at hl 2 rfl) ?_
    refine lv_aload_n hx hb dX2_become_107 rfl (lv_at hl 1 rfl) ?_
    refine zz_getr X G fr_2_7 t_r1 (rs_2_7 t_r1) kw_193 dX2_become_108 ?_
    refine lv_iload_n hx hb dX2_become_111 rfl (lv_at hl 2 rfl) ?_
    refine zz_iald X G ia_10 (ft_2_7 t_r1) dX2_become_112 h (fun x13 h => ?_)
    refine zz_iast X G ia_10 (ft_2_7 t_r0) dX2_become_113 h (fun μ H locs G h => ?_)
    refine lv_aload_n hx hb dX2_become_114 rfl (lv_at hl 0 rfl) ?_
    refine zz_getr X G fr_2_8 t_r0 (rs_2_8 t_r0) kw_195 dX2_become_115 ?_
    refine lv_iload_n hx hb dX2_become_118 rfl (lv_at hl 2 rfl) ?_
    refine lv_aload_n hx hb dX2_become_119 rfl (lv_at hl 1 rfl) ?_
    refine zz_getr X G fr_2_8 t_r1 (rs_2_8 t_r1) kw_195 dX2_become_120 ?_
    refine lv_iload_n hx hb dX2_become_123 rfl (lv_at hl 2 rfl) ?_
    refine zz_iald X G ia_10 (ft_2_8 t_r1) dX2_become_124 h (fun x14 h => ?_)
    refine zz_iast X G ia_10 (ft_2_8 t_r0) dX2_become_125 h (fun μ H locs G h => ?_)
    refine lv_aload_n hx hb dX2_become_126 rfl (lv_at hl 0 rfl) ?_
    refine zz_getr X G fr_2_9 t_r0 (rs_2_9 t_r0) kw_197 dX2_become_127 ?_
    refine lv_iload_n hx hb dX2_become_130 rfl (lv_at hl 2 rfl) ?_
    refine lv_aload_n hx hb dX2_become_131 rfl (lv_at hl 1 rfl) ?_
    refine zz_getr X G fr_2_9 t_r1 (rs_2_9 t_r1) kw_197 dX2_become_132 ?_
    refine lv_iload_n hx hb dX2_become_135 rfl (lv_at hl 2 rfl) ?_
    refine zz_iald X G ia_10 (ft_2_9 t_r1) dX2_become_136 h (fun x15 h => ?_)
    refine zz_iast X G ia_10 (ft_2_9 t_r0) dX2_become_137 h (fun μ H locs G h => ?_)
    obtain ⟨x16, ex16, h⟩ := zz_let h
    refine lv_iinc (v := x16) (lv' := [(2, .int x16), (0, .ref (ad r0)), (1, .ref (ad r1))]) hx hb dX2_become_138 hl (k := 2) rfl (by rw [← ex16]; rfl) (by decide) rfl (fun ls hl => ?_)
    refine lv_goto (tgt := 94) hx hb dX2_become_141 (by decide) ?_
    exact ih x16 μ _ _ _ (lv_sub hl [1, 2, 0] rfl) G h
set_option maxHeartbeats 4000000 in
set_option maxRecDepth 100000 in
theorem c_X2_become (l : Launch) (D : va_G) (ad : Nat → Nat) (cA : Nat → ClassId) {r0 : Nat} (t_r0 : zty r0 = 2) {r1 : Nat} (t_r1 : zty r1 = 2) {μ : zM} {r : Unit} {μ' : zM} (h : f_X2_become r0 r1 μ = some (r, μ')) : zMet true D ad cA l yX2_become cX2_become 3 none ({ frames := 0, cells := 0, slots := 0, locals := 0 } : Room) [.ref (ad r0), .ref (ad r1)] μ (zQv true D ad cA r μ') := by
  refine zMet_of "ButlerWeather$House" ⟨by decide, rfl⟩ (Nat.le_of_ble_eq_true rfl) ?_
  intro p e s m args below meth c X G hr hlk ls hl
  have hl : lv_has ls 3 [(0, .ref (ad r0)), (1, .ref (ad r1))] := hl
  obtain ⟨hx, hb, hml, hown, hts, -, -, -⟩ := id X
  obtain ⟨Q, hQ⟩ : ∃ Q, Q = MQ below (zQv true D ad cA r μ') args s 0 0 (zA true ad) := ⟨_, rfl⟩
  rw [← hQ]
  unfold f_X2_become at h
  refine lv_aload_n hx hb dX2_become_0 rfl (lv_at hl 0 rfl) ?_
  refine lv_aload_n hx hb dX2_become_1 rfl (lv_at hl 1 rfl) ?_
  refine zz_geti X G fi_2_0 t_r1 kw_178 dX2_become_2 h (fun x1 h => ?_)
  refine zz_puti X G fp_2_0 t_r0 kw_178 rfl rfl dX2_become_5 h (fun μ H locs G h => ?_)
  refine lv_aload_n hx hb dX2_become_8 rfl (lv_at hl 0 rfl) ?_
  refine lv_aload_n hx hb dX2_become_9 rfl (lv_at hl 1 rfl) ?_
  refine zz_geti X G fi_2_6 t_r1 kw_191 dX2_become_10 h (fun x2 h => ?_)
  refine zz_puti X G fp_2_6 t_r0 kw_191 rfl rfl dX2_become_13 h (fun μ H locs G h => ?_)
  refine lv_iconst (v := (0 : Int32)) hx hb dX2_become_16 (by decide) ?_
  refine lv_istore_n (lv' := [(2, .int (0 : Int32)), (0, .ref (ad r0)), (1, .ref (ad r1))]) hx hb dX2_become_17 rfl hl (by decide) rfl (fun ls hl => ?_)
  refine w_X2_become_L18 X hQ hr hlk t_r0 t_r1 (fun  μ H locs ls hl G h => ?_) 400 (0 : Int32) μ _ _ _ (lv_sub hl [1, 2, 0] rfl) G h
  refine lv_iconst (v := (0 : Int32)) hx hb dX2_become_92 (by decide) ?_
  refine lv_istore_n (lv' := [(2, .int (0 : Int32)), (0, .ref (ad r0)), (1, .ref (ad r1))]) hx hb dX2_become_93 rfl hl (by decide) rfl (fun ls hl => ?_)
  refine w_X2_become_L94 X hQ hr hlk t_r0 t_r1 (fun  μ H locs ls hl G h => ?_) 400 (0 : Int32) μ _ _ _ (lv_sub hl [1, 2, 0] rfl) G h
  rw [hQ]
  exact zz_vret X G hr hlk dX2_become_144 h
