-- CONTRACTS, by program
set_option maxHeartbeats 4000000 in
set_option maxRecDepth 100000 in
theorem w_X2_gather_L2 {p : Program} {l : Launch} {e : Env} {s : State} {m : MethodId} {args : Array Value} {below : List Frame} {meth : Method} {c : Code} {Q : State → Prop} {D : va_G} {ad : Nat → Nat} {cA : Nat → ClassId} {r : Unit} {μ' : zM} (X : zX true D ad cA p s m args c cX2_gather "ButlerWeather$House" 2) (hQ : Q = MQ below (zQv true D ad cA r μ') args s 0 0 (zA true ad)) (hr : meth.sig.returnType = none) (hlk : meth.locks = false) {r0 : Nat} (t_r0 : zty r0 = 2) {kx : zM → Option (Unit × zM)} (HX : ∀ (μ : zM) (H : Heap) (locs : List Loc) (ls : Array Slot), lv_has ls 2 [(0, .ref (ad r0))] → zG true D ad cA s μ H locs → kx  μ = some (r, μ') → W p l e ({ frames := 0, cells := 0, slots := 0, locals := 0 } : Room) s m args below meth c H locs 0 0 Q (F0 m 21 ls [])) : ∀ (n : Nat) (v1 : Int32) (μ : zM) (H : Heap) (locs : List Loc) (ls : Array Slot), lv_has ls 2 [(0, .ref (ad r0)), (1, .int v1)] → zG true D ad cA s μ H locs → f_X2_gather_L2 r0 kx n v1 μ = some (r, μ') → W p l e ({ frames := 0, cells := 0, slots := 0, locals := 0 } : Room) s m args below meth c H locs 0 0 Q (F0 m 2 ls []) := by
  obtain ⟨hx, hb, hml, hown, hts, -, -, -⟩ := id X
  intro n
  induction n with
  | zero =>
    intro v1 μ H locs ls hl G h
    cases (show (none : Option (Unit × zM)) = some (r, μ') from h)
  | succ n ih =>
    intro v1 μ H locs ls hl G h
    rw [f_X2_gather_L2] at h
    refine lv_iload_n hx hb dX2_gather_2 rfl (lv_at hl 1 rfl) ?_
    refine lv_bipush (v := (24 : Int32)) hx hb dX2_gather_3 (by decide) ?_
    refine lv_icmp_ge (tgt := 21) hx hb dX2_gather_5 (by decide) (fun c1 => ?_) (fun c1 => ?_)
    · have h := (zz_br h).1 c1
      exact HX  μ _ _ _ (lv_sub hl [0] rfl) G h
    have h := (zz_br h).2 c1
    refine lv_aload_n hx hb dX2_gather_8 rfl (lv_at hl 0 rfl) ?_
    refine zz_getr X G fr_2_10 t_r0 (rs_2_10 t_r0) kw_199 dX2_gather_9 ?_
    refine lv_iload_n hx hb dX2_gather_12 rfl (lv_at hl 1 rfl) ?_
    refine lv_iconst (v := (0 : Int32)) hx hb dX2_gather_13 (by decide) ?_
    refine zz_iast X G ia_10 (ft_2_10 t_r0) dX2_gather_14 h (fun μ H locs G h => ?_)
    obtain ⟨x2, ex2, h⟩ := zz_let h
    refine lv_iinc (v := x2) (lv' := [(1, .int x2), (0, .ref (ad r0))]) hx hb dX2_gather_15 hl (k := 1) rfl (by rw [← ex2]; rfl) (by decide) rfl (fun ls hl => ?_)
    refine lv_goto (tgt := 2) hx hb dX2_gather_18 (by decide) ?_
    exact ih x2 μ _ _ _ (lv_sub hl [1, 0] rfl) G h
set_option maxHeartbeats 4000000 in
set_option maxRecDepth 100000 in
theorem w_X2_gather_L23 {p : Program} {l : Launch} {e : Env} {s : State} {m : MethodId} {args : Array Value} {below : List Frame} {meth : Method} {c : Code} {Q : State → Prop} {D : va_G} {ad : Nat → Nat} {cA : Nat → ClassId} {r : Unit} {μ' : zM} (X : zX true D ad cA p s m args c cX2_gather "ButlerWeather$House" 2) (hQ : Q = MQ below (zQv true D ad cA r μ') args s 0 0 (zA true ad)) (hr : meth.sig.returnType = none) (hlk : meth.locks = false) {r0 : Nat} (t_r0 : zty r0 = 2) {kx : zM → Option (Unit × zM)} (HX : ∀ (μ : zM) (H : Heap) (locs : List Loc) (ls : Array Slot), lv_has ls 2 [] → zG true D ad cA s μ H locs → kx  μ = some (r, μ') → W p l e ({ frames := 0, cells := 0, slots := 0, locals := 0 } : Room) s m args below meth c H locs 0 0 Q (F0 m 95 ls [])) : ∀ (n : Nat) (v1 : Int32) (μ : zM) (H : Heap) (locs : List Loc) (ls : Array Slot), lv_has ls 2 [(0, .ref (ad r0)), (1, .int v1)] → zG true D ad cA s μ H locs → f_X2_gather_L23 r0 kx n v1 μ = some (r, μ') → W p l e ({ frames := 0, cells := 0, slots := 0, locals := 0 } : Room) s m args below meth c H locs 0 0 Q (F0 m 23 ls []) := by
  obtain ⟨hx, hb, hml, hown, hts, -, -, -⟩ := id X
  intro n
  induction n with
  | zero =>
    intro v1 μ H locs ls hl G h
    cases (show (none : Option (Unit × zM)) = some (r, μ') from h)
  | succ n ih =>
    intro v1 μ H locs ls hl G h
    rw [f_X2_gather_L23] at h
    refine lv_iload_n hx hb dX2_gather_23 rfl (lv_at hl 1 rfl) ?_
    refine lv_aload_n hx hb dX2_gather_24 rfl (lv_at hl 0 rfl) ?_
    refine zz_geti X G fi_2_0 t_r0 kw_178 dX2_gather_25 h (fun x3 h => ?_)
    refine lv_icmp_ge (tgt := 95) hx hb dX2_gather_28 (by decide) (fun c4 => ?_) (fun c4 => ?_)
    · have h := (zz_br h).1 c4
      exact HX  μ _ _ _ (lv_sub hl [] rfl) G h
    have h := (zz_br h).2 c4
    refine lv_aload_n hx hb dX2_gather_31 rfl (lv_at hl 0 rfl) ?_
    refine zz_getr X G fr_2_11 t_r0 (rs_2_11 t_r0) kw_200 dX2_gather_32 ?_
    refine lv_iload_n hx hb dX2_gather_35 rfl (lv_at hl 1 rfl) ?_
    refine lv_iconst (v := (-1 : Int32)) hx hb dX2_gather_36 (by decide) ?_
    refine zz_iast X G ia_10 (ft_2_11 t_r0) dX2_gather_37 h (fun μ H locs G h => ?_)
    refine lv_aload_n hx hb dX2_gather_38 rfl (lv_at hl 0 rfl) ?_
    refine zz_getr X G fr_2_12 t_r0 (rs_2_12 t_r0) kw_203 dX2_gather_39 ?_
    refine lv_iload_n hx hb dX2_gather_42 rfl (lv_at hl 1 rfl) ?_
    refine lv_iconst (v := (-1 : Int32)) hx hb dX2_gather_43 (by decide) ?_
    refine zz_iast X G ia_10 (ft_2_12 t_r0) dX2_gather_44 h (fun μ H locs G h => ?_)
    refine lv_aload_n hx hb dX2_gather_45 rfl (lv_at hl 0 rfl) ?_
    refine zz_getr X G fr_2_13 t_r0 (rs_2_13 t_r0) kw_204 dX2_gather_46 ?_
    refine lv_iload_n hx hb dX2_gather_49 rfl (lv_at hl 1 rfl) ?_
    refine lv_iconst (v := (-1 : Int32)) hx hb dX2_gather_50 (by decide) ?_
    refine zz_iast X G ia_10 (ft_2_13 t_r0) dX2_gather_51 h (fun μ H locs G h => ?_)
    refine lv_aload_n hx hb dX2_gather_52 rfl (lv_at hl 0 rfl) ?_
    refine zz_getr X G fr_2_3 t_r0 (rs_2_3 t_r0) kw_186 dX2_gather_53 ?_
    refine lv_iload_n hx hb dX2_gather_56 rfl (lv_at hl 1 rfl) ?_
    refine zz_iald X G ia_10 (ft_2_3 t_r0) dX2_gather_57 h (fun x5 h => ?_)
    refine lv_if_lt (tgt := 89) hx hb dX2_gather_58 (by decide) (fun c6 => ?_) (fun c6 => ?_)
    · have h := (zz_br h).1 c6
      obtain ⟨x7, ex7, h⟩ := zz_let h
      refine lv_iinc (v := x7) (lv' := [(1, .int x7), (0, .ref (ad r0))]) hx hb dX2_gather_89 hl (k := 1) rfl (by rw [← ex7]; rfl) (by decide) rfl (fun ls hl => ?_)
      refine lv_goto (tgt := 23) hx hb dX2_gather_92 (by decide) ?_
      exact ih x7 μ _ _ _ (lv_sub hl [1, 0] rfl) G h
    have h := (zz_br h).2 c6
    refine lv_aload_n hx hb dX2_gather_61 rfl (lv_at hl 0 rfl) ?_
    refine zz_getr X G fr_2_3 t_r0 (rs_2_3 t_r0) kw_186 dX2_gather_62 ?_
    refine lv_iload_n hx hb dX2_gather_65 rfl (lv_at hl 1 rfl) ?_
    refine zz_iald X G ia_10 (ft_2_3 t_r0) dX2_gather_66 h (fun x8 h => ?_)
    refine lv_bipush (v := (24 : Int32)) hx hb dX2_gather_67 (by decide) ?_
    refine lv_icmp_ge (tgt := 89) hx hb dX2_gather_69 (by decide) (fun c9 => ?_) (fun c9 => ?_)
    · have h := (zz_br h).1 c9
      obtain ⟨x10, ex10, h⟩ := zz_let h
      refine lv_iinc (v := x10) (lv' := [(1, .int x10), (0, .ref (ad r0))]) hx hb dX2_gather_89 hl (k := 1) rfl (by rw [← ex10]; rfl) (by decide) rfl (fun ls hl => ?_)
      refine lv_goto (tgt := 23) hx hb dX2_gather_92 (by decide) ?_
      exact ih x10 μ _ _ _ (lv_sub hl [1, 0] rfl) G h
    have h := (zz_br h).2 c9
    refine lv_aload_n hx hb dX2_gather_72 rfl (lv_at hl 0 rfl) ?_
    refine zz_getr X G fr_2_10 t_r0 (rs_2_10 t_r0) kw_199 dX2_gather_73 ?_
    refine lv_aload_n hx hb dX2_gather_76 rfl (lv_at hl 0 rfl) ?_
    refine zz_getr X G fr_2_3 t_r0 (rs_2_3 t_r0) kw_186 dX2_gather_77 ?_
    refine lv_iload_n hx hb dX2_gather_80 rfl (lv_at hl 1 rfl) ?_
    refine zz_iald X G ia_10 (ft_2_3 t_r0) dX2_gather_81 h (fun x11 h => ?_)
    refine lv_dup2_11 hx hb dX2_gather_82 rfl rfl ?_
    refine zz_iald X G ia_10 (ft_2_10 t_r0) dX2_gather_83 h (fun x12 h => ?_)
    refine lv_iconst (v := (1 : Int32)) hx hb dX2_gather_84 (by decide) ?_
    refine lv_iload_n hx hb dX2_gather_85 rfl (lv_at hl 1 rfl) ?_
    refine lv_ishl hx hb dX2_gather_86 ?_
    refine lv_ior hx hb dX2_gather_87 ?_
    refine zz_iast X G ia_10 (ft_2_10 t_r0) dX2_gather_88 h (fun μ H locs G h => ?_)
    obtain ⟨x13, ex13, h⟩ := zz_let h
    refine lv_iinc (v := x13) (lv' := [(1, .int x13), (0, .ref (ad r0))]) hx hb dX2_gather_89 hl (k := 1) rfl (by rw [← ex13]; rfl) (by decide) rfl (fun ls hl => ?_)
    refine lv_goto (tgt := 23) hx hb dX2_gather_92 (by decide) ?_
    exact ih x13 μ _ _ _ (lv_sub hl [1, 0] rfl) G h
set_option maxHeartbeats 4000000 in
set_option maxRecDepth 100000 in
theorem c_X2_gather (l : Launch) (D : va_G) (ad : Nat → Nat) (cA : Nat → ClassId) {r0 : Nat} (t_r0 : zty r0 = 2) {μ : zM} {r : Unit} {μ' : zM} (h : f_X2_gather r0 μ = some (r, μ')) : zMet true D ad cA l yX2_gather cX2_gather 2 none ({ frames := 0, cells := 0, slots := 0, locals := 0 } : Room) [.ref (ad r0)] μ (zQv true D ad cA r μ') := by
  refine zMet_of "ButlerWeather$House" ⟨by decide, rfl⟩ (Nat.le_of_ble_eq_true rfl) ?_
  intro p e s m args below meth c X G hr hlk ls hl
  have hl : lv_has ls 2 [(0, .ref (ad r0))] := hl
  obtain ⟨hx, hb, hml, hown, hts, -, -, -⟩ := id X
  obtain ⟨Q, hQ⟩ : ∃ Q, Q = MQ below (zQv true D ad cA r μ') args s 0 0 (zA true ad) := ⟨_, rfl⟩
  rw [← hQ]
  unfold f_X2_gather at h
  refine lv_iconst (v := (0 : Int32)) hx hb dX2_gather_0 (by decide) ?_
  refine lv_istore_n (lv' := [(1, .int (0 : Int32)), (0, .ref (ad r0))]) hx hb dX2_gather_1 rfl hl (by decide) rfl (fun ls hl => ?_)
  refine w_X2_gather_L2 X hQ hr hlk t_r0 (fun  μ H locs ls hl G h => ?_) 400 (0 : Int32) μ _ _ _ (lv_sub hl [1, 0] rfl) G h
  refine lv_iconst (v := (0 : Int32)) hx hb dX2_gather_21 (by decide) ?_
  refine lv_istore_n (lv' := [(1, .int (0 : Int32)), (0, .ref (ad r0))]) hx hb dX2_gather_22 rfl hl (by decide) rfl (fun ls hl => ?_)
  refine w_X2_gather_L23 X hQ hr hlk t_r0 (fun  μ H locs ls hl G h => ?_) 400 (0 : Int32) μ _ _ _ (lv_sub hl [1, 0] rfl) G h
  rw [hQ]
  exact zz_vret X G hr hlk dX2_gather_95 h
set_option maxHeartbeats 4000000 in
set_option maxRecDepth 100000 in
theorem c_X2_letIn (l : Launch) (D : va_G) (ad : Nat → Nat) (cA : Nat → ClassId) {r0 : Nat} (t_r0 : zty r0 = 2) {a1 : Int32} {a2 : Int32} {a3 : Int32} {μ : zM} {r : Unit} {μ' : zM} (h : f_X2_letIn r0 a1 a2 a3 μ = some (r, μ')) : zMet true D ad cA l yX2_letIn cX2_letIn 4 none ({ frames := 0, cells := 0, slots := 0, locals := 0 } : Room) [.ref (ad r0), .int a1, .int a2, .int a3] μ (zQv true D ad cA r μ') := by
  refine zMet_of "ButlerWeather$House" ⟨by decide, rfl⟩ (Nat.le_of_ble_eq_true rfl) ?_
  intro p e s m args below meth c X G hr hlk ls hl
  have hl : lv_has ls 4 [(0, .ref (ad r0)), (1, .int a1), (2, .int a2), (3, .int a3)] := hl
  obtain ⟨hx, hb, hml, hown, hts, -, -, -⟩ := id X
  obtain ⟨Q, hQ⟩ : ∃ Q, Q = MQ below (zQv true D ad cA r μ') args s 0 0 (zA true ad) := ⟨_, rfl⟩
  rw [← hQ]
  unfold f_X2_letIn at h
  refine lv_aload_n hx hb dX2_letIn_0 rfl (lv_at hl 0 rfl) ?_
  refine zz_getr X G fr_2_11 t_r0 (rs_2_11 t_r0) kw_200 dX2_letIn_1 ?_
  refine lv_iload_n hx hb dX2_letIn_4 rfl (lv_at hl 1 rfl) ?_
  refine lv_iload_n hx hb dX2_letIn_5 rfl (lv_at hl 2 rfl) ?_
  refine zz_iast X G ia_10 (ft_2_11 t_r0) dX2_letIn_6 h (fun μ H locs G h => ?_)
  refine lv_aload_n hx hb dX2_letIn_7 rfl (lv_at hl 0 rfl) ?_
  refine zz_getr X G fr_2_13 t_r0 (rs_2_13 t_r0) kw_204 dX2_letIn_8 ?_
  refine lv_iload_n hx hb dX2_letIn_11 rfl (lv_at hl 1 rfl) ?_
  refine lv_iload_n hx hb dX2_letIn_12 rfl (lv_at hl 3 rfl) ?_
  refine zz_iast X G ia_10 (ft_2_13 t_r0) dX2_letIn_13 h (fun μ H locs G h => ?_)
  rw [hQ]
  exact zz_vret X G hr hlk dX2_letIn_14 h
set_option maxHeartbeats 4000000 in
set_option maxRecDepth 100000 in
theorem w_X2_receive_L5 {p : Program} {l : Launch} {e : Env} {s : State} {m : MethodId} {args : Array Value} {below : List Frame} {meth : Method} {c : Code} {Q : State → Prop} {D : va_G} {ad : Nat → Nat} {cA : Nat → ClassId} {r : Int32} {μ' : zM} (X : zX true D ad cA p s m args c cX2_receive "ButlerWeather$House" 5) (hQ : Q = MQ below (zQi true D ad cA r μ') args s 0 0 (zA true ad)) (hr : meth.sig.returnType = (some .int)) (hlk : meth.locks = false) {r0 : Nat} (t_r0 : zty r0 = 2) {v1 : Int32} {v2 : Int32} {kx : Int32 → zM → Option (Int32 × zM)} (HX : ∀ (w3 : Int32) (μ : zM) (H : Heap) (locs : List Loc) (ls : Array Slot), lv_has ls 5 [(3, .int w3)] → zG true D ad cA s μ H locs → kx w3 μ = some (r, μ') → W p l e ({ frames := 1, cells := 0, slots := 0, locals := 23 } : Room) s m args below meth c H locs 0 0 Q (F0 m 61 ls [])) : ∀ (n : Nat) (v3 : Int32) (v4 : Int32) (μ : zM) (H : Heap) (locs : List Loc) (ls : Array Slot), lv_has ls 5 [(0, .ref (ad r0)), (1, .int v1), (2, .int v2), (3, .int v3), (4, .int v4)] → zG true D ad cA s μ H locs → f_X2_receive_L5 r0 v1 v2 kx n v3 v4 μ = some (r, μ') → W p l e ({ frames := 1, cells := 0, slots := 0, locals := 23 } : Room) s m args below meth c H locs 0 0 Q (F0 m 5 ls []) := by
  obtain ⟨hx, hb, hml, hown, hts, -, -, -⟩ := id X
  intro n
  induction n with
  | zero =>
    intro v3 v4 μ H locs ls hl G h
    cases (show (none : Option (Int32 × zM)) = some (r, μ') from h)
  | succ n ih =>
    intro v3 v4 μ H locs ls hl G h
    rw [f_X2_receive_L5] at h
    refine lv_iload hx hb dX2_receive_5 (lv_at hl 4 rfl) ?_
    refine lv_aload_n hx hb dX2_receive_7 rfl (lv_at hl 0 rfl) ?_
    refine zz_geti X G fi_2_0 t_r0 kw_178 dX2_receive_8 h (fun x1 h => ?_)
    refine lv_icmp_ge (tgt := 61) hx hb dX2_receive_11 (by decide) (fun c2 => ?_) (fun c2 => ?_)
    · have h := (zz_br h).1 c2
      exact HX v3 μ _ _ _ (lv_sub hl [3] rfl) G h
    have h := (zz_br h).2 c2
    refine lv_iload_n hx hb dX2_receive_14 rfl (lv_at hl 1 rfl) ?_
    refine lv_if_eq (tgt := 61) hx hb dX2_receive_15 (by decide) (fun c3 => ?_) (fun c3 => ?_)
    · have h := (zz_br h).1 c3
      exact HX v3 μ _ _ _ (lv_sub hl [3] rfl) G h
    have h := (zz_br h).2 c3
    refine lv_iload_n hx hb dX2_receive_18 rfl (lv_at hl 1 rfl) ?_
    refine lv_iload hx hb dX2_receive_19 (lv_at hl 4 rfl) ?_
    refine lv_ishr hx hb dX2_receive_21 ?_
    refine lv_iconst (v := (1 : Int32)) hx hb dX2_receive_22 (by decide) ?_
    refine lv_iand hx hb dX2_receive_23 ?_
    refine lv_if_eq (tgt := 55) hx hb dX2_receive_24 (by decide) (fun c4 => ?_) (fun c4 => ?_)
    · have h := (zz_br h).1 c4
      obtain ⟨x5, ex5, h⟩ := zz_let h
      refine lv_iinc (v := x5) (lv' := [(4, .int x5), (0, .ref (ad r0)), (1, .int v1), (2, .int v2), (3, .int v3)]) hx hb dX2_receive_55 hl (k := 4) rfl (by rw [← ex5]; rfl) (by decide) rfl (fun ls hl => ?_)
      refine lv_goto (tgt := 5) hx hb dX2_receive_58 (by decide) ?_
      exact ih v3 x5 μ _ _ _ (lv_sub hl [1, 2, 3, 4, 0] rfl) G h
    have h := (zz_br h).2 c4
    refine lv_aload_n hx hb dX2_receive_27 rfl (lv_at hl 0 rfl) ?_
    refine zz_getr X G fr_2_1 t_r0 (rs_2_1 t_r0) kw_181 dX2_receive_28 ?_
    refine lv_iload hx hb dX2_receive_31 (lv_at hl 4 rfl) ?_
    refine zz_iald X G ia_10 (ft_2_1 t_r0) dX2_receive_33 h (fun x6 h => ?_)
    refine lv_iconst (v := (2 : Int32)) hx hb dX2_receive_34 (by decide) ?_
    refine lv_icmp_ne (tgt := 55) hx hb dX2_receive_35 (by decide) (fun c7 => ?_) (fun c7 => ?_)
    · have h := (zz_br h).1 c7
      obtain ⟨x8, ex8, h⟩ := zz_let h
      refine lv_iinc (v := x8) (lv' := [(4, .int x8), (0, .ref (ad r0)), (1, .int v1), (2, .int v2), (3, .int v3)]) hx hb dX2_receive_55 hl (k := 4) rfl (by rw [← ex8]; rfl) (by decide) rfl (fun ls hl => ?_)
      refine lv_goto (tgt := 5) hx hb dX2_receive_58 (by decide) ?_
      exact ih v3 x8 μ _ _ _ (lv_sub hl [1, 2, 3, 4, 0] rfl) G h
    have h := (zz_br h).2 (fun q => q c7)
    refine lv_aload_n hx hb dX2_receive_38 rfl (lv_at hl 0 rfl) ?_
    refine lv_iload hx hb dX2_receive_39 (lv_at hl 4 rfl) ?_
    refine lv_iload_n hx hb dX2_receive_41 rfl (lv_at hl 2 rfl) ?_
    refine lv_iconst (v := (2 : Int32)) hx hb dX2_receive_42 (by decide) ?_
    refine zz_cv (rest := []) G h (fun r μ1 hf => zz_runV X G rc_2 t_r0 cv_X2_letIn kw_382 (c_X2_letIn l D ad cA t_r0 hf) ⟨rfl, rfl, Nat.le_of_ble_eq_true rfl, Nat.le_of_ble_eq_true rfl⟩ rfl rfl hl.1 (Nat.le_of_ble_eq_true rfl) dX2_receive_43) (fun _ μ H locs G h => ?_)
    refine lv_iload_n hx hb dX2_receive_46 rfl (lv_at hl 3 rfl) ?_
    refine lv_iconst (v := (1 : Int32)) hx hb dX2_receive_47 (by decide) ?_
    refine lv_iload hx hb dX2_receive_48 (lv_at hl 4 rfl) ?_
    refine lv_ishl hx hb dX2_receive_50 ?_
    refine lv_iconst (v := (-1 : Int32)) hx hb dX2_receive_51 (by decide) ?_
    refine lv_ixor hx hb dX2_receive_52 ?_
    refine lv_iand hx hb dX2_receive_53 ?_
    refine zz_vi h (fun x9 h => ?_)
    refine lv_istore_n (lv' := [(3, .int x9), (0, .ref (ad r0)), (1, .int v1), (2, .int v2), (4, .int v4)]) hx hb dX2_receive_54 rfl hl (by decide) rfl (fun ls hl => ?_)
    obtain ⟨x10, ex10, h⟩ := zz_let h
    refine lv_iinc (v := x10) (lv' := [(4, .int x10), (3, .int x9), (0, .ref (ad r0)), (1, .int v1), (2, .int v2)]) hx hb dX2_receive_55 hl (k := 4) rfl (by rw [← ex10]; rfl) (by decide) rfl (fun ls hl => ?_)
    refine lv_goto (tgt := 5) hx hb dX2_receive_58 (by decide) ?_
    exact ih x9 x10 μ _ _ _ (lv_sub hl [2, 3, 4, 1, 0] rfl) G h
set_option maxHeartbeats 4000000 in
set_option maxRecDepth 100000 in
theorem c_X2_receive (l : Launch) (D : va_G) (ad : Nat → Nat) (cA : Nat → ClassId) {r0 : Nat} (t_r0 : zty r0 = 2) {a1 : Int32} {a2 : Int32} {μ : zM} {r : Int32} {μ' : zM} (h : f_X2_receive r0 a1 a2 μ = some (r, μ')) : zMet true D ad cA l yX2_receive cX2_receive 5 (some .int) ({ frames := 1, cells := 0, slots := 0, locals := 23 } : Room) [.ref (ad r0), .int a1, .int a2] μ (zQi true D ad cA r μ') := by
  refine zMet_of "ButlerWeather$House" ⟨by decide, rfl⟩ (Nat.le_of_ble_eq_true rfl) ?_
  intro p e s m args below meth c X G hr hlk ls hl
  have hl : lv_has ls 5 [(0, .ref (ad r0)), (1, .int a1), (2, .int a2)] := hl
  obtain ⟨hx, hb, hml, hown, hts, -, -, -⟩ := id X
  obtain ⟨Q, hQ⟩ : ∃ Q, Q = MQ below (zQi true D ad cA r μ') args s 0 0 (zA true ad) := ⟨_, rfl⟩
  rw [← hQ]
  unfold f_X2_receive at h
  refine lv_iload_n hx hb dX2_receive_0 rfl (lv_at hl 1 rfl) ?_
  refine lv_istore_n (lv' := [(3, .int a1), (0, .ref (ad r0)), (1, .int a1), (2, .int a2)]) hx hb dX2_receive_1 rfl hl (by decide) rfl (fun ls hl => ?_)
  refine lv_iconst (v := (0 : Int32)) hx hb dX2_receive_2 (by decide) ?_
  refine lv_istore (lv' := [(4, .int (0 : Int32)), (3, .int a1), (0, .ref (ad r0)), (1, .int a1), (2, .int a2)]) hx hb dX2_receive_3 hl (by decide) rfl (fun ls hl => ?_)
  refine w_X2_receive_L5 X hQ hr hlk t_r0 (fun x11 μ H locs ls hl G h => ?_) 400 a1 (0 : Int32) μ _ _ _ (lv_sub hl [2, 3, 4, 1, 0] rfl) G h
  refine lv_iload_n hx hb dX2_receive_61 rfl (lv_at hl 0 rfl) ?_
  rw [hQ]
  exact zz_iret X G hr hlk dX2_receive_62 h
set_option maxHeartbeats 4000000 in
set_option maxRecDepth 100000 in
theorem w_X2_manAt_L2 {p : Program} {l : Launch} {e : Env} {s : State} {m : MethodId} {args : Array Value} {below : List Frame} {meth : Method} {c : Code} {Q : State → Prop} {D : va_G} {ad : Nat → Nat} {cA : Nat → ClassId} {r : Int32} {μ' : zM} (X : zX true D ad cA p s m args c cX2_manAt "ButlerWeather$House" 3) (hQ : Q = MQ below (zQi true D ad cA r μ') args s 0 0 (zA true ad)) (hr : meth.sig.returnType = (some .int)) (hlk : meth.locks = false) {r0 : Nat} (t_r0 : zty r0 = 2) {v1 : Int32} {kx : zM → Option (Int32 × zM)} (HX : ∀ (μ : zM) (H : Heap) (locs : List Loc) (ls : Array Slot), lv_has ls 3 [] → zG true D ad cA s μ H locs → kx  μ = some (r, μ') → W p l e ({ frames := 0, cells := 0, slots := 0, locals := 0 } : Room) s m args below meth c H locs 0 0 Q (F0 m 38 ls [])) : ∀ (n : Nat) (v2 : Int32) (μ : zM) (H : Heap) (locs : List Loc) (ls : Array Slot), lv_has ls 3 [(0, .ref (ad r0)), (1, .int v1), (2, .int v2)] → zG true D ad cA s μ H locs → f_X2_manAt_L2 r0 v1 kx n v2 μ = some (r, μ') → W p l e ({ frames := 0, cells := 0, slots := 0, locals := 0 } : Room) s m args below meth c H locs 0 0 Q (F0 m 2 ls []) := by
  obtain ⟨hx, hb, hml, hown, hts, -, -, -⟩ := id X
  intro n
  induction n with
  | zero =>
    intro v2 μ H locs ls hl G h
    cases (show (none : Option (Int32 × zM)) = some (r, μ') from h)
  | succ n ih =>
    intro v2 μ H locs ls hl G h
    rw [f_X2_manAt_L2] at h
    refine lv_iload_n hx hb dX2_manAt_2 rfl (lv_at hl 2 rfl) ?_
    refine lv_aload_n hx hb dX2_manAt_3 rfl (lv_at hl 0 rfl) ?_
    refine zz_geti X G fi_2_6 t_r0 kw_191 dX2_manAt_4 h (fun x1 h => ?_)
    refine lv_icmp_ge (tgt := 38) hx hb dX2_manAt_7 (by decide) (fun c2 => ?_) (fun c2 => ?_)
    · have h := (zz_br h).1 c2
      exact HX  μ _ _ _ (lv_sub hl [] rfl) G h
    have h := (zz_br h).2 c2
    refine lv_aload_n hx hb dX2_manAt_10 rfl (lv_at hl 0 rfl) ?_
    refine zz_getr X G fr_2_8 t_r0 (rs_2_8 t_r0) kw_195 dX2_manAt_11 ?_
    refine lv_iload_n hx hb dX2_manAt_14 rfl (lv_at hl 2 rfl) ?_
    refine zz_iald X G ia_10 (ft_2_8 t_r0) dX2_manAt_15 h (fun x3 h => ?_)
    refine lv_iload_n hx hb dX2_manAt_16 rfl (lv_at hl 1 rfl) ?_
    refine lv_icmp_gt (tgt := 32) hx hb dX2_manAt_17 (by decide) (fun c4 => ?_) (fun c4 => ?_)
    · have h := (zz_br h).1 c4
      obtain ⟨x5, ex5, h⟩ := zz_let h
      refine lv_iinc (v := x5) (lv' := [(2, .int x5), (0, .ref (ad r0)), (1, .int v1)]) hx hb dX2_manAt_32 hl (k := 2) rfl (by rw [← ex5]; rfl) (by decide) rfl (fun ls hl => ?_)
      refine lv_goto (tgt := 2) hx hb dX2_manAt_35 (by decide) ?_
      exact ih x5 μ _ _ _ (lv_sub hl [1, 2, 0] rfl) G h
    have h := (zz_br h).2 c4
    refine lv_iload_n hx hb dX2_manAt_20 rfl (lv_at hl 1 rfl) ?_
    refine lv_aload_n hx hb dX2_manAt_21 rfl (lv_at hl 0 rfl) ?_
    refine zz_getr X G fr_2_9 t_r0 (rs_2_9 t_r0) kw_197 dX2_manAt_22 ?_
    refine lv_iload_n hx hb dX2_manAt_25 rfl (lv_at hl 2 rfl) ?_
    refine zz_iald X G ia_10 (ft_2_9 t_r0) dX2_manAt_26 h (fun x6 h => ?_)
    refine lv_icmp_gt (tgt := 32) hx hb dX2_manAt_27 (by decide) (fun c7 => ?_) (fun c7 => ?_)
    · have h := (zz_br h).1 c7
      obtain ⟨x8, ex8, h⟩ := zz_let h
      refine lv_iinc (v := x8) (lv' := [(2, .int x8), (0, .ref (ad r0)), (1, .int v1)]) hx hb dX2_manAt_32 hl (k := 2) rfl (by rw [← ex8]; rfl) (by decide) rfl (fun ls hl => ?_)
      refine lv_goto (tgt := 2) hx hb dX2_manAt_35 (by decide) ?_
      exact ih x8 μ _ _ _ (lv_sub hl [1, 2, 0] rfl) G h
    have h := (zz_br h).2 c7
    refine lv_iload_n hx hb dX2_manAt_30 rfl (lv_at hl 2 rfl) ?_
    rw [hQ]
    exact zz_iret X G hr hlk dX2_manAt_31 h
set_option maxHeartbeats 4000000 in
set_option maxRecDepth 100000 in
theorem c_X2_manAt (l : Launch) (D : va_G) (ad : Nat → Nat) (cA : Nat → ClassId) {r0 : Nat} (t_r0 : zty r0 = 2) {a1 : Int32} {μ : zM} {r : Int32} {μ' : zM} (h : f_X2_manAt r0 a1 μ = some (r, μ')) : zMet true D ad cA l yX2_manAt cX2_manAt 3 (some .int) ({ frames := 0, cells := 0, slots := 0, locals := 0 } : Room) [.ref (ad r0), .int a1] μ (zQi true D ad cA r μ') := by
  refine zMet_of "ButlerWeather$House" ⟨by decide, rfl⟩ (Nat.le_of_ble_eq_true rfl) ?_
  intro p e s m args below meth c X G hr hlk ls hl
  have hl : lv_has ls 3 [(0, .ref (ad r0)), (1, .int a1)] := hl
  obtain ⟨hx, hb, hml, hown, hts, -, -, -⟩ := id X
  obtain ⟨Q, hQ⟩ : ∃ Q, Q = MQ below (zQi true D ad cA r μ') args s 0 0 (zA true ad) := ⟨_, rfl⟩
  rw [← hQ]
  unfold f_X2_manAt at h
  refine lv_iconst (v := (0 : Int32)) hx hb dX2_manAt_0 (by decide) ?_
  refine lv_istore_n (lv' := [(2, .int (0 : Int32)), (0, .ref (ad r0)), (1, .int a1)]) hx hb dX2_manAt_1 rfl hl (by decide) rfl (fun ls hl => ?_)
  refine w_X2_manAt_L2 X hQ hr hlk t_r0 (fun  μ H locs ls hl G h => ?_) 400 (0 : Int32) μ _ _ _ (lv_sub hl [1, 2, 0] rfl) G h
  refine lv_iconst (v := (-1 : Int32)) hx hb dX2_manAt_38 (by decide) ?_
  rw [hQ]
  exact zz_iret X G hr hlk dX2_manAt_39 h
set_option maxHeartbeats 4000000 in
set_option maxRecDepth 100000 in
theorem w_X2_longestInvited_L5 {p : Program} {l : Launch} {e : Env} {s : State} {m : MethodId} {args : Array Value} {below : List Frame} {meth : Method} {c : Code} {Q : State → Prop} {D : va_G} {ad : Nat → Nat} {cA : Nat → ClassId} {r : Int32} {μ' : zM} (X : zX true D ad cA p s m args c cX2_longestInvited "ButlerWeather$House" 5) (hQ : Q = MQ below (zQi true D ad cA r μ') args s 0 0 (zA true ad)) (hr : meth.sig.returnType = (some .int)) (hlk : meth.locks = false) {r0 : Nat} (t_r0 : zty r0 = 2) {v1 : Int32} {v2 : Int32} {kx : Int32 → zM → Option (Int32 × zM)} (HX : ∀ (w3 : Int32) (μ : zM) (H : Heap) (locs : List Loc) (ls : Array Slot), lv_has ls 5 [(3, .int w3)] → zG true D ad cA s μ H locs → kx w3 μ = some (r, μ') → W p l e ({ frames := 0, cells := 0, slots := 0, locals := 0 } : Room) s m args below meth c H locs 0 0 Q (F0 m 64 ls [])) : ∀ (n : Nat) (v3 : Int32) (v4 : Int32) (μ : zM) (H : Heap) (locs : List Loc) (ls : Array Slot), lv_has ls 5 [(0, .ref (ad r0)), (1, .int v1), (2, .int v2), (3, .int v3), (4, .int v4)] → zG true D ad cA s μ H locs → f_X2_longestInvited_L5 r0 v1 v2 kx n v3 v4 μ = some (r, μ') → W p l e ({ frames := 0, cells := 0, slots := 0, locals := 0 } : Room) s m args below meth c H locs 0 0 Q (F0 m 5 ls []) := by
  obtain ⟨hx, hb, hml, hown, hts, -, -, -⟩ := id X
  intro n
  induction n with
  | zero =>
    intro v3 v4 μ H locs ls hl G h
    cases (show (none : Option (Int32 × zM)) = some (r, μ') from h)
  | succ n ih =>
    intro v3 v4 μ H locs ls hl G h
    rw [f_X2_longestInvited_L5] at h
    refine lv_iload hx hb dX2_longestInvited_5 (lv_at hl 4 rfl) ?_
    refine lv_aload_n hx hb dX2_longestInvited_7 rfl (lv_at hl 0 rfl) ?_
    refine zz_geti X G fi_2_0 t_r0 kw_178 dX2_longestInvited_8 h (fun x1 h => ?_)
    refine lv_icmp_ge (tgt := 64) hx hb dX2_longestInvited_11 (by decide) (fun c2 => ?_) (fun c2 => ?_)
    · have h := (zz_br h).1 c2
      exact HX v3 μ _ _ _ (lv_sub hl [3] rfl) G h
    have h := (zz_br h).2 c2
    refine lv_iload_n hx hb dX2_longestInvited_14 rfl (lv_at hl 1 rfl) ?_
    refine lv_iload hx hb dX2_longestInvited_15 (lv_at hl 4 rfl) ?_
    refine lv_ishr hx hb dX2_longestInvited_17 ?_
    refine lv_iconst (v := (1 : Int32)) hx hb dX2_longestInvited_18 (by decide) ?_
    refine lv_iand hx hb dX2_longestInvited_19 ?_
    refine lv_if_eq (tgt := 58) hx hb dX2_longestInvited_20 (by decide) (fun c3 => ?_) (fun c3 => ?_)
    · have h := (zz_br h).1 c3
      obtain ⟨x4, ex4, h⟩ := zz_let h
      refine lv_iinc (v := x4) (lv' := [(4, .int x4), (0, .ref (ad r0)), (1, .int v1), (2, .int v2), (3, .int v3)]) hx hb dX2_longestInvited_58 hl (k := 4) rfl (by rw [← ex4]; rfl) (by decide) rfl (fun ls hl => ?_)
      refine lv_goto (tgt := 5) hx hb dX2_longestInvited_61 (by decide) ?_
      exact ih v3 x4 μ _ _ _ (lv_sub hl [1, 2, 3, 4, 0] rfl) G h
    have h := (zz_br h).2 c3
    refine lv_aload_n hx hb dX2_longestInvited_23 rfl (lv_at hl 0 rfl) ?_
    refine zz_getr X G fr_2_5 t_r0 (rs_2_5 t_r0) kw_190 dX2_longestInvited_24 ?_
    refine lv_iload hx hb dX2_longestInvited_27 (lv_at hl 4 rfl) ?_
    refine zz_iald X G ia_10 (ft_2_5 t_r0) dX2_longestInvited_29 h (fun x5 h => ?_)
    refine lv_iload_n hx hb dX2_longestInvited_30 rfl (lv_at hl 2 rfl) ?_
    refine lv_icmp_gt (tgt := 58) hx hb dX2_longestInvited_31 (by decide) (fun c6 => ?_) (fun c6 => ?_)
    · have h := (zz_br h).1 c6
      obtain ⟨x7, ex7, h⟩ := zz_let h
      refine lv_iinc (v := x7) (lv' := [(4, .int x7), (0, .ref (ad r0)), (1, .int v1), (2, .int v2), (3, .int v3)]) hx hb dX2_longestInvited_58 hl (k := 4) rfl (by rw [← ex7]; rfl) (by decide) rfl (fun ls hl => ?_)
      refine lv_goto (tgt := 5) hx hb dX2_longestInvited_61 (by decide) ?_
      exact ih v3 x7 μ _ _ _ (lv_sub hl [1, 2, 3, 4, 0] rfl) G h
    have h := (zz_br h).2 c6
    refine lv_iload_n hx hb dX2_longestInvited_34 rfl (lv_at hl 3 rfl) ?_
    refine lv_iconst (v := (-1 : Int32)) hx hb dX2_longestInvited_35 (by decide) ?_
    refine lv_icmp_eq (tgt := 55) hx hb dX2_longestInvited_36 (by decide) (fun c8 => ?_) (fun c8 => ?_)
    · have h := (zz_br h).1 c8
      refine lv_iload hx hb dX2_longestInvited_55 (lv_at hl 4 rfl) ?_
      refine lv_istore_n (lv' := [(3, .int v4), (0, .ref (ad r0)), (1, .int v1), (2, .int v2), (4, .int v4)]) hx hb dX2_longestInvited_57 rfl hl (by decide) rfl (fun ls hl => ?_)
      obtain ⟨x9, ex9, h⟩ := zz_let h
      refine lv_iinc (v := x9) (lv' := [(4, .int x9), (3, .int v4), (0, .ref (ad r0)), (1, .int v1), (2, .int v2)]) hx hb dX2_longestInvited_58 hl (k := 4) rfl (by rw [← ex9]; rfl) (by decide) rfl (fun ls hl => ?_)
      refine lv_goto (tgt := 5) hx hb dX2_longestInvited_61 (by decide) ?_
      exact ih v4 x9 μ _ _ _ (lv_sub hl [2, 3, 4, 1, 0] rfl) G h
    have h := (zz_br h).2 c8
    refine lv_aload_n hx hb dX2_longestInvited_39 rfl (lv_at hl 0 rfl) ?_
    refine zz_getr X G fr_2_3 t_r0 (rs_2_3 t_r0) kw_186 dX2_longestInvited_40 ?_
    refine lv_iload hx hb dX2_longestInvited_43 (lv_at hl 4 rfl) ?_
    refine zz_iald X G ia_10 (ft_2_3 t_r0) dX2_longestInvited_45 h (fun x10 h => ?_)
    refine lv_aload_n hx hb dX2_longestInvited_46 rfl (lv_at hl 0 rfl) ?_
    refine zz_getr X G fr_2_3 t_r0 (rs_2_3 t_r0) kw_186 dX2_longestInvited_47 ?_
    refine lv_iload_n hx hb dX2_longestInvited_50 rfl (lv_at hl 3 rfl) ?_
    refine zz_iald X G ia_10 (ft_2_3 t_r0) dX2_longestInvited_51 h (fun x11 h => ?_)
    refine lv_icmp_ge (tgt := 58) hx hb dX2_longestInvited_52 (by decide) (fun c12 => ?_) (fun c12 => ?_)
    · have h := (zz_br h).1 c12
      obtain ⟨x13, ex13, h⟩ := zz_let h
      refine lv_iinc (v := x13) (lv' := [(4, .int x13), (0, .ref (ad r0)), (1, .int v1), (2, .int v2), (3, .int v3)]) hx hb dX2_longestInvited_58 hl (k := 4) rfl (by rw [← ex13]; rfl) (by decide) rfl (fun ls hl => ?_)
      refine lv_goto (tgt := 5) hx hb dX2_longestInvited_61 (by decide) ?_
      exact ih v3 x13 μ _ _ _ (lv_sub hl [1, 2, 3, 4, 0] rfl) G h
    have h := (zz_br h).2 c12
    refine lv_iload hx hb dX2_longestInvited_55 (lv_at hl 4 rfl) ?_
    refine lv_istore_n (lv' := [(3, .int v4), (0, .ref (ad r0)), (1, .int v1), (2, .int v2), (4, .int v4)]) hx hb dX2_longestInvited_57 rfl hl (by decide) rfl (fun ls hl => ?_)
    obtain ⟨x14, ex14, h⟩ := zz_let h
    refine lv_iinc (v := x14) (lv' := [(4, .int x14), (3, .int v4), (0, .ref (ad r0)), (1, .int v1), (2, .int v2)]) hx hb dX2_longestInvited_58 hl (k := 4) rfl (by rw [← ex14]; rfl) (by decide) rfl (fun ls hl => ?_)
    refine lv_goto (tgt := 5) hx hb dX2_longestInvited_61 (by decide) ?_
    exact ih v4 x14 μ _ _ _ (lv_sub hl [2, 3, 4, 1, 0] rfl) G h
set_option maxHeartbeats 4000000 in
set_option maxRecDepth 100000 in
theorem c_X2_longestInvited (l : Launch) (D : va_G) (ad : Nat → Nat) (cA : Nat → ClassId) {r0 : Nat} (t_r0 : zty r0 = 2) {a1 : Int32} {a2 : Int32} {μ : zM} {r : Int32} {μ' : zM} (h : f_X2_longestInvited r0 a1 a2 μ = some (r, μ')) : zMet true D ad cA l yX2_longestInvited cX2_longestInvited 5 (some .int) ({ frames := 0, cells := 0, slots := 0, locals := 0 } : Room) [.ref (ad r0), .int a1, .int a2] μ (zQi true D ad cA r μ') := by
  refine zMet_of "ButlerWeather$House" ⟨by decide, rfl⟩ (Nat.le_of_ble_eq_true rfl) ?_
  intro p e s m args below meth c X G hr hlk ls hl
  have hl : lv_has ls 5 [(0, .ref (ad r0)), (1, .int a1), (2, .int a2)] := hl
  obtain ⟨hx, hb, hml, hown, hts, -, -, -⟩ := id X
  obtain ⟨Q, hQ⟩ : ∃ Q, Q = MQ below (zQi true D ad cA r μ') args s 0 0 (zA true ad) := ⟨_, rfl⟩
  rw [← hQ]
  unfold f_X2_longestInvited at h
  refine lv_iconst (v := (-1 : Int32)) hx hb dX2_longestInvited_0 (by decide) ?_
  refine lv_istore_n (lv' := [(3, .int (-1 : Int32)), (0, .ref (ad r0)), (1, .int a1), (2, .int a2)]) hx hb dX2_longestInvited_1 rfl hl (by decide) rfl (fun ls hl => ?_)
  refine lv_iconst (v := (0 : Int32)) hx hb dX2_longestInvited_2 (by decide) ?_
  refine lv_istore (lv' := [(4, .int (0 : Int32)), (3, .int (-1 : Int32)), (0, .ref (ad r0)), (1, .int a1), (2, .int a2)]) hx hb dX2_longestInvited_3 hl (by decide) rfl (fun ls hl => ?_)
  refine w_X2_longestInvited_L5 X hQ hr hlk t_r0 (fun x15 μ H locs ls hl G h => ?_) 400 (-1 : Int32) (0 : Int32) μ _ _ _ (lv_sub hl [2, 3, 4, 1, 0] rfl) G h
  refine lv_iload_n hx hb dX2_longestInvited_64 rfl (lv_at hl 0 rfl) ?_
  rw [hQ]
  exact zz_iret X G hr hlk dX2_longestInvited_65 h
set_option maxHeartbeats 4000000 in
set_option maxRecDepth 100000 in
theorem w_X2_sendSunshines_L5 {p : Program} {l : Launch} {e : Env} {s : State} {m : MethodId} {args : Array Value} {below : List Frame} {meth : Method} {c : Code} {Q : State → Prop} {D : va_G} {ad : Nat → Nat} {cA : Nat → ClassId} {r : Int32} {μ' : zM} (X : zX true D ad cA p s m args c cX2_sendSunshines "ButlerWeather$House" 5) (hQ : Q = MQ below (zQi true D ad cA r μ') args s 0 0 (zA true ad)) (hr : meth.sig.returnType = (some .int)) (hlk : meth.locks = false) {r0 : Nat} (t_r0 : zty r0 = 2) {v1 : Int32} {v2 : Int32} {kx : Int32 → zM → Option (Int32 × zM)} (HX : ∀ (w3 : Int32) (μ : zM) (H : Heap) (locs : List Loc) (ls : Array Slot), lv_has ls 5 [(3, .int w3)] → zG true D ad cA s μ H locs → kx w3 μ = some (r, μ') → W p l e ({ frames := 0, cells := 0, slots := 0, locals := 0 } : Room) s m args below meth c H locs 0 0 Q (F0 m 57 ls [])) : ∀ (n : Nat) (v3 : Int32) (v4 : Int32) (μ : zM) (H : Heap) (locs : List Loc) (ls : Array Slot), lv_has ls 5 [(0, .ref (ad r0)), (1, .int v1), (2, .int v2), (3, .int v3), (4, .int v4)] → zG true D ad cA s μ H locs → f_X2_sendSunshines_L5 r0 v1 v2 kx n v3 v4 μ = some (r, μ') → W p l e ({ frames := 0, cells := 0, slots := 0, locals := 0 } : Room) s m args below meth c H locs 0 0 Q (F0 m 5 ls []) := by
  obtain ⟨hx, hb, hml, hown, hts, -, -, -⟩ := id X
  intro n
  induction n with
  | zero =>
    intro v3 v4 μ H locs ls hl G h
    cases (show (none : Option (Int32 × zM)) = some (r, μ') from h)
  | succ n ih =>
    intro v3 v4 μ H locs ls hl G h
    rw [f_X2_sendSunshines_L5] at h
    refine lv_iload hx hb dX2_sendSunshines_5 (lv_at hl 4 rfl) ?_
    refine lv_aload_n hx hb dX2_sendSunshines_7 rfl (lv_at hl 0 rfl) ?_
    refine zz_geti X G fi_2_0 t_r0 kw_178 dX2_sendSunshines_8 h (fun x1 h => ?_)
    refine lv_icmp_ge (tgt := 57) hx hb dX2_sendSunshines_11 (by decide) (fun c2 => ?_) (fun c2 => ?_)
    · have h := (zz_br h).1 c2
      exact HX v3 μ _ _ _ (lv_sub hl [3] rfl) G h
    have h := (zz_br h).2 c2
    refine lv_iload_n hx hb dX2_sendSunshines_14 rfl (lv_at hl 1 rfl) ?_
    refine lv_iload hx hb dX2_sendSunshines_15 (lv_at hl 4 rfl) ?_
    refine lv_ishr hx hb dX2_sendSunshines_17 ?_
    refine lv_iconst (v := (1 : Int32)) hx hb dX2_sendSunshines_18 (by decide) ?_
    refine lv_iand hx hb dX2_sendSunshines_19 ?_
    refine lv_if_eq (tgt := 51) hx hb dX2_sendSunshines_20 (by decide) (fun c3 => ?_) (fun c3 => ?_)
    · have h := (zz_br h).1 c3
      obtain ⟨x4, ex4, h⟩ := zz_let h
      refine lv_iinc (v := x4) (lv' := [(4, .int x4), (0, .ref (ad r0)), (1, .int v1), (2, .int v2), (3, .int v3)]) hx hb dX2_sendSunshines_51 hl (k := 4) rfl (by rw [← ex4]; rfl) (by decide) rfl (fun ls hl => ?_)
      refine lv_goto (tgt := 5) hx hb dX2_sendSunshines_54 (by decide) ?_
      exact ih v3 x4 μ _ _ _ (lv_sub hl [1, 2, 3, 4, 0] rfl) G h
    have h := (zz_br h).2 c3
    refine lv_aload_n hx hb dX2_sendSunshines_23 rfl (lv_at hl 0 rfl) ?_
    refine zz_getr X G fr_2_1 t_r0 (rs_2_1 t_r0) kw_181 dX2_sendSunshines_24 ?_
    refine lv_iload hx hb dX2_sendSunshines_27 (lv_at hl 4 rfl) ?_
    refine zz_iald X G ia_10 (ft_2_1 t_r0) dX2_sendSunshines_29 h (fun x5 h => ?_)
    refine lv_iconst (v := (3 : Int32)) hx hb dX2_sendSunshines_30 (by decide) ?_
    refine lv_icmp_ne (tgt := 51) hx hb dX2_sendSunshines_31 (by decide) (fun c6 => ?_) (fun c6 => ?_)
    · have h := (zz_br h).1 c6
      obtain ⟨x7, ex7, h⟩ := zz_let h
      refine lv_iinc (v := x7) (lv' := [(4, .int x7), (0, .ref (ad r0)), (1, .int v1), (2, .int v2), (3, .int v3)]) hx hb dX2_sendSunshines_51 hl (k := 4) rfl (by rw [← ex7]; rfl) (by decide) rfl (fun ls hl => ?_)
      refine lv_goto (tgt := 5) hx hb dX2_sendSunshines_54 (by decide) ?_
      exact ih v3 x7 μ _ _ _ (lv_sub hl [1, 2, 3, 4, 0] rfl) G h
    have h := (zz_br h).2 (fun q => q c6)
    refine lv_aload_n hx hb dX2_sendSunshines_34 rfl (lv_at hl 0 rfl) ?_
    refine zz_getr X G fr_2_12 t_r0 (rs_2_12 t_r0) kw_203 dX2_sendSunshines_35 ?_
    refine lv_iload hx hb dX2_sendSunshines_38 (lv_at hl 4 rfl) ?_
    refine lv_iload_n hx hb dX2_sendSunshines_40 rfl (lv_at hl 2 rfl) ?_
    refine zz_iast X G ia_10 (ft_2_12 t_r0) dX2_sendSunshines_41 h (fun μ H locs G h => ?_)
    refine lv_iload_n hx hb dX2_sendSunshines_42 rfl (lv_at hl 3 rfl) ?_
    refine lv_iconst (v := (1 : Int32)) hx hb dX2_sendSunshines_43 (by decide) ?_
    refine lv_iload hx hb dX2_sendSunshines_44 (lv_at hl 4 rfl) ?_
    refine lv_ishl hx hb dX2_sendSunshines_46 ?_
    refine lv_iconst (v := (-1 : Int32)) hx hb dX2_sendSunshines_47 (by decide) ?_
    refine lv_ixor hx hb dX2_sendSunshines_48 ?_
    refine lv_iand hx hb dX2_sendSunshines_49 ?_
    refine zz_vi h (fun x8 h => ?_)
    refine lv_istore_n (lv' := [(3, .int x8), (0, .ref (ad r0)), (1, .int v1), (2, .int v2), (4, .int v4)]) hx hb dX2_sendSunshines_50 rfl hl (by decide) rfl (fun ls hl => ?_)
    obtain ⟨x9, ex9, h⟩ := zz_let h
    refine lv_iinc (v := x9) (lv' := [(4, .int x9), (3, .int x8), (0, .ref (ad r0)), (1, .int v1), (2, .int v2)]) hx hb dX2_sendSunshines_51 hl (k := 4) rfl (by rw [← ex9]; rfl) (by decide) rfl (fun ls hl => ?_)
    refine lv_goto (tgt := 5) hx hb dX2_sendSunshines_54 (by decide) ?_
    exact ih x8 x9 μ _ _ _ (lv_sub hl [2, 3, 4, 1, 0] rfl) G h
set_option maxHeartbeats 4000000 in
set_option maxRecDepth 100000 in
theorem c_X2_sendSunshines (l : Launch) (D : va_G) (ad : Nat → Nat) (cA : Nat → ClassId) {r0 : Nat} (t_r0 : zty r0 = 2) {a1 : Int32} {a2 : Int32} {μ : zM} {r : Int32} {μ' : zM} (h : f_X2_sendSunshines r0 a1 a2 μ = some (r, μ')) : zMet true D ad cA l yX2_sendSunshines cX2_sendSunshines 5 (some .int) ({ frames := 0, cells := 0, slots := 0, locals := 0 } : Room) [.ref (ad r0), .int a1, .int a2] μ (zQi true D ad cA r μ') := by
  refine zMet_of "ButlerWeather$House" ⟨by decide, rfl⟩ (Nat.le_of_ble_eq_true rfl) ?_
  intro p e s m args below meth c X G hr hlk ls hl
  have hl : lv_has ls 5 [(0, .ref (ad r0)), (1, .int a1), (2, .int a2)] := hl
  obtain ⟨hx, hb, hml, hown, hts, -, -, -⟩ := id X
  obtain ⟨Q, hQ⟩ : ∃ Q, Q = MQ below (zQi true D ad cA r μ') args s 0 0 (zA true ad) := ⟨_, rfl⟩
  rw [← hQ]
  unfold f_X2_sendSunshines at h
  refine lv_iload_n hx hb dX2_sendSunshines_0 rfl (lv_at hl 1 rfl) ?_
  refine lv_istore_n (lv' := [(3, .int a1), (0, .ref (ad r0)), (1, .int a1), (2, .int a2)]) hx hb dX2_sendSunshines_1 rfl hl (by decide) rfl (fun ls hl => ?_)
  refine lv_iconst (v := (0 : Int32)) hx hb dX2_sendSunshines_2 (by decide) ?_
  refine lv_istore (lv' := [(4, .int (0 : Int32)), (3, .int a1), (0, .ref (ad r0)), (1, .int a1), (2, .int a2)]) hx hb dX2_sendSunshines_3 hl (by decide) rfl (fun ls hl => ?_)
  refine w_X2_sendSunshines_L5 X hQ hr hlk t_r0 (fun x10 μ H locs ls hl G h => ?_) 400 a1 (0 : Int32) μ _ _ _ (lv_sub hl [2, 3, 4, 1, 0] rfl) G h
  refine lv_iload_n hx hb dX2_sendSunshines_57 rfl (lv_at hl 0 rfl) ?_
  rw [hQ]
  exact zz_iret X G hr hlk dX2_sendSunshines_58 h
set_option maxHeartbeats 4000000 in
set_option maxRecDepth 100000 in
theorem c_X2_openDoor (l : Launch) (D : va_G) (ad : Nat → Nat) (cA : Nat → ClassId) {r0 : Nat} (t_r0 : zty r0 = 2) {a1 : Int32} {a2 : Int32} {μ : zM} {r : Int32} {μ' : zM} (h : f_X2_openDoor r0 a1 a2 μ = some (r, μ')) : zMet true D ad cA l yX2_openDoor cX2_openDoor 7 (some .int) ({ frames := 1, cells := 0, slots := 0, locals := 24 } : Room) [.ref (ad r0), .int a1, .int a2] μ (zQi true D ad cA r μ') := by
  refine zMet_of "ButlerWeather$House" ⟨by decide, rfl⟩ (Nat.le_of_ble_eq_true rfl) ?_
  intro p e s m args below meth c X G hr hlk ls hl
  have hl : lv_has ls 7 [(0, .ref (ad r0)), (1, .int a1), (2, .int a2)] := hl
  obtain ⟨hx, hb, hml, hown, hts, -, -, -⟩ := id X
  obtain ⟨Q, hQ⟩ : ∃ Q, Q = MQ below (zQi true D ad cA r μ') args s 0 0 (zA true ad) := ⟨_, rfl⟩
  rw [← hQ]
  unfold f_X2_openDoor at h
  refine lv_aload_n hx hb dX2_openDoor_0 rfl (lv_at hl 0 rfl) ?_
  refine lv_iload_n hx hb dX2_openDoor_1 rfl (lv_at hl 2 rfl) ?_
  refine zz_ci (rest := []) G h (fun r μ1 hf => zz_runV X G rc_2 t_r0 cv_X2_manAt kw_390 (c_X2_manAt l D ad cA t_r0 hf) ⟨rfl, rfl, Nat.le_of_ble_eq_true rfl, Nat.le_of_ble_eq_true rfl⟩ rfl rfl hl.1 (Nat.le_of_ble_eq_true rfl) dX2_openDoor_2) (fun x1 μ H locs G h => ?_)
  refine lv_istore_n (lv' := [(3, .int x1), (0, .ref (ad r0)), (1, .int a1), (2, .int a2)]) hx hb dX2_openDoor_5 rfl hl (by decide) rfl (fun ls hl => ?_)
  refine lv_iload_n hx hb dX2_openDoor_6 rfl (lv_at hl 0 rfl) ?_
  refine lv_iconst (v := (-1 : Int32)) hx hb dX2_openDoor_7 (by decide) ?_
  refine lv_icmp_ne (tgt := 13) hx hb dX2_openDoor_8 (by decide) (fun c2 => ?_) (fun c2 => ?_)
  · have h := (zz_br h).1 c2
    refine lv_aload_n hx hb dX2_openDoor_13 rfl (lv_at hl 1 rfl) ?_
    refine zz_getr X G fr_2_7 t_r0 (rs_2_7 t_r0) kw_193 dX2_openDoor_14 ?_
    refine lv_iload_n hx hb dX2_openDoor_17 rfl (lv_at hl 0 rfl) ?_
    refine zz_iald X G ia_10 (ft_2_7 t_r0) dX2_openDoor_18 h (fun x3 h => ?_)
    refine Exists.elim (zz_jn (P := fun (j : Int32 → zM → Option (Int32 × zM)) => ∀ (y4 : Int32) (μ : zM) (H : Heap) (locs : List Loc) (ls : Array Slot), lv_has ls 7 [(0, .ref (ad r0)), (1, .int a1), (2, .int a2)] → zG true D ad cA s μ H locs → j y4 μ = some (r, μ') → W p l e ({ frames := 1, cells := 0, slots := 0, locals := 24 } : Room) s m args below meth c H locs 0 0 Q (F0 m 27 ls [.int y4])) h ?_) (fun j27_1 hj => ?_)
    · intro y4 μ H locs ls hl G h
      refine lv_istore (lv' := [(4, .int y4), (0, .ref (ad r0)), (1, .int a1), (2, .int a2)]) hx hb dX2_openDoor_27 hl (by decide) rfl (fun ls hl => ?_)
      refine lv_iload hx hb dX2_openDoor_29 (lv_at hl 0 rfl) ?_
      refine Exists.elim (zz_jn (P := fun (j : Int32 → zM → Option (Int32 × zM)) => ∀ (y5 : Int32) (μ : zM) (H : Heap) (locs : List Loc) (ls : Array Slot), lv_has ls 7 [(0, .ref (ad r0)), (2, .int a2), (4, .int y4)] → zG true D ad cA s μ H locs → j y5 μ = some (r, μ') → W p l e ({ frames := 1, cells := 0, slots := 0, locals := 24 } : Room) s m args below meth c H locs 0 0 Q (F0 m 44 ls [.int y5])) h ?_) (fun j44_2 hj => ?_)
      · intro y5 μ H locs ls hl G h
        refine lv_istore (lv' := [(5, .int y5), (0, .ref (ad r0)), (2, .int a2), (4, .int y4)]) hx hb dX2_openDoor_44 hl (by decide) rfl (fun ls hl => ?_)
        refine lv_aload_n hx hb dX2_openDoor_46 rfl (lv_at hl 1 rfl) ?_
        refine lv_iload hx hb dX2_openDoor_47 (lv_at hl 0 rfl) ?_
        refine lv_iload_n hx hb dX2_openDoor_49 rfl (lv_at hl 2 rfl) ?_
        refine zz_ci (rest := []) G h (fun r μ1 hf => zz_runV X G rc_2 t_r0 cv_X2_longestInvited kw_398 (c_X2_longestInvited l D ad cA t_r0 hf) ⟨rfl, rfl, Nat.le_of_ble_eq_true rfl, Nat.le_of_ble_eq_true rfl⟩ rfl rfl hl.1 (Nat.le_of_ble_eq_true rfl) dX2_openDoor_50) (fun x6 μ H locs G h => ?_)
        refine lv_istore (lv' := [(6, .int x6), (5, .int y5), (0, .ref (ad r0)), (2, .int a2), (4, .int y4)]) hx hb dX2_openDoor_53 hl (by decide) rfl (fun ls hl => ?_)
        refine lv_iload hx hb dX2_openDoor_55 (lv_at hl 0 rfl) ?_
        refine lv_iconst (v := (-1 : Int32)) hx hb dX2_openDoor_57 (by decide) ?_
        refine lv_icmp_ne (tgt := 64) hx hb dX2_openDoor_58 (by decide) (fun c7 => ?_) (fun c7 => ?_)
        · have h := (zz_br h).1 c7
          refine lv_aload_n hx hb dX2_openDoor_64 rfl (lv_at hl 2 rfl) ?_
          refine lv_iload hx hb dX2_openDoor_65 (lv_at hl 0 rfl) ?_
          refine lv_iload_n hx hb dX2_openDoor_67 rfl (lv_at hl 3 rfl) ?_
          refine lv_iload hx hb dX2_openDoor_68 (lv_at hl 4 rfl) ?_
          refine Exists.elim (zz_jn (P := fun (j : Int32 → zM → Option (Int32 × zM)) => ∀ (y8 : Int32) (μ : zM) (H : Heap) (locs : List Loc) (ls : Array Slot), lv_has ls 7 [(5, .int y5), (6, .int x6)] → zG true D ad cA s μ H locs → j y8 μ = some (r, μ') → W p l e ({ frames := 1, cells := 0, slots := 0, locals := 24 } : Room) s m args below meth c H locs 0 0 Q (F0 m 94 ls [.int y8, .int a2, .int x6, .ref (ad r0)])) h ?_) (fun j94_3 hj => ?_)
          · intro y8 μ H locs ls hl G h
            refine zz_cv (rest := []) G h (fun r μ1 hf => zz_runV X G rc_2 t_r0 cv_X2_letIn kw_382 (c_X2_letIn l D ad cA t_r0 hf) ⟨rfl, rfl, Nat.le_of_ble_eq_true rfl, Nat.le_of_ble_eq_true rfl⟩ rfl rfl hl.1 (Nat.le_of_ble_eq_true rfl) dX2_openDoor_94) (fun _ μ H locs G h => ?_)
            refine lv_iload hx hb dX2_openDoor_97 (lv_at hl 0 rfl) ?_
            refine lv_iconst (v := (1 : Int32)) hx hb dX2_openDoor_99 (by decide) ?_
            refine lv_iload hx hb dX2_openDoor_100 (lv_at hl 1 rfl) ?_
            refine lv_ishl hx hb dX2_openDoor_102 ?_
            refine lv_iconst (v := (-1 : Int32)) hx hb dX2_openDoor_103 (by decide) ?_
            refine lv_ixor hx hb dX2_openDoor_104 ?_
            refine lv_iand hx hb dX2_openDoor_105 ?_
            rw [hQ]
            exact zz_iret X G hr hlk dX2_openDoor_106 h
          obtain ⟨hj94_3, h⟩ := hj
          refine lv_if_eq (tgt := 83) hx hb dX2_openDoor_70 (by decide) (fun c9 => ?_) (fun c9 => ?_)
          · have h := (zz_br h).1 c9
            refine lv_aload_n hx hb dX2_openDoor_83 rfl (lv_at hl 2 rfl) ?_
            refine zz_getr X G fr_2_1 t_r0 (rs_2_1 t_r0) kw_181 dX2_openDoor_84 ?_
            refine lv_iload hx hb dX2_openDoor_87 (lv_at hl 0 rfl) ?_
            refine zz_iald X G ia_10 (ft_2_1 t_r0) dX2_openDoor_89 h (fun x10 h => ?_)
            refine lv_iconst (v := (1 : Int32)) hx hb dX2_openDoor_90 (by decide) ?_
            refine lv_iadd hx hb dX2_openDoor_91 ?_
            refine lv_iconst (v := (4 : Int32)) hx hb dX2_openDoor_92 (by decide) ?_
            obtain ⟨hd, h⟩ := zz_gd h
            refine lv_irem hx hb dX2_openDoor_93 hd ?_
            exact hj94_3 ((x10 + (1 : Int32)) - (x10 + (1 : Int32)) / (4 : Int32) * (4 : Int32)) μ _ _ _ (lv_sub hl [1, 0] rfl) G h
          have h := (zz_br h).2 c9
          refine lv_aload_n hx hb dX2_openDoor_73 rfl (lv_at hl 2 rfl) ?_
          refine zz_getr X G fr_2_1 t_r0 (rs_2_1 t_r0) kw_181 dX2_openDoor_74 ?_
          refine lv_iload hx hb dX2_openDoor_77 (lv_at hl 0 rfl) ?_
          refine zz_iald X G ia_10 (ft_2_1 t_r0) dX2_openDoor_79 h (fun x11 h => ?_)
          refine lv_goto (tgt := 94) hx hb dX2_openDoor_80 (by decide) ?_
          exact hj94_3 x11 μ _ _ _ (lv_sub hl [1, 0] rfl) G h
        have h := (zz_br h).2 (fun q => q c7)
        refine lv_iload hx hb dX2_openDoor_61 (lv_at hl 1 rfl) ?_
        rw [hQ]
        exact zz_iret X G hr hlk dX2_openDoor_63 h
      obtain ⟨hj44_2, h⟩ := hj
      refine lv_if_eq (tgt := 43) hx hb dX2_openDoor_31 (by decide) (fun c12 => ?_) (fun c12 => ?_)
      · have h := (zz_br h).1 c12
        refine lv_iload_n hx hb dX2_openDoor_43 rfl (lv_at hl 2 rfl) ?_
        exact hj44_2 a1 μ _ _ _ (lv_sub hl [1, 3, 0] rfl) G h
      have h := (zz_br h).2 c12
      refine lv_aload_n hx hb dX2_openDoor_34 rfl (lv_at hl 1 rfl) ?_
      refine lv_iload_n hx hb dX2_openDoor_35 rfl (lv_at hl 2 rfl) ?_
      refine lv_iload_n hx hb dX2_openDoor_36 rfl (lv_at hl 3 rfl) ?_
      refine zz_ci (rest := []) G h (fun r μ1 hf => zz_runV X G rc_2 t_r0 cv_X2_sendSunshines kw_394 (c_X2_sendSunshines l D ad cA t_r0 hf) ⟨rfl, rfl, Nat.le_of_ble_eq_true rfl, Nat.le_of_ble_eq_true rfl⟩ rfl rfl hl.1 (Nat.le_of_ble_eq_true rfl) dX2_openDoor_37) (fun x13 μ H locs G h => ?_)
      refine lv_goto (tgt := 44) hx hb dX2_openDoor_40 (by decide) ?_
      exact hj44_2 x13 μ _ _ _ (lv_sub hl [1, 3, 0] rfl) G h
    obtain ⟨hj27_1, h⟩ := hj
    refine lv_if_ne (tgt := 26) hx hb dX2_openDoor_19 (by decide) (fun c14 => ?_) (fun c14 => ?_)
    · have h := (zz_br h).1 c14
      refine lv_iconst (v := (0 : Int32)) hx hb dX2_openDoor_26 (by decide) ?_
      exact hj27_1 (0 : Int32) μ _ _ _ (lv_sub hl [1, 2, 3] rfl) G h
    have h := (zz_br h).2 (fun q => q c14)
    refine lv_iconst (v := (1 : Int32)) hx hb dX2_openDoor_22 (by decide) ?_
    refine lv_goto (tgt := 27) hx hb dX2_openDoor_23 (by decide) ?_
    exact hj27_1 (1 : Int32) μ _ _ _ (lv_sub hl [1, 2, 3] rfl) G h
  have h := (zz_br h).2 (fun q => q c2)
  refine lv_iload_n hx hb dX2_openDoor_11 rfl (lv_at hl 2 rfl) ?_
  rw [hQ]
  exact zz_iret X G hr hlk dX2_openDoor_12 h
set_option maxHeartbeats 4000000 in
set_option maxRecDepth 100000 in
theorem w_X2_sendWeary_L5 {p : Program} {l : Launch} {e : Env} {s : State} {m : MethodId} {args : Array Value} {below : List Frame} {meth : Method} {c : Code} {Q : State → Prop} {D : va_G} {ad : Nat → Nat} {cA : Nat → ClassId} {r : Int32} {μ' : zM} (X : zX true D ad cA p s m args c cX2_sendWeary "ButlerWeather$House" 5) (hQ : Q = MQ below (zQi true D ad cA r μ') args s 0 0 (zA true ad)) (hr : meth.sig.returnType = (some .int)) (hlk : meth.locks = false) {r0 : Nat} (t_r0 : zty r0 = 2) {v1 : Int32} {v2 : Int32} {kx : Int32 → zM → Option (Int32 × zM)} (HX : ∀ (w3 : Int32) (μ : zM) (H : Heap) (locs : List Loc) (ls : Array Slot), lv_has ls 5 [(3, .int w3)] → zG true D ad cA s μ H locs → kx w3 μ = some (r, μ') → W p l e ({ frames := 0, cells := 0, slots := 0, locals := 0 } : Room) s m args below meth c H locs 0 0 Q (F0 m 67 ls [])) : ∀ (n : Nat) (v3 : Int32) (v4 : Int32) (μ : zM) (H : Heap) (locs : List Loc) (ls : Array Slot), lv_has ls 5 [(0, .ref (ad r0)), (1, .int v1), (2, .int v2), (3, .int v3), (4, .int v4)] → zG true D ad cA s μ H locs → f_X2_sendWeary_L5 r0 v1 v2 kx n v3 v4 μ = some (r, μ') → W p l e ({ frames := 0, cells := 0, slots := 0, locals := 0 } : Room) s m args below meth c H locs 0 0 Q (F0 m 5 ls []) := by
  obtain ⟨hx, hb, hml, hown, hts, -, -, -⟩ := id X
  intro n
  induction n with
  | zero =>
    intro v3 v4 μ H locs ls hl G h
    cases (show (none : Option (Int32 × zM)) = some (r, μ') from h)
  | succ n ih =>
    intro v3 v4 μ H locs ls hl G h
    rw [f_X2_sendWeary_L5] at h
    refine lv_iload hx hb dX2_sendWeary_5 (lv_at hl 4 rfl) ?_
    refine lv_aload_n hx hb dX2_sendWeary_7 rfl (lv_at hl 0 rfl) ?_
    refine zz_geti X G fi_2_0 t_r0 kw_178 dX2_sendWeary_8 h (fun x1 h => ?_)
    refine lv_icmp_ge (tgt := 67) hx hb dX2_sendWeary_11 (by decide) (fun c2 => ?_) (fun c2 => ?_)
    · have h := (zz_br h).1 c2
      exact HX v3 μ _ _ _ (lv_sub hl [3] rfl) G h
    have h := (zz_br h).2 c2
    refine lv_iload_n hx hb dX2_sendWeary_14 rfl (lv_at hl 1 rfl) ?_
    refine lv_iload hx hb dX2_sendWeary_15 (lv_at hl 4 rfl) ?_
    refine lv_ishr hx hb dX2_sendWeary_17 ?_
    refine lv_iconst (v := (1 : Int32)) hx hb dX2_sendWeary_18 (by decide) ?_
    refine lv_iand hx hb dX2_sendWeary_19 ?_
    refine lv_if_eq (tgt := 61) hx hb dX2_sendWeary_20 (by decide) (fun c3 => ?_) (fun c3 => ?_)
    · have h := (zz_br h).1 c3
      obtain ⟨x4, ex4, h⟩ := zz_let h
      refine lv_iinc (v := x4) (lv' := [(4, .int x4), (0, .ref (ad r0)), (1, .int v1), (2, .int v2), (3, .int v3)]) hx hb dX2_sendWeary_61 hl (k := 4) rfl (by rw [← ex4]; rfl) (by decide) rfl (fun ls hl => ?_)
      refine lv_goto (tgt := 5) hx hb dX2_sendWeary_64 (by decide) ?_
      exact ih v3 x4 μ _ _ _ (lv_sub hl [1, 2, 3, 4, 0] rfl) G h
    have h := (zz_br h).2 c3
    refine lv_iload_n hx hb dX2_sendWeary_23 rfl (lv_at hl 2 rfl) ?_
    refine lv_aload_n hx hb dX2_sendWeary_24 rfl (lv_at hl 0 rfl) ?_
    refine zz_getr X G fr_2_3 t_r0 (rs_2_3 t_r0) kw_186 dX2_sendWeary_25 ?_
    refine lv_iload hx hb dX2_sendWeary_28 (lv_at hl 4 rfl) ?_
    refine zz_iald X G ia_10 (ft_2_3 t_r0) dX2_sendWeary_30 h (fun x5 h => ?_)
    refine lv_isub hx hb dX2_sendWeary_31 ?_
    refine lv_iconst (v := (1 : Int32)) hx hb dX2_sendWeary_32 (by decide) ?_
    refine lv_iadd hx hb dX2_sendWeary_33 ?_
    refine lv_aload_n hx hb dX2_sendWeary_34 rfl (lv_at hl 0 rfl) ?_
    refine zz_getr X G fr_2_2 t_r0 (rs_2_2 t_r0) kw_183 dX2_sendWeary_35 ?_
    refine lv_iload hx hb dX2_sendWeary_38 (lv_at hl 4 rfl) ?_
    refine zz_iald X G ia_10 (ft_2_2 t_r0) dX2_sendWeary_40 h (fun x6 h => ?_)
    refine lv_icmp_lt (tgt := 61) hx hb dX2_sendWeary_41 (by decide) (fun c7 => ?_) (fun c7 => ?_)
    · have h := (zz_br h).1 c7
      obtain ⟨x8, ex8, h⟩ := zz_let h
      refine lv_iinc (v := x8) (lv' := [(4, .int x8), (0, .ref (ad r0)), (1, .int v1), (2, .int v2), (3, .int v3)]) hx hb dX2_sendWeary_61 hl (k := 4) rfl (by rw [← ex8]; rfl) (by decide) rfl (fun ls hl => ?_)
      refine lv_goto (tgt := 5) hx hb dX2_sendWeary_64 (by decide) ?_
      exact ih v3 x8 μ _ _ _ (lv_sub hl [1, 2, 3, 4, 0] rfl) G h
    have h := (zz_br h).2 c7
    refine lv_aload_n hx hb dX2_sendWeary_44 rfl (lv_at hl 0 rfl) ?_
    refine zz_getr X G fr_2_12 t_r0 (rs_2_12 t_r0) kw_203 dX2_sendWeary_45 ?_
    refine lv_iload hx hb dX2_sendWeary_48 (lv_at hl 4 rfl) ?_
    refine lv_iload_n hx hb dX2_sendWeary_50 rfl (lv_at hl 2 rfl) ?_
    refine zz_iast X G ia_10 (ft_2_12 t_r0) dX2_sendWeary_51 h (fun μ H locs G h => ?_)
    refine lv_iload_n hx hb dX2_sendWeary_52 rfl (lv_at hl 3 rfl) ?_
    refine lv_iconst (v := (1 : Int32)) hx hb dX2_sendWeary_53 (by decide) ?_
    refine lv_iload hx hb dX2_sendWeary_54 (lv_at hl 4 rfl) ?_
    refine lv_ishl hx hb dX2_sendWeary_56 ?_
    refine lv_iconst (v := (-1 : Int32)) hx hb dX2_sendWeary_57 (by decide) ?_
    refine lv_ixor hx hb dX2_sendWeary_58 ?_
    refine lv_iand hx hb dX2_sendWeary_59 ?_
    refine zz_vi h (fun x9 h => ?_)
    refine lv_istore_n (lv' := [(3, .int x9), (0, .ref (ad r0)), (1, .int v1), (2, .int v2), (4, .int v4)]) hx hb dX2_sendWeary_60 rfl hl (by decide) rfl (fun ls hl => ?_)
    obtain ⟨x10, ex10, h⟩ := zz_let h
    refine lv_iinc (v := x10) (lv' := [(4, .int x10), (3, .int x9), (0, .ref (ad r0)), (1, .int v1), (2, .int v2)]) hx hb dX2_sendWeary_61 hl (k := 4) rfl (by rw [← ex10]; rfl) (by decide) rfl (fun ls hl => ?_)
    refine lv_goto (tgt := 5) hx hb dX2_sendWeary_64 (by decide) ?_
    exact ih x9 x10 μ _ _ _ (lv_sub hl [2, 3, 4, 1, 0] rfl) G h
set_option maxHeartbeats 4000000 in
set_option maxRecDepth 100000 in
theorem c_X2_sendWeary (l : Launch) (D : va_G) (ad : Nat → Nat) (cA : Nat → ClassId) {r0 : Nat} (t_r0 : zty r0 = 2) {a1 : Int32} {a2 : Int32} {μ : zM} {r : Int32} {μ' : zM} (h : f_X2_sendWeary r0 a1 a2 μ = some (r, μ')) : zMet true D ad cA l yX2_sendWeary cX2_sendWeary 5 (some .int) ({ frames := 0, cells := 0, slots := 0, locals := 0 } : Room) [.ref (ad r0), .int a1, .int a2] μ (zQi true D ad cA r μ') := by
  refine zMet_of "ButlerWeather$House" ⟨by decide, rfl⟩ (Nat.le_of_ble_eq_true rfl) ?_
  intro p e s m args below meth c X G hr hlk ls hl
  have hl : lv_has ls 5 [(0, .ref (ad r0)), (1, .int a1), (2, .int a2)] := hl
  obtain ⟨hx, hb, hml, hown, hts, -, -, -⟩ := id X
  obtain ⟨Q, hQ⟩ : ∃ Q, Q = MQ below (zQi true D ad cA r μ') args s 0 0 (zA true ad) := ⟨_, rfl⟩
  rw [← hQ]
  unfold f_X2_sendWeary at h
  refine lv_iload_n hx hb dX2_sendWeary_0 rfl (lv_at hl 1 rfl) ?_
  refine lv_istore_n (lv' := [(3, .int a1), (0, .ref (ad r0)), (1, .int a1), (2, .int a2)]) hx hb dX2_sendWeary_1 rfl hl (by decide) rfl (fun ls hl => ?_)
  refine lv_iconst (v := (0 : Int32)) hx hb dX2_sendWeary_2 (by decide) ?_
  refine lv_istore (lv' := [(4, .int (0 : Int32)), (3, .int a1), (0, .ref (ad r0)), (1, .int a1), (2, .int a2)]) hx hb dX2_sendWeary_3 hl (by decide) rfl (fun ls hl => ?_)
  refine w_X2_sendWeary_L5 X hQ hr hlk t_r0 (fun x11 μ H locs ls hl G h => ?_) 400 a1 (0 : Int32) μ _ _ _ (lv_sub hl [2, 3, 4, 1, 0] rfl) G h
  refine lv_iload_n hx hb dX2_sendWeary_67 rfl (lv_at hl 0 rfl) ?_
  rw [hQ]
  exact zz_iret X G hr hlk dX2_sendWeary_68 h
set_option maxHeartbeats 4000000 in
set_option maxRecDepth 100000 in
theorem w_X2_live_L8 {p : Program} {l : Launch} {e : Env} {s : State} {m : MethodId} {args : Array Value} {below : List Frame} {meth : Method} {c : Code} {Q : State → Prop} {D : va_G} {ad : Nat → Nat} {cA : Nat → ClassId} {r : Unit} {μ' : zM} (X : zX true D ad cA p s m args c cX2_live "ButlerWeather$House" 3) (hQ : Q = MQ below (zQv true D ad cA r μ') args s 0 0 (zA true ad)) (hr : meth.sig.returnType = none) (hlk : meth.locks = false) {r0 : Nat} (t_r0 : zty r0 = 2) {kx : zM → Option (Unit × zM)} (HX : ∀ (μ : zM) (H : Heap) (locs : List Loc) (ls : Array Slot), lv_has ls 3 [] → zG true D ad cA s μ H locs → kx  μ = some (r, μ') → W p l e ({ frames := 2, cells := 0, slots := 0, locals := 50 } : Room) s m args below meth c H locs 0 0 Q (F0 m 52 ls [])) : ∀ (n : Nat) (v1 : Int32) (v2 : Int32) (μ : zM) (H : Heap) (locs : List Loc) (ls : Array Slot), lv_has ls 3 [(0, .ref (ad r0)), (1, .int v1), (2, .int v2)] → zG true D ad cA s μ H locs → f_X2_live_L8 r0 kx n v1 v2 μ = some (r, μ') → W p l e ({ frames := 2, cells := 0, slots := 0, locals := 50 } : Room) s m args below meth c H locs 0 0 Q (F0 m 8 ls []) := by
  obtain ⟨hx, hb, hml, hown, hts, -, -, -⟩ := id X
  intro n
  induction n with
  | zero =>
    intro v1 v2 μ H locs ls hl G h
    cases (show (none : Option (Unit × zM)) = some (r, μ') from h)
  | succ n ih =>
    intro v1 v2 μ H locs ls hl G h
    rw [f_X2_live_L8] at h
    refine lv_iload_n hx hb dX2_live_8 rfl (lv_at hl 2 rfl) ?_
    refine lv_bipush (v := (24 : Int32)) hx hb dX2_live_9 (by decide) ?_
    refine lv_icmp_ge (tgt := 52) hx hb dX2_live_11 (by decide) (fun c1 => ?_) (fun c1 => ?_)
    · have h := (zz_br h).1 c1
      exact HX  μ _ _ _ (lv_sub hl [] rfl) G h
    have h := (zz_br h).2 c1
    refine lv_iload_n hx hb dX2_live_14 rfl (lv_at hl 1 rfl) ?_
    refine lv_aload_n hx hb dX2_live_15 rfl (lv_at hl 0 rfl) ?_
    refine lv_aload_n hx hb dX2_live_16 rfl (lv_at hl 0 rfl) ?_
    refine zz_getr X G fr_2_10 t_r0 (rs_2_10 t_r0) kw_199 dX2_live_17 ?_
    refine lv_iload_n hx hb dX2_live_20 rfl (lv_at hl 2 rfl) ?_
    refine zz_iald X G ia_10 (ft_2_10 t_r0) dX2_live_21 h (fun x2 h => ?_)
    refine lv_iload_n hx hb dX2_live_22 rfl (lv_at hl 2 rfl) ?_
    refine zz_ci (rest := [.int v1]) G h (fun r μ1 hf => zz_runV X G rc_2 t_r0 cv_X2_receive kw_378 (c_X2_receive l D ad cA t_r0 hf) ⟨rfl, rfl, Nat.le_of_ble_eq_true rfl, Nat.le_of_ble_eq_true rfl⟩ rfl rfl hl.1 (Nat.le_of_ble_eq_true rfl) dX2_live_23) (fun x3 μ H locs G h => ?_)
    refine lv_ior hx hb dX2_live_26 ?_
    refine zz_vi h (fun x4 h => ?_)
    refine lv_istore_n (lv' := [(1, .int x4), (0, .ref (ad r0)), (2, .int v2)]) hx hb dX2_live_27 rfl hl (by decide) rfl (fun ls hl => ?_)
    refine lv_iload_n hx hb dX2_live_28 rfl (lv_at hl 0 rfl) ?_
    refine lv_if_eq (tgt := 46) hx hb dX2_live_29 (by decide) (fun c5 => ?_) (fun c5 => ?_)
    · have h := (zz_br h).1 c5
      obtain ⟨x6, ex6, h⟩ := zz_let h
      refine lv_iinc (v := x6) (lv' := [(2, .int x6), (1, .int x4), (0, .ref (ad r0))]) hx hb dX2_live_46 hl (k := 2) rfl (by rw [← ex6]; rfl) (by decide) rfl (fun ls hl => ?_)
      refine lv_goto (tgt := 8) hx hb dX2_live_49 (by decide) ?_
      exact ih x4 x6 μ _ _ _ (lv_sub hl [2, 1, 0] rfl) G h
    have h := (zz_br h).2 c5
    refine lv_aload_n hx hb dX2_live_32 rfl (lv_at hl 1 rfl) ?_
    refine lv_iload_n hx hb dX2_live_33 rfl (lv_at hl 0 rfl) ?_
    refine lv_iload_n hx hb dX2_live_34 rfl (lv_at hl 2 rfl) ?_
    refine zz_ci (rest := []) G h (fun r μ1 hf => zz_runV X G rc_2 t_r0 cv_X2_openDoor kw_386 (c_X2_openDoor l D ad cA t_r0 hf) ⟨rfl, rfl, Nat.le_of_ble_eq_true rfl, Nat.le_of_ble_eq_true rfl⟩ rfl rfl hl.1 (Nat.le_of_ble_eq_true rfl) dX2_live_35) (fun x7 μ H locs G h => ?_)
    refine lv_istore_n (lv' := [(1, .int x7), (0, .ref (ad r0)), (2, .int v2)]) hx hb dX2_live_38 rfl hl (by decide) rfl (fun ls hl => ?_)
    refine lv_aload_n hx hb dX2_live_39 rfl (lv_at hl 1 rfl) ?_
    refine lv_iload_n hx hb dX2_live_40 rfl (lv_at hl 0 rfl) ?_
    refine lv_iload_n hx hb dX2_live_41 rfl (lv_at hl 2 rfl) ?_
    refine zz_ci (rest := []) G h (fun r μ1 hf => zz_runV X G rc_2 t_r0 cv_X2_sendWeary kw_402 (c_X2_sendWeary l D ad cA t_r0 hf) ⟨rfl, rfl, Nat.le_of_ble_eq_true rfl, Nat.le_of_ble_eq_true rfl⟩ rfl rfl hl.1 (Nat.le_of_ble_eq_true rfl) dX2_live_42) (fun x8 μ H locs G h => ?_)
    refine lv_istore_n (lv' := [(1, .int x8), (0, .ref (ad r0)), (2, .int v2)]) hx hb dX2_live_45 rfl hl (by decide) rfl (fun ls hl => ?_)
    obtain ⟨x9, ex9, h⟩ := zz_let h
    refine lv_iinc (v := x9) (lv' := [(2, .int x9), (1, .int x8), (0, .ref (ad r0))]) hx hb dX2_live_46 hl (k := 2) rfl (by rw [← ex9]; rfl) (by decide) rfl (fun ls hl => ?_)
    refine lv_goto (tgt := 8) hx hb dX2_live_49 (by decide) ?_
    exact ih x8 x9 μ _ _ _ (lv_sub hl [2, 1, 0] rfl) G h
set_option maxHeartbeats 4000000 in
set_option maxRecDepth 100000 in
theorem c_X2_live (l : Launch) (D : va_G) (ad : Nat → Nat) (cA : Nat → ClassId) {r0 : Nat} (t_r0 : zty r0 = 2) {μ : zM} {r : Unit} {μ' : zM} (h : f_X2_live r0 μ = some (r, μ')) : zMet true D ad cA l yX2_live cX2_live 3 none ({ frames := 2, cells := 0, slots := 0, locals := 50 } : Room) [.ref (ad r0)] μ (zQv true D ad cA r μ') := by
  refine zMet_of "ButlerWeather$House" ⟨by decide, rfl⟩ (Nat.le_of_ble_eq_true rfl) ?_
  intro p e s m args below meth c X G hr hlk ls hl
  have hl : lv_has ls 3 [(0, .ref (ad r0))] := hl
  obtain ⟨hx, hb, hml, hown, hts, -, -, -⟩ := id X
  obtain ⟨Q, hQ⟩ : ∃ Q, Q = MQ below (zQv true D ad cA r μ') args s 0 0 (zA true ad) := ⟨_, rfl⟩
  rw [← hQ]
  unfold f_X2_live at h
  refine lv_aload_n hx hb dX2_live_0 rfl (lv_at hl 0 rfl) ?_
  refine zz_cv (rest := []) G h (fun r μ1 hf => zz_runV X G rc_2 t_r0 cv_X2_gather kw_374 (c_X2_gather l D ad cA t_r0 hf) ⟨rfl, rfl, Nat.le_of_ble_eq_true rfl, Nat.le_of_ble_eq_true rfl⟩ rfl rfl hl.1 (Nat.le_of_ble_eq_true rfl) dX2_live_1) (fun _ μ H locs G h => ?_)
  refine lv_iconst (v := (0 : Int32)) hx hb dX2_live_4 (by decide) ?_
  refine lv_istore_n (lv' := [(1, .int (0 : Int32)), (0, .ref (ad r0))]) hx hb dX2_live_5 rfl hl (by decide) rfl (fun ls hl => ?_)
  refine lv_iconst (v := (0 : Int32)) hx hb dX2_live_6 (by decide) ?_
  refine lv_istore_n (lv' := [(2, .int (0 : Int32)), (1, .int (0 : Int32)), (0, .ref (ad r0))]) hx hb dX2_live_7 rfl hl (by decide) rfl (fun ls hl => ?_)
  refine w_X2_live_L8 X hQ hr hlk t_r0 (fun  μ H locs ls hl G h => ?_) 400 (0 : Int32) (0 : Int32) μ _ _ _ (lv_sub hl [2, 1, 0] rfl) G h
  rw [hQ]
  exact zz_vret X G hr hlk dX2_live_52 h
set_option maxHeartbeats 4000000 in
set_option maxRecDepth 100000 in
theorem c_X2_standing (l : Launch) (D : va_G) (ad : Nat → Nat) (cA : Nat → ClassId) {r0 : Nat} (t_r0 : zty r0 = 2) {a1 : Int32} {a2 : Int32} {μ : zM} {r : Int32} {μ' : zM} (h : f_X2_standing r0 a1 a2 μ = some (r, μ')) : zMet true D ad cA l yX2_standing cX2_standing 3 (some .int) ({ frames := 1, cells := 0, slots := 0, locals := 22 } : Room) [.ref (ad r0), .int a1, .int a2] μ (zQi true D ad cA r μ') := by
  refine zMet_of "ButlerWeather$House" ⟨by decide, rfl⟩ (Nat.le_of_ble_eq_true rfl) ?_
  intro p e s m args below meth c X G hr hlk ls hl
  have hl : lv_has ls 3 [(0, .ref (ad r0)), (1, .int a1), (2, .int a2)] := hl
  obtain ⟨hx, hb, hml, hown, hts, -, -, -⟩ := id X
  obtain ⟨Q, hQ⟩ : ∃ Q, Q = MQ below (zQi true D ad cA r μ') args s 0 0 (zA true ad) := ⟨_, rfl⟩
  rw [← hQ]
  unfold f_X2_standing at h
  refine lv_iload_n hx hb dX2_standing_0 rfl (lv_at hl 2 rfl) ?_
  refine lv_aload_n hx hb dX2_standing_1 rfl (lv_at hl 0 rfl) ?_
  refine zz_getr X G fr_2_3 t_r0 (rs_2_3 t_r0) kw_186 dX2_standing_2 ?_
  refine lv_iload_n hx hb dX2_standing_5 rfl (lv_at hl 1 rfl) ?_
  refine zz_iald X G ia_10 (ft_2_3 t_r0) dX2_standing_6 h (fun x1 h => ?_)
  refine lv_icmp_ge (tgt := 12) hx hb dX2_standing_7 (by decide) (fun c2 => ?_) (fun c2 => ?_)
  · have h := (zz_br h).1 c2
    refine lv_aload_n hx hb dX2_standing_12 rfl (lv_at hl 0 rfl) ?_
    refine zz_getr X G fr_2_11 t_r0 (rs_2_11 t_r0) kw_200 dX2_standing_13 ?_
    refine lv_iload_n hx hb dX2_standing_16 rfl (lv_at hl 1 rfl) ?_
    refine zz_iald X G ia_10 (ft_2_11 t_r0) dX2_standing_17 h (fun x3 h => ?_)
    refine lv_iconst (v := (-1 : Int32)) hx hb dX2_standing_18 (by decide) ?_
    refine lv_icmp_eq (tgt := 47) hx hb dX2_standing_19 (by decide) (fun c4 => ?_) (fun c4 => ?_)
    · have h := (zz_br h).1 c4
      refine lv_aload_n hx hb dX2_standing_47 rfl (lv_at hl 0 rfl) ?_
      refine zz_getr X G fr_2_12 t_r0 (rs_2_12 t_r0) kw_203 dX2_standing_48 ?_
      refine lv_iload_n hx hb dX2_standing_51 rfl (lv_at hl 1 rfl) ?_
      refine zz_iald X G ia_10 (ft_2_12 t_r0) dX2_standing_52 h (fun x5 h => ?_)
      refine lv_iconst (v := (-1 : Int32)) hx hb dX2_standing_53 (by decide) ?_
      refine lv_icmp_eq (tgt := 71) hx hb dX2_standing_54 (by decide) (fun c6 => ?_) (fun c6 => ?_)
      · have h := (zz_br h).1 c6
        refine lv_iconst (v := (1 : Int32)) hx hb dX2_standing_71 (by decide) ?_
        rw [hQ]
        exact zz_iret X G hr hlk dX2_standing_72 h
      have h := (zz_br h).2 c6
      refine lv_iload_n hx hb dX2_standing_57 rfl (lv_at hl 2 rfl) ?_
      refine lv_aload_n hx hb dX2_standing_58 rfl (lv_at hl 0 rfl) ?_
      refine zz_getr X G fr_2_12 t_r0 (rs_2_12 t_r0) kw_203 dX2_standing_59 ?_
      refine lv_iload_n hx hb dX2_standing_62 rfl (lv_at hl 1 rfl) ?_
      refine zz_iald X G ia_10 (ft_2_12 t_r0) dX2_standing_63 h (fun x7 h => ?_)
      refine lv_icmp_lt (tgt := 71) hx hb dX2_standing_64 (by decide) (fun c8 => ?_) (fun c8 => ?_)
      · have h := (zz_br h).1 c8
        refine lv_iconst (v := (1 : Int32)) hx hb dX2_standing_71 (by decide) ?_
        rw [hQ]
        exact zz_iret X G hr hlk dX2_standing_72 h
      have h := (zz_br h).2 c8
      refine lv_iconst (v := (4 : Int32)) hx hb dX2_standing_67 (by decide) ?_
      refine lv_goto (tgt := 72) hx hb dX2_standing_68 (by decide) ?_
      rw [hQ]
      exact zz_iret X G hr hlk dX2_standing_72 h
    have h := (zz_br h).2 c4
    refine lv_iload_n hx hb dX2_standing_22 rfl (lv_at hl 2 rfl) ?_
    refine lv_aload_n hx hb dX2_standing_23 rfl (lv_at hl 0 rfl) ?_
    refine zz_getr X G fr_2_11 t_r0 (rs_2_11 t_r0) kw_200 dX2_standing_24 ?_
    refine lv_iload_n hx hb dX2_standing_27 rfl (lv_at hl 1 rfl) ?_
    refine zz_iald X G ia_10 (ft_2_11 t_r0) dX2_standing_28 h (fun x9 h => ?_)
    refine lv_icmp_lt (tgt := 47) hx hb dX2_standing_29 (by decide) (fun c10 => ?_) (fun c10 => ?_)
    · have h := (zz_br h).1 c10
      refine lv_aload_n hx hb dX2_standing_47 rfl (lv_at hl 0 rfl) ?_
      refine zz_getr X G fr_2_12 t_r0 (rs_2_12 t_r0) kw_203 dX2_standing_48 ?_
      refine lv_iload_n hx hb dX2_standing_51 rfl (lv_at hl 1 rfl) ?_
      refine zz_iald X G ia_10 (ft_2_12 t_r0) dX2_standing_52 h (fun x11 h => ?_)
      refine lv_iconst (v := (-1 : Int32)) hx hb dX2_standing_53 (by decide) ?_
      refine lv_icmp_eq (tgt := 71) hx hb dX2_standing_54 (by decide) (fun c12 => ?_) (fun c12 => ?_)
      · have h := (zz_br h).1 c12
        refine lv_iconst (v := (1 : Int32)) hx hb dX2_standing_71 (by decide) ?_
        rw [hQ]
        exact zz_iret X G hr hlk dX2_standing_72 h
      have h := (zz_br h).2 c12
      refine lv_iload_n hx hb dX2_standing_57 rfl (lv_at hl 2 rfl) ?_
      refine lv_aload_n hx hb dX2_standing_58 rfl (lv_at hl 0 rfl) ?_
      refine zz_getr X G fr_2_12 t_r0 (rs_2_12 t_r0) kw_203 dX2_standing_59 ?_
      refine lv_iload_n hx hb dX2_standing_62 rfl (lv_at hl 1 rfl) ?_
      refine zz_iald X G ia_10 (ft_2_12 t_r0) dX2_standing_63 h (fun x13 h => ?_)
      refine lv_icmp_lt (tgt := 71) hx hb dX2_standing_64 (by decide) (fun c14 => ?_) (fun c14 => ?_)
      · have h := (zz_br h).1 c14
        refine lv_iconst (v := (1 : Int32)) hx hb dX2_standing_71 (by decide) ?_
        rw [hQ]
        exact zz_iret X G hr hlk dX2_standing_72 h
      have h := (zz_br h).2 c14
      refine lv_iconst (v := (4 : Int32)) hx hb dX2_standing_67 (by decide) ?_
      refine lv_goto (tgt := 72) hx hb dX2_standing_68 (by decide) ?_
      rw [hQ]
      exact zz_iret X G hr hlk dX2_standing_72 h
    have h := (zz_br h).2 c10
    refine lv_aload_n hx hb dX2_standing_32 rfl (lv_at hl 0 rfl) ?_
    refine lv_iload_n hx hb dX2_standing_33 rfl (lv_at hl 1 rfl) ?_
    refine lv_iload_n hx hb dX2_standing_34 rfl (lv_at hl 2 rfl) ?_
    refine zz_ci (rest := []) G h (fun r μ1 hf => zz_runV X G rc_2 t_r0 cv_X2_isIn kw_464 (c_X2_isIn l D ad cA t_r0 hf) ⟨rfl, rfl, Nat.le_of_ble_eq_true rfl, Nat.le_of_ble_eq_true rfl⟩ rfl rfl hl.1 (Nat.le_of_ble_eq_true rfl) dX2_standing_35) (fun x15 μ H locs G h => ?_)
    refine lv_if_eq (tgt := 45) hx hb dX2_standing_38 (by decide) (fun c16 => ?_) (fun c16 => ?_)
    · have h := (zz_br h).1 c16
      refine lv_iconst (v := (3 : Int32)) hx hb dX2_standing_45 (by decide) ?_
      rw [hQ]
      exact zz_iret X G hr hlk dX2_standing_46 h
    have h := (zz_br h).2 c16
    refine lv_iconst (v := (2 : Int32)) hx hb dX2_standing_41 (by decide) ?_
    refine lv_goto (tgt := 46) hx hb dX2_standing_42 (by decide) ?_
    rw [hQ]
    exact zz_iret X G hr hlk dX2_standing_46 h
  have h := (zz_br h).2 c2
  refine lv_iconst (v := (0 : Int32)) hx hb dX2_standing_10 (by decide) ?_
  rw [hQ]
  exact zz_iret X G hr hlk dX2_standing_11 h
set_option maxHeartbeats 4000000 in
set_option maxRecDepth 100000 in
theorem w_X2_hatsOn_L4 {p : Program} {l : Launch} {e : Env} {s : State} {m : MethodId} {args : Array Value} {below : List Frame} {meth : Method} {c : Code} {Q : State → Prop} {D : va_G} {ad : Nat → Nat} {cA : Nat → ClassId} {r : Int32} {μ' : zM} (X : zX true D ad cA p s m args c cX2_hatsOn "ButlerWeather$House" 4) (hQ : Q = MQ below (zQi true D ad cA r μ') args s 0 0 (zA true ad)) (hr : meth.sig.returnType = (some .int)) (hlk : meth.locks = false) {r0 : Nat} (t_r0 : zty r0 = 2) {v1 : Int32} {kx : Int32 → zM → Option (Int32 × zM)} (HX : ∀ (w2 : Int32) (μ : zM) (H : Heap) (locs : List Loc) (ls : Array Slot), lv_has ls 4 [(2, .int w2)] → zG true D ad cA s μ H locs → kx w2 μ = some (r, μ') → W p l e ({ frames := 1, cells := 0, slots := 0, locals := 22 } : Room) s m args below meth c H locs 0 0 Q (F0 m 40 ls [])) : ∀ (n : Nat) (v2 : Int32) (v3 : Int32) (μ : zM) (H : Heap) (locs : List Loc) (ls : Array Slot), lv_has ls 4 [(0, .ref (ad r0)), (1, .int v1), (2, .int v2), (3, .int v3)] → zG true D ad cA s μ H locs → f_X2_hatsOn_L4 r0 v1 kx n v2 v3 μ = some (r, μ') → W p l e ({ frames := 1, cells := 0, slots := 0, locals := 22 } : Room) s m args below meth c H locs 0 0 Q (F0 m 4 ls []) := by
  obtain ⟨hx, hb, hml, hown, hts, -, -, -⟩ := id X
  intro n
  induction n with
  | zero =>
    intro v2 v3 μ H locs ls hl G h
    cases (show (none : Option (Int32 × zM)) = some (r, μ') from h)
  | succ n ih =>
    intro v2 v3 μ H locs ls hl G h
    rw [f_X2_hatsOn_L4] at h
    refine lv_iload_n hx hb dX2_hatsOn_4 rfl (lv_at hl 3 rfl) ?_
    refine lv_aload_n hx hb dX2_hatsOn_5 rfl (lv_at hl 0 rfl) ?_
    refine zz_geti X G fi_2_0 t_r0 kw_178 dX2_hatsOn_6 h (fun x1 h => ?_)
    refine lv_icmp_ge (tgt := 40) hx hb dX2_hatsOn_9 (by decide) (fun c2 => ?_) (fun c2 => ?_)
    · have h := (zz_br h).1 c2
      exact HX v2 μ _ _ _ (lv_sub hl [2] rfl) G h
    have h := (zz_br h).2 c2
    refine lv_aload_n hx hb dX2_hatsOn_12 rfl (lv_at hl 0 rfl) ?_
    refine lv_iload_n hx hb dX2_hatsOn_13 rfl (lv_at hl 3 rfl) ?_
    refine lv_iload_n hx hb dX2_hatsOn_14 rfl (lv_at hl 1 rfl) ?_
    refine zz_ci (rest := []) G h (fun r μ1 hf => zz_runV X G rc_2 t_r0 cv_X2_isIn kw_464 (c_X2_isIn l D ad cA t_r0 hf) ⟨rfl, rfl, Nat.le_of_ble_eq_true rfl, Nat.le_of_ble_eq_true rfl⟩ rfl rfl hl.1 (Nat.le_of_ble_eq_true rfl) dX2_hatsOn_15) (fun x3 μ H locs G h => ?_)
    refine lv_if_eq (tgt := 34) hx hb dX2_hatsOn_18 (by decide) (fun c4 => ?_) (fun c4 => ?_)
    · have h := (zz_br h).1 c4
      obtain ⟨x5, ex5, h⟩ := zz_let h
      refine lv_iinc (v := x5) (lv' := [(3, .int x5), (0, .ref (ad r0)), (1, .int v1), (2, .int v2)]) hx hb dX2_hatsOn_34 hl (k := 3) rfl (by rw [← ex5]; rfl) (by decide) rfl (fun ls hl => ?_)
      refine lv_goto (tgt := 4) hx hb dX2_hatsOn_37 (by decide) ?_
      exact ih v2 x5 μ _ _ _ (lv_sub hl [1, 2, 3, 0] rfl) G h
    have h := (zz_br h).2 c4
    refine lv_aload_n hx hb dX2_hatsOn_21 rfl (lv_at hl 0 rfl) ?_
    refine zz_getr X G fr_2_1 t_r0 (rs_2_1 t_r0) kw_181 dX2_hatsOn_22 ?_
    refine lv_iload_n hx hb dX2_hatsOn_25 rfl (lv_at hl 3 rfl) ?_
    refine zz_iald X G ia_10 (ft_2_1 t_r0) dX2_hatsOn_26 h (fun x6 h => ?_)
    refine lv_iconst (v := (2 : Int32)) hx hb dX2_hatsOn_27 (by decide) ?_
    refine lv_icmp_eq (tgt := 34) hx hb dX2_hatsOn_28 (by decide) (fun c7 => ?_) (fun c7 => ?_)
    · have h := (zz_br h).1 c7
      obtain ⟨x8, ex8, h⟩ := zz_let h
      refine lv_iinc (v := x8) (lv' := [(3, .int x8), (0, .ref (ad r0)), (1, .int v1), (2, .int v2)]) hx hb dX2_hatsOn_34 hl (k := 3) rfl (by rw [← ex8]; rfl) (by decide) rfl (fun ls hl => ?_)
      refine lv_goto (tgt := 4) hx hb dX2_hatsOn_37 (by decide) ?_
      exact ih v2 x8 μ _ _ _ (lv_sub hl [1, 2, 3, 0] rfl) G h
    have h := (zz_br h).2 c7
    obtain ⟨x9, ex9, h⟩ := zz_let h
    refine lv_iinc (v := x9) (lv' := [(2, .int x9), (0, .ref (ad r0)), (1, .int v1), (3, .int v3)]) hx hb dX2_hatsOn_31 hl (k := 2) rfl (by rw [← ex9]; rfl) (by decide) rfl (fun ls hl => ?_)
    obtain ⟨x10, ex10, h⟩ := zz_let h
    refine lv_iinc (v := x10) (lv' := [(3, .int x10), (2, .int x9), (0, .ref (ad r0)), (1, .int v1)]) hx hb dX2_hatsOn_34 hl (k := 3) rfl (by rw [← ex10]; rfl) (by decide) rfl (fun ls hl => ?_)
    refine lv_goto (tgt := 4) hx hb dX2_hatsOn_37 (by decide) ?_
    exact ih x9 x10 μ _ _ _ (lv_sub hl [2, 3, 1, 0] rfl) G h
set_option maxHeartbeats 4000000 in
set_option maxRecDepth 100000 in
theorem c_X2_hatsOn (l : Launch) (D : va_G) (ad : Nat → Nat) (cA : Nat → ClassId) {r0 : Nat} (t_r0 : zty r0 = 2) {a1 : Int32} {μ : zM} {r : Int32} {μ' : zM} (h : f_X2_hatsOn r0 a1 μ = some (r, μ')) : zMet true D ad cA l yX2_hatsOn cX2_hatsOn 4 (some .int) ({ frames := 1, cells := 0, slots := 0, locals := 22 } : Room) [.ref (ad r0), .int a1] μ (zQi true D ad cA r μ') := by
  refine zMet_of "ButlerWeather$House" ⟨by decide, rfl⟩ (Nat.le_of_ble_eq_true rfl) ?_
  intro p e s m args below meth c X G hr hlk ls hl
  have hl : lv_has ls 4 [(0, .ref (ad r0)), (1, .int a1)] := hl
  obtain ⟨hx, hb, hml, hown, hts, -, -, -⟩ := id X
  obtain ⟨Q, hQ⟩ : ∃ Q, Q = MQ below (zQi true D ad cA r μ') args s 0 0 (zA true ad) := ⟨_, rfl⟩
  rw [← hQ]
  unfold f_X2_hatsOn at h
  refine lv_iconst (v := (0 : Int32)) hx hb dX2_hatsOn_0 (by decide) ?_
  refine lv_istore_n (lv' := [(2, .int (0 : Int32)), (0, .ref (ad r0)), (1, .int a1)]) hx hb dX2_hatsOn_1 rfl hl (by decide) rfl (fun ls hl => ?_)
  refine lv_iconst (v := (0 : Int32)) hx hb dX2_hatsOn_2 (by decide) ?_
  refine lv_istore_n (lv' := [(3, .int (0 : Int32)), (2, .int (0 : Int32)), (0, .ref (ad r0)), (1, .int a1)]) hx hb dX2_hatsOn_3 rfl hl (by decide) rfl (fun ls hl => ?_)
  refine w_X2_hatsOn_L4 X hQ hr hlk t_r0 (fun x11 μ H locs ls hl G h => ?_) 400 (0 : Int32) (0 : Int32) μ _ _ _ (lv_sub hl [2, 3, 1, 0] rfl) G h
  refine lv_iload_n hx hb dX2_hatsOn_40 rfl (lv_at hl 0 rfl) ?_
  rw [hQ]
  exact zz_iret X G hr hlk dX2_hatsOn_41 h
set_option maxHeartbeats 4000000 in
set_option maxRecDepth 100000 in
theorem w_X2_stepOn_L4 {p : Program} {l : Launch} {e : Env} {s : State} {m : MethodId} {args : Array Value} {below : List Frame} {meth : Method} {c : Code} {Q : State → Prop} {D : va_G} {ad : Nat → Nat} {cA : Nat → ClassId} {r : Int32} {μ' : zM} (X : zX true D ad cA p s m args c cX2_stepOn "ButlerWeather$House" 4) (hQ : Q = MQ below (zQi true D ad cA r μ') args s 0 0 (zA true ad)) (hr : meth.sig.returnType = (some .int)) (hlk : meth.locks = false) {r0 : Nat} (t_r0 : zty r0 = 2) {v1 : Int32} {kx : Int32 → zM → Option (Int32 × zM)} (HX : ∀ (w2 : Int32) (μ : zM) (H : Heap) (locs : List Loc) (ls : Array Slot), lv_has ls 4 [(2, .int w2)] → zG true D ad cA s μ H locs → kx w2 μ = some (r, μ') → W p l e ({ frames := 2, cells := 0, slots := 0, locals := 44 } : Room) s m args below meth c H locs 0 0 Q (F0 m 34 ls [])) : ∀ (n : Nat) (v2 : Int32) (v3 : Int32) (μ : zM) (H : Heap) (locs : List Loc) (ls : Array Slot), lv_has ls 4 [(0, .ref (ad r0)), (1, .int v1), (2, .int v2), (3, .int v3)] → zG true D ad cA s μ H locs → f_X2_stepOn_L4 r0 v1 kx n v2 v3 μ = some (r, μ') → W p l e ({ frames := 2, cells := 0, slots := 0, locals := 44 } : Room) s m args below meth c H locs 0 0 Q (F0 m 4 ls []) := by
  obtain ⟨hx, hb, hml, hown, hts, -, -, -⟩ := id X
  intro n
  induction n with
  | zero =>
    intro v2 v3 μ H locs ls hl G h
    cases (show (none : Option (Int32 × zM)) = some (r, μ') from h)
  | succ n ih =>
    intro v2 v3 μ H locs ls hl G h
    rw [f_X2_stepOn_L4] at h
    refine lv_iload_n hx hb dX2_stepOn_4 rfl (lv_at hl 3 rfl) ?_
    refine lv_aload_n hx hb dX2_stepOn_5 rfl (lv_at hl 0 rfl) ?_
    refine zz_geti X G fi_2_0 t_r0 kw_178 dX2_stepOn_6 h (fun x1 h => ?_)
    refine lv_icmp_ge (tgt := 34) hx hb dX2_stepOn_9 (by decide) (fun c2 => ?_) (fun c2 => ?_)
    · have h := (zz_br h).1 c2
      exact HX v2 μ _ _ _ (lv_sub hl [2] rfl) G h
    have h := (zz_br h).2 c2
    refine lv_aload_n hx hb dX2_stepOn_12 rfl (lv_at hl 0 rfl) ?_
    refine lv_iload_n hx hb dX2_stepOn_13 rfl (lv_at hl 3 rfl) ?_
    refine lv_iload_n hx hb dX2_stepOn_14 rfl (lv_at hl 1 rfl) ?_
    refine zz_ci (rest := []) G h (fun r μ1 hf => zz_runV X G rc_2 t_r0 cv_X2_standing kw_485 (c_X2_standing l D ad cA t_r0 hf) ⟨rfl, rfl, Nat.le_of_ble_eq_true rfl, Nat.le_of_ble_eq_true rfl⟩ rfl rfl hl.1 (Nat.le_of_ble_eq_true rfl) dX2_stepOn_15) (fun x3 μ H locs G h => ?_)
    refine lv_iconst (v := (1 : Int32)) hx hb dX2_stepOn_18 (by decide) ?_
    refine lv_icmp_ne (tgt := 28) hx hb dX2_stepOn_19 (by decide) (fun c4 => ?_) (fun c4 => ?_)
    · have h := (zz_br h).1 c4
      obtain ⟨x5, ex5, h⟩ := zz_let h
      refine lv_iinc (v := x5) (lv' := [(3, .int x5), (0, .ref (ad r0)), (1, .int v1), (2, .int v2)]) hx hb dX2_stepOn_28 hl (k := 3) rfl (by rw [← ex5]; rfl) (by decide) rfl (fun ls hl => ?_)
      refine lv_goto (tgt := 4) hx hb dX2_stepOn_31 (by decide) ?_
      exact ih v2 x5 μ _ _ _ (lv_sub hl [1, 2, 3, 0] rfl) G h
    have h := (zz_br h).2 (fun q => q c4)
    refine lv_iload_n hx hb dX2_stepOn_22 rfl (lv_at hl 2 rfl) ?_
    refine lv_iconst (v := (1 : Int32)) hx hb dX2_stepOn_23 (by decide) ?_
    refine lv_iload_n hx hb dX2_stepOn_24 rfl (lv_at hl 3 rfl) ?_
    refine lv_ishl hx hb dX2_stepOn_25 ?_
    refine lv_ior hx hb dX2_stepOn_26 ?_
    refine zz_vi h (fun x6 h => ?_)
    refine lv_istore_n (lv' := [(2, .int x6), (0, .ref (ad r0)), (1, .int v1), (3, .int v3)]) hx hb dX2_stepOn_27 rfl hl (by decide) rfl (fun ls hl => ?_)
    obtain ⟨x7, ex7, h⟩ := zz_let h
    refine lv_iinc (v := x7) (lv' := [(3, .int x7), (2, .int x6), (0, .ref (ad r0)), (1, .int v1)]) hx hb dX2_stepOn_28 hl (k := 3) rfl (by rw [← ex7]; rfl) (by decide) rfl (fun ls hl => ?_)
    refine lv_goto (tgt := 4) hx hb dX2_stepOn_31 (by decide) ?_
    exact ih x6 x7 μ _ _ _ (lv_sub hl [2, 3, 1, 0] rfl) G h
set_option maxHeartbeats 4000000 in
set_option maxRecDepth 100000 in
theorem c_X2_stepOn (l : Launch) (D : va_G) (ad : Nat → Nat) (cA : Nat → ClassId) {r0 : Nat} (t_r0 : zty r0 = 2) {a1 : Int32} {μ : zM} {r : Int32} {μ' : zM} (h : f_X2_stepOn r0 a1 μ = some (r, μ')) : zMet true D ad cA l yX2_stepOn cX2_stepOn 4 (some .int) ({ frames := 2, cells := 0, slots := 0, locals := 44 } : Room) [.ref (ad r0), .int a1] μ (zQi true D ad cA r μ') := by
  refine zMet_of "ButlerWeather$House" ⟨by decide, rfl⟩ (Nat.le_of_ble_eq_true rfl) ?_
  intro p e s m args below meth c X G hr hlk ls hl
  have hl : lv_has ls 4 [(0, .ref (ad r0)), (1, .int a1)] := hl
  obtain ⟨hx, hb, hml, hown, hts, -, -, -⟩ := id X
  obtain ⟨Q, hQ⟩ : ∃ Q, Q = MQ below (zQi true D ad cA r μ') args s 0 0 (zA true ad) := ⟨_, rfl⟩
  rw [← hQ]
  unfold f_X2_stepOn at h
  refine lv_iconst (v := (0 : Int32)) hx hb dX2_stepOn_0 (by decide) ?_
  refine lv_istore_n (lv' := [(2, .int (0 : Int32)), (0, .ref (ad r0)), (1, .int a1)]) hx hb dX2_stepOn_1 rfl hl (by decide) rfl (fun ls hl => ?_)
  refine lv_iconst (v := (0 : Int32)) hx hb dX2_stepOn_2 (by decide) ?_
  refine lv_istore_n (lv' := [(3, .int (0 : Int32)), (2, .int (0 : Int32)), (0, .ref (ad r0)), (1, .int a1)]) hx hb dX2_stepOn_3 rfl hl (by decide) rfl (fun ls hl => ?_)
  refine w_X2_stepOn_L4 X hQ hr hlk t_r0 (fun x8 μ H locs ls hl G h => ?_) 400 (0 : Int32) (0 : Int32) μ _ _ _ (lv_sub hl [2, 3, 1, 0] rfl) G h
  refine lv_iload_n hx hb dX2_stepOn_34 rfl (lv_at hl 0 rfl) ?_
  rw [hQ]
  exact zz_iret X G hr hlk dX2_stepOn_35 h
set_option maxHeartbeats 4000000 in
set_option maxRecDepth 100000 in
theorem w_X2_total_L4 {p : Program} {l : Launch} {e : Env} {s : State} {m : MethodId} {args : Array Value} {below : List Frame} {meth : Method} {c : Code} {Q : State → Prop} {D : va_G} {ad : Nat → Nat} {cA : Nat → ClassId} {r : Int32} {μ' : zM} (X : zX true D ad cA p s m args c cX2_total "ButlerWeather$House" 3) (hQ : Q = MQ below (zQi true D ad cA r μ') args s 0 0 (zA true ad)) (hr : meth.sig.returnType = (some .int)) (hlk : meth.locks = false) {r0 : Nat} (t_r0 : zty r0 = 2) {kx : Int32 → zM → Option (Int32 × zM)} (HX : ∀ (w1 : Int32) (μ : zM) (H : Heap) (locs : List Loc) (ls : Array Slot), lv_has ls 3 [(1, .int w1)] → zG true D ad cA s μ H locs → kx w1 μ = some (r, μ') → W p l e ({ frames := 1, cells := 0, slots := 0, locals := 21 } : Room) s m args below meth c H locs 0 0 Q (F0 m 55 ls [])) : ∀ (n : Nat) (v1 : Int32) (v2 : Int32) (μ : zM) (H : Heap) (locs : List Loc) (ls : Array Slot), lv_has ls 3 [(0, .ref (ad r0)), (1, .int v1), (2, .int v2)] → zG true D ad cA s μ H locs → f_X2_total_L4 r0 kx n v1 v2 μ = some (r, μ') → W p l e ({ frames := 1, cells := 0, slots := 0, locals := 21 } : Room) s m args below meth c H locs 0 0 Q (F0 m 4 ls []) := by
  obtain ⟨hx, hb, hml, hown, hts, -, -, -⟩ := id X
  intro n
  induction n with
  | zero =>
    intro v1 v2 μ H locs ls hl G h
    cases (show (none : Option (Int32 × zM)) = some (r, μ') from h)
  | succ n ih =>
    intro v1 v2 μ H locs ls hl G h
    rw [f_X2_total_L4] at h
    refine lv_iload_n hx hb dX2_total_4 rfl (lv_at hl 2 rfl) ?_
    refine lv_aload_n hx hb dX2_total_5 rfl (lv_at hl 0 rfl) ?_
    refine zz_geti X G fi_2_0 t_r0 kw_178 dX2_total_6 h (fun x1 h => ?_)
    refine lv_icmp_ge (tgt := 55) hx hb dX2_total_9 (by decide) (fun c2 => ?_) (fun c2 => ?_)
    · have h := (zz_br h).1 c2
      exact HX v1 μ _ _ _ (lv_sub hl [1] rfl) G h
    have h := (zz_br h).2 c2
    refine lv_aload_n hx hb dX2_total_12 rfl (lv_at hl 0 rfl) ?_
    refine zz_getr X G fr_2_11 t_r0 (rs_2_11 t_r0) kw_200 dX2_total_13 ?_
    refine lv_iload_n hx hb dX2_total_16 rfl (lv_at hl 2 rfl) ?_
    refine zz_iald X G ia_10 (ft_2_11 t_r0) dX2_total_17 h (fun x3 h => ?_)
    refine lv_iconst (v := (-1 : Int32)) hx hb dX2_total_18 (by decide) ?_
    refine lv_icmp_eq (tgt := 49) hx hb dX2_total_19 (by decide) (fun c4 => ?_) (fun c4 => ?_)
    · have h := (zz_br h).1 c4
      obtain ⟨x5, ex5, h⟩ := zz_let h
      refine lv_iinc (v := x5) (lv' := [(2, .int x5), (0, .ref (ad r0)), (1, .int v1)]) hx hb dX2_total_49 hl (k := 2) rfl (by rw [← ex5]; rfl) (by decide) rfl (fun ls hl => ?_)
      refine lv_goto (tgt := 4) hx hb dX2_total_52 (by decide) ?_
      exact ih v1 x5 μ _ _ _ (lv_sub hl [1, 2, 0] rfl) G h
    have h := (zz_br h).2 c4
    refine lv_iload_n hx hb dX2_total_22 rfl (lv_at hl 1 rfl) ?_
    refine lv_aload_n hx hb dX2_total_23 rfl (lv_at hl 0 rfl) ?_
    refine lv_iload_n hx hb dX2_total_24 rfl (lv_at hl 2 rfl) ?_
    refine zz_ci (rest := [.int v1]) G h (fun r μ1 hf => zz_runV X G rc_2 t_r0 cv_X2_warmer kw_494 (c_X2_warmer l D ad cA t_r0 hf) ⟨rfl, rfl, Nat.le_of_ble_eq_true rfl, Nat.le_of_ble_eq_true rfl⟩ rfl rfl hl.1 (Nat.le_of_ble_eq_true rfl) dX2_total_25) (fun x6 μ H locs G h => ?_)
    refine lv_aload_n hx hb dX2_total_28 rfl (lv_at hl 0 rfl) ?_
    refine zz_getr X G fr_2_4 t_r0 (rs_2_4 t_r0) kw_188 dX2_total_29 ?_
    refine lv_iload_n hx hb dX2_total_32 rfl (lv_at hl 2 rfl) ?_
    refine zz_iald X G ia_10 (ft_2_4 t_r0) dX2_total_33 h (fun x7 h => ?_)
    refine lv_bipush (v := (24 : Int32)) hx hb dX2_total_34 (by decide) ?_
    refine lv_aload_n hx hb dX2_total_36 rfl (lv_at hl 0 rfl) ?_
    refine zz_getr X G fr_2_11 t_r0 (rs_2_11 t_r0) kw_200 dX2_total_37 ?_
    refine lv_iload_n hx hb dX2_total_40 rfl (lv_at hl 2 rfl) ?_
    refine zz_iald X G ia_10 (ft_2_11 t_r0) dX2_total_41 h (fun x8 h => ?_)
    refine lv_isub hx hb dX2_total_42 ?_
    refine va_mmin hx hb (hml.trans hl.1.symm) hown (hts _ kw_345) (hts _ kw_346) (hts _ kw_80) (hts _ kw_347) (Nat.le_of_ble_eq_true rfl) (Nat.le_of_ble_eq_true rfl) (Nat.zero_le _) (Nat.zero_le _) dX2_total_43 ?_
    refine zz_vi h (fun x9 h => ?_)
    refine lv_imul hx hb dX2_total_46 ?_
    refine lv_iadd hx hb dX2_total_47 ?_
    refine zz_vi h (fun x10 h => ?_)
    refine lv_istore_n (lv' := [(1, .int x10), (0, .ref (ad r0)), (2, .int v2)]) hx hb dX2_total_48 rfl hl (by decide) rfl (fun ls hl => ?_)
    obtain ⟨x11, ex11, h⟩ := zz_let h
    refine lv_iinc (v := x11) (lv' := [(2, .int x11), (1, .int x10), (0, .ref (ad r0))]) hx hb dX2_total_49 hl (k := 2) rfl (by rw [← ex11]; rfl) (by decide) rfl (fun ls hl => ?_)
    refine lv_goto (tgt := 4) hx hb dX2_total_52 (by decide) ?_
    exact ih x10 x11 μ _ _ _ (lv_sub hl [2, 1, 0] rfl) G h
set_option maxHeartbeats 4000000 in
set_option maxRecDepth 100000 in
theorem c_X2_total (l : Launch) (D : va_G) (ad : Nat → Nat) (cA : Nat → ClassId) {r0 : Nat} (t_r0 : zty r0 = 2) {μ : zM} {r : Int32} {μ' : zM} (h : f_X2_total r0 μ = some (r, μ')) : zMet true D ad cA l yX2_total cX2_total 3 (some .int) ({ frames := 1, cells := 0, slots := 0, locals := 21 } : Room) [.ref (ad r0)] μ (zQi true D ad cA r μ') := by
  refine zMet_of "ButlerWeather$House" ⟨by decide, rfl⟩ (Nat.le_of_ble_eq_true rfl) ?_
  intro p e s m args below meth c X G hr hlk ls hl
  have hl : lv_has ls 3 [(0, .ref (ad r0))] := hl
  obtain ⟨hx, hb, hml, hown, hts, -, -, -⟩ := id X
  obtain ⟨Q, hQ⟩ : ∃ Q, Q = MQ below (zQi true D ad cA r μ') args s 0 0 (zA true ad) := ⟨_, rfl⟩
  rw [← hQ]
  unfold f_X2_total at h
  refine lv_iconst (v := (0 : Int32)) hx hb dX2_total_0 (by decide) ?_
  refine lv_istore_n (lv' := [(1, .int (0 : Int32)), (0, .ref (ad r0))]) hx hb dX2_total_1 rfl hl (by decide) rfl (fun ls hl => ?_)
  refine lv_iconst (v := (0 : Int32)) hx hb dX2_total_2 (by decide) ?_
  refine lv_istore_n (lv' := [(2, .int (0 : Int32)), (1, .int (0 : Int32)), (0, .ref (ad r0))]) hx hb dX2_total_3 rfl hl (by decide) rfl (fun ls hl => ?_)
  refine w_X2_total_L4 X hQ hr hlk t_r0 (fun x12 μ H locs ls hl G h => ?_) 400 (0 : Int32) (0 : Int32) μ _ _ _ (lv_sub hl [2, 1, 0] rfl) G h
  refine lv_iload_n hx hb dX2_total_55 rfl (lv_at hl 0 rfl) ?_
  rw [hQ]
  exact zz_iret X G hr hlk dX2_total_56 h
set_option maxHeartbeats 4000000 in
set_option maxRecDepth 100000 in
theorem w_X2_thoseWithADay_L4 {p : Program} {l : Launch} {e : Env} {s : State} {m : MethodId} {args : Array Value} {below : List Frame} {meth : Method} {c : Code} {Q : State → Prop} {D : va_G} {ad : Nat → Nat} {cA : Nat → ClassId} {r : Int32} {μ' : zM} (X : zX true D ad cA p s m args c cX2_thoseWithADay "ButlerWeather$House" 4) (hQ : Q = MQ below (zQi true D ad cA r μ') args s 0 0 (zA true ad)) (hr : meth.sig.returnType = (some .int)) (hlk : meth.locks = false) {r0 : Nat} (t_r0 : zty r0 = 2) {r1 : Nat} (t_r1 : zty r1 = 10) {kx : Int32 → zM → Option (Int32 × zM)} (HX : ∀ (w2 : Int32) (μ : zM) (H : Heap) (locs : List Loc) (ls : Array Slot), lv_has ls 4 [(2, .int w2)] → zG true D ad cA s μ H locs → kx w2 μ = some (r, μ') → W p l e ({ frames := 0, cells := 0, slots := 0, locals := 0 } : Room) s m args below meth c H locs 0 0 Q (F0 m 37 ls [])) : ∀ (n : Nat) (v2 : Int32) (v3 : Int32) (μ : zM) (H : Heap) (locs : List Loc) (ls : Array Slot), lv_has ls 4 [(0, .ref (ad r0)), (1, .ref (ad r1)), (2, .int v2), (3, .int v3)] → zG true D ad cA s μ H locs → f_X2_thoseWithADay_L4 r0 r1 kx n v2 v3 μ = some (r, μ') → W p l e ({ frames := 0, cells := 0, slots := 0, locals := 0 } : Room) s m args below meth c H locs 0 0 Q (F0 m 4 ls []) := by
  obtain ⟨hx, hb, hml, hown, hts, -, -, -⟩ := id X
  intro n
  induction n with
  | zero =>
    intro v2 v3 μ H locs ls hl G h
    cases (show (none : Option (Int32 × zM)) = some (r, μ') from h)
  | succ n ih =>
    intro v2 v3 μ H locs ls hl G h
    rw [f_X2_thoseWithADay_L4] at h
    refine lv_iload_n hx hb dX2_thoseWithADay_4 rfl (lv_at hl 3 rfl) ?_
    refine lv_aload_n hx hb dX2_thoseWithADay_5 rfl (lv_at hl 0 rfl) ?_
    refine zz_geti X G fi_2_0 t_r0 kw_178 dX2_thoseWithADay_6 h (fun x1 h => ?_)
    refine lv_icmp_ge (tgt := 37) hx hb dX2_thoseWithADay_9 (by decide) (fun c2 => ?_) (fun c2 => ?_)
    · have h := (zz_br h).1 c2
      exact HX v2 μ _ _ _ (lv_sub hl [2] rfl) G h
    have h := (zz_br h).2 c2
    refine lv_iload_n hx hb dX2_thoseWithADay_12 rfl (lv_at hl 3 rfl) ?_
    refine lv_aload_n hx hb dX2_thoseWithADay_13 rfl (lv_at hl 1 rfl) ?_
    refine zz_alen X G ia_10 t_r1 dX2_thoseWithADay_14 ?_
    refine lv_icmp_ge (tgt := 37) hx hb dX2_thoseWithADay_15 (by decide) (fun c3 => ?_) (fun c3 => ?_)
    · have h := (zz_br h).1 c3
      exact HX v2 μ _ _ _ (lv_sub hl [2] rfl) G h
    have h := (zz_br h).2 c3
    refine lv_aload_n hx hb dX2_thoseWithADay_18 rfl (lv_at hl 1 rfl) ?_
    refine lv_iload_n hx hb dX2_thoseWithADay_19 rfl (lv_at hl 3 rfl) ?_
    refine zz_iald X G ia_10 t_r1 dX2_thoseWithADay_20 h (fun x4 h => ?_)
    refine lv_iconst (v := (-1 : Int32)) hx hb dX2_thoseWithADay_21 (by decide) ?_
    refine lv_icmp_eq (tgt := 31) hx hb dX2_thoseWithADay_22 (by decide) (fun c5 => ?_) (fun c5 => ?_)
    · have h := (zz_br h).1 c5
      obtain ⟨x6, ex6, h⟩ := zz_let h
      refine lv_iinc (v := x6) (lv' := [(3, .int x6), (0, .ref (ad r0)), (1, .ref (ad r1)), (2, .int v2)]) hx hb dX2_thoseWithADay_31 hl (k := 3) rfl (by rw [← ex6]; rfl) (by decide) rfl (fun ls hl => ?_)
      refine lv_goto (tgt := 4) hx hb dX2_thoseWithADay_34 (by decide) ?_
      exact ih v2 x6 μ _ _ _ (lv_sub hl [1, 2, 3, 0] rfl) G h
    have h := (zz_br h).2 c5
    refine lv_iload_n hx hb dX2_thoseWithADay_25 rfl (lv_at hl 2 rfl) ?_
    refine lv_iconst (v := (1 : Int32)) hx hb dX2_thoseWithADay_26 (by decide) ?_
    refine lv_iload_n hx hb dX2_thoseWithADay_27 rfl (lv_at hl 3 rfl) ?_
    refine lv_ishl hx hb dX2_thoseWithADay_28 ?_
    refine lv_ior hx hb dX2_thoseWithADay_29 ?_
    refine zz_vi h (fun x7 h => ?_)
    refine lv_istore_n (lv' := [(2, .int x7), (0, .ref (ad r0)), (1, .ref (ad r1)), (3, .int v3)]) hx hb dX2_thoseWithADay_30 rfl hl (by decide) rfl (fun ls hl => ?_)
    obtain ⟨x8, ex8, h⟩ := zz_let h
    refine lv_iinc (v := x8) (lv' := [(3, .int x8), (2, .int x7), (0, .ref (ad r0)), (1, .ref (ad r1))]) hx hb dX2_thoseWithADay_31 hl (k := 3) rfl (by rw [← ex8]; rfl) (by decide) rfl (fun ls hl => ?_)
    refine lv_goto (tgt := 4) hx hb dX2_thoseWithADay_34 (by decide) ?_
    exact ih x7 x8 μ _ _ _ (lv_sub hl [2, 3, 1, 0] rfl) G h
set_option maxHeartbeats 4000000 in
set_option maxRecDepth 100000 in
theorem c_X2_thoseWithADay (l : Launch) (D : va_G) (ad : Nat → Nat) (cA : Nat → ClassId) {r0 : Nat} (t_r0 : zty r0 = 2) {r1 : Nat} (t_r1 : zty r1 = 10) {μ : zM} {r : Int32} {μ' : zM} (h : f_X2_thoseWithADay r0 r1 μ = some (r, μ')) : zMet true D ad cA l yX2_thoseWithADay cX2_thoseWithADay 4 (some .int) ({ frames := 0, cells := 0, slots := 0, locals := 0 } : Room) [.ref (ad r0), .ref (ad r1)] μ (zQi true D ad cA r μ') := by
  refine zMet_of "ButlerWeather$House" ⟨by decide, rfl⟩ (Nat.le_of_ble_eq_true rfl) ?_
  intro p e s m args below meth c X G hr hlk ls hl
  have hl : lv_has ls 4 [(0, .ref (ad r0)), (1, .ref (ad r1))] := hl
  obtain ⟨hx, hb, hml, hown, hts, -, -, -⟩ := id X
  obtain ⟨Q, hQ⟩ : ∃ Q, Q = MQ below (zQi true D ad cA r μ') args s 0 0 (zA true ad) := ⟨_, rfl⟩
  rw [← hQ]
  unfold f_X2_thoseWithADay at h
  refine lv_iconst (v := (0 : Int32)) hx hb dX2_thoseWithADay_0 (by decide) ?_
  refine lv_istore_n (lv' := [(2, .int (0 : Int32)), (0, .ref (ad r0)), (1, .ref (ad r1))]) hx hb dX2_thoseWithADay_1 rfl hl (by decide) rfl (fun ls hl => ?_)
  refine lv_iconst (v := (0 : Int32)) hx hb dX2_thoseWithADay_2 (by decide) ?_
  refine lv_istore_n (lv' := [(3, .int (0 : Int32)), (2, .int (0 : Int32)), (0, .ref (ad r0)), (1, .ref (ad r1))]) hx hb dX2_thoseWithADay_3 rfl hl (by decide) rfl (fun ls hl => ?_)
  refine w_X2_thoseWithADay_L4 X hQ hr hlk t_r0 t_r1 (fun x9 μ H locs ls hl G h => ?_) 400 (0 : Int32) (0 : Int32) μ _ _ _ (lv_sub hl [2, 3, 1, 0] rfl) G h
  refine lv_iload_n hx hb dX2_thoseWithADay_37 rfl (lv_at hl 0 rfl) ?_
  rw [hQ]
  exact zz_iret X G hr hlk dX2_thoseWithADay_38 h
