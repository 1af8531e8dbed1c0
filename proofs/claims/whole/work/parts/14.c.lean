-- CONTRACTS, by program
set_option maxHeartbeats 4000000 in
set_option maxRecDepth 100000 in
theorem w_X5_firstFault_L10 {p : Program} {l : Launch} {e : Env} {s : State} {m : MethodId} {args : Array Value} {below : List Frame} {meth : Method} {c : Code} {Q : State → Prop} {D : va_G} {ad : Nat → Nat} {cA : Nat → ClassId} {r : Int32} {μ' : zM} (X : zX true D ad cA p s m args c cX5_firstFault "ButlerWeather$Text" 5) (hQ : Q = MQ below (zQi true D ad cA r μ') args s 0 0 (zA true ad)) (hr : meth.sig.returnType = (some .int)) (hlk : meth.locks = false) {r0 : Nat} (t_r0 : zty r0 = 5) {v1 : Int32} {kx : zM → Option (Int32 × zM)} (HX : ∀ (μ : zM) (H : Heap) (locs : List Loc) (ls : Array Slot), lv_has ls 5 [(0, .ref (ad r0)), (1, .int v1)] → zG true D ad cA s μ H locs → kx  μ = some (r, μ') → W p l e ({ frames := 1, cells := 0, slots := 0, locals := 21 } : Room) s m args below meth c H locs 0 0 Q (F0 m 99 ls [])) : ∀ (n : Nat) (v2 : Int32) (μ : zM) (H : Heap) (locs : List Loc) (ls : Array Slot), lv_has ls 5 [(0, .ref (ad r0)), (1, .int v1), (2, .int v2)] → zG true D ad cA s μ H locs → f_X5_firstFault_L10 r0 v1 kx n v2 μ = some (r, μ') → W p l e ({ frames := 1, cells := 0, slots := 0, locals := 21 } : Room) s m args below meth c H locs 0 0 Q (F0 m 10 ls []) := by
  obtain ⟨hx, hb, hml, hown, hts, -, -, -⟩ := id X
  intro n
  induction n with
  | zero =>
    intro v2 μ H locs ls hl G h
    cases (show (none : Option (Int32 × zM)) = some (r, μ') from h)
  | succ n ih =>
    intro v2 μ H locs ls hl G h
    rw [f_X5_firstFault_L10] at h
    refine lv_iload_n hx hb dX5_firstFault_10 rfl (lv_at hl 2 rfl) ?_
    refine lv_aload_n hx hb dX5_firstFault_11 rfl (lv_at hl 0 rfl) ?_
    refine zz_geti X G fi_5_3 t_r0 kw_103 dX5_firstFault_12 h (fun x2 h => ?_)
    refine lv_icmp_ge (tgt := 99) hx hb dX5_firstFault_15 (by decide) (fun c3 => ?_) (fun c3 => ?_)
    · have h := (zz_br h).1 c3
      exact HX  μ _ _ _ (lv_sub hl [0, 1] rfl) G h
    have h := (zz_br h).2 c3
    refine lv_iload_n hx hb dX5_firstFault_18 rfl (lv_at hl 2 rfl) ?_
    refine lv_iload_n hx hb dX5_firstFault_19 rfl (lv_at hl 1 rfl) ?_
    obtain ⟨hd, h⟩ := zz_gd h
    refine lv_irem hx hb dX5_firstFault_20 hd ?_
    refine zz_vi h (fun x4 h => ?_)
    refine lv_istore_n (lv' := [(3, .int x4), (0, .ref (ad r0)), (1, .int v1), (2, .int v2)]) hx hb dX5_firstFault_21 rfl hl (by decide) rfl (fun ls hl => ?_)
    refine lv_iload_n hx hb dX5_firstFault_22 rfl (lv_at hl 0 rfl) ?_
    refine lv_aload_n hx hb dX5_firstFault_23 rfl (lv_at hl 1 rfl) ?_
    refine zz_getr X G fr_5_0 t_r0 rfl kw_100 dX5_firstFault_24 ?_
    refine zz_alenS X G (ft_5_0 t_r0) dX5_firstFault_27 ?_
    refine lv_icmp_ne (tgt := 50) hx hb dX5_firstFault_28 (by decide) (fun c5 => ?_) (fun c5 => ?_)
    · have h := (zz_br h).1 c5
      refine lv_iload_n hx hb dX5_firstFault_50 rfl (lv_at hl 3 rfl) ?_
      refine lv_iload_n hx hb dX5_firstFault_51 rfl (lv_at hl 2 rfl) ?_
      obtain ⟨hd, h⟩ := zz_gd h
      refine lv_idiv hx hb dX5_firstFault_52 hd ?_
      refine lv_aload_n hx hb dX5_firstFault_53 rfl (lv_at hl 1 rfl) ?_
      refine zz_geti X G fi_5_1 t_r0 kw_101 dX5_firstFault_54 h (fun x6 h => ?_)
      refine lv_icmp_ge (tgt := 83) hx hb dX5_firstFault_57 (by decide) (fun c7 => ?_) (fun c7 => ?_)
      · have h := (zz_br h).1 c7
        refine lv_iconst (v := (0 : Int32)) hx hb dX5_firstFault_83 (by decide) ?_
        refine lv_istore (lv' := [(4, .int (0 : Int32)), (3, .int x4), (0, .ref (ad r0)), (1, .int v1), (2, .int v2)]) hx hb dX5_firstFault_84 hl (by decide) rfl (fun ls hl => ?_)
        refine lv_iload hx hb dX5_firstFault_86 (lv_at hl 0 rfl) ?_
        refine lv_if_ne (tgt := 93) hx hb dX5_firstFault_88 (by decide) (fun c8 => ?_) (fun c8 => ?_)
        · have h := (zz_br h).1 c8
          obtain ⟨x9, ex9, h⟩ := zz_let h
          refine lv_iinc (v := x9) (lv' := [(2, .int x9), (4, .int (0 : Int32)), (3, .int x4), (0, .ref (ad r0)), (1, .int v1)]) hx hb dX5_firstFault_93 hl (k := 4) rfl (by rw [← ex9]; rfl) (by decide) rfl (fun ls hl => ?_)
          refine lv_goto (tgt := 10) hx hb dX5_firstFault_96 (by decide) ?_
          exact ih x9 μ _ _ _ (lv_sub hl [3, 4, 0] rfl) G h
        have h := (zz_br h).2 (fun q => q c8)
        refine lv_iload_n hx hb dX5_firstFault_91 rfl (lv_at hl 4 rfl) ?_
        rw [hQ]
        exact zz_iret X G hr hlk dX5_firstFault_92 h
      have h := (zz_br h).2 c7
      refine lv_aload_n hx hb dX5_firstFault_60 rfl (lv_at hl 1 rfl) ?_
      refine zz_getr X G fr_5_0 t_r0 rfl kw_100 dX5_firstFault_61 ?_
      refine lv_iload_n hx hb dX5_firstFault_64 rfl (lv_at hl 0 rfl) ?_
      refine zz_ialdS X G (ft_5_0 t_r0) dX5_firstFault_65 h (fun x10 h => ?_)
      refine lv_aload_n hx hb dX5_firstFault_66 rfl (lv_at hl 1 rfl) ?_
      refine zz_getr X G fr_5_2 t_r0 (rs_5_2 t_r0) kw_102 dX5_firstFault_67 ?_
      refine lv_iload_n hx hb dX5_firstFault_70 rfl (lv_at hl 3 rfl) ?_
      refine zz_iald X G ia_10 (ft_5_2 t_r0) dX5_firstFault_71 h (fun x11 h => ?_)
      refine zz_ci (rest := []) G h (fun r μ1 hf => zz_runS X G cs_X5_meaning kw_325 (c_X5_meaning l D ad cA  hf) ⟨rfl, rfl, Nat.le_of_ble_eq_true rfl, Nat.le_of_ble_eq_true rfl⟩ rfl rfl hl.1 (Nat.le_of_ble_eq_true rfl) dX5_firstFault_72) (fun x12 μ H locs G h => ?_)
      refine lv_iconst (v := (-1 : Int32)) hx hb dX5_firstFault_75 (by decide) ?_
      refine lv_icmp_eq (tgt := 83) hx hb dX5_firstFault_76 (by decide) (fun c13 => ?_) (fun c13 => ?_)
      · have h := (zz_br h).1 c13
        refine lv_iconst (v := (0 : Int32)) hx hb dX5_firstFault_83 (by decide) ?_
        refine lv_istore (lv' := [(4, .int (0 : Int32)), (3, .int x4), (0, .ref (ad r0)), (1, .int v1), (2, .int v2)]) hx hb dX5_firstFault_84 hl (by decide) rfl (fun ls hl => ?_)
        refine lv_iload hx hb dX5_firstFault_86 (lv_at hl 0 rfl) ?_
        refine lv_if_ne (tgt := 93) hx hb dX5_firstFault_88 (by decide) (fun c14 => ?_) (fun c14 => ?_)
        · have h := (zz_br h).1 c14
          obtain ⟨x15, ex15, h⟩ := zz_let h
          refine lv_iinc (v := x15) (lv' := [(2, .int x15), (4, .int (0 : Int32)), (3, .int x4), (0, .ref (ad r0)), (1, .int v1)]) hx hb dX5_firstFault_93 hl (k := 4) rfl (by rw [← ex15]; rfl) (by decide) rfl (fun ls hl => ?_)
          refine lv_goto (tgt := 10) hx hb dX5_firstFault_96 (by decide) ?_
          exact ih x15 μ _ _ _ (lv_sub hl [3, 4, 0] rfl) G h
        have h := (zz_br h).2 (fun q => q c14)
        refine lv_iload_n hx hb dX5_firstFault_91 rfl (lv_at hl 4 rfl) ?_
        rw [hQ]
        exact zz_iret X G hr hlk dX5_firstFault_92 h
      have h := (zz_br h).2 c13
      refine lv_iconst (v := (1 : Int32)) hx hb dX5_firstFault_79 (by decide) ?_
      refine lv_goto (tgt := 84) hx hb dX5_firstFault_80 (by decide) ?_
      refine lv_istore (lv' := [(4, .int (1 : Int32)), (3, .int x4), (0, .ref (ad r0)), (1, .int v1), (2, .int v2)]) hx hb dX5_firstFault_84 hl (by decide) rfl (fun ls hl => ?_)
      refine lv_iload hx hb dX5_firstFault_86 (lv_at hl 0 rfl) ?_
      refine lv_if_ne (tgt := 93) hx hb dX5_firstFault_88 (by decide) (fun c16 => ?_) (fun c16 => ?_)
      · have h := (zz_br h).1 c16
        obtain ⟨x17, ex17, h⟩ := zz_let h
        refine lv_iinc (v := x17) (lv' := [(2, .int x17), (4, .int (1 : Int32)), (3, .int x4), (0, .ref (ad r0)), (1, .int v1)]) hx hb dX5_firstFault_93 hl (k := 4) rfl (by rw [← ex17]; rfl) (by decide) rfl (fun ls hl => ?_)
        refine lv_goto (tgt := 10) hx hb dX5_firstFault_96 (by decide) ?_
        exact ih x17 μ _ _ _ (lv_sub hl [3, 4, 0] rfl) G h
      have h := (zz_br h).2 (fun q => q c16)
      refine lv_iload_n hx hb dX5_firstFault_91 rfl (lv_at hl 4 rfl) ?_
      rw [hQ]
      exact zz_iret X G hr hlk dX5_firstFault_92 h
    have h := (zz_br h).2 (fun q => q c5)
    refine lv_aload_n hx hb dX5_firstFault_31 rfl (lv_at hl 1 rfl) ?_
    refine zz_getr X G fr_5_2 t_r0 (rs_5_2 t_r0) kw_102 dX5_firstFault_32 ?_
    refine lv_iload_n hx hb dX5_firstFault_35 rfl (lv_at hl 3 rfl) ?_
    refine zz_iald X G ia_10 (ft_5_2 t_r0) dX5_firstFault_36 h (fun x18 h => ?_)
    refine lv_bipush (v := (59 : Int32)) hx hb dX5_firstFault_37 (by decide) ?_
    refine lv_icmp_ne (tgt := 46) hx hb dX5_firstFault_39 (by decide) (fun c19 => ?_) (fun c19 => ?_)
    · have h := (zz_br h).1 c19
      refine lv_iconst (v := (0 : Int32)) hx hb dX5_firstFault_46 (by decide) ?_
      refine lv_goto (tgt := 84) hx hb dX5_firstFault_47 (by decide) ?_
      refine lv_istore (lv' := [(4, .int (0 : Int32)), (3, .int x4), (0, .ref (ad r0)), (1, .int v1), (2, .int v2)]) hx hb dX5_firstFault_84 hl (by decide) rfl (fun ls hl => ?_)
      refine lv_iload hx hb dX5_firstFault_86 (lv_at hl 0 rfl) ?_
      refine lv_if_ne (tgt := 93) hx hb dX5_firstFault_88 (by decide) (fun c20 => ?_) (fun c20 => ?_)
      · have h := (zz_br h).1 c20
        obtain ⟨x21, ex21, h⟩ := zz_let h
        refine lv_iinc (v := x21) (lv' := [(2, .int x21), (4, .int (0 : Int32)), (3, .int x4), (0, .ref (ad r0)), (1, .int v1)]) hx hb dX5_firstFault_93 hl (k := 4) rfl (by rw [← ex21]; rfl) (by decide) rfl (fun ls hl => ?_)
        refine lv_goto (tgt := 10) hx hb dX5_firstFault_96 (by decide) ?_
        exact ih x21 μ _ _ _ (lv_sub hl [3, 4, 0] rfl) G h
      have h := (zz_br h).2 (fun q => q c20)
      refine lv_iload_n hx hb dX5_firstFault_91 rfl (lv_at hl 4 rfl) ?_
      rw [hQ]
      exact zz_iret X G hr hlk dX5_firstFault_92 h
    have h := (zz_br h).2 (fun q => q c19)
    refine lv_iconst (v := (1 : Int32)) hx hb dX5_firstFault_42 (by decide) ?_
    refine lv_goto (tgt := 84) hx hb dX5_firstFault_43 (by decide) ?_
    refine lv_istore (lv' := [(4, .int (1 : Int32)), (3, .int x4), (0, .ref (ad r0)), (1, .int v1), (2, .int v2)]) hx hb dX5_firstFault_84 hl (by decide) rfl (fun ls hl => ?_)
    refine lv_iload hx hb dX5_firstFault_86 (lv_at hl 0 rfl) ?_
    refine lv_if_ne (tgt := 93) hx hb dX5_firstFault_88 (by decide) (fun c22 => ?_) (fun c22 => ?_)
    · have h := (zz_br h).1 c22
      obtain ⟨x23, ex23, h⟩ := zz_let h
      refine lv_iinc (v := x23) (lv' := [(2, .int x23), (4, .int (1 : Int32)), (3, .int x4), (0, .ref (ad r0)), (1, .int v1)]) hx hb dX5_firstFault_93 hl (k := 4) rfl (by rw [← ex23]; rfl) (by decide) rfl (fun ls hl => ?_)
      refine lv_goto (tgt := 10) hx hb dX5_firstFault_96 (by decide) ?_
      exact ih x23 μ _ _ _ (lv_sub hl [3, 4, 0] rfl) G h
    have h := (zz_br h).2 (fun q => q c22)
    refine lv_iload_n hx hb dX5_firstFault_91 rfl (lv_at hl 4 rfl) ?_
    rw [hQ]
    exact zz_iret X G hr hlk dX5_firstFault_92 h
set_option maxHeartbeats 4000000 in
set_option maxRecDepth 100000 in
theorem c_X5_firstFault (l : Launch) (D : va_G) (ad : Nat → Nat) (cA : Nat → ClassId) {r0 : Nat} (t_r0 : zty r0 = 5) {μ : zM} {r : Int32} {μ' : zM} (h : f_X5_firstFault r0 μ = some (r, μ')) : zMet true D ad cA l yX5_firstFault cX5_firstFault 5 (some .int) ({ frames := 1, cells := 0, slots := 0, locals := 21 } : Room) [.ref (ad r0)] μ (zQi true D ad cA r μ') := by
  refine zMet_of "ButlerWeather$Text" ⟨by decide, rfl⟩ (Nat.le_of_ble_eq_true rfl) ?_
  intro p e s m args below meth c X G hr hlk ls hl
  have hl : lv_has ls 5 [(0, .ref (ad r0))] := hl
  obtain ⟨hx, hb, hml, hown, hts, -, -, -⟩ := id X
  obtain ⟨Q, hQ⟩ : ∃ Q, Q = MQ below (zQi true D ad cA r μ') args s 0 0 (zA true ad) := ⟨_, rfl⟩
  rw [← hQ]
  unfold f_X5_firstFault at h
  refine lv_aload_n hx hb dX5_firstFault_0 rfl (lv_at hl 0 rfl) ?_
  refine zz_getr X G fr_5_0 t_r0 rfl kw_100 dX5_firstFault_1 ?_
  refine zz_alenS X G (ft_5_0 t_r0) dX5_firstFault_4 ?_
  refine lv_iconst (v := (1 : Int32)) hx hb dX5_firstFault_5 (by decide) ?_
  refine lv_iadd hx hb dX5_firstFault_6 ?_
  refine zz_vi h (fun x1 h => ?_)
  refine lv_istore_n (lv' := [(1, .int x1), (0, .ref (ad r0))]) hx hb dX5_firstFault_7 rfl hl (by decide) rfl (fun ls hl => ?_)
  refine lv_iconst (v := (0 : Int32)) hx hb dX5_firstFault_8 (by decide) ?_
  refine lv_istore_n (lv' := [(2, .int (0 : Int32)), (1, .int x1), (0, .ref (ad r0))]) hx hb dX5_firstFault_9 rfl hl (by decide) rfl (fun ls hl => ?_)
  refine w_X5_firstFault_L10 X hQ hr hlk t_r0 (fun  μ H locs ls hl G h => ?_) 400 (0 : Int32) μ _ _ _ (lv_sub hl [2, 1, 0] rfl) G h
  refine lv_aload_n hx hb dX5_firstFault_99 rfl (lv_at hl 0 rfl) ?_
  refine zz_geti X G fi_5_3 t_r0 kw_103 dX5_firstFault_100 h (fun x24 h => ?_)
  refine lv_if_eq (tgt := 120) hx hb dX5_firstFault_103 (by decide) (fun c25 => ?_) (fun c25 => ?_)
  · have h := (zz_br h).1 c25
    refine lv_iconst (v := (-1 : Int32)) hx hb dX5_firstFault_120 (by decide) ?_
    refine lv_goto (tgt := 128) hx hb dX5_firstFault_121 (by decide) ?_
    rw [hQ]
    exact zz_iret X G hr hlk dX5_firstFault_128 h
  have h := (zz_br h).2 c25
  refine lv_aload_n hx hb dX5_firstFault_106 rfl (lv_at hl 0 rfl) ?_
  refine zz_geti X G fi_5_3 t_r0 kw_103 dX5_firstFault_107 h (fun x26 h => ?_)
  refine lv_iload_n hx hb dX5_firstFault_110 rfl (lv_at hl 1 rfl) ?_
  obtain ⟨hd, h⟩ := zz_gd h
  refine lv_irem hx hb dX5_firstFault_111 hd ?_
  refine lv_aload_n hx hb dX5_firstFault_112 rfl (lv_at hl 0 rfl) ?_
  refine zz_getr X G fr_5_0 t_r0 rfl kw_100 dX5_firstFault_113 ?_
  refine zz_alenS X G (ft_5_0 t_r0) dX5_firstFault_116 ?_
  refine lv_icmp_ne (tgt := 124) hx hb dX5_firstFault_117 (by decide) (fun c27 => ?_) (fun c27 => ?_)
  · have h := (zz_br h).1 c27
    refine lv_aload_n hx hb dX5_firstFault_124 rfl (lv_at hl 0 rfl) ?_
    refine zz_geti X G fi_5_3 t_r0 kw_103 dX5_firstFault_125 h (fun x28 h => ?_)
    rw [hQ]
    exact zz_iret X G hr hlk dX5_firstFault_128 h
  have h := (zz_br h).2 (fun q => q c27)
  refine lv_iconst (v := (-1 : Int32)) hx hb dX5_firstFault_120 (by decide) ?_
  refine lv_goto (tgt := 128) hx hb dX5_firstFault_121 (by decide) ?_
  rw [hQ]
  exact zz_iret X G hr hlk dX5_firstFault_128 h
set_option maxHeartbeats 4000000 in
set_option maxRecDepth 100000 in
theorem c_X5_itemCount (l : Launch) (D : va_G) (ad : Nat → Nat) (cA : Nat → ClassId) {r0 : Nat} (t_r0 : zty r0 = 5) {μ : zM} {r : Int32} {μ' : zM} (h : f_X5_itemCount r0 μ = some (r, μ')) : zMet true D ad cA l yX5_itemCount cX5_itemCount 1 (some .int) ({ frames := 2, cells := 0, slots := 0, locals := 45 } : Room) [.ref (ad r0)] μ (zQi true D ad cA r μ') := by
  refine zMet_of "ButlerWeather$Text" ⟨by decide, rfl⟩ (Nat.le_of_ble_eq_true rfl) ?_
  intro p e s m args below meth c X G hr hlk ls hl
  have hl : lv_has ls 1 [(0, .ref (ad r0))] := hl
  obtain ⟨hx, hb, hml, hown, hts, -, -, -⟩ := id X
  obtain ⟨Q, hQ⟩ : ∃ Q, Q = MQ below (zQi true D ad cA r μ') args s 0 0 (zA true ad) := ⟨_, rfl⟩
  rw [← hQ]
  unfold f_X5_itemCount at h
  refine lv_aload_n hx hb dX5_itemCount_0 rfl (lv_at hl 0 rfl) ?_
  refine zz_ci (rest := []) G h (fun r μ1 hf => zz_runV X G rc_5 t_r0 cv_X5_firstFault kw_340 (c_X5_firstFault l D ad cA t_r0 hf) ⟨rfl, rfl, Nat.le_of_ble_eq_true rfl, Nat.le_of_ble_eq_true rfl⟩ rfl rfl hl.1 (Nat.le_of_ble_eq_true rfl) dX5_itemCount_1) (fun x1 μ H locs G h => ?_)
  refine lv_iconst (v := (-1 : Int32)) hx hb dX5_itemCount_4 (by decide) ?_
  refine lv_icmp_ne (tgt := 25) hx hb dX5_itemCount_5 (by decide) (fun c2 => ?_) (fun c2 => ?_)
  · have h := (zz_br h).1 c2
    refine lv_iconst (v := (0 : Int32)) hx hb dX5_itemCount_25 (by decide) ?_
    rw [hQ]
    exact zz_iret X G hr hlk dX5_itemCount_26 h
  have h := (zz_br h).2 (fun q => q c2)
  refine lv_aload_n hx hb dX5_itemCount_8 rfl (lv_at hl 0 rfl) ?_
  refine zz_geti X G fi_5_3 t_r0 kw_103 dX5_itemCount_9 h (fun x3 h => ?_)
  refine lv_iconst (v := (1 : Int32)) hx hb dX5_itemCount_12 (by decide) ?_
  refine lv_iadd hx hb dX5_itemCount_13 ?_
  refine lv_aload_n hx hb dX5_itemCount_14 rfl (lv_at hl 0 rfl) ?_
  refine zz_getr X G fr_5_0 t_r0 rfl kw_100 dX5_itemCount_15 ?_
  refine zz_alenS X G (ft_5_0 t_r0) dX5_itemCount_18 ?_
  refine lv_iconst (v := (1 : Int32)) hx hb dX5_itemCount_19 (by decide) ?_
  refine lv_iadd hx hb dX5_itemCount_20 ?_
  obtain ⟨hd, h⟩ := zz_gd h
  refine lv_idiv hx hb dX5_itemCount_21 hd ?_
  refine lv_goto (tgt := 26) hx hb dX5_itemCount_22 (by decide) ?_
  rw [hQ]
  exact zz_iret X G hr hlk dX5_itemCount_26 h
set_option maxHeartbeats 4000000 in
set_option maxRecDepth 100000 in
theorem c_X6_isText (l : Launch) (D : va_G) (ad : Nat → Nat) (cA : Nat → ClassId) {a0 : Int32} {μ : zM} {r : Int32} {μ' : zM} (h : f_X6_isText a0 μ = some (r, μ')) : zMet true D ad cA l yX6_isText cX6_isText 1 (some .boolean) ({ frames := 1, cells := 0, slots := 0, locals := 22 } : Room) [.int a0] μ (zQi true D ad cA r μ') := by
  refine zMet_of "ButlerWeather" ⟨by decide, rfl⟩ (Nat.le_of_ble_eq_true rfl) ?_
  intro p e s m args below meth c X G hr hlk ls hl
  have hl : lv_has ls 1 [(0, .int a0)] := hl
  obtain ⟨hx, hb, hml, hown, hts, -, -, -⟩ := id X
  obtain ⟨Q, hQ⟩ : ∃ Q, Q = MQ below (zQi true D ad cA r μ') args s 0 0 (zA true ad) := ⟨_, rfl⟩
  rw [← hQ]
  unfold f_X6_isText at h
  refine lv_iload_n hx hb dX6_isText_0 rfl (lv_at hl 0 rfl) ?_
  refine lv_iconst (v := (0 : Int32)) hx hb dX6_isText_1 (by decide) ?_
  refine lv_iconst (v := (1 : Int32)) hx hb dX6_isText_2 (by decide) ?_
  refine zz_ci (rest := []) G h (fun r μ1 hf => zz_runS X G cs_X6_within kw_289 (c_X6_within l D ad cA  hf) ⟨rfl, rfl, Nat.le_of_ble_eq_true rfl, Nat.le_of_ble_eq_true rfl⟩ rfl rfl hl.1 (Nat.le_of_ble_eq_true rfl) dX6_isText_3) (fun x1 μ H locs G h => ?_)
  rw [hQ]
  exact zz_zret X G hr hlk dX6_isText_6 h
set_option maxHeartbeats 4000000 in
set_option maxRecDepth 100000 in
theorem c_X6_type (l : Launch) (D : va_G) (ad : Nat → Nat) (cA : Nat → ClassId) {a1 : Int32} {a2 : Int32} {μ : zM} {r : Int32} {μ' : zM} (h : f_X6_type a1 a2 μ = some (r, μ')) : zMet true D ad cA l yX6_type cX6_type 3 (some .int) ({ frames := 2, cells := 0, slots := 0, locals := 42 } : Room) [.ref (ad 0), .int a1, .int a2] μ (zQi true D ad cA r μ') := by
  refine zMet_of "ButlerWeather" ⟨by decide, rfl⟩ (Nat.le_of_ble_eq_true rfl) ?_
  intro p e s m args below meth c X G hr hlk ls hl
  have hl : lv_has ls 3 [(0, .ref (ad 0)), (1, .int a1), (2, .int a2)] := hl
  obtain ⟨hx, hb, hml, hown, hts, -, -, -⟩ := id X
  obtain ⟨Q, hQ⟩ : ∃ Q, Q = MQ below (zQi true D ad cA r μ') args s 0 0 (zA true ad) := ⟨_, rfl⟩
  rw [← hQ]
  unfold f_X6_type at h
  refine lv_iload_n hx hb dX6_type_0 rfl (lv_at hl 1 rfl) ?_
  refine zz_ci (rest := []) G h (fun r μ1 hf => zz_runS X G cs_X6_isText kw_286 (c_X6_isText l D ad cA  hf) ⟨rfl, rfl, Nat.le_of_ble_eq_true rfl, Nat.le_of_ble_eq_true rfl⟩ rfl rfl hl.1 (Nat.le_of_ble_eq_true rfl) dX6_type_1) (fun x1 μ H locs G h => ?_)
  refine lv_if_eq (tgt := 18) hx hb dX6_type_4 (by decide) (fun c2 => ?_) (fun c2 => ?_)
  · have h := (zz_br h).1 c2
    refine lv_bipush (v := (-2 : Int32)) hx hb dX6_type_18 (by decide) ?_
    rw [hQ]
    exact zz_iret X G hr hlk dX6_type_20 h
  have h := (zz_br h).2 c2
  refine lv_iload_n hx hb dX6_type_7 rfl (lv_at hl 2 rfl) ?_
  refine lv_iconst (v := (0 : Int32)) hx hb dX6_type_8 (by decide) ?_
  refine lv_sipush (v := (255 : Int32)) hx hb dX6_type_9 (by decide) ?_
  refine zz_ci (rest := []) G h (fun r μ1 hf => zz_runS X G cs_X6_within kw_289 (c_X6_within l D ad cA  hf) ⟨rfl, rfl, Nat.le_of_ble_eq_true rfl, Nat.le_of_ble_eq_true rfl⟩ rfl rfl hl.1 (Nat.le_of_ble_eq_true rfl) dX6_type_12) (fun x3 μ H locs G h => ?_)
  refine lv_if_ne (tgt := 21) hx hb dX6_type_15 (by decide) (fun c4 => ?_) (fun c4 => ?_)
  · have h := (zz_br h).1 c4
    refine lv_aload_n hx hb dX6_type_21 rfl (lv_at hl 0 rfl) ?_
    refine zz_getr X G fr_6_0 tl_0 rl_0_0 kw_254 dX6_type_22 ?_
    refine lv_iload_n hx hb dX6_type_25 rfl (lv_at hl 1 rfl) ?_
    refine zz_aald X G ra_13 tl_1 dX6_type_26 h (fun q5 hq5 h => ?_)
    refine zz_ci (rest := []) G h (fun r μ1 hf => zz_runV X G rc_5 (rt_1 hq5) cv_X5_hasRoom kw_292 (c_X5_hasRoom l D ad cA (rt_1 hq5) hf) ⟨rfl, rfl, Nat.le_of_ble_eq_true rfl, Nat.le_of_ble_eq_true rfl⟩ rfl rfl hl.1 (Nat.le_of_ble_eq_true rfl) dX6_type_27) (fun x6 μ H locs G h => ?_)
    refine lv_if_ne (tgt := 36) hx hb dX6_type_30 (by decide) (fun c7 => ?_) (fun c7 => ?_)
    · have h := (zz_br h).1 c7
      refine lv_aload_n hx hb dX6_type_36 rfl (lv_at hl 0 rfl) ?_
      refine lv_iconst (v := (0 : Int32)) hx hb dX6_type_37 (by decide) ?_
      refine zz_puti X G fp_6_7 tl_0 kw_261 rfl rfl dX6_type_38 h (fun μ H locs G h => ?_)
      refine lv_aload_n hx hb dX6_type_41 rfl (lv_at hl 0 rfl) ?_
      refine zz_getr X G fr_6_0 tl_0 rl_0_0 kw_254 dX6_type_42 ?_
      refine lv_iload_n hx hb dX6_type_45 rfl (lv_at hl 1 rfl) ?_
      refine zz_aald X G ra_13 tl_1 dX6_type_46 h (fun q8 hq8 h => ?_)
      refine lv_iload_n hx hb dX6_type_47 rfl (lv_at hl 2 rfl) ?_
      refine zz_ci (rest := []) G h (fun r μ1 hf => zz_runV X G rc_5 (rt_1 hq8) cv_X5_append kw_296 (c_X5_append l D ad cA (rt_1 hq8) hf) ⟨rfl, rfl, Nat.le_of_ble_eq_true rfl, Nat.le_of_ble_eq_true rfl⟩ rfl rfl hl.1 (Nat.le_of_ble_eq_true rfl) dX6_type_48) (fun x9 μ H locs G h => ?_)
      rw [hQ]
      exact zz_iret X G hr hlk dX6_type_51 h
    have h := (zz_br h).2 (fun q => q c7)
    refine lv_bipush (v := (-4 : Int32)) hx hb dX6_type_33 (by decide) ?_
    rw [hQ]
    exact zz_iret X G hr hlk dX6_type_35 h
  have h := (zz_br h).2 (fun q => q c4)
  refine lv_bipush (v := (-2 : Int32)) hx hb dX6_type_18 (by decide) ?_
  rw [hQ]
  exact zz_iret X G hr hlk dX6_type_20 h
set_option maxHeartbeats 4000000 in
set_option maxRecDepth 100000 in
theorem c_X6_wipe (l : Launch) (D : va_G) (ad : Nat → Nat) (cA : Nat → ClassId) {a1 : Int32} {μ : zM} {r : Int32} {μ' : zM} (h : f_X6_wipe a1 μ = some (r, μ')) : zMet true D ad cA l yX6_wipe cX6_wipe 2 (some .int) ({ frames := 2, cells := 0, slots := 0, locals := 42 } : Room) [.ref (ad 0), .int a1] μ (zQi true D ad cA r μ') := by
  refine zMet_of "ButlerWeather" ⟨by decide, rfl⟩ (Nat.le_of_ble_eq_true rfl) ?_
  intro p e s m args below meth c X G hr hlk ls hl
  have hl : lv_has ls 2 [(0, .ref (ad 0)), (1, .int a1)] := hl
  obtain ⟨hx, hb, hml, hown, hts, -, -, -⟩ := id X
  obtain ⟨Q, hQ⟩ : ∃ Q, Q = MQ below (zQi true D ad cA r μ') args s 0 0 (zA true ad) := ⟨_, rfl⟩
  rw [← hQ]
  unfold f_X6_wipe at h
  refine lv_iload_n hx hb dX6_wipe_0 rfl (lv_at hl 1 rfl) ?_
  refine zz_ci (rest := []) G h (fun r μ1 hf => zz_runS X G cs_X6_isText kw_286 (c_X6_isText l D ad cA  hf) ⟨rfl, rfl, Nat.le_of_ble_eq_true rfl, Nat.le_of_ble_eq_true rfl⟩ rfl rfl hl.1 (Nat.le_of_ble_eq_true rfl) dX6_wipe_1) (fun x1 μ H locs G h => ?_)
  refine lv_if_ne (tgt := 10) hx hb dX6_wipe_4 (by decide) (fun c2 => ?_) (fun c2 => ?_)
  · have h := (zz_br h).1 c2
    refine lv_aload_n hx hb dX6_wipe_10 rfl (lv_at hl 0 rfl) ?_
    refine lv_iconst (v := (0 : Int32)) hx hb dX6_wipe_11 (by decide) ?_
    refine zz_puti X G fp_6_7 tl_0 kw_261 rfl rfl dX6_wipe_12 h (fun μ H locs G h => ?_)
    refine lv_aload_n hx hb dX6_wipe_15 rfl (lv_at hl 0 rfl) ?_
    refine zz_getr X G fr_6_0 tl_0 rl_0_0 kw_254 dX6_wipe_16 ?_
    refine lv_iload_n hx hb dX6_wipe_19 rfl (lv_at hl 1 rfl) ?_
    refine zz_aald X G ra_13 tl_1 dX6_wipe_20 h (fun q3 hq3 h => ?_)
    refine zz_ci (rest := []) G h (fun r μ1 hf => zz_runV X G rc_5 (rt_1 hq3) cv_X5_clear kw_305 (c_X5_clear l D ad cA (rt_1 hq3) hf) ⟨rfl, rfl, Nat.le_of_ble_eq_true rfl, Nat.le_of_ble_eq_true rfl⟩ rfl rfl hl.1 (Nat.le_of_ble_eq_true rfl) dX6_wipe_21) (fun x4 μ H locs G h => ?_)
    rw [hQ]
    exact zz_iret X G hr hlk dX6_wipe_24 h
  have h := (zz_br h).2 (fun q => q c2)
  refine lv_bipush (v := (-2 : Int32)) hx hb dX6_wipe_7 (by decide) ?_
  rw [hQ]
  exact zz_iret X G hr hlk dX6_wipe_9 h
set_option maxHeartbeats 4000000 in
set_option maxRecDepth 100000 in
theorem c_X6_undo (l : Launch) (D : va_G) (ad : Nat → Nat) (cA : Nat → ClassId) {a1 : Int32} {μ : zM} {r : Int32} {μ' : zM} (h : f_X6_undo a1 μ = some (r, μ')) : zMet true D ad cA l yX6_undo cX6_undo 2 (some .int) ({ frames := 2, cells := 0, slots := 0, locals := 42 } : Room) [.ref (ad 0), .int a1] μ (zQi true D ad cA r μ') := by
  refine zMet_of "ButlerWeather" ⟨by decide, rfl⟩ (Nat.le_of_ble_eq_true rfl) ?_
  intro p e s m args below meth c X G hr hlk ls hl
  have hl : lv_has ls 2 [(0, .ref (ad 0)), (1, .int a1)] := hl
  obtain ⟨hx, hb, hml, hown, hts, -, -, -⟩ := id X
  obtain ⟨Q, hQ⟩ : ∃ Q, Q = MQ below (zQi true D ad cA r μ') args s 0 0 (zA true ad) := ⟨_, rfl⟩
  rw [← hQ]
  unfold f_X6_undo at h
  refine lv_iload_n hx hb dX6_undo_0 rfl (lv_at hl 1 rfl) ?_
  refine zz_ci (rest := []) G h (fun r μ1 hf => zz_runS X G cs_X6_isText kw_286 (c_X6_isText l D ad cA  hf) ⟨rfl, rfl, Nat.le_of_ble_eq_true rfl, Nat.le_of_ble_eq_true rfl⟩ rfl rfl hl.1 (Nat.le_of_ble_eq_true rfl) dX6_undo_1) (fun x1 μ H locs G h => ?_)
  refine lv_if_ne (tgt := 10) hx hb dX6_undo_4 (by decide) (fun c2 => ?_) (fun c2 => ?_)
  · have h := (zz_br h).1 c2
    refine lv_aload_n hx hb dX6_undo_10 rfl (lv_at hl 0 rfl) ?_
    refine zz_getr X G fr_6_0 tl_0 rl_0_0 kw_254 dX6_undo_11 ?_
    refine lv_iload_n hx hb dX6_undo_14 rfl (lv_at hl 1 rfl) ?_
    refine zz_aald X G ra_13 tl_1 dX6_undo_15 h (fun q3 hq3 h => ?_)
    refine zz_geti X G fi_5_3 (rt_1 hq3) kw_104 dX6_undo_16 h (fun x4 h => ?_)
    refine lv_if_ne (tgt := 25) hx hb dX6_undo_19 (by decide) (fun c5 => ?_) (fun c5 => ?_)
    · have h := (zz_br h).1 c5
      refine lv_aload_n hx hb dX6_undo_25 rfl (lv_at hl 0 rfl) ?_
      refine lv_iconst (v := (0 : Int32)) hx hb dX6_undo_26 (by decide) ?_
      refine zz_puti X G fp_6_7 tl_0 kw_261 rfl rfl dX6_undo_27 h (fun μ H locs G h => ?_)
      refine lv_aload_n hx hb dX6_undo_30 rfl (lv_at hl 0 rfl) ?_
      refine zz_getr X G fr_6_0 tl_0 rl_0_0 kw_254 dX6_undo_31 ?_
      refine lv_iload_n hx hb dX6_undo_34 rfl (lv_at hl 1 rfl) ?_
      refine zz_aald X G ra_13 tl_1 dX6_undo_35 h (fun q6 hq6 h => ?_)
      refine zz_ci (rest := []) G h (fun r μ1 hf => zz_runV X G rc_5 (rt_1 hq6) cv_X5_dropLast kw_313 (c_X5_dropLast l D ad cA (rt_1 hq6) hf) ⟨rfl, rfl, Nat.le_of_ble_eq_true rfl, Nat.le_of_ble_eq_true rfl⟩ rfl rfl hl.1 (Nat.le_of_ble_eq_true rfl) dX6_undo_36) (fun x7 μ H locs G h => ?_)
      rw [hQ]
      exact zz_iret X G hr hlk dX6_undo_39 h
    have h := (zz_br h).2 (fun q => q c5)
    refine lv_bipush (v := (-3 : Int32)) hx hb dX6_undo_22 (by decide) ?_
    rw [hQ]
    exact zz_iret X G hr hlk dX6_undo_24 h
  have h := (zz_br h).2 (fun q => q c2)
  refine lv_bipush (v := (-2 : Int32)) hx hb dX6_undo_7 (by decide) ?_
  rw [hQ]
  exact zz_iret X G hr hlk dX6_undo_9 h
set_option maxHeartbeats 4000000 in
set_option maxRecDepth 100000 in
theorem c_X6_fault (l : Launch) (D : va_G) (ad : Nat → Nat) (cA : Nat → ClassId) {a1 : Int32} {μ : zM} {r : Int32} {μ' : zM} (h : f_X6_fault a1 μ = some (r, μ')) : zMet true D ad cA l yX6_fault cX6_fault 2 (some .int) ({ frames := 2, cells := 0, slots := 0, locals := 45 } : Room) [.ref (ad 0), .int a1] μ (zQi true D ad cA r μ') := by
  refine zMet_of "ButlerWeather" ⟨by decide, rfl⟩ (Nat.le_of_ble_eq_true rfl) ?_
  intro p e s m args below meth c X G hr hlk ls hl
  have hl : lv_has ls 2 [(0, .ref (ad 0)), (1, .int a1)] := hl
  obtain ⟨hx, hb, hml, hown, hts, -, -, -⟩ := id X
  obtain ⟨Q, hQ⟩ : ∃ Q, Q = MQ below (zQi true D ad cA r μ') args s 0 0 (zA true ad) := ⟨_, rfl⟩
  rw [← hQ]
  unfold f_X6_fault at h
  refine lv_iload_n hx hb dX6_fault_0 rfl (lv_at hl 1 rfl) ?_
  refine zz_ci (rest := []) G h (fun r μ1 hf => zz_runS X G cs_X6_isText kw_286 (c_X6_isText l D ad cA  hf) ⟨rfl, rfl, Nat.le_of_ble_eq_true rfl, Nat.le_of_ble_eq_true rfl⟩ rfl rfl hl.1 (Nat.le_of_ble_eq_true rfl) dX6_fault_1) (fun x1 μ H locs G h => ?_)
  refine lv_if_eq (tgt := 19) hx hb dX6_fault_4 (by decide) (fun c2 => ?_) (fun c2 => ?_)
  · have h := (zz_br h).1 c2
    refine lv_bipush (v := (-2 : Int32)) hx hb dX6_fault_19 (by decide) ?_
    rw [hQ]
    exact zz_iret X G hr hlk dX6_fault_21 h
  have h := (zz_br h).2 c2
  refine lv_aload_n hx hb dX6_fault_7 rfl (lv_at hl 0 rfl) ?_
  refine zz_getr X G fr_6_0 tl_0 rl_0_0 kw_254 dX6_fault_8 ?_
  refine lv_iload_n hx hb dX6_fault_11 rfl (lv_at hl 1 rfl) ?_
  refine zz_aald X G ra_13 tl_1 dX6_fault_12 h (fun q3 hq3 h => ?_)
  refine zz_ci (rest := []) G h (fun r μ1 hf => zz_runV X G rc_5 (rt_1 hq3) cv_X5_firstFault kw_321 (c_X5_firstFault l D ad cA (rt_1 hq3) hf) ⟨rfl, rfl, Nat.le_of_ble_eq_true rfl, Nat.le_of_ble_eq_true rfl⟩ rfl rfl hl.1 (Nat.le_of_ble_eq_true rfl) dX6_fault_13) (fun x4 μ H locs G h => ?_)
  refine lv_goto (tgt := 21) hx hb dX6_fault_16 (by decide) ?_
  rw [hQ]
  exact zz_iret X G hr hlk dX6_fault_21 h
set_option maxHeartbeats 4000000 in
set_option maxRecDepth 100000 in
theorem c_X6_told (l : Launch) (D : va_G) (ad : Nat → Nat) (cA : Nat → ClassId)  {μ : zM} {r : Unit} {μ' : zM} (h : f_X6_told μ = some (r, μ')) : zMet true D ad cA l yX6_told cX6_told 3 (some (.object "ButlerWeather$House")) ({ frames := 3, cells := 0, slots := 0, locals := 72 } : Room) [.ref (ad 0)] μ (zQr true D ad cA 21 r μ') := by
  refine zMet_of "ButlerWeather" ⟨by decide, rfl⟩ (Nat.le_of_ble_eq_true rfl) ?_
  intro p e s m args below meth c X G hr hlk ls hl
  have hl : lv_has ls 3 [(0, .ref (ad 0))] := hl
  obtain ⟨hx, hb, hml, hown, hts, -, -, -⟩ := id X
  obtain ⟨Q, hQ⟩ : ∃ Q, Q = MQ below (zQr true D ad cA 21 r μ') args s 0 0 (zA true ad) := ⟨_, rfl⟩
  rw [← hQ]
  unfold f_X6_told at h
  refine lv_aload_n hx hb dX6_told_0 rfl (lv_at hl 0 rfl) ?_
  refine zz_geti X G fi_6_7 tl_0 kw_261 dX6_told_1 h (fun x1 h => ?_)
  refine lv_if_ne (tgt := 77) hx hb dX6_told_4 (by decide) (fun c2 => ?_) (fun c2 => ?_)
  · have h := (zz_br h).1 c2
    refine lv_aload_n hx hb dX6_told_77 rfl (lv_at hl 0 rfl) ?_
    refine zz_getr X G fr_6_4 tl_0 rl_0_4 kw_258 dX6_told_78 ?_
    rw [hQ]
    exact zz_aret X G hr hlk dX6_told_81 h
  have h := (zz_br h).2 (fun q => q c2)
  refine lv_aload_n hx hb dX6_told_7 rfl (lv_at hl 0 rfl) ?_
  refine zz_getr X G fr_6_0 tl_0 rl_0_0 kw_254 dX6_told_8 ?_
  refine lv_iconst (v := (0 : Int32)) hx hb dX6_told_11 (by decide) ?_
  refine zz_aald X G ra_13 tl_1 dX6_told_12 h (fun q3 hq3 h => ?_)
  refine lv_astore_n (lv' := [(1, .ref (ad q3)), (0, .ref (ad 0))]) hx hb dX6_told_13 rfl hl (by decide) rfl (fun ls hl => ?_)
  refine lv_aload_n hx hb dX6_told_14 rfl (lv_at hl 1 rfl) ?_
  refine zz_getr X G fr_6_0 tl_0 rl_0_0 kw_254 dX6_told_15 ?_
  refine lv_iconst (v := (1 : Int32)) hx hb dX6_told_18 (by decide) ?_
  refine zz_aald X G ra_13 tl_1 dX6_told_19 h (fun q4 hq4 h => ?_)
  refine lv_astore_n (lv' := [(2, .ref (ad q4)), (1, .ref (ad q3)), (0, .ref (ad 0))]) hx hb dX6_told_20 rfl hl (by decide) rfl (fun ls hl => ?_)
  refine lv_aload_n hx hb dX6_told_21 rfl (lv_at hl 2 rfl) ?_
  refine zz_getr X G fr_6_4 tl_0 rl_0_4 kw_258 dX6_told_22 ?_
  refine lv_aload_n hx hb dX6_told_25 rfl (lv_at hl 1 rfl) ?_
  refine lv_aload_n hx hb dX6_told_26 rfl (lv_at hl 1 rfl) ?_
  refine zz_ci (rest := [.ref (ad q3), .ref (ad 21)]) G h (fun r μ1 hf => zz_runV X G rc_5 (rt_1 hq3) cv_X5_itemCount kw_336 (c_X5_itemCount l D ad cA (rt_1 hq3) hf) ⟨rfl, rfl, Nat.le_of_ble_eq_true rfl, Nat.le_of_ble_eq_true rfl⟩ rfl rfl hl.1 (Nat.le_of_ble_eq_true rfl) dX6_told_27) (fun x5 μ H locs G h => ?_)
  refine zz_cv (rest := []) G h (fun r μ1 hf => zz_runV X G rc_2 tl_21 cv_X2_takeCallers kw_341 (c_X2_takeCallers l D ad cA tl_21 (rt_1 hq3) hf) ⟨rfl, rfl, Nat.le_of_ble_eq_true rfl, Nat.le_of_ble_eq_true rfl⟩ rfl rfl hl.1 (Nat.le_of_ble_eq_true rfl) dX6_told_30) (fun _ μ H locs G h => ?_)
  refine lv_aload_n hx hb dX6_told_33 rfl (lv_at hl 2 rfl) ?_
  refine zz_getr X G fr_6_4 tl_0 rl_0_4 kw_258 dX6_told_34 ?_
  refine lv_aload_n hx hb dX6_told_37 rfl (lv_at hl 0 rfl) ?_
  refine lv_aload_n hx hb dX6_told_38 rfl (lv_at hl 0 rfl) ?_
  refine zz_ci (rest := [.ref (ad q4), .ref (ad 21)]) G h (fun r μ1 hf => zz_runV X G rc_5 (rt_1 hq4) cv_X5_itemCount kw_336 (c_X5_itemCount l D ad cA (rt_1 hq4) hf) ⟨rfl, rfl, Nat.le_of_ble_eq_true rfl, Nat.le_of_ble_eq_true rfl⟩ rfl rfl hl.1 (Nat.le_of_ble_eq_true rfl) dX6_told_39) (fun x6 μ H locs G h => ?_)
  refine zz_cv (rest := []) G h (fun r μ1 hf => zz_runV X G rc_2 tl_21 cv_X2_takeMen kw_353 (c_X2_takeMen l D ad cA tl_21 (rt_1 hq4) hf) ⟨rfl, rfl, Nat.le_of_ble_eq_true rfl, Nat.le_of_ble_eq_true rfl⟩ rfl rfl hl.1 (Nat.le_of_ble_eq_true rfl) dX6_told_42) (fun _ μ H locs G h => ?_)
  refine lv_aload_n hx hb dX6_told_45 rfl (lv_at hl 2 rfl) ?_
  refine zz_getr X G fr_6_1 tl_0 rl_0_1 kw_255 dX6_told_46 ?_
  refine lv_iconst (v := (0 : Int32)) hx hb dX6_told_49 (by decide) ?_
  refine lv_aload_n hx hb dX6_told_50 rfl (lv_at hl 2 rfl) ?_
  refine zz_getr X G fr_6_4 tl_0 rl_0_4 kw_258 dX6_told_51 ?_
  refine zz_cv (rest := []) G h (fun r μ1 hf => zz_runV X G rc_0 tl_6 cv_X0_inviteAllBut kw_357 (c_X0_inviteAllBut l D ad cA tl_21 hf) ⟨rfl, rfl, Nat.le_of_ble_eq_true rfl, Nat.le_of_ble_eq_true rfl⟩ rfl rfl hl.1 (Nat.le_of_ble_eq_true rfl) dX6_told_54) (fun _ μ H locs G h => ?_)
  refine lv_aload_n hx hb dX6_told_57 rfl (lv_at hl 2 rfl) ?_
  refine zz_getr X G fr_6_4 tl_0 rl_0_4 kw_258 dX6_told_58 ?_
  refine zz_cv (rest := []) G h (fun r μ1 hf => zz_runV X G rc_2 tl_21 cv_X2_live kw_370 (c_X2_live l D ad cA tl_21 hf) ⟨rfl, rfl, Nat.le_of_ble_eq_true rfl, Nat.le_of_ble_eq_true rfl⟩ rfl rfl hl.1 (Nat.le_of_ble_eq_true rfl) dX6_told_61) (fun _ μ H locs G h => ?_)
  refine lv_aload_n hx hb dX6_told_64 rfl (lv_at hl 2 rfl) ?_
  refine zz_getr X G fr_6_6 tl_0 rl_0_6 kw_260 dX6_told_65 ?_
  refine lv_iconst (v := (0 : Int32)) hx hb dX6_told_68 (by decide) ?_
  refine zz_puti X G fp_3_1 tl_47 kw_245 rfl rfl dX6_told_69 h (fun μ H locs G h => ?_)
  refine lv_aload_n hx hb dX6_told_72 rfl (lv_at hl 2 rfl) ?_
  refine lv_iconst (v := (1 : Int32)) hx hb dX6_told_73 (by decide) ?_
  refine zz_puti X G fp_6_7 tl_0 kw_261 rfl rfl dX6_told_74 h (fun μ H locs G h => ?_)
  refine lv_aload_n hx hb dX6_told_77 rfl (lv_at hl 2 rfl) ?_
  refine zz_getr X G fr_6_4 tl_0 rl_0_4 kw_258 dX6_told_78 ?_
  rw [hQ]
  exact zz_aret X G hr hlk dX6_told_81 h
set_option maxHeartbeats 4000000 in
set_option maxRecDepth 100000 in
theorem c_X6_caller (l : Launch) (D : va_G) (ad : Nat → Nat) (cA : Nat → ClassId) {a1 : Int32} {a2 : Int32} {μ : zM} {r : Int32} {μ' : zM} (h : f_X6_caller a1 a2 μ = some (r, μ')) : zMet true D ad cA l yX6_caller cX6_caller 4 (some .int) ({ frames := 4, cells := 0, slots := 0, locals := 94 } : Room) [.ref (ad 0), .int a1, .int a2] μ (zQi true D ad cA r μ') := by
  refine zMet_of "ButlerWeather" ⟨by decide, rfl⟩ (Nat.le_of_ble_eq_true rfl) ?_
  intro p e s m args below meth c X G hr hlk ls hl
  have hl : lv_has ls 4 [(0, .ref (ad 0)), (1, .int a1), (2, .int a2)] := hl
  obtain ⟨hx, hb, hml, hown, hts, -, -, -⟩ := id X
  obtain ⟨Q, hQ⟩ : ∃ Q, Q = MQ below (zQi true D ad cA r μ') args s 0 0 (zA true ad) := ⟨_, rfl⟩
  rw [← hQ]
  unfold f_X6_caller at h
  refine lv_aload_n hx hb dX6_caller_0 rfl (lv_at hl 0 rfl) ?_
  refine zz_cr (rest := []) G h (fun r μ1 hf => zz_runV X G rc_6 tl_0 cv_X6_told kw_332 (c_X6_told l D ad cA  hf) ⟨rfl, rfl, Nat.le_of_ble_eq_true rfl, Nat.le_of_ble_eq_true rfl⟩ rfl rfl hl.1 (Nat.le_of_ble_eq_true rfl) dX6_caller_1) (fun _ μ H locs G h => ?_)
  refine lv_astore_n (lv' := [(3, .ref (ad 21)), (0, .ref (ad 0)), (1, .int a1), (2, .int a2)]) hx hb dX6_caller_4 rfl hl (by decide) rfl (fun ls hl => ?_)
  refine lv_aload_n hx hb dX6_caller_5 rfl (lv_at hl 0 rfl) ?_
  refine lv_iload_n hx hb dX6_caller_6 rfl (lv_at hl 2 rfl) ?_
  refine zz_ci (rest := []) G h (fun r μ1 hf => zz_runV X G rc_2 tl_21 cv_X2_hasCaller kw_406 (c_X2_hasCaller l D ad cA tl_21 hf) ⟨rfl, rfl, Nat.le_of_ble_eq_true rfl, Nat.le_of_ble_eq_true rfl⟩ rfl rfl hl.1 (Nat.le_of_ble_eq_true rfl) dX6_caller_7) (fun x1 μ H locs G h => ?_)
  refine lv_if_ne (tgt := 16) hx hb dX6_caller_10 (by decide) (fun c2 => ?_) (fun c2 => ?_)
  · have h := (zz_br h).1 c2
    refine lv_iload_n hx hb dX6_caller_16 rfl (lv_at hl 3 rfl) ?_
    refine zz_sw (k := (0 : Int32)) h (fun c3 h => ?_) (fun c3 h => ?_)
    · refine lv_tableIn (off := 31) (tgt := 48) hx hb dX6_caller_17 (by rw [c3]; decide) (by rw [c3]; decide) (by rw [c3]; rfl) (by decide) ?_
      refine lv_aload_n hx hb dX6_caller_48 rfl (lv_at hl 0 rfl) ?_
      refine zz_getr X G fr_2_1 tl_21 rl_21_1 kw_182 dX6_caller_49 ?_
      refine lv_iload_n hx hb dX6_caller_52 rfl (lv_at hl 2 rfl) ?_
      refine zz_iald X G ia_10 tl_22 dX6_caller_53 h (fun x4 h => ?_)
      rw [hQ]
      exact zz_iret X G hr hlk dX6_caller_54 h
    refine zz_sw (k := (1 : Int32)) h (fun c5 h => ?_) (fun c5 h => ?_)
    · refine lv_tableIn (off := 38) (tgt := 55) hx hb dX6_caller_17 (by rw [c5]; decide) (by rw [c5]; decide) (by rw [c5]; rfl) (by decide) ?_
      refine lv_aload_n hx hb dX6_caller_55 rfl (lv_at hl 0 rfl) ?_
      refine zz_getr X G fr_2_2 tl_21 rl_21_2 kw_185 dX6_caller_56 ?_
      refine lv_iload_n hx hb dX6_caller_59 rfl (lv_at hl 2 rfl) ?_
      refine zz_iald X G ia_10 tl_23 dX6_caller_60 h (fun x6 h => ?_)
      rw [hQ]
      exact zz_iret X G hr hlk dX6_caller_61 h
    refine zz_sw (k := (2 : Int32)) h (fun c7 h => ?_) (fun c7 h => ?_)
    · refine lv_tableIn (off := 45) (tgt := 62) hx hb dX6_caller_17 (by rw [c7]; decide) (by rw [c7]; decide) (by rw [c7]; rfl) (by decide) ?_
      refine lv_aload_n hx hb dX6_caller_62 rfl (lv_at hl 0 rfl) ?_
      refine zz_getr X G fr_2_3 tl_21 rl_21_3 kw_187 dX6_caller_63 ?_
      refine lv_iload_n hx hb dX6_caller_66 rfl (lv_at hl 2 rfl) ?_
      refine zz_iald X G ia_10 tl_24 dX6_caller_67 h (fun x8 h => ?_)
      rw [hQ]
      exact zz_iret X G hr hlk dX6_caller_68 h
    refine zz_sw (k := (3 : Int32)) h (fun c9 h => ?_) (fun c9 h => ?_)
    · refine lv_tableIn (off := 52) (tgt := 69) hx hb dX6_caller_17 (by rw [c9]; decide) (by rw [c9]; decide) (by rw [c9]; rfl) (by decide) ?_
      refine lv_aload_n hx hb dX6_caller_69 rfl (lv_at hl 0 rfl) ?_
      refine zz_getr X G fr_2_4 tl_21 rl_21_4 kw_189 dX6_caller_70 ?_
      refine lv_iload_n hx hb dX6_caller_73 rfl (lv_at hl 2 rfl) ?_
      refine zz_iald X G ia_10 tl_25 dX6_caller_74 h (fun x10 h => ?_)
      rw [hQ]
      exact zz_iret X G hr hlk dX6_caller_75 h
    refine lv_tableOut (tgt := 76) hx hb dX6_caller_17 (by have n0 := lv_neT (a := 0) c3 (by decide); have n1 := lv_neT (a := 1) c5 (by decide); have n2 := lv_neT (a := 2) c7 (by decide); have n3 := lv_neT (a := 3) c9 (by decide); omega) (by decide) ?_
    refine lv_bipush (v := (-2 : Int32)) hx hb dX6_caller_76 (by decide) ?_
    rw [hQ]
    exact zz_iret X G hr hlk dX6_caller_78 h
  have h := (zz_br h).2 (fun q => q c2)
  refine lv_bipush (v := (-2 : Int32)) hx hb dX6_caller_13 (by decide) ?_
  rw [hQ]
  exact zz_iret X G hr hlk dX6_caller_15 h
set_option maxHeartbeats 4000000 in
set_option maxRecDepth 100000 in
theorem c_X6_man (l : Launch) (D : va_G) (ad : Nat → Nat) (cA : Nat → ClassId) {a1 : Int32} {a2 : Int32} {μ : zM} {r : Int32} {μ' : zM} (h : f_X6_man a1 a2 μ = some (r, μ')) : zMet true D ad cA l yX6_man cX6_man 4 (some .int) ({ frames := 4, cells := 0, slots := 0, locals := 94 } : Room) [.ref (ad 0), .int a1, .int a2] μ (zQi true D ad cA r μ') := by
  refine zMet_of "ButlerWeather" ⟨by decide, rfl⟩ (Nat.le_of_ble_eq_true rfl) ?_
  intro p e s m args below meth c X G hr hlk ls hl
  have hl : lv_has ls 4 [(0, .ref (ad 0)), (1, .int a1), (2, .int a2)] := hl
  obtain ⟨hx, hb, hml, hown, hts, -, -, -⟩ := id X
  obtain ⟨Q, hQ⟩ : ∃ Q, Q = MQ below (zQi true D ad cA r μ') args s 0 0 (zA true ad) := ⟨_, rfl⟩
  rw [← hQ]
  unfold f_X6_man at h
  refine lv_aload_n hx hb dX6_man_0 rfl (lv_at hl 0 rfl) ?_
  refine zz_cr (rest := []) G h (fun r μ1 hf => zz_runV X G rc_6 tl_0 cv_X6_told kw_332 (c_X6_told l D ad cA  hf) ⟨rfl, rfl, Nat.le_of_ble_eq_true rfl, Nat.le_of_ble_eq_true rfl⟩ rfl rfl hl.1 (Nat.le_of_ble_eq_true rfl) dX6_man_1) (fun _ μ H locs G h => ?_)
  refine lv_astore_n (lv' := [(3, .ref (ad 21)), (0, .ref (ad 0)), (1, .int a1), (2, .int a2)]) hx hb dX6_man_4 rfl hl (by decide) rfl (fun ls hl => ?_)
  refine lv_aload_n hx hb dX6_man_5 rfl (lv_at hl 0 rfl) ?_
  refine lv_iload_n hx hb dX6_man_6 rfl (lv_at hl 2 rfl) ?_
  refine zz_ci (rest := []) G h (fun r μ1 hf => zz_runV X G rc_2 tl_21 cv_X2_hasMan kw_414 (c_X2_hasMan l D ad cA tl_21 hf) ⟨rfl, rfl, Nat.le_of_ble_eq_true rfl, Nat.le_of_ble_eq_true rfl⟩ rfl rfl hl.1 (Nat.le_of_ble_eq_true rfl) dX6_man_7) (fun x1 μ H locs G h => ?_)
  refine lv_if_ne (tgt := 16) hx hb dX6_man_10 (by decide) (fun c2 => ?_) (fun c2 => ?_)
  · have h := (zz_br h).1 c2
    refine lv_iload_n hx hb dX6_man_16 rfl (lv_at hl 3 rfl) ?_
    refine zz_sw (k := (0 : Int32)) h (fun c3 h => ?_) (fun c3 h => ?_)
    · refine lv_tableIn (off := 27) (tgt := 44) hx hb dX6_man_17 (by rw [c3]; decide) (by rw [c3]; decide) (by rw [c3]; rfl) (by decide) ?_
      refine lv_aload_n hx hb dX6_man_44 rfl (lv_at hl 0 rfl) ?_
      refine zz_getr X G fr_2_7 tl_21 rl_21_7 kw_194 dX6_man_45 ?_
      refine lv_iload_n hx hb dX6_man_48 rfl (lv_at hl 2 rfl) ?_
      refine zz_iald X G ia_10 tl_27 dX6_man_49 h (fun x4 h => ?_)
      rw [hQ]
      exact zz_iret X G hr hlk dX6_man_50 h
    refine zz_sw (k := (1 : Int32)) h (fun c5 h => ?_) (fun c5 h => ?_)
    · refine lv_tableIn (off := 34) (tgt := 51) hx hb dX6_man_17 (by rw [c5]; decide) (by rw [c5]; decide) (by rw [c5]; rfl) (by decide) ?_
      refine lv_aload_n hx hb dX6_man_51 rfl (lv_at hl 0 rfl) ?_
      refine zz_getr X G fr_2_8 tl_21 rl_21_8 kw_196 dX6_man_52 ?_
      refine lv_iload_n hx hb dX6_man_55 rfl (lv_at hl 2 rfl) ?_
      refine zz_iald X G ia_10 tl_28 dX6_man_56 h (fun x6 h => ?_)
      rw [hQ]
      exact zz_iret X G hr hlk dX6_man_57 h
    refine zz_sw (k := (2 : Int32)) h (fun c7 h => ?_) (fun c7 h => ?_)
    · refine lv_tableIn (off := 41) (tgt := 58) hx hb dX6_man_17 (by rw [c7]; decide) (by rw [c7]; decide) (by rw [c7]; rfl) (by decide) ?_
      refine lv_aload_n hx hb dX6_man_58 rfl (lv_at hl 0 rfl) ?_
      refine zz_getr X G fr_2_9 tl_21 rl_21_9 kw_198 dX6_man_59 ?_
      refine lv_iload_n hx hb dX6_man_62 rfl (lv_at hl 2 rfl) ?_
      refine zz_iald X G ia_10 tl_29 dX6_man_63 h (fun x8 h => ?_)
      rw [hQ]
      exact zz_iret X G hr hlk dX6_man_64 h
    refine lv_tableOut (tgt := 65) hx hb dX6_man_17 (by have n0 := lv_neT (a := 0) c3 (by decide); have n1 := lv_neT (a := 1) c5 (by decide); have n2 := lv_neT (a := 2) c7 (by decide); omega) (by decide) ?_
    refine lv_bipush (v := (-2 : Int32)) hx hb dX6_man_65 (by decide) ?_
    rw [hQ]
    exact zz_iret X G hr hlk dX6_man_67 h
  have h := (zz_br h).2 (fun q => q c2)
  refine lv_bipush (v := (-2 : Int32)) hx hb dX6_man_13 (by decide) ?_
  rw [hQ]
  exact zz_iret X G hr hlk dX6_man_15 h
set_option maxHeartbeats 4000000 in
set_option maxRecDepth 100000 in
theorem c_X6_isDay (l : Launch) (D : va_G) (ad : Nat → Nat) (cA : Nat → ClassId) {a0 : Int32} {μ : zM} {r : Int32} {μ' : zM} (h : f_X6_isDay a0 μ = some (r, μ')) : zMet true D ad cA l yX6_isDay cX6_isDay 1 (some .boolean) ({ frames := 1, cells := 0, slots := 0, locals := 22 } : Room) [.int a0] μ (zQi true D ad cA r μ') := by
  refine zMet_of "ButlerWeather" ⟨by decide, rfl⟩ (Nat.le_of_ble_eq_true rfl) ?_
  intro p e s m args below meth c X G hr hlk ls hl
  have hl : lv_has ls 1 [(0, .int a0)] := hl
  obtain ⟨hx, hb, hml, hown, hts, -, -, -⟩ := id X
  obtain ⟨Q, hQ⟩ : ∃ Q, Q = MQ below (zQi true D ad cA r μ') args s 0 0 (zA true ad) := ⟨_, rfl⟩
  rw [← hQ]
  unfold f_X6_isDay at h
  refine lv_iload_n hx hb dX6_isDay_0 rfl (lv_at hl 0 rfl) ?_
  refine lv_iconst (v := (0 : Int32)) hx hb dX6_isDay_1 (by decide) ?_
  refine lv_bipush (v := (23 : Int32)) hx hb dX6_isDay_2 (by decide) ?_
  refine zz_ci (rest := []) G h (fun r μ1 hf => zz_runS X G cs_X6_within kw_289 (c_X6_within l D ad cA  hf) ⟨rfl, rfl, Nat.le_of_ble_eq_true rfl, Nat.le_of_ble_eq_true rfl⟩ rfl rfl hl.1 (Nat.le_of_ble_eq_true rfl) dX6_isDay_4) (fun x1 μ H locs G h => ?_)
  rw [hQ]
  exact zz_zret X G hr hlk dX6_isDay_7 h
set_option maxHeartbeats 4000000 in
set_option maxRecDepth 100000 in
theorem c_X6_addCard (l : Launch) (D : va_G) (ad : Nat → Nat) (cA : Nat → ClassId) {a1 : Int32} {a2 : Int32} {μ : zM} {r : Int32} {μ' : zM} (h : f_X6_addCard a1 a2 μ = some (r, μ')) : zMet true D ad cA l yX6_addCard cX6_addCard 3 (some .int) ({ frames := 2, cells := 0, slots := 0, locals := 42 } : Room) [.ref (ad 0), .int a1, .int a2] μ (zQi true D ad cA r μ') := by
  refine zMet_of "ButlerWeather" ⟨by decide, rfl⟩ (Nat.le_of_ble_eq_true rfl) ?_
  intro p e s m args below meth c X G hr hlk ls hl
  have hl : lv_has ls 3 [(0, .ref (ad 0)), (1, .int a1), (2, .int a2)] := hl
  obtain ⟨hx, hb, hml, hown, hts, -, -, -⟩ := id X
  obtain ⟨Q, hQ⟩ : ∃ Q, Q = MQ below (zQi true D ad cA r μ') args s 0 0 (zA true ad) := ⟨_, rfl⟩
  rw [← hQ]
  unfold f_X6_addCard at h
  refine lv_iload_n hx hb dX6_addCard_0 rfl (lv_at hl 1 rfl) ?_
  refine zz_ci (rest := []) G h (fun r μ1 hf => zz_runS X G cs_X6_isDay kw_426 (c_X6_isDay l D ad cA  hf) ⟨rfl, rfl, Nat.le_of_ble_eq_true rfl, Nat.le_of_ble_eq_true rfl⟩ rfl rfl hl.1 (Nat.le_of_ble_eq_true rfl) dX6_addCard_1) (fun x1 μ H locs G h => ?_)
  refine lv_if_eq (tgt := 17) hx hb dX6_addCard_4 (by decide) (fun c2 => ?_) (fun c2 => ?_)
  · have h := (zz_br h).1 c2
    refine lv_bipush (v := (-2 : Int32)) hx hb dX6_addCard_17 (by decide) ?_
    rw [hQ]
    exact zz_iret X G hr hlk dX6_addCard_19 h
  have h := (zz_br h).2 c2
  refine lv_iload_n hx hb dX6_addCard_7 rfl (lv_at hl 2 rfl) ?_
  refine lv_iconst (v := (0 : Int32)) hx hb dX6_addCard_8 (by decide) ?_
  refine lv_bipush (v := (7 : Int32)) hx hb dX6_addCard_9 (by decide) ?_
  refine zz_ci (rest := []) G h (fun r μ1 hf => zz_runS X G cs_X6_within kw_289 (c_X6_within l D ad cA  hf) ⟨rfl, rfl, Nat.le_of_ble_eq_true rfl, Nat.le_of_ble_eq_true rfl⟩ rfl rfl hl.1 (Nat.le_of_ble_eq_true rfl) dX6_addCard_11) (fun x3 μ H locs G h => ?_)
  refine lv_if_ne (tgt := 20) hx hb dX6_addCard_14 (by decide) (fun c4 => ?_) (fun c4 => ?_)
  · have h := (zz_br h).1 c4
    refine lv_aload_n hx hb dX6_addCard_20 rfl (lv_at hl 0 rfl) ?_
    refine zz_getr X G fr_6_1 tl_0 rl_0_1 kw_255 dX6_addCard_21 ?_
    refine zz_geti X G fi_0_2 tl_6 kw_127 dX6_addCard_24 h (fun x5 h => ?_)
    refine lv_bipush (v := (8 : Int32)) hx hb dX6_addCard_27 (by decide) ?_
    refine lv_icmp_lt (tgt := 35) hx hb dX6_addCard_29 (by decide) (fun c6 => ?_) (fun c6 => ?_)
    · have h := (zz_br h).1 c6
      refine lv_aload_n hx hb dX6_addCard_35 rfl (lv_at hl 0 rfl) ?_
      refine lv_iconst (v := (0 : Int32)) hx hb dX6_addCard_36 (by decide) ?_
      refine zz_puti X G fp_6_7 tl_0 kw_261 rfl rfl dX6_addCard_37 h (fun μ H locs G h => ?_)
      refine lv_aload_n hx hb dX6_addCard_40 rfl (lv_at hl 0 rfl) ?_
      refine zz_getr X G fr_6_1 tl_0 rl_0_1 kw_255 dX6_addCard_41 ?_
      refine lv_iload_n hx hb dX6_addCard_44 rfl (lv_at hl 1 rfl) ?_
      refine lv_iload_n hx hb dX6_addCard_45 rfl (lv_at hl 2 rfl) ?_
      refine zz_ci (rest := []) G h (fun r μ1 hf => zz_runV X G rc_0 tl_6 cv_X0_append kw_429 (c_X0_append l D ad cA  hf) ⟨rfl, rfl, Nat.le_of_ble_eq_true rfl, Nat.le_of_ble_eq_true rfl⟩ rfl rfl hl.1 (Nat.le_of_ble_eq_true rfl) dX6_addCard_46) (fun x7 μ H locs G h => ?_)
      rw [hQ]
      exact zz_iret X G hr hlk dX6_addCard_49 h
    have h := (zz_br h).2 c6
    refine lv_bipush (v := (-4 : Int32)) hx hb dX6_addCard_32 (by decide) ?_
    rw [hQ]
    exact zz_iret X G hr hlk dX6_addCard_34 h
  have h := (zz_br h).2 (fun q => q c4)
  refine lv_bipush (v := (-2 : Int32)) hx hb dX6_addCard_17 (by decide) ?_
  rw [hQ]
  exact zz_iret X G hr hlk dX6_addCard_19 h
set_option maxHeartbeats 4000000 in
set_option maxRecDepth 100000 in
theorem c_X6_card (l : Launch) (D : va_G) (ad : Nat → Nat) (cA : Nat → ClassId) {a1 : Int32} {a2 : Int32} {μ : zM} {r : Int32} {μ' : zM} (h : f_X6_card a1 a2 μ = some (r, μ')) : zMet true D ad cA l yX6_card cX6_card 3 (some .int) ({ frames := 3, cells := 0, slots := 0, locals := 64 } : Room) [.ref (ad 0), .int a1, .int a2] μ (zQi true D ad cA r μ') := by
  refine zMet_of "ButlerWeather" ⟨by decide, rfl⟩ (Nat.le_of_ble_eq_true rfl) ?_
  intro p e s m args below meth c X G hr hlk ls hl
  have hl : lv_has ls 3 [(0, .ref (ad 0)), (1, .int a1), (2, .int a2)] := hl
  obtain ⟨hx, hb, hml, hown, hts, -, -, -⟩ := id X
  obtain ⟨Q, hQ⟩ : ∃ Q, Q = MQ below (zQi true D ad cA r μ') args s 0 0 (zA true ad) := ⟨_, rfl⟩
  rw [← hQ]
  unfold f_X6_card at h
  refine lv_aload_n hx hb dX6_card_0 rfl (lv_at hl 0 rfl) ?_
  refine lv_iload_n hx hb dX6_card_1 rfl (lv_at hl 1 rfl) ?_
  refine lv_iload_n hx hb dX6_card_2 rfl (lv_at hl 2 rfl) ?_
  refine zz_ci (rest := []) G h (fun r μ1 hf => zz_runV X G rc_6 tl_0 cv_X6_addCard kw_422 (c_X6_addCard l D ad cA  hf) ⟨rfl, rfl, Nat.le_of_ble_eq_true rfl, Nat.le_of_ble_eq_true rfl⟩ rfl rfl hl.1 (Nat.le_of_ble_eq_true rfl) dX6_card_3) (fun x1 μ H locs G h => ?_)
  rw [hQ]
  exact zz_iret X G hr hlk dX6_card_6 h
set_option maxHeartbeats 4000000 in
set_option maxRecDepth 100000 in
theorem c_X6_back (l : Launch) (D : va_G) (ad : Nat → Nat) (cA : Nat → ClassId)  {μ : zM} {r : Int32} {μ' : zM} (h : f_X6_back μ = some (r, μ')) : zMet true D ad cA l yX6_back cX6_back 1 (some .int) ({ frames := 1, cells := 0, slots := 0, locals := 20 } : Room) [.ref (ad 0)] μ (zQi true D ad cA r μ') := by
  refine zMet_of "ButlerWeather" ⟨by decide, rfl⟩ (Nat.le_of_ble_eq_true rfl) ?_
  intro p e s m args below meth c X G hr hlk ls hl
  have hl : lv_has ls 1 [(0, .ref (ad 0))] := hl
  obtain ⟨hx, hb, hml, hown, hts, -, -, -⟩ := id X
  obtain ⟨Q, hQ⟩ : ∃ Q, Q = MQ below (zQi true D ad cA r μ') args s 0 0 (zA true ad) := ⟨_, rfl⟩
  rw [← hQ]
  unfold f_X6_back at h
  refine lv_aload_n hx hb dX6_back_0 rfl (lv_at hl 0 rfl) ?_
  refine zz_getr X G fr_6_1 tl_0 rl_0_1 kw_255 dX6_back_1 ?_
  refine zz_geti X G fi_0_2 tl_6 kw_127 dX6_back_4 h (fun x1 h => ?_)
  refine lv_if_ne (tgt := 13) hx hb dX6_back_7 (by decide) (fun c2 => ?_) (fun c2 => ?_)
  · have h := (zz_br h).1 c2
    refine lv_aload_n hx hb dX6_back_13 rfl (lv_at hl 0 rfl) ?_
    refine lv_iconst (v := (0 : Int32)) hx hb dX6_back_14 (by decide) ?_
    refine zz_puti X G fp_6_7 tl_0 kw_261 rfl rfl dX6_back_15 h (fun μ H locs G h => ?_)
    refine lv_aload_n hx hb dX6_back_18 rfl (lv_at hl 0 rfl) ?_
    refine zz_getr X G fr_6_1 tl_0 rl_0_1 kw_255 dX6_back_19 ?_
    refine zz_ci (rest := []) G h (fun r μ1 hf => zz_runV X G rc_0 tl_6 cv_X0_dropLast kw_437 (c_X0_dropLast l D ad cA  hf) ⟨rfl, rfl, Nat.le_of_ble_eq_true rfl, Nat.le_of_ble_eq_true rfl⟩ rfl rfl hl.1 (Nat.le_of_ble_eq_true rfl) dX6_back_22) (fun x3 μ H locs G h => ?_)
    rw [hQ]
    exact zz_iret X G hr hlk dX6_back_25 h
  have h := (zz_br h).2 (fun q => q c2)
  refine lv_bipush (v := (-3 : Int32)) hx hb dX6_back_10 (by decide) ?_
  rw [hQ]
  exact zz_iret X G hr hlk dX6_back_12 h
set_option maxHeartbeats 4000000 in
set_option maxRecDepth 100000 in
theorem c_X6_isSheet (l : Launch) (D : va_G) (ad : Nat → Nat) (cA : Nat → ClassId) {a0 : Int32} {μ : zM} {r : Int32} {μ' : zM} (h : f_X6_isSheet a0 μ = some (r, μ')) : zMet true D ad cA l yX6_isSheet cX6_isSheet 1 (some .boolean) ({ frames := 1, cells := 0, slots := 0, locals := 22 } : Room) [.int a0] μ (zQi true D ad cA r μ') := by
  refine zMet_of "ButlerWeather" ⟨by decide, rfl⟩ (Nat.le_of_ble_eq_true rfl) ?_
  intro p e s m args below meth c X G hr hlk ls hl
  have hl : lv_has ls 1 [(0, .int a0)] := hl
  obtain ⟨hx, hb, hml, hown, hts, -, -, -⟩ := id X
  obtain ⟨Q, hQ⟩ : ∃ Q, Q = MQ below (zQi true D ad cA r μ') args s 0 0 (zA true ad) := ⟨_, rfl⟩
  rw [← hQ]
  unfold f_X6_isSheet at h
  refine lv_iload_n hx hb dX6_isSheet_0 rfl (lv_at hl 0 rfl) ?_
  refine lv_iconst (v := (0 : Int32)) hx hb dX6_isSheet_1 (by decide) ?_
  refine lv_iconst (v := (3 : Int32)) hx hb dX6_isSheet_2 (by decide) ?_
  refine zz_ci (rest := []) G h (fun r μ1 hf => zz_runS X G cs_X6_within kw_289 (c_X6_within l D ad cA  hf) ⟨rfl, rfl, Nat.le_of_ble_eq_true rfl, Nat.le_of_ble_eq_true rfl⟩ rfl rfl hl.1 (Nat.le_of_ble_eq_true rfl) dX6_isSheet_3) (fun x1 μ H locs G h => ?_)
  rw [hQ]
  exact zz_zret X G hr hlk dX6_isSheet_6 h
set_option maxHeartbeats 4000000 in
set_option maxRecDepth 100000 in
theorem c_X6_found (l : Launch) (D : va_G) (ad : Nat → Nat) (cA : Nat → ClassId) {a1 : Int32} {μ : zM} {r : Int32} {μ' : zM} (h : f_X6_found a1 μ = some (r, μ')) : zMet true D ad cA l yX6_found cX6_found 2 (some .int) ({ frames := 0, cells := 0, slots := 0, locals := 0 } : Room) [.ref (ad 0), .int a1] μ (zQi true D ad cA r μ') := by
  refine zMet_of "ButlerWeather" ⟨by decide, rfl⟩ (Nat.le_of_ble_eq_true rfl) ?_
  intro p e s m args below meth c X G hr hlk ls hl
  have hl : lv_has ls 2 [(0, .ref (ad 0)), (1, .int a1)] := hl
  obtain ⟨hx, hb, hml, hown, hts, -, -, -⟩ := id X
  obtain ⟨Q, hQ⟩ : ∃ Q, Q = MQ below (zQi true D ad cA r μ') args s 0 0 (zA true ad) := ⟨_, rfl⟩
  rw [← hQ]
  unfold f_X6_found at h
  refine lv_aload_n hx hb dX6_found_0 rfl (lv_at hl 0 rfl) ?_
  refine lv_iload_n hx hb dX6_found_1 rfl (lv_at hl 1 rfl) ?_
  refine zz_puti X G fp_6_8 tl_0 kw_262 rfl rfl dX6_found_2 h (fun μ H locs G h => ?_)
  refine lv_bipush (v := (-10 : Int32)) hx hb dX6_found_5 (by decide) ?_
  refine lv_iload_n hx hb dX6_found_7 rfl (lv_at hl 1 rfl) ?_
  refine lv_isub hx hb dX6_found_8 ?_
  rw [hQ]
  exact zz_iret X G hr hlk dX6_found_9 h
set_option maxHeartbeats 4000000 in
set_option maxRecDepth 100000 in
theorem w_X6_read_L32 {p : Program} {l : Launch} {e : Env} {s : State} {m : MethodId} {args : Array Value} {below : List Frame} {meth : Method} {c : Code} {Q : State → Prop} {D : va_G} {ad : Nat → Nat} {cA : Nat → ClassId} {r : Int32} {μ' : zM} (X : zX true D ad cA p s m args c cX6_read "ButlerWeather" 4) (hQ : Q = MQ below (zQi true D ad cA r μ') args s 0 0 (zA true ad)) (hr : meth.sig.returnType = (some .int)) (hlk : meth.locks = false) {r2 : Nat} (t_r2 : zty r2 = 4) {kx : Int32 → zM → Option (Int32 × zM)} (HX : ∀ (w3 : Int32) (μ : zM) (H : Heap) (locs : List Loc) (ls : Array Slot), lv_has ls 4 [(3, .int w3)] → zG true D ad cA s μ H locs → kx w3 μ = some (r, μ') → W p l e ({ frames := 3, cells := 0, slots := 0, locals := 64 } : Room) s m args below meth c H locs 0 0 Q (F0 m 75 ls [])) : ∀ (n : Nat) (v3 : Int32) (μ : zM) (H : Heap) (locs : List Loc) (ls : Array Slot), lv_has ls 4 [(0, .ref (ad 0)), (2, .ref (ad r2)), (3, .int v3)] → zG true D ad cA s μ H locs → f_X6_read_L32 r2 kx n v3 μ = some (r, μ') → W p l e ({ frames := 3, cells := 0, slots := 0, locals := 64 } : Room) s m args below meth c H locs 0 0 Q (F0 m 32 ls []) := by
  obtain ⟨hx, hb, hml, hown, hts, -, -, -⟩ := id X
  intro n
  induction n with
  | zero =>
    intro v3 μ H locs ls hl G h
    cases (show (none : Option (Int32 × zM)) = some (r, μ') from h)
  | succ n ih =>
    intro v3 μ H locs ls hl G h
    rw [f_X6_read_L32] at h
    refine lv_iconst (v := (2 : Int32)) hx hb dX6_read_32 (by decide) ?_
    refine lv_iload_n hx hb dX6_read_33 rfl (lv_at hl 2 rfl) ?_
    refine lv_imul hx hb dX6_read_34 ?_
    refine lv_iconst (v := (1 : Int32)) hx hb dX6_read_35 (by decide) ?_
    refine lv_iadd hx hb dX6_read_36 ?_
    refine lv_aload_n hx hb dX6_read_37 rfl (lv_at hl 1 rfl) ?_
    refine zz_geti X G fi_4_1 t_r2 kw_162 dX6_read_38 h (fun x6 h => ?_)
    refine lv_icmp_ge (tgt := 75) hx hb dX6_read_41 (by decide) (fun c7 => ?_) (fun c7 => ?_)
    · have h := (zz_br h).1 c7
      exact HX v3 μ _ _ _ (lv_sub hl [2] rfl) G h
    have h := (zz_br h).2 c7
    refine lv_aload_n hx hb dX6_read_44 rfl (lv_at hl 0 rfl) ?_
    refine lv_aload_n hx hb dX6_read_45 rfl (lv_at hl 1 rfl) ?_
    refine zz_getr X G fr_4_2 t_r2 (rs_4_2 t_r2) kw_164 dX6_read_46 ?_
    refine lv_iconst (v := (2 : Int32)) hx hb dX6_read_49 (by decide) ?_
    refine lv_iload_n hx hb dX6_read_50 rfl (lv_at hl 2 rfl) ?_
    refine lv_imul hx hb dX6_read_51 ?_
    refine zz_iald X G ia_10 (ft_4_2 t_r2) dX6_read_52 h (fun x8 h => ?_)
    refine lv_aload_n hx hb dX6_read_53 rfl (lv_at hl 1 rfl) ?_
    refine zz_getr X G fr_4_2 t_r2 (rs_4_2 t_r2) kw_164 dX6_read_54 ?_
    refine lv_iconst (v := (2 : Int32)) hx hb dX6_read_57 (by decide) ?_
    refine lv_iload_n hx hb dX6_read_58 rfl (lv_at hl 2 rfl) ?_
    refine lv_imul hx hb dX6_read_59 ?_
    refine lv_iconst (v := (1 : Int32)) hx hb dX6_read_60 (by decide) ?_
    refine lv_iadd hx hb dX6_read_61 ?_
    refine zz_iald X G ia_10 (ft_4_2 t_r2) dX6_read_62 h (fun x9 h => ?_)
    refine zz_ci (rest := []) G h (fun r μ1 hf => zz_runV X G rc_6 tl_0 cv_X6_addCard kw_422 (c_X6_addCard l D ad cA  hf) ⟨rfl, rfl, Nat.le_of_ble_eq_true rfl, Nat.le_of_ble_eq_true rfl⟩ rfl rfl hl.1 (Nat.le_of_ble_eq_true rfl) dX6_read_63) (fun x10 μ H locs G h => ?_)
    refine lv_if_le (tgt := 75) hx hb dX6_read_66 (by decide) (fun c11 => ?_) (fun c11 => ?_)
    · have h := (zz_br h).1 c11
      exact HX v3 μ _ _ _ (lv_sub hl [2] rfl) G h
    have h := (zz_br h).2 c11
    obtain ⟨x12, ex12, h⟩ := zz_let h
    refine lv_iinc (v := x12) (lv' := [(3, .int x12), (0, .ref (ad 0)), (2, .ref (ad r2))]) hx hb dX6_read_69 hl (k := 2) rfl (by rw [← ex12]; rfl) (by decide) rfl (fun ls hl => ?_)
    refine lv_goto (tgt := 32) hx hb dX6_read_72 (by decide) ?_
    exact ih x12 μ _ _ _ (lv_sub hl [1, 2, 0] rfl) G h
set_option maxHeartbeats 4000000 in
set_option maxRecDepth 100000 in
theorem c_X6_read (l : Launch) (D : va_G) (ad : Nat → Nat) (cA : Nat → ClassId) {a1 : Int32} {μ : zM} {r : Int32} {μ' : zM} (h : f_X6_read a1 μ = some (r, μ')) : zMet true D ad cA l yX6_read cX6_read 4 (some .int) ({ frames := 3, cells := 0, slots := 0, locals := 64 } : Room) [.ref (ad 0), .int a1] μ (zQi true D ad cA r μ') := by
  refine zMet_of "ButlerWeather" ⟨by decide, rfl⟩ (Nat.le_of_ble_eq_true rfl) ?_
  intro p e s m args below meth c X G hr hlk ls hl
  have hl : lv_has ls 4 [(0, .ref (ad 0)), (1, .int a1)] := hl
  obtain ⟨hx, hb, hml, hown, hts, -, -, -⟩ := id X
  obtain ⟨Q, hQ⟩ : ∃ Q, Q = MQ below (zQi true D ad cA r μ') args s 0 0 (zA true ad) := ⟨_, rfl⟩
  rw [← hQ]
  unfold f_X6_read at h
  refine lv_iload_n hx hb dX6_read_0 rfl (lv_at hl 1 rfl) ?_
  refine zz_ci (rest := []) G h (fun r μ1 hf => zz_runS X G cs_X6_isSheet kw_445 (c_X6_isSheet l D ad cA  hf) ⟨rfl, rfl, Nat.le_of_ble_eq_true rfl, Nat.le_of_ble_eq_true rfl⟩ rfl rfl hl.1 (Nat.le_of_ble_eq_true rfl) dX6_read_1) (fun x1 μ H locs G h => ?_)
  refine lv_if_ne (tgt := 10) hx hb dX6_read_4 (by decide) (fun c2 => ?_) (fun c2 => ?_)
  · have h := (zz_br h).1 c2
    refine lv_aload_n hx hb dX6_read_10 rfl (lv_at hl 0 rfl) ?_
    refine zz_getr X G fr_6_3 tl_0 rl_0_3 kw_257 dX6_read_11 ?_
    refine lv_iload_n hx hb dX6_read_14 rfl (lv_at hl 1 rfl) ?_
    refine zz_aald X G ra_14 tl_12 dX6_read_15 h (fun q3 hq3 h => ?_)
    refine lv_astore_n (lv' := [(2, .ref (ad q3)), (0, .ref (ad 0)), (1, .int a1)]) hx hb dX6_read_16 rfl hl (by decide) rfl (fun ls hl => ?_)
    refine lv_aload_n hx hb dX6_read_17 rfl (lv_at hl 0 rfl) ?_
    refine zz_ci (rest := []) G h (fun r μ1 hf => zz_runV X G rc_4 (rt_12 hq3) cv_X4_isLost kw_448 (c_X4_isLost l D ad cA (rt_12 hq3) hf) ⟨rfl, rfl, Nat.le_of_ble_eq_true rfl, Nat.le_of_ble_eq_true rfl⟩ rfl rfl hl.1 (Nat.le_of_ble_eq_true rfl) dX6_read_18) (fun x4 μ H locs G h => ?_)
    refine lv_if_eq (tgt := 30) hx hb dX6_read_21 (by decide) (fun c5 => ?_) (fun c5 => ?_)
    · have h := (zz_br h).1 c5
      refine lv_iconst (v := (0 : Int32)) hx hb dX6_read_30 (by decide) ?_
      refine lv_istore_n (lv' := [(3, .int (0 : Int32)), (2, .ref (ad q3)), (0, .ref (ad 0)), (1, .int a1)]) hx hb dX6_read_31 rfl hl (by decide) rfl (fun ls hl => ?_)
      refine w_X6_read_L32 X hQ hr hlk (rt_12 hq3) (fun x13 μ H locs ls hl G h => ?_) 400 (0 : Int32) μ _ _ _ (lv_sub hl [2, 1, 0] rfl) G h
      refine lv_iload_n hx hb dX6_read_75 rfl (lv_at hl 0 rfl) ?_
      rw [hQ]
      exact zz_iret X G hr hlk dX6_read_76 h
    have h := (zz_br h).2 c5
    refine lv_aload_n hx hb dX6_read_24 rfl (lv_at hl 1 rfl) ?_
    refine lv_iconst (v := (1 : Int32)) hx hb dX6_read_25 (by decide) ?_
    refine zz_ci (rest := []) G h (fun r μ1 hf => zz_runV X G rc_6 tl_0 cv_X6_found kw_452 (c_X6_found l D ad cA  hf) ⟨rfl, rfl, Nat.le_of_ble_eq_true rfl, Nat.le_of_ble_eq_true rfl⟩ rfl rfl hl.1 (Nat.le_of_ble_eq_true rfl) dX6_read_26) (fun x14 μ H locs G h => ?_)
    rw [hQ]
    exact zz_iret X G hr hlk dX6_read_29 h
  have h := (zz_br h).2 (fun q => q c2)
  refine lv_bipush (v := (-2 : Int32)) hx hb dX6_read_7 (by decide) ?_
  rw [hQ]
  exact zz_iret X G hr hlk dX6_read_9 h
set_option maxHeartbeats 4000000 in
set_option maxRecDepth 100000 in
theorem c_X6_stands (l : Launch) (D : va_G) (ad : Nat → Nat) (cA : Nat → ClassId) {a1 : Int32} {a2 : Int32} {μ : zM} {r : Int32} {μ' : zM} (h : f_X6_stands a1 a2 μ = some (r, μ')) : zMet true D ad cA l yX6_stands cX6_stands 4 (some .int) ({ frames := 4, cells := 0, slots := 0, locals := 94 } : Room) [.ref (ad 0), .int a1, .int a2] μ (zQi true D ad cA r μ') := by
  refine zMet_of "ButlerWeather" ⟨by decide, rfl⟩ (Nat.le_of_ble_eq_true rfl) ?_
  intro p e s m args below meth c X G hr hlk ls hl
  have hl : lv_has ls 4 [(0, .ref (ad 0)), (1, .int a1), (2, .int a2)] := hl
  obtain ⟨hx, hb, hml, hown, hts, -, -, -⟩ := id X
  obtain ⟨Q, hQ⟩ : ∃ Q, Q = MQ below (zQi true D ad cA r μ') args s 0 0 (zA true ad) := ⟨_, rfl⟩
  rw [← hQ]
  unfold f_X6_stands at h
  refine lv_aload_n hx hb dX6_stands_0 rfl (lv_at hl 0 rfl) ?_
  refine zz_cr (rest := []) G h (fun r μ1 hf => zz_runV X G rc_6 tl_0 cv_X6_told kw_332 (c_X6_told l D ad cA  hf) ⟨rfl, rfl, Nat.le_of_ble_eq_true rfl, Nat.le_of_ble_eq_true rfl⟩ rfl rfl hl.1 (Nat.le_of_ble_eq_true rfl) dX6_stands_1) (fun _ μ H locs G h => ?_)
  refine lv_astore_n (lv' := [(3, .ref (ad 21)), (0, .ref (ad 0)), (1, .int a1), (2, .int a2)]) hx hb dX6_stands_4 rfl hl (by decide) rfl (fun ls hl => ?_)
  refine lv_iload_n hx hb dX6_stands_5 rfl (lv_at hl 2 rfl) ?_
  refine zz_ci (rest := []) G h (fun r μ1 hf => zz_runS X G cs_X6_isDay kw_426 (c_X6_isDay l D ad cA  hf) ⟨rfl, rfl, Nat.le_of_ble_eq_true rfl, Nat.le_of_ble_eq_true rfl⟩ rfl rfl hl.1 (Nat.le_of_ble_eq_true rfl) dX6_stands_6) (fun x1 μ H locs G h => ?_)
  refine lv_if_eq (tgt := 29) hx hb dX6_stands_9 (by decide) (fun c2 => ?_) (fun c2 => ?_)
  · have h := (zz_br h).1 c2
    refine lv_bipush (v := (-2 : Int32)) hx hb dX6_stands_29 (by decide) ?_
    rw [hQ]
    exact zz_iret X G hr hlk dX6_stands_31 h
  have h := (zz_br h).2 c2
  refine lv_aload_n hx hb dX6_stands_12 rfl (lv_at hl 0 rfl) ?_
  refine lv_iload_n hx hb dX6_stands_13 rfl (lv_at hl 3 rfl) ?_
  refine zz_ci (rest := []) G h (fun r μ1 hf => zz_runV X G rc_2 tl_21 cv_X2_hasCaller kw_406 (c_X2_hasCaller l D ad cA tl_21 hf) ⟨rfl, rfl, Nat.le_of_ble_eq_true rfl, Nat.le_of_ble_eq_true rfl⟩ rfl rfl hl.1 (Nat.le_of_ble_eq_true rfl) dX6_stands_14) (fun x3 μ H locs G h => ?_)
  refine lv_if_eq (tgt := 29) hx hb dX6_stands_17 (by decide) (fun c4 => ?_) (fun c4 => ?_)
  · have h := (zz_br h).1 c4
    refine lv_bipush (v := (-2 : Int32)) hx hb dX6_stands_29 (by decide) ?_
    rw [hQ]
    exact zz_iret X G hr hlk dX6_stands_31 h
  have h := (zz_br h).2 c4
  refine lv_aload_n hx hb dX6_stands_20 rfl (lv_at hl 0 rfl) ?_
  refine lv_iload_n hx hb dX6_stands_21 rfl (lv_at hl 3 rfl) ?_
  refine lv_iload_n hx hb dX6_stands_22 rfl (lv_at hl 2 rfl) ?_
  refine zz_ci (rest := []) G h (fun r μ1 hf => zz_runV X G rc_2 tl_21 cv_X2_standing kw_460 (c_X2_standing l D ad cA tl_21 hf) ⟨rfl, rfl, Nat.le_of_ble_eq_true rfl, Nat.le_of_ble_eq_true rfl⟩ rfl rfl hl.1 (Nat.le_of_ble_eq_true rfl) dX6_stands_23) (fun x5 μ H locs G h => ?_)
  refine lv_goto (tgt := 31) hx hb dX6_stands_26 (by decide) ?_
  rw [hQ]
  exact zz_iret X G hr hlk dX6_stands_31 h
set_option maxHeartbeats 4000000 in
set_option maxRecDepth 100000 in
theorem c_X6_name (l : Launch) (D : va_G) (ad : Nat → Nat) (cA : Nat → ClassId) {a1 : Int32} {μ : zM} {r : Int32} {μ' : zM} (h : f_X6_name a1 μ = some (r, μ')) : zMet true D ad cA l yX6_name cX6_name 3 (some .int) ({ frames := 4, cells := 0, slots := 0, locals := 94 } : Room) [.ref (ad 0), .int a1] μ (zQi true D ad cA r μ') := by
  refine zMet_of "ButlerWeather" ⟨by decide, rfl⟩ (Nat.le_of_ble_eq_true rfl) ?_
  intro p e s m args below meth c X G hr hlk ls hl
  have hl : lv_has ls 3 [(0, .ref (ad 0)), (1, .int a1)] := hl
  obtain ⟨hx, hb, hml, hown, hts, -, -, -⟩ := id X
  obtain ⟨Q, hQ⟩ : ∃ Q, Q = MQ below (zQi true D ad cA r μ') args s 0 0 (zA true ad) := ⟨_, rfl⟩
  rw [← hQ]
  unfold f_X6_name at h
  refine lv_aload_n hx hb dX6_name_0 rfl (lv_at hl 0 rfl) ?_
  refine zz_cr (rest := []) G h (fun r μ1 hf => zz_runV X G rc_6 tl_0 cv_X6_told kw_332 (c_X6_told l D ad cA  hf) ⟨rfl, rfl, Nat.le_of_ble_eq_true rfl, Nat.le_of_ble_eq_true rfl⟩ rfl rfl hl.1 (Nat.le_of_ble_eq_true rfl) dX6_name_1) (fun _ μ H locs G h => ?_)
  refine lv_astore_n (lv' := [(2, .ref (ad 21)), (0, .ref (ad 0)), (1, .int a1)]) hx hb dX6_name_4 rfl hl (by decide) rfl (fun ls hl => ?_)
  refine lv_aload_n hx hb dX6_name_5 rfl (lv_at hl 0 rfl) ?_
  refine lv_iload_n hx hb dX6_name_6 rfl (lv_at hl 2 rfl) ?_
  refine zz_ci (rest := []) G h (fun r μ1 hf => zz_runV X G rc_2 tl_21 cv_X2_hasCaller kw_406 (c_X2_hasCaller l D ad cA tl_21 hf) ⟨rfl, rfl, Nat.le_of_ble_eq_true rfl, Nat.le_of_ble_eq_true rfl⟩ rfl rfl hl.1 (Nat.le_of_ble_eq_true rfl) dX6_name_7) (fun x1 μ H locs G h => ?_)
  refine lv_if_eq (tgt := 22) hx hb dX6_name_10 (by decide) (fun c2 => ?_) (fun c2 => ?_)
  · have h := (zz_br h).1 c2
    refine lv_bipush (v := (-2 : Int32)) hx hb dX6_name_22 (by decide) ?_
    rw [hQ]
    exact zz_iret X G hr hlk dX6_name_24 h
  have h := (zz_br h).2 c2
  refine lv_aload_n hx hb dX6_name_13 rfl (lv_at hl 0 rfl) ?_
  refine zz_getr X G fr_2_13 tl_21 rl_21_13 kw_205 dX6_name_14 ?_
  refine lv_iload_n hx hb dX6_name_17 rfl (lv_at hl 2 rfl) ?_
  refine zz_iald X G ia_10 tl_33 dX6_name_18 h (fun x3 h => ?_)
  refine lv_goto (tgt := 24) hx hb dX6_name_19 (by decide) ?_
  rw [hQ]
  exact zz_iret X G hr hlk dX6_name_24 h
set_option maxHeartbeats 4000000 in
set_option maxRecDepth 100000 in
theorem c_X6_door (l : Launch) (D : va_G) (ad : Nat → Nat) (cA : Nat → ClassId) {a1 : Int32} {a2 : Int32} {μ : zM} {r : Int32} {μ' : zM} (h : f_X6_door a1 a2 μ = some (r, μ')) : zMet true D ad cA l yX6_door cX6_door 4 (some .int) ({ frames := 4, cells := 0, slots := 0, locals := 94 } : Room) [.ref (ad 0), .int a1, .int a2] μ (zQi true D ad cA r μ') := by
  refine zMet_of "ButlerWeather" ⟨by decide, rfl⟩ (Nat.le_of_ble_eq_true rfl) ?_
  intro p e s m args below meth c X G hr hlk ls hl
  have hl : lv_has ls 4 [(0, .ref (ad 0)), (1, .int a1), (2, .int a2)] := hl
  obtain ⟨hx, hb, hml, hown, hts, -, -, -⟩ := id X
  obtain ⟨Q, hQ⟩ : ∃ Q, Q = MQ below (zQi true D ad cA r μ') args s 0 0 (zA true ad) := ⟨_, rfl⟩
  rw [← hQ]
  unfold f_X6_door at h
  refine lv_iload_n hx hb dX6_door_0 rfl (lv_at hl 1 rfl) ?_
  refine zz_ci (rest := []) G h (fun r μ1 hf => zz_runS X G cs_X6_isDay kw_426 (c_X6_isDay l D ad cA  hf) ⟨rfl, rfl, Nat.le_of_ble_eq_true rfl, Nat.le_of_ble_eq_true rfl⟩ rfl rfl hl.1 (Nat.le_of_ble_eq_true rfl) dX6_door_1) (fun x1 μ H locs G h => ?_)
  refine lv_if_ne (tgt := 10) hx hb dX6_door_4 (by decide) (fun c2 => ?_) (fun c2 => ?_)
  · have h := (zz_br h).1 c2
    refine lv_aload_n hx hb dX6_door_10 rfl (lv_at hl 0 rfl) ?_
    refine zz_cr (rest := []) G h (fun r μ1 hf => zz_runV X G rc_6 tl_0 cv_X6_told kw_332 (c_X6_told l D ad cA  hf) ⟨rfl, rfl, Nat.le_of_ble_eq_true rfl, Nat.le_of_ble_eq_true rfl⟩ rfl rfl hl.1 (Nat.le_of_ble_eq_true rfl) dX6_door_11) (fun _ μ H locs G h => ?_)
    refine lv_astore_n (lv' := [(3, .ref (ad 21)), (0, .ref (ad 0)), (1, .int a1), (2, .int a2)]) hx hb dX6_door_14 rfl hl (by decide) rfl (fun ls hl => ?_)
    refine lv_iload_n hx hb dX6_door_15 rfl (lv_at hl 3 rfl) ?_
    refine zz_sw (k := (0 : Int32)) h (fun c3 h => ?_) (fun c3 h => ?_)
    · refine lv_tableIn (off := 28) (tgt := 44) hx hb dX6_door_16 (by rw [c3]; decide) (by rw [c3]; decide) (by rw [c3]; rfl) (by decide) ?_
      refine lv_aload_n hx hb dX6_door_44 rfl (lv_at hl 0 rfl) ?_
      refine lv_iload_n hx hb dX6_door_45 rfl (lv_at hl 2 rfl) ?_
      refine zz_ci (rest := []) G h (fun r μ1 hf => zz_runV X G rc_2 tl_21 cv_X2_manAt kw_476 (c_X2_manAt l D ad cA tl_21 hf) ⟨rfl, rfl, Nat.le_of_ble_eq_true rfl, Nat.le_of_ble_eq_true rfl⟩ rfl rfl hl.1 (Nat.le_of_ble_eq_true rfl) dX6_door_46) (fun x4 μ H locs G h => ?_)
      rw [hQ]
      exact zz_iret X G hr hlk dX6_door_49 h
    refine zz_sw (k := (1 : Int32)) h (fun c5 h => ?_) (fun c5 h => ?_)
    · refine lv_tableIn (off := 34) (tgt := 50) hx hb dX6_door_16 (by rw [c5]; decide) (by rw [c5]; decide) (by rw [c5]; rfl) (by decide) ?_
      refine lv_aload_n hx hb dX6_door_50 rfl (lv_at hl 0 rfl) ?_
      refine lv_iload_n hx hb dX6_door_51 rfl (lv_at hl 2 rfl) ?_
      refine zz_ci (rest := []) G h (fun r μ1 hf => zz_runV X G rc_2 tl_21 cv_X2_hatsOn kw_477 (c_X2_hatsOn l D ad cA tl_21 hf) ⟨rfl, rfl, Nat.le_of_ble_eq_true rfl, Nat.le_of_ble_eq_true rfl⟩ rfl rfl hl.1 (Nat.le_of_ble_eq_true rfl) dX6_door_52) (fun x6 μ H locs G h => ?_)
      rw [hQ]
      exact zz_iret X G hr hlk dX6_door_55 h
    refine zz_sw (k := (2 : Int32)) h (fun c7 h => ?_) (fun c7 h => ?_)
    · refine lv_tableIn (off := 40) (tgt := 56) hx hb dX6_door_16 (by rw [c7]; decide) (by rw [c7]; decide) (by rw [c7]; rfl) (by decide) ?_
      refine lv_aload_n hx hb dX6_door_56 rfl (lv_at hl 0 rfl) ?_
      refine lv_iload_n hx hb dX6_door_57 rfl (lv_at hl 2 rfl) ?_
      refine zz_ci (rest := []) G h (fun r μ1 hf => zz_runV X G rc_2 tl_21 cv_X2_stepOn kw_481 (c_X2_stepOn l D ad cA tl_21 hf) ⟨rfl, rfl, Nat.le_of_ble_eq_true rfl, Nat.le_of_ble_eq_true rfl⟩ rfl rfl hl.1 (Nat.le_of_ble_eq_true rfl) dX6_door_58) (fun x8 μ H locs G h => ?_)
      rw [hQ]
      exact zz_iret X G hr hlk dX6_door_61 h
    refine lv_tableOut (tgt := 62) hx hb dX6_door_16 (by have n0 := lv_neT (a := 0) c3 (by decide); have n1 := lv_neT (a := 1) c5 (by decide); have n2 := lv_neT (a := 2) c7 (by decide); omega) (by decide) ?_
    refine lv_bipush (v := (-2 : Int32)) hx hb dX6_door_62 (by decide) ?_
    rw [hQ]
    exact zz_iret X G hr hlk dX6_door_64 h
  have h := (zz_br h).2 (fun q => q c2)
  refine lv_bipush (v := (-2 : Int32)) hx hb dX6_door_7 (by decide) ?_
  rw [hQ]
  exact zz_iret X G hr hlk dX6_door_9 h
set_option maxHeartbeats 4000000 in
set_option maxRecDepth 100000 in
theorem c_X6_warmth (l : Launch) (D : va_G) (ad : Nat → Nat) (cA : Nat → ClassId) {a1 : Int32} {μ : zM} {r : Int32} {μ' : zM} (h : f_X6_warmth a1 μ = some (r, μ')) : zMet true D ad cA l yX6_warmth cX6_warmth 2 (some .int) ({ frames := 4, cells := 0, slots := 0, locals := 94 } : Room) [.ref (ad 0), .int a1] μ (zQi true D ad cA r μ') := by
  refine zMet_of "ButlerWeather" ⟨by decide, rfl⟩ (Nat.le_of_ble_eq_true rfl) ?_
  intro p e s m args below meth c X G hr hlk ls hl
  have hl : lv_has ls 2 [(0, .ref (ad 0)), (1, .int a1)] := hl
  obtain ⟨hx, hb, hml, hown, hts, -, -, -⟩ := id X
  obtain ⟨Q, hQ⟩ : ∃ Q, Q = MQ below (zQi true D ad cA r μ') args s 0 0 (zA true ad) := ⟨_, rfl⟩
  rw [← hQ]
  unfold f_X6_warmth at h
  refine lv_iload_n hx hb dX6_warmth_0 rfl (lv_at hl 1 rfl) ?_
  refine zz_ci (rest := []) G h (fun r μ1 hf => zz_runS X G cs_X6_isDay kw_426 (c_X6_isDay l D ad cA  hf) ⟨rfl, rfl, Nat.le_of_ble_eq_true rfl, Nat.le_of_ble_eq_true rfl⟩ rfl rfl hl.1 (Nat.le_of_ble_eq_true rfl) dX6_warmth_1) (fun x1 μ H locs G h => ?_)
  refine lv_if_eq (tgt := 18) hx hb dX6_warmth_4 (by decide) (fun c2 => ?_) (fun c2 => ?_)
  · have h := (zz_br h).1 c2
    refine lv_ldc hx hb hown (hts _ kw_500) dX6_warmth_18 ?_
    rw [hQ]
    exact zz_iret X G hr hlk dX6_warmth_20 h
  have h := (zz_br h).2 c2
  refine lv_aload_n hx hb dX6_warmth_7 rfl (lv_at hl 0 rfl) ?_
  refine zz_cr (rest := []) G h (fun r μ1 hf => zz_runV X G rc_6 tl_0 cv_X6_told kw_332 (c_X6_told l D ad cA  hf) ⟨rfl, rfl, Nat.le_of_ble_eq_true rfl, Nat.le_of_ble_eq_true rfl⟩ rfl rfl hl.1 (Nat.le_of_ble_eq_true rfl) dX6_warmth_8) (fun _ μ H locs G h => ?_)
  refine lv_iload_n hx hb dX6_warmth_11 rfl (lv_at hl 1 rfl) ?_
  refine zz_ci (rest := []) G h (fun r μ1 hf => zz_runV X G rc_2 tl_21 cv_X2_warmthOn kw_490 (c_X2_warmthOn l D ad cA tl_21 hf) ⟨rfl, rfl, Nat.le_of_ble_eq_true rfl, Nat.le_of_ble_eq_true rfl⟩ rfl rfl hl.1 (Nat.le_of_ble_eq_true rfl) dX6_warmth_12) (fun x3 μ H locs G h => ?_)
  refine lv_goto (tgt := 20) hx hb dX6_warmth_15 (by decide) ?_
  rw [hQ]
  exact zz_iret X G hr hlk dX6_warmth_20 h
set_option maxHeartbeats 4000000 in
set_option maxRecDepth 100000 in
theorem w_X6_coldest_L16 {p : Program} {l : Launch} {e : Env} {s : State} {m : MethodId} {args : Array Value} {below : List Frame} {meth : Method} {c : Code} {Q : State → Prop} {D : va_G} {ad : Nat → Nat} {cA : Nat → ClassId} {r : Int32} {μ' : zM} (X : zX true D ad cA p s m args c cX6_coldest "ButlerWeather" 6) (hQ : Q = MQ below (zQi true D ad cA r μ') args s 0 0 (zA true ad)) (hr : meth.sig.returnType = (some .int)) (hlk : meth.locks = false)  {kx : Int32 → zM → Option (Int32 × zM)} (HX : ∀ (w2 : Int32) (μ : zM) (H : Heap) (locs : List Loc) (ls : Array Slot), lv_has ls 6 [(2, .int w2)] → zG true D ad cA s μ H locs → kx w2 μ = some (r, μ') → W p l e ({ frames := 4, cells := 0, slots := 0, locals := 94 } : Room) s m args below meth c H locs 0 0 Q (F0 m 49 ls [])) : ∀ (n : Nat) (v2 : Int32) (v3 : Int32) (v4 : Int32) (μ : zM) (H : Heap) (locs : List Loc) (ls : Array Slot), lv_has ls 6 [(1, .ref (ad 21)), (2, .int v2), (3, .int v3), (4, .int v4)] → zG true D ad cA s μ H locs → f_X6_coldest_L16 kx n v2 v3 v4 μ = some (r, μ') → W p l e ({ frames := 4, cells := 0, slots := 0, locals := 94 } : Room) s m args below meth c H locs 0 0 Q (F0 m 16 ls []) := by
  obtain ⟨hx, hb, hml, hown, hts, -, -, -⟩ := id X
  intro n
  induction n with
  | zero =>
    intro v2 v3 v4 μ H locs ls hl G h
    cases (show (none : Option (Int32 × zM)) = some (r, μ') from h)
  | succ n ih =>
    intro v2 v3 v4 μ H locs ls hl G h
    rw [f_X6_coldest_L16] at h
    refine lv_iload hx hb dX6_coldest_16 (lv_at hl 3 rfl) ?_
    refine lv_bipush (v := (24 : Int32)) hx hb dX6_coldest_18 (by decide) ?_
    refine lv_icmp_ge (tgt := 49) hx hb dX6_coldest_20 (by decide) (fun c2 => ?_) (fun c2 => ?_)
    · have h := (zz_br h).1 c2
      exact HX v2 μ _ _ _ (lv_sub hl [1] rfl) G h
    have h := (zz_br h).2 c2
    refine lv_aload_n hx hb dX6_coldest_23 rfl (lv_at hl 0 rfl) ?_
    refine lv_iload hx hb dX6_coldest_24 (lv_at hl 3 rfl) ?_
    refine zz_ci (rest := []) G h (fun r μ1 hf => zz_runV X G rc_2 tl_21 cv_X2_warmthOn kw_490 (c_X2_warmthOn l D ad cA tl_21 hf) ⟨rfl, rfl, Nat.le_of_ble_eq_true rfl, Nat.le_of_ble_eq_true rfl⟩ rfl rfl hl.1 (Nat.le_of_ble_eq_true rfl) dX6_coldest_26) (fun x3 μ H locs G h => ?_)
    refine lv_istore (lv' := [(5, .int x3), (1, .ref (ad 21)), (2, .int v2), (3, .int v3), (4, .int v4)]) hx hb dX6_coldest_29 hl (by decide) rfl (fun ls hl => ?_)
    refine lv_iload hx hb dX6_coldest_31 (lv_at hl 0 rfl) ?_
    refine lv_iload_n hx hb dX6_coldest_33 rfl (lv_at hl 3 rfl) ?_
    refine lv_icmp_ge (tgt := 43) hx hb dX6_coldest_34 (by decide) (fun c4 => ?_) (fun c4 => ?_)
    · have h := (zz_br h).1 c4
      obtain ⟨x5, ex5, h⟩ := zz_let h
      refine lv_iinc (v := x5) (lv' := [(4, .int x5), (5, .int x3), (1, .ref (ad 21)), (2, .int v2), (3, .int v3)]) hx hb dX6_coldest_43 hl (k := 4) rfl (by rw [← ex5]; rfl) (by decide) rfl (fun ls hl => ?_)
      refine lv_goto (tgt := 16) hx hb dX6_coldest_46 (by decide) ?_
      exact ih v2 v3 x5 μ _ _ _ (lv_sub hl [2, 3, 4, 0] rfl) G h
    have h := (zz_br h).2 c4
    refine lv_iload hx hb dX6_coldest_37 (lv_at hl 4 rfl) ?_
    refine lv_istore_n (lv' := [(2, .int v4), (5, .int x3), (1, .ref (ad 21)), (3, .int v3), (4, .int v4)]) hx hb dX6_coldest_39 rfl hl (by decide) rfl (fun ls hl => ?_)
    refine lv_iload hx hb dX6_coldest_40 (lv_at hl 1 rfl) ?_
    refine lv_istore_n (lv' := [(3, .int x3), (2, .int v4), (5, .int x3), (1, .ref (ad 21)), (4, .int v4)]) hx hb dX6_coldest_42 rfl hl (by decide) rfl (fun ls hl => ?_)
    obtain ⟨x6, ex6, h⟩ := zz_let h
    refine lv_iinc (v := x6) (lv' := [(4, .int x6), (3, .int x3), (2, .int v4), (5, .int x3), (1, .ref (ad 21))]) hx hb dX6_coldest_43 hl (k := 4) rfl (by rw [← ex6]; rfl) (by decide) rfl (fun ls hl => ?_)
    refine lv_goto (tgt := 16) hx hb dX6_coldest_46 (by decide) ?_
    exact ih v4 x3 x6 μ _ _ _ (lv_sub hl [4, 2, 1, 0] rfl) G h
set_option maxHeartbeats 4000000 in
set_option maxRecDepth 100000 in
theorem c_X6_coldest (l : Launch) (D : va_G) (ad : Nat → Nat) (cA : Nat → ClassId)  {μ : zM} {r : Int32} {μ' : zM} (h : f_X6_coldest μ = some (r, μ')) : zMet true D ad cA l yX6_coldest cX6_coldest 6 (some .int) ({ frames := 4, cells := 0, slots := 0, locals := 94 } : Room) [.ref (ad 0)] μ (zQi true D ad cA r μ') := by
  refine zMet_of "ButlerWeather" ⟨by decide, rfl⟩ (Nat.le_of_ble_eq_true rfl) ?_
  intro p e s m args below meth c X G hr hlk ls hl
  have hl : lv_has ls 6 [(0, .ref (ad 0))] := hl
  obtain ⟨hx, hb, hml, hown, hts, -, -, -⟩ := id X
  obtain ⟨Q, hQ⟩ : ∃ Q, Q = MQ below (zQi true D ad cA r μ') args s 0 0 (zA true ad) := ⟨_, rfl⟩
  rw [← hQ]
  unfold f_X6_coldest at h
  refine lv_aload_n hx hb dX6_coldest_0 rfl (lv_at hl 0 rfl) ?_
  refine zz_cr (rest := []) G h (fun r μ1 hf => zz_runV X G rc_6 tl_0 cv_X6_told kw_332 (c_X6_told l D ad cA  hf) ⟨rfl, rfl, Nat.le_of_ble_eq_true rfl, Nat.le_of_ble_eq_true rfl⟩ rfl rfl hl.1 (Nat.le_of_ble_eq_true rfl) dX6_coldest_1) (fun _ μ H locs G h => ?_)
  refine lv_astore_n (lv' := [(1, .ref (ad 21)), (0, .ref (ad 0))]) hx hb dX6_coldest_4 rfl hl (by decide) rfl (fun ls hl => ?_)
  refine lv_iconst (v := (0 : Int32)) hx hb dX6_coldest_5 (by decide) ?_
  refine lv_istore_n (lv' := [(2, .int (0 : Int32)), (1, .ref (ad 21)), (0, .ref (ad 0))]) hx hb dX6_coldest_6 rfl hl (by decide) rfl (fun ls hl => ?_)
  refine lv_aload_n hx hb dX6_coldest_7 rfl (lv_at hl 1 rfl) ?_
  refine lv_iconst (v := (0 : Int32)) hx hb dX6_coldest_8 (by decide) ?_
  refine zz_ci (rest := []) G h (fun r μ1 hf => zz_runV X G rc_2 tl_21 cv_X2_warmthOn kw_490 (c_X2_warmthOn l D ad cA tl_21 hf) ⟨rfl, rfl, Nat.le_of_ble_eq_true rfl, Nat.le_of_ble_eq_true rfl⟩ rfl rfl hl.1 (Nat.le_of_ble_eq_true rfl) dX6_coldest_9) (fun x1 μ H locs G h => ?_)
  refine lv_istore_n (lv' := [(3, .int x1), (2, .int (0 : Int32)), (1, .ref (ad 21)), (0, .ref (ad 0))]) hx hb dX6_coldest_12 rfl hl (by decide) rfl (fun ls hl => ?_)
  refine lv_iconst (v := (1 : Int32)) hx hb dX6_coldest_13 (by decide) ?_
  refine lv_istore (lv' := [(4, .int (1 : Int32)), (3, .int x1), (2, .int (0 : Int32)), (1, .ref (ad 21)), (0, .ref (ad 0))]) hx hb dX6_coldest_14 hl (by decide) rfl (fun ls hl => ?_)
  refine w_X6_coldest_L16 X hQ hr hlk  (fun x7 μ H locs ls hl G h => ?_) 400 (0 : Int32) x1 (1 : Int32) μ _ _ _ (lv_sub hl [3, 2, 1, 0] rfl) G h
  refine lv_iload_n hx hb dX6_coldest_49 rfl (lv_at hl 0 rfl) ?_
  rw [hQ]
  exact zz_iret X G hr hlk dX6_coldest_50 h
set_option maxHeartbeats 4000000 in
set_option maxRecDepth 100000 in
theorem c_X6_first (l : Launch) (D : va_G) (ad : Nat → Nat) (cA : Nat → ClassId) {a1 : Int32} {μ : zM} {r : Int32} {μ' : zM} (h : f_X6_first a1 μ = some (r, μ')) : zMet true D ad cA l yX6_first cX6_first 4 (some .int) ({ frames := 4, cells := 0, slots := 0, locals := 94 } : Room) [.ref (ad 0), .int a1] μ (zQi true D ad cA r μ') := by
  refine zMet_of "ButlerWeather" ⟨by decide, rfl⟩ (Nat.le_of_ble_eq_true rfl) ?_
  intro p e s m args below meth c X G hr hlk ls hl
  have hl : lv_has ls 4 [(0, .ref (ad 0)), (1, .int a1)] := hl
  obtain ⟨hx, hb, hml, hown, hts, -, -, -⟩ := id X
  obtain ⟨Q, hQ⟩ : ∃ Q, Q = MQ below (zQi true D ad cA r μ') args s 0 0 (zA true ad) := ⟨_, rfl⟩
  rw [← hQ]
  unfold f_X6_first at h
  refine lv_iload_n hx hb dX6_first_0 rfl (lv_at hl 1 rfl) ?_
  refine lv_iconst (v := (0 : Int32)) hx hb dX6_first_1 (by decide) ?_
  refine lv_iconst (v := (1 : Int32)) hx hb dX6_first_2 (by decide) ?_
  refine zz_ci (rest := []) G h (fun r μ1 hf => zz_runS X G cs_X6_within kw_289 (c_X6_within l D ad cA  hf) ⟨rfl, rfl, Nat.le_of_ble_eq_true rfl, Nat.le_of_ble_eq_true rfl⟩ rfl rfl hl.1 (Nat.le_of_ble_eq_true rfl) dX6_first_3) (fun x1 μ H locs G h => ?_)
  refine lv_if_ne (tgt := 12) hx hb dX6_first_6 (by decide) (fun c2 => ?_) (fun c2 => ?_)
  · have h := (zz_br h).1 c2
    refine lv_aload_n hx hb dX6_first_12 rfl (lv_at hl 0 rfl) ?_
    refine zz_cr (rest := []) G h (fun r μ1 hf => zz_runV X G rc_6 tl_0 cv_X6_told kw_332 (c_X6_told l D ad cA  hf) ⟨rfl, rfl, Nat.le_of_ble_eq_true rfl, Nat.le_of_ble_eq_true rfl⟩ rfl rfl hl.1 (Nat.le_of_ble_eq_true rfl) dX6_first_13) (fun _ μ H locs G h => ?_)
    refine lv_astore_n (lv' := [(2, .ref (ad 21)), (0, .ref (ad 0)), (1, .int a1)]) hx hb dX6_first_16 rfl hl (by decide) rfl (fun ls hl => ?_)
    refine lv_aload_n hx hb dX6_first_17 rfl (lv_at hl 0 rfl) ?_
    refine zz_ci (rest := []) G h (fun r μ1 hf => zz_runV X G rc_2 tl_21 cv_X2_firstByDoor kw_509 (c_X2_firstByDoor l D ad cA tl_21 hf) ⟨rfl, rfl, Nat.le_of_ble_eq_true rfl, Nat.le_of_ble_eq_true rfl⟩ rfl rfl hl.1 (Nat.le_of_ble_eq_true rfl) dX6_first_18) (fun x3 μ H locs G h => ?_)
    refine lv_istore_n (lv' := [(3, .int x3), (2, .ref (ad 21)), (0, .ref (ad 0)), (1, .int a1)]) hx hb dX6_first_21 rfl hl (by decide) rfl (fun ls hl => ?_)
    refine lv_iload_n hx hb dX6_first_22 rfl (lv_at hl 3 rfl) ?_
    refine lv_iconst (v := (1 : Int32)) hx hb dX6_first_23 (by decide) ?_
    refine lv_icmp_eq (tgt := 32) hx hb dX6_first_24 (by decide) (fun c4 => ?_) (fun c4 => ?_)
    · have h := (zz_br h).1 c4
      refine lv_iload_n hx hb dX6_first_32 rfl (lv_at hl 0 rfl) ?_
      refine lv_goto (tgt := 42) hx hb dX6_first_33 (by decide) ?_
      rw [hQ]
      exact zz_iret X G hr hlk dX6_first_42 h
    have h := (zz_br h).2 c4
    refine lv_iload_n hx hb dX6_first_27 rfl (lv_at hl 0 rfl) ?_
    refine lv_iconst (v := (-1 : Int32)) hx hb dX6_first_28 (by decide) ?_
    refine lv_icmp_ne (tgt := 36) hx hb dX6_first_29 (by decide) (fun c5 => ?_) (fun c5 => ?_)
    · have h := (zz_br h).1 c5
      refine lv_aload_n hx hb dX6_first_36 rfl (lv_at hl 1 rfl) ?_
      refine zz_getr X G fr_2_11 tl_21 rl_21_11 kw_202 dX6_first_37 ?_
      refine lv_iload_n hx hb dX6_first_40 rfl (lv_at hl 0 rfl) ?_
      refine zz_iald X G ia_10 tl_31 dX6_first_41 h (fun x6 h => ?_)
      rw [hQ]
      exact zz_iret X G hr hlk dX6_first_42 h
    have h := (zz_br h).2 (fun q => q c5)
    refine lv_iload_n hx hb dX6_first_32 rfl (lv_at hl 0 rfl) ?_
    refine lv_goto (tgt := 42) hx hb dX6_first_33 (by decide) ?_
    rw [hQ]
    exact zz_iret X G hr hlk dX6_first_42 h
  have h := (zz_br h).2 (fun q => q c2)
  refine lv_bipush (v := (-2 : Int32)) hx hb dX6_first_9 (by decide) ?_
  rw [hQ]
  exact zz_iret X G hr hlk dX6_first_11 h
