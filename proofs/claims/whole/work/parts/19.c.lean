-- CONTRACTS, by program
set_option maxHeartbeats 4000000 in
set_option maxRecDepth 100000 in
theorem w_X7_opens_L2 {p : Program} {l : Launch} {e : Env} {s : State} {m : MethodId} {args : Array Value} {below : List Frame} {meth : Method} {c : Code} {Q : State → Prop} {D : va_G} {ad : Nat → Nat} {cA : Nat → ClassId} {r : Unit} {μ' : zM} (X : zX false D ad cA p s m args c cX7_opens "ButlerWeatherModel" 5) (hQ : Q = MQ below (zQv false D ad cA r μ') args s 0 0 (zA false ad)) (hr : meth.sig.returnType = none) (hlk : meth.locks = false) {v1 : Int32} {v2 : Int32} {kx : zM → Option (Unit × zM)} (HX : ∀ (μ : zM) (H : Heap) (locs : List Loc) (ls : Array Slot), lv_has ls 5 [(0, .ref (ad 100)), (1, .int v1), (2, .int v2)] → zG false D ad cA s μ H locs → kx  μ = some (r, μ') → W p l e ({ frames := 2, cells := 0, slots := 0, locals := 45 } : Room) s m args below meth c H locs 0 0 Q (F0 m 61 ls [])) : ∀ (n : Nat) (v3 : Int32) (μ : zM) (H : Heap) (locs : List Loc) (ls : Array Slot), lv_has ls 5 [(0, .ref (ad 100)), (1, .int v1), (2, .int v2), (3, .int v3)] → zG false D ad cA s μ H locs → f_X7_opens_L2 v1 v2 kx n v3 μ = some (r, μ') → W p l e ({ frames := 2, cells := 0, slots := 0, locals := 45 } : Room) s m args below meth c H locs 0 0 Q (F0 m 2 ls []) := by
  obtain ⟨hx, hb, hml, hown, hts, -, -, -⟩ := id X
  intro n
  induction n with
  | zero =>
    intro v3 μ H locs ls hl G h
    cases (show (none : Option (Unit × zM)) = some (r, μ') from h)
  | succ n ih =>
    intro v3 μ H locs ls hl G h
    rw [f_X7_opens_L2] at h
    refine lv_iload_n hx hb dX7_opens_2 rfl (lv_at hl 3 rfl) ?_
    refine lv_aload_n hx hb dX7_opens_3 rfl (lv_at hl 0 rfl) ?_
    refine zz_geti X G fi_7_2 tl_100 kw_784 dX7_opens_4 h (fun x1 h => ?_)
    refine lv_icmp_ge (tgt := 61) hx hb dX7_opens_7 (by decide) (fun c2 => ?_) (fun c2 => ?_)
    · have h := (zz_br h).1 c2
      exact HX  μ _ _ _ (lv_sub hl [0, 1, 2] rfl) G h
    have h := (zz_br h).2 c2
    refine lv_aload_n hx hb dX7_opens_10 rfl (lv_at hl 0 rfl) ?_
    refine zz_getr X G fr_7_18 tl_100 rl_100_18 kw_800 dX7_opens_11 ?_
    refine lv_iload_n hx hb dX7_opens_14 rfl (lv_at hl 3 rfl) ?_
    refine lv_aload_n hx hb dX7_opens_15 rfl (lv_at hl 0 rfl) ?_
    refine zz_getr X G fr_7_18 tl_100 rl_100_18 kw_800 dX7_opens_16 ?_
    refine lv_iload_n hx hb dX7_opens_19 rfl (lv_at hl 3 rfl) ?_
    refine zz_iald X G ia_30 tl_119 dX7_opens_20 h (fun x3 h => ?_)
    refine lv_iconst (v := (1 : Int32)) hx hb dX7_opens_21 (by decide) ?_
    refine lv_icmp_ne (tgt := 48) hx hb dX7_opens_22 (by decide) (fun c4 => ?_) (fun c4 => ?_)
    · have h := (zz_br h).1 c4
      refine lv_aload_n hx hb dX7_opens_48 rfl (lv_at hl 0 rfl) ?_
      refine zz_getr X G fr_7_18 tl_100 rl_100_18 kw_800 dX7_opens_49 ?_
      refine lv_iload_n hx hb dX7_opens_52 rfl (lv_at hl 3 rfl) ?_
      refine zz_iald X G ia_30 tl_119 dX7_opens_53 h (fun x5 h => ?_)
      refine zz_iast X G ia_30 tl_119 dX7_opens_54 h (fun μ H locs G h => ?_)
      obtain ⟨x6, ex6, h⟩ := zz_let h
      refine lv_iinc (v := x6) (lv' := [(3, .int x6), (0, .ref (ad 100)), (1, .int v1), (2, .int v2)]) hx hb dX7_opens_55 hl (k := 3) rfl (by rw [← ex6]; rfl) (by decide) rfl (fun ls hl => ?_)
      refine lv_goto (tgt := 2) hx hb dX7_opens_58 (by decide) ?_
      exact ih x6 μ _ _ _ (lv_sub hl [1, 2, 3, 0] rfl) G h
    have h := (zz_br h).2 (fun q => q c4)
    refine lv_aload_n hx hb dX7_opens_25 rfl (lv_at hl 0 rfl) ?_
    refine zz_getr X G fr_7_3 tl_100 rl_100_3 kw_785 dX7_opens_26 ?_
    refine lv_iload_n hx hb dX7_opens_29 rfl (lv_at hl 3 rfl) ?_
    refine zz_iald X G ia_30 tl_104 dX7_opens_30 h (fun x7 h => ?_)
    refine lv_iconst (v := (3 : Int32)) hx hb dX7_opens_31 (by decide) ?_
    refine lv_icmp_ne (tgt := 48) hx hb dX7_opens_32 (by decide) (fun c8 => ?_) (fun c8 => ?_)
    · have h := (zz_br h).1 c8
      refine lv_aload_n hx hb dX7_opens_48 rfl (lv_at hl 0 rfl) ?_
      refine zz_getr X G fr_7_18 tl_100 rl_100_18 kw_800 dX7_opens_49 ?_
      refine lv_iload_n hx hb dX7_opens_52 rfl (lv_at hl 3 rfl) ?_
      refine zz_iald X G ia_30 tl_119 dX7_opens_53 h (fun x9 h => ?_)
      refine zz_iast X G ia_30 tl_119 dX7_opens_54 h (fun μ H locs G h => ?_)
      obtain ⟨x10, ex10, h⟩ := zz_let h
      refine lv_iinc (v := x10) (lv' := [(3, .int x10), (0, .ref (ad 100)), (1, .int v1), (2, .int v2)]) hx hb dX7_opens_55 hl (k := 3) rfl (by rw [← ex10]; rfl) (by decide) rfl (fun ls hl => ?_)
      refine lv_goto (tgt := 2) hx hb dX7_opens_58 (by decide) ?_
      exact ih x10 μ _ _ _ (lv_sub hl [1, 2, 3, 0] rfl) G h
    have h := (zz_br h).2 (fun q => q c8)
    refine lv_aload_n hx hb dX7_opens_35 rfl (lv_at hl 0 rfl) ?_
    refine zz_getr X G fr_7_8 tl_100 rl_100_8 kw_790 dX7_opens_36 ?_
    refine lv_iload_n hx hb dX7_opens_39 rfl (lv_at hl 1 rfl) ?_
    refine zz_iald X G ia_30 tl_109 dX7_opens_40 h (fun x11 h => ?_)
    refine lv_if_ne (tgt := 48) hx hb dX7_opens_41 (by decide) (fun c12 => ?_) (fun c12 => ?_)
    · have h := (zz_br h).1 c12
      refine lv_aload_n hx hb dX7_opens_48 rfl (lv_at hl 0 rfl) ?_
      refine zz_getr X G fr_7_18 tl_100 rl_100_18 kw_800 dX7_opens_49 ?_
      refine lv_iload_n hx hb dX7_opens_52 rfl (lv_at hl 3 rfl) ?_
      refine zz_iald X G ia_30 tl_119 dX7_opens_53 h (fun x13 h => ?_)
      refine zz_iast X G ia_30 tl_119 dX7_opens_54 h (fun μ H locs G h => ?_)
      obtain ⟨x14, ex14, h⟩ := zz_let h
      refine lv_iinc (v := x14) (lv' := [(3, .int x14), (0, .ref (ad 100)), (1, .int v1), (2, .int v2)]) hx hb dX7_opens_55 hl (k := 3) rfl (by rw [← ex14]; rfl) (by decide) rfl (fun ls hl => ?_)
      refine lv_goto (tgt := 2) hx hb dX7_opens_58 (by decide) ?_
      exact ih x14 μ _ _ _ (lv_sub hl [1, 2, 3, 0] rfl) G h
    have h := (zz_br h).2 (fun q => q c12)
    refine lv_iconst (v := (4 : Int32)) hx hb dX7_opens_44 (by decide) ?_
    refine lv_goto (tgt := 54) hx hb dX7_opens_45 (by decide) ?_
    refine zz_iast X G ia_30 tl_119 dX7_opens_54 h (fun μ H locs G h => ?_)
    obtain ⟨x15, ex15, h⟩ := zz_let h
    refine lv_iinc (v := x15) (lv' := [(3, .int x15), (0, .ref (ad 100)), (1, .int v1), (2, .int v2)]) hx hb dX7_opens_55 hl (k := 3) rfl (by rw [← ex15]; rfl) (by decide) rfl (fun ls hl => ?_)
    refine lv_goto (tgt := 2) hx hb dX7_opens_58 (by decide) ?_
    exact ih x15 μ _ _ _ (lv_sub hl [1, 2, 3, 0] rfl) G h
set_option maxHeartbeats 4000000 in
set_option maxRecDepth 100000 in
theorem w_X7_opens_L66 {p : Program} {l : Launch} {e : Env} {s : State} {m : MethodId} {args : Array Value} {below : List Frame} {meth : Method} {c : Code} {Q : State → Prop} {D : va_G} {ad : Nat → Nat} {cA : Nat → ClassId} {r : Unit} {μ' : zM} (X : zX false D ad cA p s m args c cX7_opens "ButlerWeatherModel" 5) (hQ : Q = MQ below (zQv false D ad cA r μ') args s 0 0 (zA false ad)) (hr : meth.sig.returnType = none) (hlk : meth.locks = false) {v1 : Int32} {v2 : Int32} {kx : Int32 → zM → Option (Unit × zM)} (HX : ∀ (w3 : Int32) (μ : zM) (H : Heap) (locs : List Loc) (ls : Array Slot), lv_has ls 5 [(0, .ref (ad 100)), (1, .int v1), (2, .int v2), (3, .int w3)] → zG false D ad cA s μ H locs → kx w3 μ = some (r, μ') → W p l e ({ frames := 2, cells := 0, slots := 0, locals := 45 } : Room) s m args below meth c H locs 0 0 Q (F0 m 126 ls [])) : ∀ (n : Nat) (v3 : Int32) (v4 : Int32) (μ : zM) (H : Heap) (locs : List Loc) (ls : Array Slot), lv_has ls 5 [(0, .ref (ad 100)), (1, .int v1), (2, .int v2), (3, .int v3), (4, .int v4)] → zG false D ad cA s μ H locs → f_X7_opens_L66 v1 v2 kx n v3 v4 μ = some (r, μ') → W p l e ({ frames := 2, cells := 0, slots := 0, locals := 45 } : Room) s m args below meth c H locs 0 0 Q (F0 m 66 ls []) := by
  obtain ⟨hx, hb, hml, hown, hts, -, -, -⟩ := id X
  intro n
  induction n with
  | zero =>
    intro v3 v4 μ H locs ls hl G h
    cases (show (none : Option (Unit × zM)) = some (r, μ') from h)
  | succ n ih =>
    intro v3 v4 μ H locs ls hl G h
    rw [f_X7_opens_L66] at h
    refine lv_iload hx hb dX7_opens_66 (lv_at hl 4 rfl) ?_
    refine lv_aload_n hx hb dX7_opens_68 rfl (lv_at hl 0 rfl) ?_
    refine zz_geti X G fi_7_2 tl_100 kw_784 dX7_opens_69 h (fun x16 h => ?_)
    refine lv_icmp_ge (tgt := 126) hx hb dX7_opens_72 (by decide) (fun c17 => ?_) (fun c17 => ?_)
    · have h := (zz_br h).1 c17
      exact HX v3 μ _ _ _ (lv_sub hl [0, 1, 2, 3] rfl) G h
    have h := (zz_br h).2 c17
    refine lv_aload_n hx hb dX7_opens_75 rfl (lv_at hl 0 rfl) ?_
    refine zz_getr X G fr_7_18 tl_100 rl_100_18 kw_800 dX7_opens_76 ?_
    refine lv_iload hx hb dX7_opens_79 (lv_at hl 4 rfl) ?_
    refine zz_iald X G ia_30 tl_119 dX7_opens_81 h (fun x18 h => ?_)
    refine lv_iconst (v := (1 : Int32)) hx hb dX7_opens_82 (by decide) ?_
    refine lv_icmp_ne (tgt := 120) hx hb dX7_opens_83 (by decide) (fun c19 => ?_) (fun c19 => ?_)
    · have h := (zz_br h).1 c19
      obtain ⟨x20, ex20, h⟩ := zz_let h
      refine lv_iinc (v := x20) (lv' := [(4, .int x20), (0, .ref (ad 100)), (1, .int v1), (2, .int v2), (3, .int v3)]) hx hb dX7_opens_120 hl (k := 4) rfl (by rw [← ex20]; rfl) (by decide) rfl (fun ls hl => ?_)
      refine lv_goto (tgt := 66) hx hb dX7_opens_123 (by decide) ?_
      exact ih v3 x20 μ _ _ _ (lv_sub hl [1, 2, 3, 4, 0] rfl) G h
    have h := (zz_br h).2 (fun q => q c19)
    refine lv_aload_n hx hb dX7_opens_86 rfl (lv_at hl 0 rfl) ?_
    refine lv_iload hx hb dX7_opens_87 (lv_at hl 4 rfl) ?_
    refine lv_iload_n hx hb dX7_opens_89 rfl (lv_at hl 2 rfl) ?_
    refine zz_ci (rest := []) G h (fun r μ1 hf => zz_runV X G rc_7 tl_100 cv_X7_hasCard kw_1034 (c_X7_hasCard l D ad cA  hf) ⟨rfl, rfl, Nat.le_of_ble_eq_true rfl, Nat.le_of_ble_eq_true rfl⟩ rfl rfl hl.1 (Nat.le_of_ble_eq_true rfl) dX7_opens_90) (fun x21 μ H locs G h => ?_)
    refine lv_if_eq (tgt := 120) hx hb dX7_opens_93 (by decide) (fun c22 => ?_) (fun c22 => ?_)
    · have h := (zz_br h).1 c22
      obtain ⟨x23, ex23, h⟩ := zz_let h
      refine lv_iinc (v := x23) (lv' := [(4, .int x23), (0, .ref (ad 100)), (1, .int v1), (2, .int v2), (3, .int v3)]) hx hb dX7_opens_120 hl (k := 4) rfl (by rw [← ex23]; rfl) (by decide) rfl (fun ls hl => ?_)
      refine lv_goto (tgt := 66) hx hb dX7_opens_123 (by decide) ?_
      exact ih v3 x23 μ _ _ _ (lv_sub hl [1, 2, 3, 4, 0] rfl) G h
    have h := (zz_br h).2 c22
    refine lv_iload_n hx hb dX7_opens_96 rfl (lv_at hl 3 rfl) ?_
    refine lv_iconst (v := (-1 : Int32)) hx hb dX7_opens_97 (by decide) ?_
    refine lv_icmp_eq (tgt := 117) hx hb dX7_opens_98 (by decide) (fun c24 => ?_) (fun c24 => ?_)
    · have h := (zz_br h).1 c24
      refine lv_iload hx hb dX7_opens_117 (lv_at hl 4 rfl) ?_
      refine lv_istore_n (lv' := [(3, .int v4), (0, .ref (ad 100)), (1, .int v1), (2, .int v2), (4, .int v4)]) hx hb dX7_opens_119 rfl hl (by decide) rfl (fun ls hl => ?_)
      obtain ⟨x25, ex25, h⟩ := zz_let h
      refine lv_iinc (v := x25) (lv' := [(4, .int x25), (3, .int v4), (0, .ref (ad 100)), (1, .int v1), (2, .int v2)]) hx hb dX7_opens_120 hl (k := 4) rfl (by rw [← ex25]; rfl) (by decide) rfl (fun ls hl => ?_)
      refine lv_goto (tgt := 66) hx hb dX7_opens_123 (by decide) ?_
      exact ih v4 x25 μ _ _ _ (lv_sub hl [2, 3, 4, 1, 0] rfl) G h
    have h := (zz_br h).2 c24
    refine lv_aload_n hx hb dX7_opens_101 rfl (lv_at hl 0 rfl) ?_
    refine zz_getr X G fr_7_5 tl_100 rl_100_5 kw_787 dX7_opens_102 ?_
    refine lv_iload hx hb dX7_opens_105 (lv_at hl 4 rfl) ?_
    refine zz_iald X G ia_30 tl_106 dX7_opens_107 h (fun x26 h => ?_)
    refine lv_aload_n hx hb dX7_opens_108 rfl (lv_at hl 0 rfl) ?_
    refine zz_getr X G fr_7_5 tl_100 rl_100_5 kw_787 dX7_opens_109 ?_
    refine lv_iload_n hx hb dX7_opens_112 rfl (lv_at hl 3 rfl) ?_
    refine zz_iald X G ia_30 tl_106 dX7_opens_113 h (fun x27 h => ?_)
    refine lv_icmp_ge (tgt := 120) hx hb dX7_opens_114 (by decide) (fun c28 => ?_) (fun c28 => ?_)
    · have h := (zz_br h).1 c28
      obtain ⟨x29, ex29, h⟩ := zz_let h
      refine lv_iinc (v := x29) (lv' := [(4, .int x29), (0, .ref (ad 100)), (1, .int v1), (2, .int v2), (3, .int v3)]) hx hb dX7_opens_120 hl (k := 4) rfl (by rw [← ex29]; rfl) (by decide) rfl (fun ls hl => ?_)
      refine lv_goto (tgt := 66) hx hb dX7_opens_123 (by decide) ?_
      exact ih v3 x29 μ _ _ _ (lv_sub hl [1, 2, 3, 4, 0] rfl) G h
    have h := (zz_br h).2 c28
    refine lv_iload hx hb dX7_opens_117 (lv_at hl 4 rfl) ?_
    refine lv_istore_n (lv' := [(3, .int v4), (0, .ref (ad 100)), (1, .int v1), (2, .int v2), (4, .int v4)]) hx hb dX7_opens_119 rfl hl (by decide) rfl (fun ls hl => ?_)
    obtain ⟨x30, ex30, h⟩ := zz_let h
    refine lv_iinc (v := x30) (lv' := [(4, .int x30), (3, .int v4), (0, .ref (ad 100)), (1, .int v1), (2, .int v2)]) hx hb dX7_opens_120 hl (k := 4) rfl (by rw [← ex30]; rfl) (by decide) rfl (fun ls hl => ?_)
    refine lv_goto (tgt := 66) hx hb dX7_opens_123 (by decide) ?_
    exact ih v4 x30 μ _ _ _ (lv_sub hl [2, 3, 4, 1, 0] rfl) G h
set_option maxHeartbeats 4000000 in
set_option maxRecDepth 100000 in
theorem c_X7_opens (l : Launch) (D : va_G) (ad : Nat → Nat) (cA : Nat → ClassId) {a1 : Int32} {a2 : Int32} {μ : zM} {r : Unit} {μ' : zM} (h : f_X7_opens a1 a2 μ = some (r, μ')) : zMet false D ad cA l yX7_opens cX7_opens 5 none ({ frames := 2, cells := 0, slots := 0, locals := 45 } : Room) [.ref (ad 100), .int a1, .int a2] μ (zQv false D ad cA r μ') := by
  refine zMet_of "ButlerWeatherModel" ⟨by decide, rfl⟩ (Nat.le_of_ble_eq_true rfl) ?_
  intro p e s m args below meth c X G hr hlk ls hl
  have hl : lv_has ls 5 [(0, .ref (ad 100)), (1, .int a1), (2, .int a2)] := hl
  obtain ⟨hx, hb, hml, hown, hts, -, -, -⟩ := id X
  obtain ⟨Q, hQ⟩ : ∃ Q, Q = MQ below (zQv false D ad cA r μ') args s 0 0 (zA false ad) := ⟨_, rfl⟩
  rw [← hQ]
  unfold f_X7_opens at h
  refine lv_iconst (v := (0 : Int32)) hx hb dX7_opens_0 (by decide) ?_
  refine lv_istore_n (lv' := [(3, .int (0 : Int32)), (0, .ref (ad 100)), (1, .int a1), (2, .int a2)]) hx hb dX7_opens_1 rfl hl (by decide) rfl (fun ls hl => ?_)
  refine w_X7_opens_L2 X hQ hr hlk  (fun  μ H locs ls hl G h => ?_) 400 (0 : Int32) μ _ _ _ (lv_sub hl [1, 2, 3, 0] rfl) G h
  refine lv_iconst (v := (-1 : Int32)) hx hb dX7_opens_61 (by decide) ?_
  refine lv_istore_n (lv' := [(3, .int (-1 : Int32)), (0, .ref (ad 100)), (1, .int a1), (2, .int a2)]) hx hb dX7_opens_62 rfl hl (by decide) rfl (fun ls hl => ?_)
  refine lv_iconst (v := (0 : Int32)) hx hb dX7_opens_63 (by decide) ?_
  refine lv_istore (lv' := [(4, .int (0 : Int32)), (3, .int (-1 : Int32)), (0, .ref (ad 100)), (1, .int a1), (2, .int a2)]) hx hb dX7_opens_64 hl (by decide) rfl (fun ls hl => ?_)
  refine w_X7_opens_L66 X hQ hr hlk  (fun x31 μ H locs ls hl G h => ?_) 400 (-1 : Int32) (0 : Int32) μ _ _ _ (lv_sub hl [2, 3, 4, 1, 0] rfl) G h
  refine lv_iload_n hx hb dX7_opens_126 rfl (lv_at hl 3 rfl) ?_
  refine lv_iconst (v := (-1 : Int32)) hx hb dX7_opens_127 (by decide) ?_
  refine lv_icmp_eq (tgt := 206) hx hb dX7_opens_128 (by decide) (fun c32 => ?_) (fun c32 => ?_)
  · have h := (zz_br h).1 c32
    rw [hQ]
    exact zz_vret X G hr hlk dX7_opens_206 h
  have h := (zz_br h).2 c32
  refine lv_aload_n hx hb dX7_opens_131 rfl (lv_at hl 0 rfl) ?_
  refine lv_iload_n hx hb dX7_opens_132 rfl (lv_at hl 3 rfl) ?_
  refine lv_iload_n hx hb dX7_opens_133 rfl (lv_at hl 2 rfl) ?_
  refine lv_aload_n hx hb dX7_opens_134 rfl (lv_at hl 0 rfl) ?_
  refine zz_getr X G fr_7_8 tl_100 rl_100_8 kw_790 dX7_opens_135 ?_
  refine lv_iload_n hx hb dX7_opens_138 rfl (lv_at hl 1 rfl) ?_
  refine zz_iald X G ia_30 tl_109 dX7_opens_139 h (fun x33 h => ?_)
  refine lv_iconst (v := (1 : Int32)) hx hb dX7_opens_140 (by decide) ?_
  refine Exists.elim (zz_jn (P := fun (j : Int32 → zM → Option (Unit × zM)) => ∀ (y34 : Int32) (μ : zM) (H : Heap) (locs : List Loc) (ls : Array Slot), lv_has ls 5 [(0, .ref (ad 100)), (2, .int a2), (3, .int x31)] → zG false D ad cA s μ H locs → j y34 μ = some (r, μ') → W p l e ({ frames := 2, cells := 0, slots := 0, locals := 45 } : Room) s m args below meth c H locs 0 0 Q (F0 m 163 ls [.int y34, .int a2, .int x31, .ref (ad 100)])) h ?_) (fun j163_1 hj => ?_)
  · intro y34 μ H locs ls hl G h
    refine zz_cv (rest := []) G h (fun r μ1 hf => zz_runV X G rc_7 tl_100 cv_X7_letsIn kw_1022 (c_X7_letsIn l D ad cA  hf) ⟨rfl, rfl, Nat.le_of_ble_eq_true rfl, Nat.le_of_ble_eq_true rfl⟩ rfl rfl hl.1 (Nat.le_of_ble_eq_true rfl) dX7_opens_163) (fun _ μ H locs G h => ?_)
    refine lv_aload_n hx hb dX7_opens_166 rfl (lv_at hl 0 rfl) ?_
    refine lv_aload_n hx hb dX7_opens_167 rfl (lv_at hl 0 rfl) ?_
    refine zz_geti X G fi_7_21 tl_100 kw_803 dX7_opens_168 h (fun x35 h => ?_)
    refine lv_iconst (v := (-1 : Int32)) hx hb dX7_opens_171 (by decide) ?_
    refine Exists.elim (zz_jn (P := fun (j : Int32 → zM → Option (Unit × zM)) => ∀ (y36 : Int32) (μ : zM) (H : Heap) (locs : List Loc) (ls : Array Slot), lv_has ls 5 [(0, .ref (ad 100)), (2, .int a2)] → zG false D ad cA s μ H locs → j y36 μ = some (r, μ') → W p l e ({ frames := 2, cells := 0, slots := 0, locals := 45 } : Room) s m args below meth c H locs 0 0 Q (F0 m 183 ls [.int y36, .ref (ad 100)])) h ?_) (fun j183_2 hj => ?_)
    · intro y36 μ H locs ls hl G h
      refine zz_puti X G fp_7_22 tl_100 kw_804 rfl rfl dX7_opens_183 h (fun μ H locs G h => ?_)
      refine lv_aload_n hx hb dX7_opens_186 rfl (lv_at hl 0 rfl) ?_
      refine lv_aload_n hx hb dX7_opens_187 rfl (lv_at hl 0 rfl) ?_
      refine zz_geti X G fi_7_21 tl_100 kw_803 dX7_opens_188 h (fun x37 h => ?_)
      refine lv_iconst (v := (-1 : Int32)) hx hb dX7_opens_191 (by decide) ?_
      refine lv_icmp_ne (tgt := 199) hx hb dX7_opens_192 (by decide) (fun c38 => ?_) (fun c38 => ?_)
      · have h := (zz_br h).1 c38
        refine lv_aload_n hx hb dX7_opens_199 rfl (lv_at hl 0 rfl) ?_
        refine zz_geti X G fi_7_21 tl_100 kw_803 dX7_opens_200 h (fun x39 h => ?_)
        refine zz_puti X G fp_7_21 tl_100 kw_803 rfl rfl dX7_opens_203 h (fun μ H locs G h => ?_)
        rw [hQ]
        exact zz_vret X G hr hlk dX7_opens_206 h
      have h := (zz_br h).2 (fun q => q c38)
      refine lv_iload_n hx hb dX7_opens_195 rfl (lv_at hl 1 rfl) ?_
      refine lv_goto (tgt := 203) hx hb dX7_opens_196 (by decide) ?_
      refine zz_puti X G fp_7_21 tl_100 kw_803 rfl rfl dX7_opens_203 h (fun μ H locs G h => ?_)
      rw [hQ]
      exact zz_vret X G hr hlk dX7_opens_206 h
    obtain ⟨hj183_2, h⟩ := hj
    refine lv_icmp_ne (tgt := 179) hx hb dX7_opens_172 (by decide) (fun c40 => ?_) (fun c40 => ?_)
    · have h := (zz_br h).1 c40
      refine lv_aload_n hx hb dX7_opens_179 rfl (lv_at hl 0 rfl) ?_
      refine zz_geti X G fi_7_22 tl_100 kw_804 dX7_opens_180 h (fun x41 h => ?_)
      exact hj183_2 x41 μ _ _ _ (lv_sub hl [0, 1] rfl) G h
    have h := (zz_br h).2 (fun q => q c40)
    refine lv_iload_n hx hb dX7_opens_175 rfl (lv_at hl 2 rfl) ?_
    refine lv_goto (tgt := 183) hx hb dX7_opens_176 (by decide) ?_
    exact hj183_2 x31 μ _ _ _ (lv_sub hl [0, 1] rfl) G h
  obtain ⟨hj163_1, h⟩ := hj
  refine lv_icmp_ne (tgt := 157) hx hb dX7_opens_141 (by decide) (fun c42 => ?_) (fun c42 => ?_)
  · have h := (zz_br h).1 c42
    refine lv_aload_n hx hb dX7_opens_157 rfl (lv_at hl 0 rfl) ?_
    refine zz_getr X G fr_7_3 tl_100 rl_100_3 kw_785 dX7_opens_158 ?_
    refine lv_iload_n hx hb dX7_opens_161 rfl (lv_at hl 3 rfl) ?_
    refine zz_iald X G ia_30 tl_104 dX7_opens_162 h (fun x43 h => ?_)
    exact hj163_1 x43 μ _ _ _ (lv_sub hl [0, 2, 3] rfl) G h
  have h := (zz_br h).2 (fun q => q c42)
  refine lv_aload_n hx hb dX7_opens_144 rfl (lv_at hl 0 rfl) ?_
  refine zz_getr X G fr_7_3 tl_100 rl_100_3 kw_785 dX7_opens_145 ?_
  refine lv_iload_n hx hb dX7_opens_148 rfl (lv_at hl 3 rfl) ?_
  refine zz_iald X G ia_30 tl_104 dX7_opens_149 h (fun x44 h => ?_)
  refine lv_iconst (v := (1 : Int32)) hx hb dX7_opens_150 (by decide) ?_
  refine lv_iadd hx hb dX7_opens_151 ?_
  refine lv_iconst (v := (4 : Int32)) hx hb dX7_opens_152 (by decide) ?_
  obtain ⟨hd, h⟩ := zz_gd h
  refine lv_irem hx hb dX7_opens_153 hd ?_
  refine lv_goto (tgt := 163) hx hb dX7_opens_154 (by decide) ?_
  exact hj163_1 ((x44 + (1 : Int32)) - (x44 + (1 : Int32)) / (4 : Int32) * (4 : Int32)) μ _ _ _ (lv_sub hl [0, 2, 3] rfl) G h
set_option maxHeartbeats 4000000 in
set_option maxRecDepth 100000 in
theorem c_X7_warms (l : Launch) (D : va_G) (ad : Nat → Nat) (cA : Nat → ClassId) {a0 : Int32} {μ : zM} {r : Int32} {μ' : zM} (h : f_X7_warms a0 μ = some (r, μ')) : zMet false D ad cA l yX7_warms cX7_warms 1 (some .int) ({ frames := 0, cells := 0, slots := 0, locals := 0 } : Room) [.int a0] μ (zQi false D ad cA r μ') := by
  refine zMet_of "ButlerWeatherModel" ⟨by decide, rfl⟩ (Nat.le_of_ble_eq_true rfl) ?_
  intro p e s m args below meth c X G hr hlk ls hl
  have hl : lv_has ls 1 [(0, .int a0)] := hl
  obtain ⟨hx, hb, hml, hown, hts, -, -, -⟩ := id X
  obtain ⟨Q, hQ⟩ : ∃ Q, Q = MQ below (zQi false D ad cA r μ') args s 0 0 (zA false ad) := ⟨_, rfl⟩
  rw [← hQ]
  unfold f_X7_warms at h
  refine lv_iload_n hx hb dX7_warms_0 rfl (lv_at hl 0 rfl) ?_
  refine lv_if_ne (tgt := 8) hx hb dX7_warms_1 (by decide) (fun c1 => ?_) (fun c1 => ?_)
  · have h := (zz_br h).1 c1
    refine lv_iload_n hx hb dX7_warms_8 rfl (lv_at hl 0 rfl) ?_
    refine lv_iconst (v := (1 : Int32)) hx hb dX7_warms_9 (by decide) ?_
    refine lv_icmp_ne (tgt := 18) hx hb dX7_warms_10 (by decide) (fun c2 => ?_) (fun c2 => ?_)
    · have h := (zz_br h).1 c2
      refine lv_iload_n hx hb dX7_warms_18 rfl (lv_at hl 0 rfl) ?_
      refine lv_iconst (v := (2 : Int32)) hx hb dX7_warms_19 (by decide) ?_
      refine lv_icmp_ne (tgt := 28) hx hb dX7_warms_20 (by decide) (fun c3 => ?_) (fun c3 => ?_)
      · have h := (zz_br h).1 c3
        refine lv_iconst (v := (4 : Int32)) hx hb dX7_warms_28 (by decide) ?_
        rw [hQ]
        exact zz_iret X G hr hlk dX7_warms_29 h
      have h := (zz_br h).2 (fun q => q c3)
      refine lv_bipush (v := (-2 : Int32)) hx hb dX7_warms_23 (by decide) ?_
      refine lv_goto (tgt := 29) hx hb dX7_warms_25 (by decide) ?_
      rw [hQ]
      exact zz_iret X G hr hlk dX7_warms_29 h
    have h := (zz_br h).2 (fun q => q c2)
    refine lv_bipush (v := (-3 : Int32)) hx hb dX7_warms_13 (by decide) ?_
    refine lv_goto (tgt := 29) hx hb dX7_warms_15 (by decide) ?_
    rw [hQ]
    exact zz_iret X G hr hlk dX7_warms_29 h
  have h := (zz_br h).2 (fun q => q c1)
  refine lv_iconst (v := (-1 : Int32)) hx hb dX7_warms_4 (by decide) ?_
  refine lv_goto (tgt := 29) hx hb dX7_warms_5 (by decide) ?_
  rw [hQ]
  exact zz_iret X G hr hlk dX7_warms_29 h
set_option maxHeartbeats 4000000 in
set_option maxRecDepth 100000 in
theorem w_X7_goesBy_L53 {p : Program} {l : Launch} {e : Env} {s : State} {m : MethodId} {args : Array Value} {below : List Frame} {meth : Method} {c : Code} {Q : State → Prop} {D : va_G} {ad : Nat → Nat} {cA : Nat → ClassId} {r : Unit} {μ' : zM} (X : zX false D ad cA p s m args c cX7_goesBy "ButlerWeatherModel" 3) (hQ : Q = MQ below (zQv false D ad cA r μ') args s 0 0 (zA false ad)) (hr : meth.sig.returnType = none) (hlk : meth.locks = false) {v1 : Int32} {kx : zM → Option (Unit × zM)} (HX : ∀ (μ : zM) (H : Heap) (locs : List Loc) (ls : Array Slot), lv_has ls 3 [] → zG false D ad cA s μ H locs → kx  μ = some (r, μ') → W p l e ({ frames := 3, cells := 0, slots := 0, locals := 69 } : Room) s m args below meth c H locs 0 0 Q (F0 m 195 ls [])) : ∀ (n : Nat) (v2 : Int32) (μ : zM) (H : Heap) (locs : List Loc) (ls : Array Slot), lv_has ls 3 [(0, .ref (ad 100)), (1, .int v1), (2, .int v2)] → zG false D ad cA s μ H locs → f_X7_goesBy_L53 v1 kx n v2 μ = some (r, μ') → W p l e ({ frames := 3, cells := 0, slots := 0, locals := 69 } : Room) s m args below meth c H locs 0 0 Q (F0 m 53 ls []) := by
  obtain ⟨hx, hb, hml, hown, hts, -, -, -⟩ := id X
  intro n
  induction n with
  | zero =>
    intro v2 μ H locs ls hl G h
    cases (show (none : Option (Unit × zM)) = some (r, μ') from h)
  | succ n ih =>
    intro v2 μ H locs ls hl G h
    rw [f_X7_goesBy_L53] at h
    refine lv_iload_n hx hb dX7_goesBy_53 rfl (lv_at hl 2 rfl) ?_
    refine lv_aload_n hx hb dX7_goesBy_54 rfl (lv_at hl 0 rfl) ?_
    refine zz_geti X G fi_7_2 tl_100 kw_784 dX7_goesBy_55 h (fun x3 h => ?_)
    refine lv_icmp_ge (tgt := 195) hx hb dX7_goesBy_58 (by decide) (fun c4 => ?_) (fun c4 => ?_)
    · have h := (zz_br h).1 c4
      exact HX  μ _ _ _ (lv_sub hl [] rfl) G h
    have h := (zz_br h).2 c4
    refine lv_aload_n hx hb dX7_goesBy_61 rfl (lv_at hl 0 rfl) ?_
    refine zz_getr X G fr_7_18 tl_100 rl_100_18 kw_800 dX7_goesBy_62 ?_
    refine lv_iload_n hx hb dX7_goesBy_65 rfl (lv_at hl 2 rfl) ?_
    refine lv_aload_n hx hb dX7_goesBy_66 rfl (lv_at hl 0 rfl) ?_
    refine zz_getr X G fr_7_18 tl_100 rl_100_18 kw_800 dX7_goesBy_67 ?_
    refine lv_iload_n hx hb dX7_goesBy_70 rfl (lv_at hl 2 rfl) ?_
    refine zz_iald X G ia_30 tl_119 dX7_goesBy_71 h (fun x5 h => ?_)
    refine lv_iconst (v := (1 : Int32)) hx hb dX7_goesBy_72 (by decide) ?_
    refine Exists.elim (zz_jn (P := fun (j : Int32 → zM → Option (Unit × zM)) => ∀ (y6 : Int32) (μ : zM) (H : Heap) (locs : List Loc) (ls : Array Slot), lv_has ls 3 [(0, .ref (ad 100)), (1, .int v1), (2, .int v2)] → zG false D ad cA s μ H locs → j y6 μ = some (r, μ') → W p l e ({ frames := 3, cells := 0, slots := 0, locals := 69 } : Room) s m args below meth c H locs 0 0 Q (F0 m 105 ls [.int y6, .int v2, .ref (ad 119)])) h ?_) (fun j105_2 hj => ?_)
    · intro y6 μ H locs ls hl G h
      refine zz_iast X G ia_30 tl_119 dX7_goesBy_105 h (fun μ H locs G h => ?_)
      refine lv_aload_n hx hb dX7_goesBy_106 rfl (lv_at hl 0 rfl) ?_
      refine zz_getr X G fr_7_26 tl_100 rl_100_26 kw_808 dX7_goesBy_107 ?_
      refine lv_iload_n hx hb dX7_goesBy_110 rfl (lv_at hl 1 rfl) ?_
      refine lv_dup2_11 hx hb dX7_goesBy_111 rfl rfl ?_
      refine zz_iald X G ia_30 tl_127 dX7_goesBy_112 h (fun x7 h => ?_)
      refine lv_aload_n hx hb dX7_goesBy_113 rfl (lv_at hl 0 rfl) ?_
      refine zz_getr X G fr_7_18 tl_100 rl_100_18 kw_800 dX7_goesBy_114 ?_
      refine lv_iload_n hx hb dX7_goesBy_117 rfl (lv_at hl 2 rfl) ?_
      refine zz_iald X G ia_30 tl_119 dX7_goesBy_118 h (fun x8 h => ?_)
      refine lv_iconst (v := (2 : Int32)) hx hb dX7_goesBy_119 (by decide) ?_
      refine Exists.elim (zz_jn (P := fun (j : Int32 → zM → Option (Unit × zM)) => ∀ (y9 : Int32) (μ : zM) (H : Heap) (locs : List Loc) (ls : Array Slot), lv_has ls 3 [(0, .ref (ad 100)), (1, .int v1), (2, .int v2)] → zG false D ad cA s μ H locs → j y9 μ = some (r, μ') → W p l e ({ frames := 3, cells := 0, slots := 0, locals := 69 } : Room) s m args below meth c H locs 0 0 Q (F0 m 136 ls [.int y9, .int x7, .int v1, .ref (ad 127)])) h ?_) (fun j136_3 hj => ?_)
      · intro y9 μ H locs ls hl G h
        refine lv_iadd hx hb dX7_goesBy_136 ?_
        refine zz_iast X G ia_30 tl_127 dX7_goesBy_137 h (fun μ H locs G h => ?_)
        refine lv_aload_n hx hb dX7_goesBy_138 rfl (lv_at hl 0 rfl) ?_
        refine zz_getr X G fr_7_25 tl_100 rl_100_25 kw_807 dX7_goesBy_139 ?_
        refine lv_iload_n hx hb dX7_goesBy_142 rfl (lv_at hl 1 rfl) ?_
        refine lv_dup2_11 hx hb dX7_goesBy_143 rfl rfl ?_
        refine zz_iald X G ia_30 tl_126 dX7_goesBy_144 h (fun x10 h => ?_)
        refine lv_aload_n hx hb dX7_goesBy_145 rfl (lv_at hl 0 rfl) ?_
        refine zz_getr X G fr_7_18 tl_100 rl_100_18 kw_800 dX7_goesBy_146 ?_
        refine lv_iload_n hx hb dX7_goesBy_149 rfl (lv_at hl 2 rfl) ?_
        refine zz_iald X G ia_30 tl_119 dX7_goesBy_150 h (fun x11 h => ?_)
        refine lv_iconst (v := (2 : Int32)) hx hb dX7_goesBy_151 (by decide) ?_
        refine Exists.elim (zz_jn (P := fun (j : Int32 → zM → Option (Unit × zM)) => ∀ (y12 : Int32) (μ : zM) (H : Heap) (locs : List Loc) (ls : Array Slot), lv_has ls 3 [(0, .ref (ad 100)), (1, .int v1), (2, .int v2)] → zG false D ad cA s μ H locs → j y12 μ = some (r, μ') → W p l e ({ frames := 3, cells := 0, slots := 0, locals := 69 } : Room) s m args below meth c H locs 0 0 Q (F0 m 170 ls [.int y12, .int x10, .int v1, .ref (ad 126)])) h ?_) (fun j170_4 hj => ?_)
        · intro y12 μ H locs ls hl G h
          refine lv_iadd hx hb dX7_goesBy_170 ?_
          refine zz_iast X G ia_30 tl_126 dX7_goesBy_171 h (fun μ H locs G h => ?_)
          refine lv_aload_n hx hb dX7_goesBy_172 rfl (lv_at hl 0 rfl) ?_
          refine zz_getr X G fr_7_23 tl_100 rl_100_23 kw_805 dX7_goesBy_173 ?_
          refine lv_bipush (v := (8 : Int32)) hx hb dX7_goesBy_176 (by decide) ?_
          refine lv_iload_n hx hb dX7_goesBy_178 rfl (lv_at hl 1 rfl) ?_
          refine lv_imul hx hb dX7_goesBy_179 ?_
          refine lv_iload_n hx hb dX7_goesBy_180 rfl (lv_at hl 2 rfl) ?_
          refine lv_iadd hx hb dX7_goesBy_181 ?_
          refine lv_aload_n hx hb dX7_goesBy_182 rfl (lv_at hl 0 rfl) ?_
          refine zz_getr X G fr_7_18 tl_100 rl_100_18 kw_800 dX7_goesBy_183 ?_
          refine lv_iload_n hx hb dX7_goesBy_186 rfl (lv_at hl 2 rfl) ?_
          refine zz_iald X G ia_30 tl_119 dX7_goesBy_187 h (fun x13 h => ?_)
          refine zz_iast X G ia_30 tl_124 dX7_goesBy_188 h (fun μ H locs G h => ?_)
          obtain ⟨x14, ex14, h⟩ := zz_let h
          refine lv_iinc (v := x14) (lv' := [(2, .int x14), (0, .ref (ad 100)), (1, .int v1)]) hx hb dX7_goesBy_189 hl (k := 2) rfl (by rw [← ex14]; rfl) (by decide) rfl (fun ls hl => ?_)
          refine lv_goto (tgt := 53) hx hb dX7_goesBy_192 (by decide) ?_
          exact ih x14 μ _ _ _ (lv_sub hl [1, 2, 0] rfl) G h
        obtain ⟨hj170_4, h⟩ := hj
        refine lv_icmp_ne (tgt := 169) hx hb dX7_goesBy_152 (by decide) (fun c15 => ?_) (fun c15 => ?_)
        · have h := (zz_br h).1 c15
          refine lv_iconst (v := (0 : Int32)) hx hb dX7_goesBy_169 (by decide) ?_
          exact hj170_4 (0 : Int32) μ _ _ _ (lv_sub hl [0, 1, 2] rfl) G h
        have h := (zz_br h).2 (fun q => q c15)
        refine lv_aload_n hx hb dX7_goesBy_155 rfl (lv_at hl 0 rfl) ?_
        refine zz_getr X G fr_7_3 tl_100 rl_100_3 kw_785 dX7_goesBy_156 ?_
        refine lv_iload_n hx hb dX7_goesBy_159 rfl (lv_at hl 2 rfl) ?_
        refine zz_iald X G ia_30 tl_104 dX7_goesBy_160 h (fun x16 h => ?_)
        refine lv_iconst (v := (2 : Int32)) hx hb dX7_goesBy_161 (by decide) ?_
        refine lv_icmp_eq (tgt := 169) hx hb dX7_goesBy_162 (by decide) (fun c17 => ?_) (fun c17 => ?_)
        · have h := (zz_br h).1 c17
          refine lv_iconst (v := (0 : Int32)) hx hb dX7_goesBy_169 (by decide) ?_
          exact hj170_4 (0 : Int32) μ _ _ _ (lv_sub hl [0, 1, 2] rfl) G h
        have h := (zz_br h).2 c17
        refine lv_iconst (v := (1 : Int32)) hx hb dX7_goesBy_165 (by decide) ?_
        refine lv_goto (tgt := 170) hx hb dX7_goesBy_166 (by decide) ?_
        exact hj170_4 (1 : Int32) μ _ _ _ (lv_sub hl [0, 1, 2] rfl) G h
      obtain ⟨hj136_3, h⟩ := hj
      refine lv_icmp_ne (tgt := 135) hx hb dX7_goesBy_120 (by decide) (fun c18 => ?_) (fun c18 => ?_)
      · have h := (zz_br h).1 c18
        refine lv_iconst (v := (0 : Int32)) hx hb dX7_goesBy_135 (by decide) ?_
        exact hj136_3 (0 : Int32) μ _ _ _ (lv_sub hl [0, 1, 2] rfl) G h
      have h := (zz_br h).2 (fun q => q c18)
      refine lv_aload_n hx hb dX7_goesBy_123 rfl (lv_at hl 0 rfl) ?_
      refine zz_getr X G fr_7_20 tl_100 rl_100_20 kw_802 dX7_goesBy_124 ?_
      refine lv_iload_n hx hb dX7_goesBy_127 rfl (lv_at hl 2 rfl) ?_
      refine zz_iald X G ia_30 tl_121 dX7_goesBy_128 h (fun x19 h => ?_)
      refine zz_ci (rest := [.int x7, .int v1, .ref (ad 127)]) G h (fun r μ1 hf => zz_runS X G cs_X7_warms kw_1041 (c_X7_warms l D ad cA  hf) ⟨rfl, rfl, Nat.le_of_ble_eq_true rfl, Nat.le_of_ble_eq_true rfl⟩ rfl rfl hl.1 (Nat.le_of_ble_eq_true rfl) dX7_goesBy_129) (fun x20 μ H locs G h => ?_)
      refine lv_goto (tgt := 136) hx hb dX7_goesBy_132 (by decide) ?_
      exact hj136_3 x20 μ _ _ _ (lv_sub hl [0, 1, 2] rfl) G h
    obtain ⟨hj105_2, h⟩ := hj
    refine lv_icmp_ne (tgt := 99) hx hb dX7_goesBy_73 (by decide) (fun c21 => ?_) (fun c21 => ?_)
    · have h := (zz_br h).1 c21
      refine lv_aload_n hx hb dX7_goesBy_99 rfl (lv_at hl 0 rfl) ?_
      refine zz_getr X G fr_7_18 tl_100 rl_100_18 kw_800 dX7_goesBy_100 ?_
      refine lv_iload_n hx hb dX7_goesBy_103 rfl (lv_at hl 2 rfl) ?_
      refine zz_iald X G ia_30 tl_119 dX7_goesBy_104 h (fun x22 h => ?_)
      exact hj105_2 x22 μ _ _ _ (lv_sub hl [0, 1, 2] rfl) G h
    have h := (zz_br h).2 (fun q => q c21)
    refine lv_iload_n hx hb dX7_goesBy_76 rfl (lv_at hl 1 rfl) ?_
    refine lv_aload_n hx hb dX7_goesBy_77 rfl (lv_at hl 0 rfl) ?_
    refine zz_getr X G fr_7_5 tl_100 rl_100_5 kw_787 dX7_goesBy_78 ?_
    refine lv_iload_n hx hb dX7_goesBy_81 rfl (lv_at hl 2 rfl) ?_
    refine zz_iald X G ia_30 tl_106 dX7_goesBy_82 h (fun x23 h => ?_)
    refine lv_isub hx hb dX7_goesBy_83 ?_
    refine lv_iconst (v := (1 : Int32)) hx hb dX7_goesBy_84 (by decide) ?_
    refine lv_iadd hx hb dX7_goesBy_85 ?_
    refine lv_aload_n hx hb dX7_goesBy_86 rfl (lv_at hl 0 rfl) ?_
    refine zz_getr X G fr_7_4 tl_100 rl_100_4 kw_786 dX7_goesBy_87 ?_
    refine lv_iload_n hx hb dX7_goesBy_90 rfl (lv_at hl 2 rfl) ?_
    refine zz_iald X G ia_30 tl_105 dX7_goesBy_91 h (fun x24 h => ?_)
    refine lv_icmp_ne (tgt := 99) hx hb dX7_goesBy_92 (by decide) (fun c25 => ?_) (fun c25 => ?_)
    · have h := (zz_br h).1 c25
      refine lv_aload_n hx hb dX7_goesBy_99 rfl (lv_at hl 0 rfl) ?_
      refine zz_getr X G fr_7_18 tl_100 rl_100_18 kw_800 dX7_goesBy_100 ?_
      refine lv_iload_n hx hb dX7_goesBy_103 rfl (lv_at hl 2 rfl) ?_
      refine zz_iald X G ia_30 tl_119 dX7_goesBy_104 h (fun x26 h => ?_)
      exact hj105_2 x26 μ _ _ _ (lv_sub hl [0, 1, 2] rfl) G h
    have h := (zz_br h).2 (fun q => q c25)
    refine lv_iconst (v := (4 : Int32)) hx hb dX7_goesBy_95 (by decide) ?_
    refine lv_goto (tgt := 105) hx hb dX7_goesBy_96 (by decide) ?_
    exact hj105_2 (4 : Int32) μ _ _ _ (lv_sub hl [0, 1, 2] rfl) G h
set_option maxHeartbeats 4000000 in
set_option maxRecDepth 100000 in
theorem c_X7_goesBy (l : Launch) (D : va_G) (ad : Nat → Nat) (cA : Nat → ClassId) {a1 : Int32} {μ : zM} {r : Unit} {μ' : zM} (h : f_X7_goesBy a1 μ = some (r, μ')) : zMet false D ad cA l yX7_goesBy cX7_goesBy 3 none ({ frames := 3, cells := 0, slots := 0, locals := 69 } : Room) [.ref (ad 100), .int a1] μ (zQv false D ad cA r μ') := by
  refine zMet_of "ButlerWeatherModel" ⟨by decide, rfl⟩ (Nat.le_of_ble_eq_true rfl) ?_
  intro p e s m args below meth c X G hr hlk ls hl
  have hl : lv_has ls 3 [(0, .ref (ad 100)), (1, .int a1)] := hl
  obtain ⟨hx, hb, hml, hown, hts, -, -, -⟩ := id X
  obtain ⟨Q, hQ⟩ : ∃ Q, Q = MQ below (zQv false D ad cA r μ') args s 0 0 (zA false ad) := ⟨_, rfl⟩
  rw [← hQ]
  unfold f_X7_goesBy at h
  refine lv_aload_n hx hb dX7_goesBy_0 rfl (lv_at hl 0 rfl) ?_
  refine lv_iload_n hx hb dX7_goesBy_1 rfl (lv_at hl 1 rfl) ?_
  refine zz_cv (rest := []) G h (fun r μ1 hf => zz_runV X G rc_7 tl_100 cv_X7_arrives kw_1018 (c_X7_arrives l D ad cA  hf) ⟨rfl, rfl, Nat.le_of_ble_eq_true rfl, Nat.le_of_ble_eq_true rfl⟩ rfl rfl hl.1 (Nat.le_of_ble_eq_true rfl) dX7_goesBy_2) (fun _ μ H locs G h => ?_)
  refine lv_aload_n hx hb dX7_goesBy_5 rfl (lv_at hl 0 rfl) ?_
  refine zz_getr X G fr_7_24 tl_100 rl_100_24 kw_806 dX7_goesBy_6 ?_
  refine lv_iload_n hx hb dX7_goesBy_9 rfl (lv_at hl 1 rfl) ?_
  refine lv_aload_n hx hb dX7_goesBy_10 rfl (lv_at hl 0 rfl) ?_
  refine lv_iload_n hx hb dX7_goesBy_11 rfl (lv_at hl 1 rfl) ?_
  refine zz_ci (rest := [.int a1, .ref (ad 125)]) G h (fun r μ1 hf => zz_runV X G rc_7 tl_100 cv_X7_onDuty kw_1026 (c_X7_onDuty l D ad cA  hf) ⟨rfl, rfl, Nat.le_of_ble_eq_true rfl, Nat.le_of_ble_eq_true rfl⟩ rfl rfl hl.1 (Nat.le_of_ble_eq_true rfl) dX7_goesBy_12) (fun x1 μ H locs G h => ?_)
  refine zz_iast X G ia_30 tl_125 dX7_goesBy_15 h (fun μ H locs G h => ?_)
  refine lv_aload_n hx hb dX7_goesBy_16 rfl (lv_at hl 0 rfl) ?_
  refine zz_getr X G fr_7_24 tl_100 rl_100_24 kw_806 dX7_goesBy_17 ?_
  refine lv_iload_n hx hb dX7_goesBy_20 rfl (lv_at hl 1 rfl) ?_
  refine zz_iald X G ia_30 tl_125 dX7_goesBy_21 h (fun x2 h => ?_)
  refine lv_iconst (v := (-1 : Int32)) hx hb dX7_goesBy_22 (by decide) ?_
  refine Exists.elim (zz_jn (P := fun (j : zM → Option (Unit × zM)) => ∀ (μ : zM) (H : Heap) (locs : List Loc) (ls : Array Slot), lv_has ls 3 [(0, .ref (ad 100)), (1, .int a1)] → zG false D ad cA s μ H locs → j  μ = some (r, μ') → W p l e ({ frames := 3, cells := 0, slots := 0, locals := 69 } : Room) s m args below meth c H locs 0 0 Q (F0 m 37 ls [])) h ?_) (fun j37_1 hj => ?_)
  · intro  μ H locs ls hl G h
    refine lv_aload_n hx hb dX7_goesBy_37 rfl (lv_at hl 0 rfl) ?_
    refine zz_getr X G fr_7_25 tl_100 rl_100_25 kw_807 dX7_goesBy_38 ?_
    refine lv_iload_n hx hb dX7_goesBy_41 rfl (lv_at hl 1 rfl) ?_
    refine lv_iconst (v := (0 : Int32)) hx hb dX7_goesBy_42 (by decide) ?_
    refine zz_iast X G ia_30 tl_126 dX7_goesBy_43 h (fun μ H locs G h => ?_)
    refine lv_aload_n hx hb dX7_goesBy_44 rfl (lv_at hl 0 rfl) ?_
    refine zz_getr X G fr_7_26 tl_100 rl_100_26 kw_808 dX7_goesBy_45 ?_
    refine lv_iload_n hx hb dX7_goesBy_48 rfl (lv_at hl 1 rfl) ?_
    refine lv_iconst (v := (0 : Int32)) hx hb dX7_goesBy_49 (by decide) ?_
    refine zz_iast X G ia_30 tl_127 dX7_goesBy_50 h (fun μ H locs G h => ?_)
    refine lv_iconst (v := (0 : Int32)) hx hb dX7_goesBy_51 (by decide) ?_
    refine lv_istore_n (lv' := [(2, .int (0 : Int32)), (0, .ref (ad 100)), (1, .int a1)]) hx hb dX7_goesBy_52 rfl hl (by decide) rfl (fun ls hl => ?_)
    refine w_X7_goesBy_L53 X hQ hr hlk  (fun  μ H locs ls hl G h => ?_) 400 (0 : Int32) μ _ _ _ (lv_sub hl [1, 2, 0] rfl) G h
    rw [hQ]
    exact zz_vret X G hr hlk dX7_goesBy_195 h
  obtain ⟨hj37_1, h⟩ := hj
  refine lv_icmp_eq (tgt := 37) hx hb dX7_goesBy_23 (by decide) (fun c27 => ?_) (fun c27 => ?_)
  · have h := (zz_br h).1 c27
    exact hj37_1  μ _ _ _ (lv_sub hl [0, 1] rfl) G h
  have h := (zz_br h).2 c27
  refine lv_aload_n hx hb dX7_goesBy_26 rfl (lv_at hl 0 rfl) ?_
  refine lv_aload_n hx hb dX7_goesBy_27 rfl (lv_at hl 0 rfl) ?_
  refine zz_getr X G fr_7_24 tl_100 rl_100_24 kw_806 dX7_goesBy_28 ?_
  refine lv_iload_n hx hb dX7_goesBy_31 rfl (lv_at hl 1 rfl) ?_
  refine zz_iald X G ia_30 tl_125 dX7_goesBy_32 h (fun x28 h => ?_)
  refine lv_iload_n hx hb dX7_goesBy_33 rfl (lv_at hl 1 rfl) ?_
  refine zz_cv (rest := []) G h (fun r μ1 hf => zz_runV X G rc_7 tl_100 cv_X7_opens kw_1030 (c_X7_opens l D ad cA  hf) ⟨rfl, rfl, Nat.le_of_ble_eq_true rfl, Nat.le_of_ble_eq_true rfl⟩ rfl rfl hl.1 (Nat.le_of_ble_eq_true rfl) dX7_goesBy_34) (fun _ μ H locs G h => ?_)
  exact hj37_1  μ _ _ _ (lv_sub hl [0, 1] rfl) G h
set_option maxHeartbeats 4000000 in
set_option maxRecDepth 100000 in
theorem w_X7_runs_L2 {p : Program} {l : Launch} {e : Env} {s : State} {m : MethodId} {args : Array Value} {below : List Frame} {meth : Method} {c : Code} {Q : State → Prop} {D : va_G} {ad : Nat → Nat} {cA : Nat → ClassId} {r : Unit} {μ' : zM} (X : zX false D ad cA p s m args c cX7_runs "ButlerWeatherModel" 2) (hQ : Q = MQ below (zQv false D ad cA r μ') args s 0 0 (zA false ad)) (hr : meth.sig.returnType = none) (hlk : meth.locks = false)  {kx : zM → Option (Unit × zM)} (HX : ∀ (μ : zM) (H : Heap) (locs : List Loc) (ls : Array Slot), lv_has ls 2 [(0, .ref (ad 100))] → zG false D ad cA s μ H locs → kx  μ = some (r, μ') → W p l e ({ frames := 4, cells := 0, slots := 0, locals := 91 } : Room) s m args below meth c H locs 0 0 Q (F0 m 37 ls [])) : ∀ (n : Nat) (v1 : Int32) (μ : zM) (H : Heap) (locs : List Loc) (ls : Array Slot), lv_has ls 2 [(0, .ref (ad 100)), (1, .int v1)] → zG false D ad cA s μ H locs → f_X7_runs_L2 kx n v1 μ = some (r, μ') → W p l e ({ frames := 4, cells := 0, slots := 0, locals := 91 } : Room) s m args below meth c H locs 0 0 Q (F0 m 2 ls []) := by
  obtain ⟨hx, hb, hml, hown, hts, -, -, -⟩ := id X
  intro n
  induction n with
  | zero =>
    intro v1 μ H locs ls hl G h
    cases (show (none : Option (Unit × zM)) = some (r, μ') from h)
  | succ n ih =>
    intro v1 μ H locs ls hl G h
    rw [f_X7_runs_L2] at h
    refine lv_iload_n hx hb dX7_runs_2 rfl (lv_at hl 1 rfl) ?_
    refine lv_aload_n hx hb dX7_runs_3 rfl (lv_at hl 0 rfl) ?_
    refine zz_geti X G fi_7_2 tl_100 kw_784 dX7_runs_4 h (fun x1 h => ?_)
    refine lv_icmp_ge (tgt := 37) hx hb dX7_runs_7 (by decide) (fun c2 => ?_) (fun c2 => ?_)
    · have h := (zz_br h).1 c2
      exact HX  μ _ _ _ (lv_sub hl [0] rfl) G h
    have h := (zz_br h).2 c2
    refine lv_aload_n hx hb dX7_runs_10 rfl (lv_at hl 0 rfl) ?_
    refine zz_getr X G fr_7_18 tl_100 rl_100_18 kw_800 dX7_runs_11 ?_
    refine lv_iload_n hx hb dX7_runs_14 rfl (lv_at hl 1 rfl) ?_
    refine lv_iconst (v := (0 : Int32)) hx hb dX7_runs_15 (by decide) ?_
    refine zz_iast X G ia_30 tl_119 dX7_runs_16 h (fun μ H locs G h => ?_)
    refine lv_aload_n hx hb dX7_runs_17 rfl (lv_at hl 0 rfl) ?_
    refine zz_getr X G fr_7_19 tl_100 rl_100_19 kw_801 dX7_runs_18 ?_
    refine lv_iload_n hx hb dX7_runs_21 rfl (lv_at hl 1 rfl) ?_
    refine lv_iconst (v := (0 : Int32)) hx hb dX7_runs_22 (by decide) ?_
    refine zz_iast X G ia_30 tl_120 dX7_runs_23 h (fun μ H locs G h => ?_)
    refine lv_aload_n hx hb dX7_runs_24 rfl (lv_at hl 0 rfl) ?_
    refine zz_getr X G fr_7_20 tl_100 rl_100_20 kw_802 dX7_runs_25 ?_
    refine lv_iload_n hx hb dX7_runs_28 rfl (lv_at hl 1 rfl) ?_
    refine lv_iconst (v := (-1 : Int32)) hx hb dX7_runs_29 (by decide) ?_
    refine zz_iast X G ia_30 tl_121 dX7_runs_30 h (fun μ H locs G h => ?_)
    obtain ⟨x3, ex3, h⟩ := zz_let h
    refine lv_iinc (v := x3) (lv' := [(1, .int x3), (0, .ref (ad 100))]) hx hb dX7_runs_31 hl (k := 1) rfl (by rw [← ex3]; rfl) (by decide) rfl (fun ls hl => ?_)
    refine lv_goto (tgt := 2) hx hb dX7_runs_34 (by decide) ?_
    exact ih x3 μ _ _ _ (lv_sub hl [1, 0] rfl) G h
set_option maxHeartbeats 4000000 in
set_option maxRecDepth 100000 in
theorem w_X7_runs_L49 {p : Program} {l : Launch} {e : Env} {s : State} {m : MethodId} {args : Array Value} {below : List Frame} {meth : Method} {c : Code} {Q : State → Prop} {D : va_G} {ad : Nat → Nat} {cA : Nat → ClassId} {r : Unit} {μ' : zM} (X : zX false D ad cA p s m args c cX7_runs "ButlerWeatherModel" 2) (hQ : Q = MQ below (zQv false D ad cA r μ') args s 0 0 (zA false ad)) (hr : meth.sig.returnType = none) (hlk : meth.locks = false)  {kx : zM → Option (Unit × zM)} (HX : ∀ (μ : zM) (H : Heap) (locs : List Loc) (ls : Array Slot), lv_has ls 2 [] → zG false D ad cA s μ H locs → kx  μ = some (r, μ') → W p l e ({ frames := 4, cells := 0, slots := 0, locals := 91 } : Room) s m args below meth c H locs 0 0 Q (F0 m 66 ls [])) : ∀ (n : Nat) (v1 : Int32) (μ : zM) (H : Heap) (locs : List Loc) (ls : Array Slot), lv_has ls 2 [(0, .ref (ad 100)), (1, .int v1)] → zG false D ad cA s μ H locs → f_X7_runs_L49 kx n v1 μ = some (r, μ') → W p l e ({ frames := 4, cells := 0, slots := 0, locals := 91 } : Room) s m args below meth c H locs 0 0 Q (F0 m 49 ls []) := by
  obtain ⟨hx, hb, hml, hown, hts, -, -, -⟩ := id X
  intro n
  induction n with
  | zero =>
    intro v1 μ H locs ls hl G h
    cases (show (none : Option (Unit × zM)) = some (r, μ') from h)
  | succ n ih =>
    intro v1 μ H locs ls hl G h
    rw [f_X7_runs_L49] at h
    refine lv_iload_n hx hb dX7_runs_49 rfl (lv_at hl 1 rfl) ?_
    refine lv_bipush (v := (24 : Int32)) hx hb dX7_runs_50 (by decide) ?_
    refine lv_icmp_ge (tgt := 66) hx hb dX7_runs_52 (by decide) (fun c4 => ?_) (fun c4 => ?_)
    · have h := (zz_br h).1 c4
      exact HX  μ _ _ _ (lv_sub hl [] rfl) G h
    have h := (zz_br h).2 c4
    refine lv_aload_n hx hb dX7_runs_55 rfl (lv_at hl 0 rfl) ?_
    refine lv_iload_n hx hb dX7_runs_56 rfl (lv_at hl 1 rfl) ?_
    refine zz_cv (rest := []) G h (fun r μ1 hf => zz_runV X G rc_7 tl_100 cv_X7_goesBy kw_1014 (c_X7_goesBy l D ad cA  hf) ⟨rfl, rfl, Nat.le_of_ble_eq_true rfl, Nat.le_of_ble_eq_true rfl⟩ rfl rfl hl.1 (Nat.le_of_ble_eq_true rfl) dX7_runs_57) (fun _ μ H locs G h => ?_)
    obtain ⟨x5, ex5, h⟩ := zz_let h
    refine lv_iinc (v := x5) (lv' := [(1, .int x5), (0, .ref (ad 100))]) hx hb dX7_runs_60 hl (k := 1) rfl (by rw [← ex5]; rfl) (by decide) rfl (fun ls hl => ?_)
    refine lv_goto (tgt := 49) hx hb dX7_runs_63 (by decide) ?_
    exact ih x5 μ _ _ _ (lv_sub hl [1, 0] rfl) G h
set_option maxHeartbeats 4000000 in
set_option maxRecDepth 100000 in
theorem c_X7_runs (l : Launch) (D : va_G) (ad : Nat → Nat) (cA : Nat → ClassId)  {μ : zM} {r : Unit} {μ' : zM} (h : f_X7_runs μ = some (r, μ')) : zMet false D ad cA l yX7_runs cX7_runs 2 none ({ frames := 4, cells := 0, slots := 0, locals := 91 } : Room) [.ref (ad 100)] μ (zQv false D ad cA r μ') := by
  refine zMet_of "ButlerWeatherModel" ⟨by decide, rfl⟩ (Nat.le_of_ble_eq_true rfl) ?_
  intro p e s m args below meth c X G hr hlk ls hl
  have hl : lv_has ls 2 [(0, .ref (ad 100))] := hl
  obtain ⟨hx, hb, hml, hown, hts, -, -, -⟩ := id X
  obtain ⟨Q, hQ⟩ : ∃ Q, Q = MQ below (zQv false D ad cA r μ') args s 0 0 (zA false ad) := ⟨_, rfl⟩
  rw [← hQ]
  unfold f_X7_runs at h
  refine lv_iconst (v := (0 : Int32)) hx hb dX7_runs_0 (by decide) ?_
  refine lv_istore_n (lv' := [(1, .int (0 : Int32)), (0, .ref (ad 100))]) hx hb dX7_runs_1 rfl hl (by decide) rfl (fun ls hl => ?_)
  refine w_X7_runs_L2 X hQ hr hlk  (fun  μ H locs ls hl G h => ?_) 400 (0 : Int32) μ _ _ _ (lv_sub hl [1, 0] rfl) G h
  refine lv_aload_n hx hb dX7_runs_37 rfl (lv_at hl 0 rfl) ?_
  refine lv_iconst (v := (-1 : Int32)) hx hb dX7_runs_38 (by decide) ?_
  refine zz_puti X G fp_7_21 tl_100 kw_803 rfl rfl dX7_runs_39 h (fun μ H locs G h => ?_)
  refine lv_aload_n hx hb dX7_runs_42 rfl (lv_at hl 0 rfl) ?_
  refine lv_iconst (v := (-1 : Int32)) hx hb dX7_runs_43 (by decide) ?_
  refine zz_puti X G fp_7_22 tl_100 kw_804 rfl rfl dX7_runs_44 h (fun μ H locs G h => ?_)
  refine lv_iconst (v := (0 : Int32)) hx hb dX7_runs_47 (by decide) ?_
  refine lv_istore_n (lv' := [(1, .int (0 : Int32)), (0, .ref (ad 100))]) hx hb dX7_runs_48 rfl hl (by decide) rfl (fun ls hl => ?_)
  refine w_X7_runs_L49 X hQ hr hlk  (fun  μ H locs ls hl G h => ?_) 400 (0 : Int32) μ _ _ _ (lv_sub hl [1, 0] rfl) G h
  rw [hQ]
  exact zz_vret X G hr hlk dX7_runs_66 h
set_option maxHeartbeats 4000000 in
set_option maxRecDepth 100000 in
theorem c_X7_runsTold (l : Launch) (D : va_G) (ad : Nat → Nat) (cA : Nat → ClassId)  {μ : zM} {r : Unit} {μ' : zM} (h : f_X7_runsTold μ = some (r, μ')) : zMet false D ad cA l yX7_runsTold cX7_runsTold 1 none ({ frames := 6, cells := 0, slots := 0, locals := 138 } : Room) [.ref (ad 100)] μ (zQv false D ad cA r μ') := by
  refine zMet_of "ButlerWeatherModel" ⟨by decide, rfl⟩ (Nat.le_of_ble_eq_true rfl) ?_
  intro p e s m args below meth c X G hr hlk ls hl
  have hl : lv_has ls 1 [(0, .ref (ad 100))] := hl
  obtain ⟨hx, hb, hml, hown, hts, -, -, -⟩ := id X
  obtain ⟨Q, hQ⟩ : ∃ Q, Q = MQ below (zQv false D ad cA r μ') args s 0 0 (zA false ad) := ⟨_, rfl⟩
  rw [← hQ]
  unfold f_X7_runsTold at h
  refine lv_aload_n hx hb dX7_runsTold_0 rfl (lv_at hl 0 rfl) ?_
  refine zz_cv (rest := []) G h (fun r μ1 hf => zz_runV X G rc_7 tl_100 cv_X7_asTold kw_1006 (c_X7_asTold l D ad cA  hf) ⟨rfl, rfl, Nat.le_of_ble_eq_true rfl, Nat.le_of_ble_eq_true rfl⟩ rfl rfl hl.1 (Nat.le_of_ble_eq_true rfl) dX7_runsTold_1) (fun _ μ H locs G h => ?_)
  refine lv_aload_n hx hb dX7_runsTold_4 rfl (lv_at hl 0 rfl) ?_
  refine zz_cv (rest := []) G h (fun r μ1 hf => zz_runV X G rc_7 tl_100 cv_X7_runs kw_1010 (c_X7_runs l D ad cA  hf) ⟨rfl, rfl, Nat.le_of_ble_eq_true rfl, Nat.le_of_ble_eq_true rfl⟩ rfl rfl hl.1 (Nat.le_of_ble_eq_true rfl) dX7_runsTold_5) (fun _ μ H locs G h => ?_)
  rw [hQ]
  exact zz_vret X G hr hlk dX7_runsTold_8 h
set_option maxHeartbeats 4000000 in
set_option maxRecDepth 100000 in
theorem c_X7_standsOf (l : Launch) (D : va_G) (ad : Nat → Nat) (cA : Nat → ClassId) {a1 : Int32} {a2 : Int32} {μ : zM} {r : Int32} {μ' : zM} (h : f_X7_standsOf a1 a2 μ = some (r, μ')) : zMet false D ad cA l yX7_standsOf cX7_standsOf 3 (some .int) ({ frames := 7, cells := 0, slots := 0, locals := 158 } : Room) [.ref (ad 100), .int a1, .int a2] μ (zQi false D ad cA r μ') := by
  refine zMet_of "ButlerWeatherModel" ⟨by decide, rfl⟩ (Nat.le_of_ble_eq_true rfl) ?_
  intro p e s m args below meth c X G hr hlk ls hl
  have hl : lv_has ls 3 [(0, .ref (ad 100)), (1, .int a1), (2, .int a2)] := hl
  obtain ⟨hx, hb, hml, hown, hts, -, -, -⟩ := id X
  obtain ⟨Q, hQ⟩ : ∃ Q, Q = MQ below (zQi false D ad cA r μ') args s 0 0 (zA false ad) := ⟨_, rfl⟩
  rw [← hQ]
  unfold f_X7_standsOf at h
  refine lv_aload_n hx hb dX7_standsOf_0 rfl (lv_at hl 0 rfl) ?_
  refine zz_cv (rest := []) G h (fun r μ1 hf => zz_runV X G rc_7 tl_100 cv_X7_runsTold kw_1002 (c_X7_runsTold l D ad cA  hf) ⟨rfl, rfl, Nat.le_of_ble_eq_true rfl, Nat.le_of_ble_eq_true rfl⟩ rfl rfl hl.1 (Nat.le_of_ble_eq_true rfl) dX7_standsOf_1) (fun _ μ H locs G h => ?_)
  refine lv_aload_n hx hb dX7_standsOf_4 rfl (lv_at hl 0 rfl) ?_
  refine zz_getr X G fr_7_23 tl_100 rl_100_23 kw_805 dX7_standsOf_5 ?_
  refine lv_bipush (v := (8 : Int32)) hx hb dX7_standsOf_8 (by decide) ?_
  refine lv_iload_n hx hb dX7_standsOf_10 rfl (lv_at hl 1 rfl) ?_
  refine lv_imul hx hb dX7_standsOf_11 ?_
  refine lv_iload_n hx hb dX7_standsOf_12 rfl (lv_at hl 2 rfl) ?_
  refine lv_iadd hx hb dX7_standsOf_13 ?_
  refine zz_iald X G ia_30 tl_124 dX7_standsOf_14 h (fun x1 h => ?_)
  rw [hQ]
  exact zz_iret X G hr hlk dX7_standsOf_15 h
set_option maxHeartbeats 4000000 in
set_option maxRecDepth 100000 in
theorem c_X7_stands (l : Launch) (D : va_G) (ad : Nat → Nat) (cA : Nat → ClassId) {a1 : Int32} {a2 : Int32} {μ : zM} {r : Int32} {μ' : zM} (h : f_X7_stands a1 a2 μ = some (r, μ')) : zMet false D ad cA l yX7_stands cX7_stands 3 (some .int) ({ frames := 8, cells := 0, slots := 0, locals := 180 } : Room) [.ref (ad 100), .int a1, .int a2] μ (zQi false D ad cA r μ') := by
  refine zMet_of "ButlerWeatherModel" ⟨by decide, rfl⟩ (Nat.le_of_ble_eq_true rfl) ?_
  intro p e s m args below meth c X G hr hlk ls hl
  have hl : lv_has ls 3 [(0, .ref (ad 100)), (1, .int a1), (2, .int a2)] := hl
  obtain ⟨hx, hb, hml, hown, hts, -, -, -⟩ := id X
  obtain ⟨Q, hQ⟩ : ∃ Q, Q = MQ below (zQi false D ad cA r μ') args s 0 0 (zA false ad) := ⟨_, rfl⟩
  rw [← hQ]
  unfold f_X7_stands at h
  refine lv_iload_n hx hb dX7_stands_0 rfl (lv_at hl 1 rfl) ?_
  refine zz_ci (rest := []) G h (fun r μ1 hf => zz_runS X G cs_X7_isDay kw_975 (c_X7_isDay l D ad cA  hf) ⟨rfl, rfl, Nat.le_of_ble_eq_true rfl, Nat.le_of_ble_eq_true rfl⟩ rfl rfl hl.1 (Nat.le_of_ble_eq_true rfl) dX7_stands_1) (fun x1 μ H locs G h => ?_)
  refine lv_if_eq (tgt := 24) hx hb dX7_stands_4 (by decide) (fun c2 => ?_) (fun c2 => ?_)
  · have h := (zz_br h).1 c2
    refine lv_bipush (v := (-2 : Int32)) hx hb dX7_stands_24 (by decide) ?_
    rw [hQ]
    exact zz_iret X G hr hlk dX7_stands_26 h
  have h := (zz_br h).2 c2
  refine lv_aload_n hx hb dX7_stands_7 rfl (lv_at hl 0 rfl) ?_
  refine lv_iload_n hx hb dX7_stands_8 rfl (lv_at hl 2 rfl) ?_
  refine zz_ci (rest := []) G h (fun r μ1 hf => zz_runV X G rc_7 tl_100 cv_X7_isCaller kw_947 (c_X7_isCaller l D ad cA  hf) ⟨rfl, rfl, Nat.le_of_ble_eq_true rfl, Nat.le_of_ble_eq_true rfl⟩ rfl rfl hl.1 (Nat.le_of_ble_eq_true rfl) dX7_stands_9) (fun x3 μ H locs G h => ?_)
  refine lv_if_eq (tgt := 24) hx hb dX7_stands_12 (by decide) (fun c4 => ?_) (fun c4 => ?_)
  · have h := (zz_br h).1 c4
    refine lv_bipush (v := (-2 : Int32)) hx hb dX7_stands_24 (by decide) ?_
    rw [hQ]
    exact zz_iret X G hr hlk dX7_stands_26 h
  have h := (zz_br h).2 c4
  refine lv_aload_n hx hb dX7_stands_15 rfl (lv_at hl 0 rfl) ?_
  refine lv_iload_n hx hb dX7_stands_16 rfl (lv_at hl 1 rfl) ?_
  refine lv_iload_n hx hb dX7_stands_17 rfl (lv_at hl 2 rfl) ?_
  refine zz_ci (rest := []) G h (fun r μ1 hf => zz_runV X G rc_7 tl_100 cv_X7_standsOf kw_998 (c_X7_standsOf l D ad cA  hf) ⟨rfl, rfl, Nat.le_of_ble_eq_true rfl, Nat.le_of_ble_eq_true rfl⟩ rfl rfl hl.1 (Nat.le_of_ble_eq_true rfl) dX7_stands_18) (fun x5 μ H locs G h => ?_)
  refine lv_goto (tgt := 26) hx hb dX7_stands_21 (by decide) ?_
  rw [hQ]
  exact zz_iret X G hr hlk dX7_stands_26 h
set_option maxHeartbeats 4000000 in
set_option maxRecDepth 100000 in
theorem c_X7_nameOf (l : Launch) (D : va_G) (ad : Nat → Nat) (cA : Nat → ClassId) {a1 : Int32} {μ : zM} {r : Int32} {μ' : zM} (h : f_X7_nameOf a1 μ = some (r, μ')) : zMet false D ad cA l yX7_nameOf cX7_nameOf 2 (some .int) ({ frames := 7, cells := 0, slots := 0, locals := 158 } : Room) [.ref (ad 100), .int a1] μ (zQi false D ad cA r μ') := by
  refine zMet_of "ButlerWeatherModel" ⟨by decide, rfl⟩ (Nat.le_of_ble_eq_true rfl) ?_
  intro p e s m args below meth c X G hr hlk ls hl
  have hl : lv_has ls 2 [(0, .ref (ad 100)), (1, .int a1)] := hl
  obtain ⟨hx, hb, hml, hown, hts, -, -, -⟩ := id X
  obtain ⟨Q, hQ⟩ : ∃ Q, Q = MQ below (zQi false D ad cA r μ') args s 0 0 (zA false ad) := ⟨_, rfl⟩
  rw [← hQ]
  unfold f_X7_nameOf at h
  refine lv_aload_n hx hb dX7_nameOf_0 rfl (lv_at hl 0 rfl) ?_
  refine zz_cv (rest := []) G h (fun r μ1 hf => zz_runV X G rc_7 tl_100 cv_X7_runsTold kw_1002 (c_X7_runsTold l D ad cA  hf) ⟨rfl, rfl, Nat.le_of_ble_eq_true rfl, Nat.le_of_ble_eq_true rfl⟩ rfl rfl hl.1 (Nat.le_of_ble_eq_true rfl) dX7_nameOf_1) (fun _ μ H locs G h => ?_)
  refine lv_aload_n hx hb dX7_nameOf_4 rfl (lv_at hl 0 rfl) ?_
  refine zz_getr X G fr_7_20 tl_100 rl_100_20 kw_802 dX7_nameOf_5 ?_
  refine lv_iload_n hx hb dX7_nameOf_8 rfl (lv_at hl 1 rfl) ?_
  refine zz_iald X G ia_30 tl_121 dX7_nameOf_9 h (fun x1 h => ?_)
  rw [hQ]
  exact zz_iret X G hr hlk dX7_nameOf_10 h
set_option maxHeartbeats 4000000 in
set_option maxRecDepth 100000 in
theorem c_X7_name (l : Launch) (D : va_G) (ad : Nat → Nat) (cA : Nat → ClassId) {a1 : Int32} {μ : zM} {r : Int32} {μ' : zM} (h : f_X7_name a1 μ = some (r, μ')) : zMet false D ad cA l yX7_name cX7_name 2 (some .int) ({ frames := 8, cells := 0, slots := 0, locals := 179 } : Room) [.ref (ad 100), .int a1] μ (zQi false D ad cA r μ') := by
  refine zMet_of "ButlerWeatherModel" ⟨by decide, rfl⟩ (Nat.le_of_ble_eq_true rfl) ?_
  intro p e s m args below meth c X G hr hlk ls hl
  have hl : lv_has ls 2 [(0, .ref (ad 100)), (1, .int a1)] := hl
  obtain ⟨hx, hb, hml, hown, hts, -, -, -⟩ := id X
  obtain ⟨Q, hQ⟩ : ∃ Q, Q = MQ below (zQi false D ad cA r μ') args s 0 0 (zA false ad) := ⟨_, rfl⟩
  rw [← hQ]
  unfold f_X7_name at h
  refine lv_aload_n hx hb dX7_name_0 rfl (lv_at hl 0 rfl) ?_
  refine lv_iload_n hx hb dX7_name_1 rfl (lv_at hl 1 rfl) ?_
  refine zz_ci (rest := []) G h (fun r μ1 hf => zz_runV X G rc_7 tl_100 cv_X7_isCaller kw_947 (c_X7_isCaller l D ad cA  hf) ⟨rfl, rfl, Nat.le_of_ble_eq_true rfl, Nat.le_of_ble_eq_true rfl⟩ rfl rfl hl.1 (Nat.le_of_ble_eq_true rfl) dX7_name_2) (fun x1 μ H locs G h => ?_)
  refine lv_if_eq (tgt := 16) hx hb dX7_name_5 (by decide) (fun c2 => ?_) (fun c2 => ?_)
  · have h := (zz_br h).1 c2
    refine lv_bipush (v := (-2 : Int32)) hx hb dX7_name_16 (by decide) ?_
    rw [hQ]
    exact zz_iret X G hr hlk dX7_name_18 h
  have h := (zz_br h).2 c2
  refine lv_aload_n hx hb dX7_name_8 rfl (lv_at hl 0 rfl) ?_
  refine lv_iload_n hx hb dX7_name_9 rfl (lv_at hl 1 rfl) ?_
  refine zz_ci (rest := []) G h (fun r μ1 hf => zz_runV X G rc_7 tl_100 cv_X7_nameOf kw_1048 (c_X7_nameOf l D ad cA  hf) ⟨rfl, rfl, Nat.le_of_ble_eq_true rfl, Nat.le_of_ble_eq_true rfl⟩ rfl rfl hl.1 (Nat.le_of_ble_eq_true rfl) dX7_name_10) (fun x3 μ H locs G h => ?_)
  refine lv_goto (tgt := 18) hx hb dX7_name_13 (by decide) ?_
  rw [hQ]
  exact zz_iret X G hr hlk dX7_name_18 h
set_option maxHeartbeats 4000000 in
set_option maxRecDepth 100000 in
theorem w_X7_doorOf_L9 {p : Program} {l : Launch} {e : Env} {s : State} {m : MethodId} {args : Array Value} {below : List Frame} {meth : Method} {c : Code} {Q : State → Prop} {D : va_G} {ad : Nat → Nat} {cA : Nat → ClassId} {r : Int32} {μ' : zM} (X : zX false D ad cA p s m args c cX7_doorOf "ButlerWeatherModel" 5) (hQ : Q = MQ below (zQi false D ad cA r μ') args s 0 0 (zA false ad)) (hr : meth.sig.returnType = (some .int)) (hlk : meth.locks = false) {v1 : Int32} {v2 : Int32} {kx : Int32 → zM → Option (Int32 × zM)} (HX : ∀ (w3 : Int32) (μ : zM) (H : Heap) (locs : List Loc) (ls : Array Slot), lv_has ls 5 [(0, .ref (ad 100)), (1, .int v1), (2, .int v2), (3, .int w3)] → zG false D ad cA s μ H locs → kx w3 μ = some (r, μ') → W p l e ({ frames := 7, cells := 0, slots := 0, locals := 158 } : Room) s m args below meth c H locs 0 0 Q (F0 m 51 ls [])) : ∀ (n : Nat) (v3 : Int32) (v4 : Int32) (μ : zM) (H : Heap) (locs : List Loc) (ls : Array Slot), lv_has ls 5 [(0, .ref (ad 100)), (1, .int v1), (2, .int v2), (3, .int v3), (4, .int v4)] → zG false D ad cA s μ H locs → f_X7_doorOf_L9 v1 v2 kx n v3 v4 μ = some (r, μ') → W p l e ({ frames := 7, cells := 0, slots := 0, locals := 158 } : Room) s m args below meth c H locs 0 0 Q (F0 m 9 ls []) := by
  obtain ⟨hx, hb, hml, hown, hts, -, -, -⟩ := id X
  intro n
  induction n with
  | zero =>
    intro v3 v4 μ H locs ls hl G h
    cases (show (none : Option (Int32 × zM)) = some (r, μ') from h)
  | succ n ih =>
    intro v3 v4 μ H locs ls hl G h
    rw [f_X7_doorOf_L9] at h
    refine lv_iload hx hb dX7_doorOf_9 (lv_at hl 4 rfl) ?_
    refine lv_aload_n hx hb dX7_doorOf_11 rfl (lv_at hl 0 rfl) ?_
    refine zz_geti X G fi_7_2 tl_100 kw_784 dX7_doorOf_12 h (fun x1 h => ?_)
    refine lv_icmp_ge (tgt := 51) hx hb dX7_doorOf_15 (by decide) (fun c2 => ?_) (fun c2 => ?_)
    · have h := (zz_br h).1 c2
      exact HX v3 μ _ _ _ (lv_sub hl [0, 1, 2, 3] rfl) G h
    have h := (zz_br h).2 c2
    refine lv_iload_n hx hb dX7_doorOf_18 rfl (lv_at hl 3 rfl) ?_
    refine lv_aload_n hx hb dX7_doorOf_19 rfl (lv_at hl 0 rfl) ?_
    refine zz_getr X G fr_7_23 tl_100 rl_100_23 kw_805 dX7_doorOf_20 ?_
    refine lv_bipush (v := (8 : Int32)) hx hb dX7_doorOf_23 (by decide) ?_
    refine lv_iload_n hx hb dX7_doorOf_25 rfl (lv_at hl 1 rfl) ?_
    refine lv_imul hx hb dX7_doorOf_26 ?_
    refine lv_iload hx hb dX7_doorOf_27 (lv_at hl 4 rfl) ?_
    refine lv_iadd hx hb dX7_doorOf_29 ?_
    refine zz_iald X G ia_30 tl_124 dX7_doorOf_30 h (fun x3 h => ?_)
    refine lv_iconst (v := (1 : Int32)) hx hb dX7_doorOf_31 (by decide) ?_
    refine lv_icmp_ne (tgt := 42) hx hb dX7_doorOf_32 (by decide) (fun c4 => ?_) (fun c4 => ?_)
    · have h := (zz_br h).1 c4
      refine lv_iconst (v := (0 : Int32)) hx hb dX7_doorOf_42 (by decide) ?_
      refine lv_ior hx hb dX7_doorOf_43 ?_
      refine zz_vi h (fun x5 h => ?_)
      refine lv_istore_n (lv' := [(3, .int x5), (0, .ref (ad 100)), (1, .int v1), (2, .int v2), (4, .int v4)]) hx hb dX7_doorOf_44 rfl hl (by decide) rfl (fun ls hl => ?_)
      obtain ⟨x6, ex6, h⟩ := zz_let h
      refine lv_iinc (v := x6) (lv' := [(4, .int x6), (3, .int x5), (0, .ref (ad 100)), (1, .int v1), (2, .int v2)]) hx hb dX7_doorOf_45 hl (k := 4) rfl (by rw [← ex6]; rfl) (by decide) rfl (fun ls hl => ?_)
      refine lv_goto (tgt := 9) hx hb dX7_doorOf_48 (by decide) ?_
      exact ih x5 x6 μ _ _ _ (lv_sub hl [2, 3, 4, 1, 0] rfl) G h
    have h := (zz_br h).2 (fun q => q c4)
    refine lv_iconst (v := (1 : Int32)) hx hb dX7_doorOf_35 (by decide) ?_
    refine lv_iload hx hb dX7_doorOf_36 (lv_at hl 4 rfl) ?_
    refine lv_ishl hx hb dX7_doorOf_38 ?_
    refine lv_goto (tgt := 43) hx hb dX7_doorOf_39 (by decide) ?_
    refine lv_ior hx hb dX7_doorOf_43 ?_
    refine zz_vi h (fun x7 h => ?_)
    refine lv_istore_n (lv' := [(3, .int x7), (0, .ref (ad 100)), (1, .int v1), (2, .int v2), (4, .int v4)]) hx hb dX7_doorOf_44 rfl hl (by decide) rfl (fun ls hl => ?_)
    obtain ⟨x8, ex8, h⟩ := zz_let h
    refine lv_iinc (v := x8) (lv' := [(4, .int x8), (3, .int x7), (0, .ref (ad 100)), (1, .int v1), (2, .int v2)]) hx hb dX7_doorOf_45 hl (k := 4) rfl (by rw [← ex8]; rfl) (by decide) rfl (fun ls hl => ?_)
    refine lv_goto (tgt := 9) hx hb dX7_doorOf_48 (by decide) ?_
    exact ih x7 x8 μ _ _ _ (lv_sub hl [2, 3, 4, 1, 0] rfl) G h
set_option maxHeartbeats 4000000 in
set_option maxRecDepth 100000 in
theorem c_X7_doorOf (l : Launch) (D : va_G) (ad : Nat → Nat) (cA : Nat → ClassId) {a1 : Int32} {a2 : Int32} {μ : zM} {r : Int32} {μ' : zM} (h : f_X7_doorOf a1 a2 μ = some (r, μ')) : zMet false D ad cA l yX7_doorOf cX7_doorOf 5 (some .int) ({ frames := 7, cells := 0, slots := 0, locals := 158 } : Room) [.ref (ad 100), .int a1, .int a2] μ (zQi false D ad cA r μ') := by
  refine zMet_of "ButlerWeatherModel" ⟨by decide, rfl⟩ (Nat.le_of_ble_eq_true rfl) ?_
  intro p e s m args below meth c X G hr hlk ls hl
  have hl : lv_has ls 5 [(0, .ref (ad 100)), (1, .int a1), (2, .int a2)] := hl
  obtain ⟨hx, hb, hml, hown, hts, -, -, -⟩ := id X
  obtain ⟨Q, hQ⟩ : ∃ Q, Q = MQ below (zQi false D ad cA r μ') args s 0 0 (zA false ad) := ⟨_, rfl⟩
  rw [← hQ]
  unfold f_X7_doorOf at h
  refine lv_aload_n hx hb dX7_doorOf_0 rfl (lv_at hl 0 rfl) ?_
  refine zz_cv (rest := []) G h (fun r μ1 hf => zz_runV X G rc_7 tl_100 cv_X7_runsTold kw_1002 (c_X7_runsTold l D ad cA  hf) ⟨rfl, rfl, Nat.le_of_ble_eq_true rfl, Nat.le_of_ble_eq_true rfl⟩ rfl rfl hl.1 (Nat.le_of_ble_eq_true rfl) dX7_doorOf_1) (fun _ μ H locs G h => ?_)
  refine lv_iconst (v := (0 : Int32)) hx hb dX7_doorOf_4 (by decide) ?_
  refine lv_istore_n (lv' := [(3, .int (0 : Int32)), (0, .ref (ad 100)), (1, .int a1), (2, .int a2)]) hx hb dX7_doorOf_5 rfl hl (by decide) rfl (fun ls hl => ?_)
  refine lv_iconst (v := (0 : Int32)) hx hb dX7_doorOf_6 (by decide) ?_
  refine lv_istore (lv' := [(4, .int (0 : Int32)), (3, .int (0 : Int32)), (0, .ref (ad 100)), (1, .int a1), (2, .int a2)]) hx hb dX7_doorOf_7 hl (by decide) rfl (fun ls hl => ?_)
  refine w_X7_doorOf_L9 X hQ hr hlk  (fun x9 μ H locs ls hl G h => ?_) 400 (0 : Int32) (0 : Int32) μ _ _ _ (lv_sub hl [2, 3, 4, 1, 0] rfl) G h
  refine lv_iload_n hx hb dX7_doorOf_51 rfl (lv_at hl 2 rfl) ?_
  refine lv_if_ne (tgt := 64) hx hb dX7_doorOf_52 (by decide) (fun c10 => ?_) (fun c10 => ?_)
  · have h := (zz_br h).1 c10
    refine lv_iload_n hx hb dX7_doorOf_64 rfl (lv_at hl 2 rfl) ?_
    refine lv_iconst (v := (1 : Int32)) hx hb dX7_doorOf_65 (by decide) ?_
    refine lv_icmp_ne (tgt := 78) hx hb dX7_doorOf_66 (by decide) (fun c11 => ?_) (fun c11 => ?_)
    · have h := (zz_br h).1 c11
      refine lv_iload_n hx hb dX7_doorOf_78 rfl (lv_at hl 3 rfl) ?_
      rw [hQ]
      exact zz_iret X G hr hlk dX7_doorOf_79 h
    have h := (zz_br h).2 (fun q => q c11)
    refine lv_aload_n hx hb dX7_doorOf_69 rfl (lv_at hl 0 rfl) ?_
    refine zz_getr X G fr_7_25 tl_100 rl_100_25 kw_807 dX7_doorOf_70 ?_
    refine lv_iload_n hx hb dX7_doorOf_73 rfl (lv_at hl 1 rfl) ?_
    refine zz_iald X G ia_30 tl_126 dX7_doorOf_74 h (fun x12 h => ?_)
    refine lv_goto (tgt := 79) hx hb dX7_doorOf_75 (by decide) ?_
    rw [hQ]
    exact zz_iret X G hr hlk dX7_doorOf_79 h
  have h := (zz_br h).2 (fun q => q c10)
  refine lv_aload_n hx hb dX7_doorOf_55 rfl (lv_at hl 0 rfl) ?_
  refine zz_getr X G fr_7_24 tl_100 rl_100_24 kw_806 dX7_doorOf_56 ?_
  refine lv_iload_n hx hb dX7_doorOf_59 rfl (lv_at hl 1 rfl) ?_
  refine zz_iald X G ia_30 tl_125 dX7_doorOf_60 h (fun x13 h => ?_)
  refine lv_goto (tgt := 79) hx hb dX7_doorOf_61 (by decide) ?_
  rw [hQ]
  exact zz_iret X G hr hlk dX7_doorOf_79 h
set_option maxHeartbeats 4000000 in
set_option maxRecDepth 100000 in
theorem c_X7_door (l : Launch) (D : va_G) (ad : Nat → Nat) (cA : Nat → ClassId) {a1 : Int32} {a2 : Int32} {μ : zM} {r : Int32} {μ' : zM} (h : f_X7_door a1 a2 μ = some (r, μ')) : zMet false D ad cA l yX7_door cX7_door 3 (some .int) ({ frames := 8, cells := 0, slots := 0, locals := 182 } : Room) [.ref (ad 100), .int a1, .int a2] μ (zQi false D ad cA r μ') := by
  refine zMet_of "ButlerWeatherModel" ⟨by decide, rfl⟩ (Nat.le_of_ble_eq_true rfl) ?_
  intro p e s m args below meth c X G hr hlk ls hl
  have hl : lv_has ls 3 [(0, .ref (ad 100)), (1, .int a1), (2, .int a2)] := hl
  obtain ⟨hx, hb, hml, hown, hts, -, -, -⟩ := id X
  obtain ⟨Q, hQ⟩ : ∃ Q, Q = MQ below (zQi false D ad cA r μ') args s 0 0 (zA false ad) := ⟨_, rfl⟩
  rw [← hQ]
  unfold f_X7_door at h
  refine lv_iload_n hx hb dX7_door_0 rfl (lv_at hl 1 rfl) ?_
  refine zz_ci (rest := []) G h (fun r μ1 hf => zz_runS X G cs_X7_isDay kw_975 (c_X7_isDay l D ad cA  hf) ⟨rfl, rfl, Nat.le_of_ble_eq_true rfl, Nat.le_of_ble_eq_true rfl⟩ rfl rfl hl.1 (Nat.le_of_ble_eq_true rfl) dX7_door_1) (fun x1 μ H locs G h => ?_)
  refine lv_if_eq (tgt := 25) hx hb dX7_door_4 (by decide) (fun c2 => ?_) (fun c2 => ?_)
  · have h := (zz_br h).1 c2
    refine lv_bipush (v := (-2 : Int32)) hx hb dX7_door_25 (by decide) ?_
    rw [hQ]
    exact zz_iret X G hr hlk dX7_door_27 h
  have h := (zz_br h).2 c2
  refine lv_iload_n hx hb dX7_door_7 rfl (lv_at hl 2 rfl) ?_
  refine lv_iconst (v := (0 : Int32)) hx hb dX7_door_8 (by decide) ?_
  refine lv_iconst (v := (2 : Int32)) hx hb dX7_door_9 (by decide) ?_
  refine zz_ci (rest := []) G h (fun r μ1 hf => zz_runS X G cs_X7_in kw_905 (c_X7_in l D ad cA  hf) ⟨rfl, rfl, Nat.le_of_ble_eq_true rfl, Nat.le_of_ble_eq_true rfl⟩ rfl rfl hl.1 (Nat.le_of_ble_eq_true rfl) dX7_door_10) (fun x3 μ H locs G h => ?_)
  refine lv_if_eq (tgt := 25) hx hb dX7_door_13 (by decide) (fun c4 => ?_) (fun c4 => ?_)
  · have h := (zz_br h).1 c4
    refine lv_bipush (v := (-2 : Int32)) hx hb dX7_door_25 (by decide) ?_
    rw [hQ]
    exact zz_iret X G hr hlk dX7_door_27 h
  have h := (zz_br h).2 c4
  refine lv_aload_n hx hb dX7_door_16 rfl (lv_at hl 0 rfl) ?_
  refine lv_iload_n hx hb dX7_door_17 rfl (lv_at hl 1 rfl) ?_
  refine lv_iload_n hx hb dX7_door_18 rfl (lv_at hl 2 rfl) ?_
  refine zz_ci (rest := []) G h (fun r μ1 hf => zz_runV X G rc_7 tl_100 cv_X7_doorOf kw_1056 (c_X7_doorOf l D ad cA  hf) ⟨rfl, rfl, Nat.le_of_ble_eq_true rfl, Nat.le_of_ble_eq_true rfl⟩ rfl rfl hl.1 (Nat.le_of_ble_eq_true rfl) dX7_door_19) (fun x5 μ H locs G h => ?_)
  refine lv_goto (tgt := 27) hx hb dX7_door_22 (by decide) ?_
  rw [hQ]
  exact zz_iret X G hr hlk dX7_door_27 h
set_option maxHeartbeats 4000000 in
set_option maxRecDepth 100000 in
theorem c_X7_warmthOf (l : Launch) (D : va_G) (ad : Nat → Nat) (cA : Nat → ClassId) {a1 : Int32} {μ : zM} {r : Int32} {μ' : zM} (h : f_X7_warmthOf a1 μ = some (r, μ')) : zMet false D ad cA l yX7_warmthOf cX7_warmthOf 2 (some .int) ({ frames := 7, cells := 0, slots := 0, locals := 158 } : Room) [.ref (ad 100), .int a1] μ (zQi false D ad cA r μ') := by
  refine zMet_of "ButlerWeatherModel" ⟨by decide, rfl⟩ (Nat.le_of_ble_eq_true rfl) ?_
  intro p e s m args below meth c X G hr hlk ls hl
  have hl : lv_has ls 2 [(0, .ref (ad 100)), (1, .int a1)] := hl
  obtain ⟨hx, hb, hml, hown, hts, -, -, -⟩ := id X
  obtain ⟨Q, hQ⟩ : ∃ Q, Q = MQ below (zQi false D ad cA r μ') args s 0 0 (zA false ad) := ⟨_, rfl⟩
  rw [← hQ]
  unfold f_X7_warmthOf at h
  refine lv_aload_n hx hb dX7_warmthOf_0 rfl (lv_at hl 0 rfl) ?_
  refine zz_cv (rest := []) G h (fun r μ1 hf => zz_runV X G rc_7 tl_100 cv_X7_runsTold kw_1002 (c_X7_runsTold l D ad cA  hf) ⟨rfl, rfl, Nat.le_of_ble_eq_true rfl, Nat.le_of_ble_eq_true rfl⟩ rfl rfl hl.1 (Nat.le_of_ble_eq_true rfl) dX7_warmthOf_1) (fun _ μ H locs G h => ?_)
  refine lv_aload_n hx hb dX7_warmthOf_4 rfl (lv_at hl 0 rfl) ?_
  refine zz_getr X G fr_7_26 tl_100 rl_100_26 kw_808 dX7_warmthOf_5 ?_
  refine lv_iload_n hx hb dX7_warmthOf_8 rfl (lv_at hl 1 rfl) ?_
  refine zz_iald X G ia_30 tl_127 dX7_warmthOf_9 h (fun x1 h => ?_)
  rw [hQ]
  exact zz_iret X G hr hlk dX7_warmthOf_10 h
set_option maxHeartbeats 4000000 in
set_option maxRecDepth 100000 in
theorem c_X7_warmth (l : Launch) (D : va_G) (ad : Nat → Nat) (cA : Nat → ClassId) {a1 : Int32} {μ : zM} {r : Int32} {μ' : zM} (h : f_X7_warmth a1 μ = some (r, μ')) : zMet false D ad cA l yX7_warmth cX7_warmth 2 (some .int) ({ frames := 8, cells := 0, slots := 0, locals := 179 } : Room) [.ref (ad 100), .int a1] μ (zQi false D ad cA r μ') := by
  refine zMet_of "ButlerWeatherModel" ⟨by decide, rfl⟩ (Nat.le_of_ble_eq_true rfl) ?_
  intro p e s m args below meth c X G hr hlk ls hl
  have hl : lv_has ls 2 [(0, .ref (ad 100)), (1, .int a1)] := hl
  obtain ⟨hx, hb, hml, hown, hts, -, -, -⟩ := id X
  obtain ⟨Q, hQ⟩ : ∃ Q, Q = MQ below (zQi false D ad cA r μ') args s 0 0 (zA false ad) := ⟨_, rfl⟩
  rw [← hQ]
  unfold f_X7_warmth at h
  refine lv_iload_n hx hb dX7_warmth_0 rfl (lv_at hl 1 rfl) ?_
  refine zz_ci (rest := []) G h (fun r μ1 hf => zz_runS X G cs_X7_isDay kw_975 (c_X7_isDay l D ad cA  hf) ⟨rfl, rfl, Nat.le_of_ble_eq_true rfl, Nat.le_of_ble_eq_true rfl⟩ rfl rfl hl.1 (Nat.le_of_ble_eq_true rfl) dX7_warmth_1) (fun x1 μ H locs G h => ?_)
  refine lv_if_eq (tgt := 15) hx hb dX7_warmth_4 (by decide) (fun c2 => ?_) (fun c2 => ?_)
  · have h := (zz_br h).1 c2
    refine lv_ldc hx hb hown (hts _ kw_1068) dX7_warmth_15 ?_
    rw [hQ]
    exact zz_iret X G hr hlk dX7_warmth_17 h
  have h := (zz_br h).2 c2
  refine lv_aload_n hx hb dX7_warmth_7 rfl (lv_at hl 0 rfl) ?_
  refine lv_iload_n hx hb dX7_warmth_8 rfl (lv_at hl 1 rfl) ?_
  refine zz_ci (rest := []) G h (fun r μ1 hf => zz_runV X G rc_7 tl_100 cv_X7_warmthOf kw_1064 (c_X7_warmthOf l D ad cA  hf) ⟨rfl, rfl, Nat.le_of_ble_eq_true rfl, Nat.le_of_ble_eq_true rfl⟩ rfl rfl hl.1 (Nat.le_of_ble_eq_true rfl) dX7_warmth_9) (fun x3 μ H locs G h => ?_)
  refine lv_goto (tgt := 17) hx hb dX7_warmth_12 (by decide) ?_
  rw [hQ]
  exact zz_iret X G hr hlk dX7_warmth_17 h
set_option maxHeartbeats 4000000 in
set_option maxRecDepth 100000 in
theorem w_X7_coldestOf_L8 {p : Program} {l : Launch} {e : Env} {s : State} {m : MethodId} {args : Array Value} {below : List Frame} {meth : Method} {c : Code} {Q : State → Prop} {D : va_G} {ad : Nat → Nat} {cA : Nat → ClassId} {r : Int32} {μ' : zM} (X : zX false D ad cA p s m args c cX7_coldestOf "ButlerWeatherModel" 3) (hQ : Q = MQ below (zQi false D ad cA r μ') args s 0 0 (zA false ad)) (hr : meth.sig.returnType = (some .int)) (hlk : meth.locks = false)  {kx : Int32 → zM → Option (Int32 × zM)} (HX : ∀ (w1 : Int32) (μ : zM) (H : Heap) (locs : List Loc) (ls : Array Slot), lv_has ls 3 [(1, .int w1)] → zG false D ad cA s μ H locs → kx w1 μ = some (r, μ') → W p l e ({ frames := 7, cells := 0, slots := 0, locals := 158 } : Room) s m args below meth c H locs 0 0 Q (F0 m 41 ls [])) : ∀ (n : Nat) (v1 : Int32) (v2 : Int32) (μ : zM) (H : Heap) (locs : List Loc) (ls : Array Slot), lv_has ls 3 [(0, .ref (ad 100)), (1, .int v1), (2, .int v2)] → zG false D ad cA s μ H locs → f_X7_coldestOf_L8 kx n v1 v2 μ = some (r, μ') → W p l e ({ frames := 7, cells := 0, slots := 0, locals := 158 } : Room) s m args below meth c H locs 0 0 Q (F0 m 8 ls []) := by
  obtain ⟨hx, hb, hml, hown, hts, -, -, -⟩ := id X
  intro n
  induction n with
  | zero =>
    intro v1 v2 μ H locs ls hl G h
    cases (show (none : Option (Int32 × zM)) = some (r, μ') from h)
  | succ n ih =>
    intro v1 v2 μ H locs ls hl G h
    rw [f_X7_coldestOf_L8] at h
    refine lv_iload_n hx hb dX7_coldestOf_8 rfl (lv_at hl 2 rfl) ?_
    refine lv_bipush (v := (24 : Int32)) hx hb dX7_coldestOf_9 (by decide) ?_
    refine lv_icmp_ge (tgt := 41) hx hb dX7_coldestOf_11 (by decide) (fun c1 => ?_) (fun c1 => ?_)
    · have h := (zz_br h).1 c1
      exact HX v1 μ _ _ _ (lv_sub hl [1] rfl) G h
    have h := (zz_br h).2 c1
    refine lv_aload_n hx hb dX7_coldestOf_14 rfl (lv_at hl 0 rfl) ?_
    refine zz_getr X G fr_7_26 tl_100 rl_100_26 kw_808 dX7_coldestOf_15 ?_
    refine lv_iload_n hx hb dX7_coldestOf_18 rfl (lv_at hl 2 rfl) ?_
    refine zz_iald X G ia_30 tl_127 dX7_coldestOf_19 h (fun x2 h => ?_)
    refine lv_aload_n hx hb dX7_coldestOf_20 rfl (lv_at hl 0 rfl) ?_
    refine zz_getr X G fr_7_26 tl_100 rl_100_26 kw_808 dX7_coldestOf_21 ?_
    refine lv_iload_n hx hb dX7_coldestOf_24 rfl (lv_at hl 1 rfl) ?_
    refine zz_iald X G ia_30 tl_127 dX7_coldestOf_25 h (fun x3 h => ?_)
    refine lv_icmp_ge (tgt := 33) hx hb dX7_coldestOf_26 (by decide) (fun c4 => ?_) (fun c4 => ?_)
    · have h := (zz_br h).1 c4
      refine lv_iload_n hx hb dX7_coldestOf_33 rfl (lv_at hl 1 rfl) ?_
      refine lv_istore_n (lv' := [(1, .int v1), (0, .ref (ad 100)), (2, .int v2)]) hx hb dX7_coldestOf_34 rfl hl (by decide) rfl (fun ls hl => ?_)
      obtain ⟨x5, ex5, h⟩ := zz_let h
      refine lv_iinc (v := x5) (lv' := [(2, .int x5), (1, .int v1), (0, .ref (ad 100))]) hx hb dX7_coldestOf_35 hl (k := 2) rfl (by rw [← ex5]; rfl) (by decide) rfl (fun ls hl => ?_)
      refine lv_goto (tgt := 8) hx hb dX7_coldestOf_38 (by decide) ?_
      exact ih v1 x5 μ _ _ _ (lv_sub hl [2, 1, 0] rfl) G h
    have h := (zz_br h).2 c4
    refine lv_iload_n hx hb dX7_coldestOf_29 rfl (lv_at hl 2 rfl) ?_
    refine lv_goto (tgt := 34) hx hb dX7_coldestOf_30 (by decide) ?_
    refine lv_istore_n (lv' := [(1, .int v2), (0, .ref (ad 100)), (2, .int v2)]) hx hb dX7_coldestOf_34 rfl hl (by decide) rfl (fun ls hl => ?_)
    obtain ⟨x6, ex6, h⟩ := zz_let h
    refine lv_iinc (v := x6) (lv' := [(2, .int x6), (1, .int v2), (0, .ref (ad 100))]) hx hb dX7_coldestOf_35 hl (k := 2) rfl (by rw [← ex6]; rfl) (by decide) rfl (fun ls hl => ?_)
    refine lv_goto (tgt := 8) hx hb dX7_coldestOf_38 (by decide) ?_
    exact ih v2 x6 μ _ _ _ (lv_sub hl [2, 1, 0] rfl) G h
set_option maxHeartbeats 4000000 in
set_option maxRecDepth 100000 in
theorem c_X7_coldestOf (l : Launch) (D : va_G) (ad : Nat → Nat) (cA : Nat → ClassId)  {μ : zM} {r : Int32} {μ' : zM} (h : f_X7_coldestOf μ = some (r, μ')) : zMet false D ad cA l yX7_coldestOf cX7_coldestOf 3 (some .int) ({ frames := 7, cells := 0, slots := 0, locals := 158 } : Room) [.ref (ad 100)] μ (zQi false D ad cA r μ') := by
  refine zMet_of "ButlerWeatherModel" ⟨by decide, rfl⟩ (Nat.le_of_ble_eq_true rfl) ?_
  intro p e s m args below meth c X G hr hlk ls hl
  have hl : lv_has ls 3 [(0, .ref (ad 100))] := hl
  obtain ⟨hx, hb, hml, hown, hts, -, -, -⟩ := id X
  obtain ⟨Q, hQ⟩ : ∃ Q, Q = MQ below (zQi false D ad cA r μ') args s 0 0 (zA false ad) := ⟨_, rfl⟩
  rw [← hQ]
  unfold f_X7_coldestOf at h
  refine lv_aload_n hx hb dX7_coldestOf_0 rfl (lv_at hl 0 rfl) ?_
  refine zz_cv (rest := []) G h (fun r μ1 hf => zz_runV X G rc_7 tl_100 cv_X7_runsTold kw_1002 (c_X7_runsTold l D ad cA  hf) ⟨rfl, rfl, Nat.le_of_ble_eq_true rfl, Nat.le_of_ble_eq_true rfl⟩ rfl rfl hl.1 (Nat.le_of_ble_eq_true rfl) dX7_coldestOf_1) (fun _ μ H locs G h => ?_)
  refine lv_iconst (v := (0 : Int32)) hx hb dX7_coldestOf_4 (by decide) ?_
  refine lv_istore_n (lv' := [(1, .int (0 : Int32)), (0, .ref (ad 100))]) hx hb dX7_coldestOf_5 rfl hl (by decide) rfl (fun ls hl => ?_)
  refine lv_iconst (v := (1 : Int32)) hx hb dX7_coldestOf_6 (by decide) ?_
  refine lv_istore_n (lv' := [(2, .int (1 : Int32)), (1, .int (0 : Int32)), (0, .ref (ad 100))]) hx hb dX7_coldestOf_7 rfl hl (by decide) rfl (fun ls hl => ?_)
  refine w_X7_coldestOf_L8 X hQ hr hlk  (fun x7 μ H locs ls hl G h => ?_) 400 (0 : Int32) (1 : Int32) μ _ _ _ (lv_sub hl [2, 1, 0] rfl) G h
  refine lv_iload_n hx hb dX7_coldestOf_41 rfl (lv_at hl 0 rfl) ?_
  rw [hQ]
  exact zz_iret X G hr hlk dX7_coldestOf_42 h
set_option maxHeartbeats 4000000 in
set_option maxRecDepth 100000 in
theorem c_X7_coldest (l : Launch) (D : va_G) (ad : Nat → Nat) (cA : Nat → ClassId)  {μ : zM} {r : Int32} {μ' : zM} (h : f_X7_coldest μ = some (r, μ')) : zMet false D ad cA l yX7_coldest cX7_coldest 1 (some .int) ({ frames := 8, cells := 0, slots := 0, locals := 180 } : Room) [.ref (ad 100)] μ (zQi false D ad cA r μ') := by
  refine zMet_of "ButlerWeatherModel" ⟨by decide, rfl⟩ (Nat.le_of_ble_eq_true rfl) ?_
  intro p e s m args below meth c X G hr hlk ls hl
  have hl : lv_has ls 1 [(0, .ref (ad 100))] := hl
  obtain ⟨hx, hb, hml, hown, hts, -, -, -⟩ := id X
  obtain ⟨Q, hQ⟩ : ∃ Q, Q = MQ below (zQi false D ad cA r μ') args s 0 0 (zA false ad) := ⟨_, rfl⟩
  rw [← hQ]
  unfold f_X7_coldest at h
  refine lv_aload_n hx hb dX7_coldest_0 rfl (lv_at hl 0 rfl) ?_
  refine zz_ci (rest := []) G h (fun r μ1 hf => zz_runV X G rc_7 tl_100 cv_X7_coldestOf kw_1073 (c_X7_coldestOf l D ad cA  hf) ⟨rfl, rfl, Nat.le_of_ble_eq_true rfl, Nat.le_of_ble_eq_true rfl⟩ rfl rfl hl.1 (Nat.le_of_ble_eq_true rfl) dX7_coldest_1) (fun x1 μ H locs G h => ?_)
  rw [hQ]
  exact zz_iret X G hr hlk dX7_coldest_4 h
set_option maxHeartbeats 4000000 in
set_option maxRecDepth 100000 in
theorem c_X7_firstOf (l : Launch) (D : va_G) (ad : Nat → Nat) (cA : Nat → ClassId) {a1 : Int32} {μ : zM} {r : Int32} {μ' : zM} (h : f_X7_firstOf a1 μ = some (r, μ')) : zMet false D ad cA l yX7_firstOf cX7_firstOf 2 (some .int) ({ frames := 7, cells := 0, slots := 0, locals := 158 } : Room) [.ref (ad 100), .int a1] μ (zQi false D ad cA r μ') := by
  refine zMet_of "ButlerWeatherModel" ⟨by decide, rfl⟩ (Nat.le_of_ble_eq_true rfl) ?_
  intro p e s m args below meth c X G hr hlk ls hl
  have hl : lv_has ls 2 [(0, .ref (ad 100)), (1, .int a1)] := hl
  obtain ⟨hx, hb, hml, hown, hts, -, -, -⟩ := id X
  obtain ⟨Q, hQ⟩ : ∃ Q, Q = MQ below (zQi false D ad cA r μ') args s 0 0 (zA false ad) := ⟨_, rfl⟩
  rw [← hQ]
  unfold f_X7_firstOf at h
  refine lv_aload_n hx hb dX7_firstOf_0 rfl (lv_at hl 0 rfl) ?_
  refine zz_cv (rest := []) G h (fun r μ1 hf => zz_runV X G rc_7 tl_100 cv_X7_runsTold kw_1002 (c_X7_runsTold l D ad cA  hf) ⟨rfl, rfl, Nat.le_of_ble_eq_true rfl, Nat.le_of_ble_eq_true rfl⟩ rfl rfl hl.1 (Nat.le_of_ble_eq_true rfl) dX7_firstOf_1) (fun _ μ H locs G h => ?_)
  refine lv_iload_n hx hb dX7_firstOf_4 rfl (lv_at hl 1 rfl) ?_
  refine lv_if_ne (tgt := 15) hx hb dX7_firstOf_5 (by decide) (fun c1 => ?_) (fun c1 => ?_)
  · have h := (zz_br h).1 c1
    refine lv_aload_n hx hb dX7_firstOf_15 rfl (lv_at hl 0 rfl) ?_
    refine zz_geti X G fi_7_22 tl_100 kw_804 dX7_firstOf_16 h (fun x2 h => ?_)
    rw [hQ]
    exact zz_iret X G hr hlk dX7_firstOf_19 h
  have h := (zz_br h).2 (fun q => q c1)
  refine lv_aload_n hx hb dX7_firstOf_8 rfl (lv_at hl 0 rfl) ?_
  refine zz_geti X G fi_7_21 tl_100 kw_803 dX7_firstOf_9 h (fun x3 h => ?_)
  refine lv_goto (tgt := 19) hx hb dX7_firstOf_12 (by decide) ?_
  rw [hQ]
  exact zz_iret X G hr hlk dX7_firstOf_19 h
set_option maxHeartbeats 4000000 in
set_option maxRecDepth 100000 in
theorem c_X7_first (l : Launch) (D : va_G) (ad : Nat → Nat) (cA : Nat → ClassId) {a1 : Int32} {μ : zM} {r : Int32} {μ' : zM} (h : f_X7_first a1 μ = some (r, μ')) : zMet false D ad cA l yX7_first cX7_first 2 (some .int) ({ frames := 8, cells := 0, slots := 0, locals := 179 } : Room) [.ref (ad 100), .int a1] μ (zQi false D ad cA r μ') := by
  refine zMet_of "ButlerWeatherModel" ⟨by decide, rfl⟩ (Nat.le_of_ble_eq_true rfl) ?_
  intro p e s m args below meth c X G hr hlk ls hl
  have hl : lv_has ls 2 [(0, .ref (ad 100)), (1, .int a1)] := hl
  obtain ⟨hx, hb, hml, hown, hts, -, -, -⟩ := id X
  obtain ⟨Q, hQ⟩ : ∃ Q, Q = MQ below (zQi false D ad cA r μ') args s 0 0 (zA false ad) := ⟨_, rfl⟩
  rw [← hQ]
  unfold f_X7_first at h
  refine lv_iload_n hx hb dX7_first_0 rfl (lv_at hl 1 rfl) ?_
  refine zz_ci (rest := []) G h (fun r μ1 hf => zz_runS X G cs_X7_isTwo kw_1081 (c_X7_isTwo l D ad cA  hf) ⟨rfl, rfl, Nat.le_of_ble_eq_true rfl, Nat.le_of_ble_eq_true rfl⟩ rfl rfl hl.1 (Nat.le_of_ble_eq_true rfl) dX7_first_1) (fun x1 μ H locs G h => ?_)
  refine lv_if_eq (tgt := 15) hx hb dX7_first_4 (by decide) (fun c2 => ?_) (fun c2 => ?_)
  · have h := (zz_br h).1 c2
    refine lv_bipush (v := (-2 : Int32)) hx hb dX7_first_15 (by decide) ?_
    rw [hQ]
    exact zz_iret X G hr hlk dX7_first_17 h
  have h := (zz_br h).2 c2
  refine lv_aload_n hx hb dX7_first_7 rfl (lv_at hl 0 rfl) ?_
  refine lv_iload_n hx hb dX7_first_8 rfl (lv_at hl 1 rfl) ?_
  refine zz_ci (rest := []) G h (fun r μ1 hf => zz_runV X G rc_7 tl_100 cv_X7_firstOf kw_1084 (c_X7_firstOf l D ad cA  hf) ⟨rfl, rfl, Nat.le_of_ble_eq_true rfl, Nat.le_of_ble_eq_true rfl⟩ rfl rfl hl.1 (Nat.le_of_ble_eq_true rfl) dX7_first_9) (fun x3 μ H locs G h => ?_)
  refine lv_goto (tgt := 17) hx hb dX7_first_12 (by decide) ?_
  rw [hQ]
  exact zz_iret X G hr hlk dX7_first_17 h
set_option maxHeartbeats 4000000 in
set_option maxRecDepth 100000 in
theorem w_X7_sentNow_L4 {p : Program} {l : Launch} {e : Env} {s : State} {m : MethodId} {args : Array Value} {below : List Frame} {meth : Method} {c : Code} {Q : State → Prop} {D : va_G} {ad : Nat → Nat} {cA : Nat → ClassId} {r : Int32} {μ' : zM} (X : zX false D ad cA p s m args c cX7_sentNow "ButlerWeatherModel" 3) (hQ : Q = MQ below (zQi false D ad cA r μ') args s 0 0 (zA false ad)) (hr : meth.sig.returnType = (some .int)) (hlk : meth.locks = false)  {kx : Int32 → zM → Option (Int32 × zM)} (HX : ∀ (w1 : Int32) (μ : zM) (H : Heap) (locs : List Loc) (ls : Array Slot), lv_has ls 3 [(1, .int w1)] → zG false D ad cA s μ H locs → kx w1 μ = some (r, μ') → W p l e ({ frames := 0, cells := 0, slots := 0, locals := 0 } : Room) s m args below meth c H locs 0 0 Q (F0 m 38 ls [])) : ∀ (n : Nat) (v1 : Int32) (v2 : Int32) (μ : zM) (H : Heap) (locs : List Loc) (ls : Array Slot), lv_has ls 3 [(0, .ref (ad 100)), (1, .int v1), (2, .int v2)] → zG false D ad cA s μ H locs → f_X7_sentNow_L4 kx n v1 v2 μ = some (r, μ') → W p l e ({ frames := 0, cells := 0, slots := 0, locals := 0 } : Room) s m args below meth c H locs 0 0 Q (F0 m 4 ls []) := by
  obtain ⟨hx, hb, hml, hown, hts, -, -, -⟩ := id X
  intro n
  induction n with
  | zero =>
    intro v1 v2 μ H locs ls hl G h
    cases (show (none : Option (Int32 × zM)) = some (r, μ') from h)
  | succ n ih =>
    intro v1 v2 μ H locs ls hl G h
    rw [f_X7_sentNow_L4] at h
    refine lv_iload_n hx hb dX7_sentNow_4 rfl (lv_at hl 2 rfl) ?_
    refine lv_aload_n hx hb dX7_sentNow_5 rfl (lv_at hl 0 rfl) ?_
    refine zz_geti X G fi_7_2 tl_100 kw_784 dX7_sentNow_6 h (fun x1 h => ?_)
    refine lv_icmp_ge (tgt := 38) hx hb dX7_sentNow_9 (by decide) (fun c2 => ?_) (fun c2 => ?_)
    · have h := (zz_br h).1 c2
      exact HX v1 μ _ _ _ (lv_sub hl [1] rfl) G h
    have h := (zz_br h).2 c2
    refine lv_iload_n hx hb dX7_sentNow_12 rfl (lv_at hl 1 rfl) ?_
    refine lv_aload_n hx hb dX7_sentNow_13 rfl (lv_at hl 0 rfl) ?_
    refine zz_getr X G fr_7_18 tl_100 rl_100_18 kw_800 dX7_sentNow_14 ?_
    refine lv_iload_n hx hb dX7_sentNow_17 rfl (lv_at hl 2 rfl) ?_
    refine zz_iald X G ia_30 tl_119 dX7_sentNow_18 h (fun x3 h => ?_)
    refine lv_iconst (v := (4 : Int32)) hx hb dX7_sentNow_19 (by decide) ?_
    refine lv_icmp_ne (tgt := 29) hx hb dX7_sentNow_20 (by decide) (fun c4 => ?_) (fun c4 => ?_)
    · have h := (zz_br h).1 c4
      refine lv_iconst (v := (0 : Int32)) hx hb dX7_sentNow_29 (by decide) ?_
      refine lv_ior hx hb dX7_sentNow_30 ?_
      refine zz_vi h (fun x5 h => ?_)
      refine lv_istore_n (lv' := [(1, .int x5), (0, .ref (ad 100)), (2, .int v2)]) hx hb dX7_sentNow_31 rfl hl (by decide) rfl (fun ls hl => ?_)
      obtain ⟨x6, ex6, h⟩ := zz_let h
      refine lv_iinc (v := x6) (lv' := [(2, .int x6), (1, .int x5), (0, .ref (ad 100))]) hx hb dX7_sentNow_32 hl (k := 2) rfl (by rw [← ex6]; rfl) (by decide) rfl (fun ls hl => ?_)
      refine lv_goto (tgt := 4) hx hb dX7_sentNow_35 (by decide) ?_
      exact ih x5 x6 μ _ _ _ (lv_sub hl [2, 1, 0] rfl) G h
    have h := (zz_br h).2 (fun q => q c4)
    refine lv_iconst (v := (1 : Int32)) hx hb dX7_sentNow_23 (by decide) ?_
    refine lv_iload_n hx hb dX7_sentNow_24 rfl (lv_at hl 2 rfl) ?_
    refine lv_ishl hx hb dX7_sentNow_25 ?_
    refine lv_goto (tgt := 30) hx hb dX7_sentNow_26 (by decide) ?_
    refine lv_ior hx hb dX7_sentNow_30 ?_
    refine zz_vi h (fun x7 h => ?_)
    refine lv_istore_n (lv' := [(1, .int x7), (0, .ref (ad 100)), (2, .int v2)]) hx hb dX7_sentNow_31 rfl hl (by decide) rfl (fun ls hl => ?_)
    obtain ⟨x8, ex8, h⟩ := zz_let h
    refine lv_iinc (v := x8) (lv' := [(2, .int x8), (1, .int x7), (0, .ref (ad 100))]) hx hb dX7_sentNow_32 hl (k := 2) rfl (by rw [← ex8]; rfl) (by decide) rfl (fun ls hl => ?_)
    refine lv_goto (tgt := 4) hx hb dX7_sentNow_35 (by decide) ?_
    exact ih x7 x8 μ _ _ _ (lv_sub hl [2, 1, 0] rfl) G h
set_option maxHeartbeats 4000000 in
set_option maxRecDepth 100000 in
theorem c_X7_sentNow (l : Launch) (D : va_G) (ad : Nat → Nat) (cA : Nat → ClassId)  {μ : zM} {r : Int32} {μ' : zM} (h : f_X7_sentNow μ = some (r, μ')) : zMet false D ad cA l yX7_sentNow cX7_sentNow 3 (some .int) ({ frames := 0, cells := 0, slots := 0, locals := 0 } : Room) [.ref (ad 100)] μ (zQi false D ad cA r μ') := by
  refine zMet_of "ButlerWeatherModel" ⟨by decide, rfl⟩ (Nat.le_of_ble_eq_true rfl) ?_
  intro p e s m args below meth c X G hr hlk ls hl
  have hl : lv_has ls 3 [(0, .ref (ad 100))] := hl
  obtain ⟨hx, hb, hml, hown, hts, -, -, -⟩ := id X
  obtain ⟨Q, hQ⟩ : ∃ Q, Q = MQ below (zQi false D ad cA r μ') args s 0 0 (zA false ad) := ⟨_, rfl⟩
  rw [← hQ]
  unfold f_X7_sentNow at h
  refine lv_iconst (v := (0 : Int32)) hx hb dX7_sentNow_0 (by decide) ?_
  refine lv_istore_n (lv' := [(1, .int (0 : Int32)), (0, .ref (ad 100))]) hx hb dX7_sentNow_1 rfl hl (by decide) rfl (fun ls hl => ?_)
  refine lv_iconst (v := (0 : Int32)) hx hb dX7_sentNow_2 (by decide) ?_
  refine lv_istore_n (lv' := [(2, .int (0 : Int32)), (1, .int (0 : Int32)), (0, .ref (ad 100))]) hx hb dX7_sentNow_3 rfl hl (by decide) rfl (fun ls hl => ?_)
  refine w_X7_sentNow_L4 X hQ hr hlk  (fun x9 μ H locs ls hl G h => ?_) 400 (0 : Int32) (0 : Int32) μ _ _ _ (lv_sub hl [2, 1, 0] rfl) G h
  refine lv_iload_n hx hb dX7_sentNow_38 rfl (lv_at hl 0 rfl) ?_
  rw [hQ]
  exact zz_iret X G hr hlk dX7_sentNow_39 h
set_option maxHeartbeats 4000000 in
set_option maxRecDepth 100000 in
theorem c_X7_sentOf (l : Launch) (D : va_G) (ad : Nat → Nat) (cA : Nat → ClassId)  {μ : zM} {r : Int32} {μ' : zM} (h : f_X7_sentOf μ = some (r, μ')) : zMet false D ad cA l yX7_sentOf cX7_sentOf 1 (some .int) ({ frames := 7, cells := 0, slots := 0, locals := 158 } : Room) [.ref (ad 100)] μ (zQi false D ad cA r μ') := by
  refine zMet_of "ButlerWeatherModel" ⟨by decide, rfl⟩ (Nat.le_of_ble_eq_true rfl) ?_
  intro p e s m args below meth c X G hr hlk ls hl
  have hl : lv_has ls 1 [(0, .ref (ad 100))] := hl
  obtain ⟨hx, hb, hml, hown, hts, -, -, -⟩ := id X
  obtain ⟨Q, hQ⟩ : ∃ Q, Q = MQ below (zQi false D ad cA r μ') args s 0 0 (zA false ad) := ⟨_, rfl⟩
  rw [← hQ]
  unfold f_X7_sentOf at h
  refine lv_aload_n hx hb dX7_sentOf_0 rfl (lv_at hl 0 rfl) ?_
  refine zz_cv (rest := []) G h (fun r μ1 hf => zz_runV X G rc_7 tl_100 cv_X7_runsTold kw_1002 (c_X7_runsTold l D ad cA  hf) ⟨rfl, rfl, Nat.le_of_ble_eq_true rfl, Nat.le_of_ble_eq_true rfl⟩ rfl rfl hl.1 (Nat.le_of_ble_eq_true rfl) dX7_sentOf_1) (fun _ μ H locs G h => ?_)
  refine lv_aload_n hx hb dX7_sentOf_4 rfl (lv_at hl 0 rfl) ?_
  refine zz_ci (rest := []) G h (fun r μ1 hf => zz_runV X G rc_7 tl_100 cv_X7_sentNow kw_1096 (c_X7_sentNow l D ad cA  hf) ⟨rfl, rfl, Nat.le_of_ble_eq_true rfl, Nat.le_of_ble_eq_true rfl⟩ rfl rfl hl.1 (Nat.le_of_ble_eq_true rfl) dX7_sentOf_5) (fun x1 μ H locs G h => ?_)
  rw [hQ]
  exact zz_iret X G hr hlk dX7_sentOf_8 h
