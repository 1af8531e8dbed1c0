-- CONTRACTS, by program
set_option maxHeartbeats 4000000 in
set_option maxRecDepth 100000 in
theorem w_X7_readsParts_L48 {p : Program} {l : Launch} {e : Env} {s : State} {m : MethodId} {args : Array Value} {below : List Frame} {meth : Method} {c : Code} {Q : State → Prop} {D : va_G} {ad : Nat → Nat} {cA : Nat → ClassId} {r : Int32} {μ' : zM} (X : zX false D ad cA p s m args c cX7_readsParts "ButlerWeatherModel" 6) (hQ : Q = MQ below (zQi false D ad cA r μ') args s 0 0 (zA false ad)) (hr : meth.sig.returnType = (some .int)) (hlk : meth.locks = false) {v1 : Int32} {v2 : Int32} {kx : Int32 → zM → Option (Int32 × zM)} (HX : ∀ (w3 : Int32) (μ : zM) (H : Heap) (locs : List Loc) (ls : Array Slot), lv_has ls 6 [(0, .ref (ad 100)), (1, .int v1), (3, .int w3)] → zG false D ad cA s μ H locs → kx w3 μ = some (r, μ') → W p l e ({ frames := 2, cells := 0, slots := 0, locals := 48 } : Room) s m args below meth c H locs 0 0 Q (F0 m 119 ls [])) : ∀ (n : Nat) (v3 : Int32) (v4 : Int32) (μ : zM) (H : Heap) (locs : List Loc) (ls : Array Slot), lv_has ls 6 [(0, .ref (ad 100)), (1, .int v1), (2, .int v2), (3, .int v3), (4, .int v4)] → zG false D ad cA s μ H locs → f_X7_readsParts_L48 v1 v2 kx n v3 v4 μ = some (r, μ') → W p l e ({ frames := 2, cells := 0, slots := 0, locals := 48 } : Room) s m args below meth c H locs 0 0 Q (F0 m 48 ls []) := by
  obtain ⟨hx, hb, hml, hown, hts, -, -, -⟩ := id X
  intro n
  induction n with
  | zero =>
    intro v3 v4 μ H locs ls hl G h
    cases (show (none : Option (Int32 × zM)) = some (r, μ') from h)
  | succ n ih =>
    intro v3 v4 μ H locs ls hl G h
    rw [f_X7_readsParts_L48] at h
    refine lv_iload hx hb dX7_readsParts_48 (lv_at hl 4 rfl) ?_
    refine lv_aload_n hx hb dX7_readsParts_50 rfl (lv_at hl 0 rfl) ?_
    refine zz_getr X G fr_7_0 tl_100 rl_100_0 kw_782 dX7_readsParts_51 ?_
    refine lv_iload_n hx hb dX7_readsParts_54 rfl (lv_at hl 1 rfl) ?_
    refine zz_iald X G ia_30 tl_101 dX7_readsParts_55 h (fun x4 h => ?_)
    refine lv_icmp_lt (tgt := 64) hx hb dX7_readsParts_56 (by decide) (fun c5 => ?_) (fun c5 => ?_)
    · have h := (zz_br h).1 c5
      refine lv_iload_n hx hb dX7_readsParts_64 rfl (lv_at hl 1 rfl) ?_
      refine Exists.elim (zz_jn (P := fun (j : Int32 → zM → Option (Int32 × zM)) => ∀ (y6 : Int32) (μ : zM) (H : Heap) (locs : List Loc) (ls : Array Slot), lv_has ls 6 [(0, .ref (ad 100)), (1, .int v1), (2, .int v2), (3, .int v3), (4, .int v4)] → zG false D ad cA s μ H locs → j y6 μ = some (r, μ') → W p l e ({ frames := 2, cells := 0, slots := 0, locals := 48 } : Room) s m args below meth c H locs 0 0 Q (F0 m 85 ls [.int y6])) h ?_) (fun j85_4 hj => ?_)
      · intro y6 μ H locs ls hl G h
        refine lv_istore (lv' := [(5, .int y6), (0, .ref (ad 100)), (1, .int v1), (2, .int v2), (3, .int v3), (4, .int v4)]) hx hb dX7_readsParts_85 hl (by decide) rfl (fun ls hl => ?_)
        refine lv_iload hx hb dX7_readsParts_87 (lv_at hl 0 rfl) ?_
        refine lv_iload_n hx hb dX7_readsParts_89 rfl (lv_at hl 3 rfl) ?_
        refine lv_icmp_ge (tgt := 99) hx hb dX7_readsParts_90 (by decide) (fun c7 => ?_) (fun c7 => ?_)
        · have h := (zz_br h).1 c7
          obtain ⟨x8, ex8, h⟩ := zz_let h
          refine lv_iinc (v := x8) (lv' := [(3, .int x8), (5, .int y6), (0, .ref (ad 100)), (1, .int v1), (2, .int v2), (4, .int v4)]) hx hb dX7_readsParts_99 hl (k := 4) rfl (by rw [← ex8]; rfl) (by decide) rfl (fun ls hl => ?_)
          refine lv_iload hx hb dX7_readsParts_102 (lv_at hl 5 rfl) ?_
          refine lv_iload_n hx hb dX7_readsParts_104 rfl (lv_at hl 4 rfl) ?_
          refine lv_iadd hx hb dX7_readsParts_105 ?_
          refine zz_vi h (fun x9 h => ?_)
          refine lv_istore (lv' := [(4, .int x9), (3, .int x8), (5, .int y6), (0, .ref (ad 100)), (1, .int v1), (2, .int v2)]) hx hb dX7_readsParts_106 hl (by decide) rfl (fun ls hl => ?_)
          refine lv_iload hx hb dX7_readsParts_108 (lv_at hl 0 rfl) ?_
          refine lv_aload_n hx hb dX7_readsParts_110 rfl (lv_at hl 3 rfl) ?_
          refine zz_getr X G fr_7_0 tl_100 rl_100_0 kw_782 dX7_readsParts_111 ?_
          refine lv_iload_n hx hb dX7_readsParts_114 rfl (lv_at hl 4 rfl) ?_
          refine zz_iald X G ia_30 tl_101 dX7_readsParts_115 h (fun x10 h => ?_)
          refine lv_icmp_ne (tgt := 154) hx hb dX7_readsParts_116 (by decide) (fun c11 => ?_) (fun c11 => ?_)
          · have h := (zz_br h).1 c11
            refine lv_aload_n hx hb dX7_readsParts_154 rfl (lv_at hl 3 rfl) ?_
            refine lv_iload_n hx hb dX7_readsParts_155 rfl (lv_at hl 4 rfl) ?_
            refine lv_iload hx hb dX7_readsParts_156 (lv_at hl 0 rfl) ?_
            refine zz_ci (rest := []) G h (fun r μ1 hf => zz_runV X G rc_7 tl_100 cv_X7_byteAt kw_932 (c_X7_byteAt l D ad cA  hf) ⟨rfl, rfl, Nat.le_of_ble_eq_true rfl, Nat.le_of_ble_eq_true rfl⟩ rfl rfl hl.1 (Nat.le_of_ble_eq_true rfl) dX7_readsParts_158) (fun x12 μ H locs G h => ?_)
            refine lv_bipush (v := (59 : Int32)) hx hb dX7_readsParts_161 (by decide) ?_
            refine lv_icmp_eq (tgt := 169) hx hb dX7_readsParts_163 (by decide) (fun c13 => ?_) (fun c13 => ?_)
            · have h := (zz_br h).1 c13
              obtain ⟨x14, ex14, h⟩ := zz_let h
              refine lv_iinc (v := x14) (lv' := [(4, .int x14), (3, .int x8), (5, .int y6), (0, .ref (ad 100)), (1, .int v1), (2, .int v2)]) hx hb dX7_readsParts_169 hl (k := 0) rfl (by rw [← ex14]; rfl) (by decide) rfl (fun ls hl => ?_)
              refine lv_goto (tgt := 48) hx hb dX7_readsParts_172 (by decide) ?_
              exact ih x8 x14 μ _ _ _ (lv_sub hl [3, 4, 5, 1, 0] rfl) G h
            have h := (zz_br h).2 c13
            refine lv_iload hx hb dX7_readsParts_166 (lv_at hl 0 rfl) ?_
            rw [hQ]
            exact zz_iret X G hr hlk dX7_readsParts_168 h
          have h := (zz_br h).2 (fun q => q c11)
          exact HX x8 μ _ _ _ (lv_sub hl [3, 4, 1] rfl) G h
        have h := (zz_br h).2 c7
        refine lv_iload hx hb dX7_readsParts_93 (lv_at hl 5 rfl) ?_
        refine lv_iload hx hb dX7_readsParts_95 (lv_at hl 0 rfl) ?_
        refine lv_iadd hx hb dX7_readsParts_97 ?_
        rw [hQ]
        exact zz_iret X G hr hlk dX7_readsParts_98 h
      obtain ⟨hj85_4, h⟩ := hj
      refine lv_if_ne (tgt := 78) hx hb dX7_readsParts_65 (by decide) (fun c15 => ?_) (fun c15 => ?_)
      · have h := (zz_br h).1 c15
        refine lv_aload_n hx hb dX7_readsParts_78 rfl (lv_at hl 0 rfl) ?_
        refine lv_iload_n hx hb dX7_readsParts_79 rfl (lv_at hl 3 rfl) ?_
        refine lv_iload hx hb dX7_readsParts_80 (lv_at hl 4 rfl) ?_
        refine zz_ci (rest := []) G h (fun r μ1 hf => zz_runV X G rc_7 tl_100 cv_X7_readsMan kw_939 (c_X7_readsMan l D ad cA  hf) ⟨rfl, rfl, Nat.le_of_ble_eq_true rfl, Nat.le_of_ble_eq_true rfl⟩ rfl rfl hl.1 (Nat.le_of_ble_eq_true rfl) dX7_readsParts_82) (fun x16 μ H locs G h => ?_)
        exact hj85_4 x16 μ _ _ _ (lv_sub hl [0, 1, 2, 3, 4] rfl) G h
      have h := (zz_br h).2 (fun q => q c15)
      refine lv_aload_n hx hb dX7_readsParts_68 rfl (lv_at hl 0 rfl) ?_
      refine lv_iload_n hx hb dX7_readsParts_69 rfl (lv_at hl 3 rfl) ?_
      refine lv_iload hx hb dX7_readsParts_70 (lv_at hl 4 rfl) ?_
      refine zz_ci (rest := []) G h (fun r μ1 hf => zz_runV X G rc_7 tl_100 cv_X7_readsCaller kw_928 (c_X7_readsCaller l D ad cA  hf) ⟨rfl, rfl, Nat.le_of_ble_eq_true rfl, Nat.le_of_ble_eq_true rfl⟩ rfl rfl hl.1 (Nat.le_of_ble_eq_true rfl) dX7_readsParts_72) (fun x17 μ H locs G h => ?_)
      refine lv_goto (tgt := 85) hx hb dX7_readsParts_75 (by decide) ?_
      exact hj85_4 x17 μ _ _ _ (lv_sub hl [0, 1, 2, 3, 4] rfl) G h
    have h := (zz_br h).2 c5
    refine lv_iload hx hb dX7_readsParts_59 (lv_at hl 4 rfl) ?_
    refine lv_if_le (tgt := 175) hx hb dX7_readsParts_61 (by decide) (fun c18 => ?_) (fun c18 => ?_)
    · have h := (zz_br h).1 c18
      refine lv_iconst (v := (-1 : Int32)) hx hb dX7_readsParts_175 (by decide) ?_
      rw [hQ]
      exact zz_iret X G hr hlk dX7_readsParts_176 h
    have h := (zz_br h).2 c18
    refine lv_iload_n hx hb dX7_readsParts_64 rfl (lv_at hl 1 rfl) ?_
    refine Exists.elim (zz_jn (P := fun (j : Int32 → zM → Option (Int32 × zM)) => ∀ (y19 : Int32) (μ : zM) (H : Heap) (locs : List Loc) (ls : Array Slot), lv_has ls 6 [(0, .ref (ad 100)), (1, .int v1), (2, .int v2), (3, .int v3), (4, .int v4)] → zG false D ad cA s μ H locs → j y19 μ = some (r, μ') → W p l e ({ frames := 2, cells := 0, slots := 0, locals := 48 } : Room) s m args below meth c H locs 0 0 Q (F0 m 85 ls [.int y19])) h ?_) (fun j85_5 hj => ?_)
    · intro y19 μ H locs ls hl G h
      refine lv_istore (lv' := [(5, .int y19), (0, .ref (ad 100)), (1, .int v1), (2, .int v2), (3, .int v3), (4, .int v4)]) hx hb dX7_readsParts_85 hl (by decide) rfl (fun ls hl => ?_)
      refine lv_iload hx hb dX7_readsParts_87 (lv_at hl 0 rfl) ?_
      refine lv_iload_n hx hb dX7_readsParts_89 rfl (lv_at hl 3 rfl) ?_
      refine lv_icmp_ge (tgt := 99) hx hb dX7_readsParts_90 (by decide) (fun c20 => ?_) (fun c20 => ?_)
      · have h := (zz_br h).1 c20
        obtain ⟨x21, ex21, h⟩ := zz_let h
        refine lv_iinc (v := x21) (lv' := [(3, .int x21), (5, .int y19), (0, .ref (ad 100)), (1, .int v1), (2, .int v2), (4, .int v4)]) hx hb dX7_readsParts_99 hl (k := 4) rfl (by rw [← ex21]; rfl) (by decide) rfl (fun ls hl => ?_)
        refine lv_iload hx hb dX7_readsParts_102 (lv_at hl 5 rfl) ?_
        refine lv_iload_n hx hb dX7_readsParts_104 rfl (lv_at hl 4 rfl) ?_
        refine lv_iadd hx hb dX7_readsParts_105 ?_
        refine zz_vi h (fun x22 h => ?_)
        refine lv_istore (lv' := [(4, .int x22), (3, .int x21), (5, .int y19), (0, .ref (ad 100)), (1, .int v1), (2, .int v2)]) hx hb dX7_readsParts_106 hl (by decide) rfl (fun ls hl => ?_)
        refine lv_iload hx hb dX7_readsParts_108 (lv_at hl 0 rfl) ?_
        refine lv_aload_n hx hb dX7_readsParts_110 rfl (lv_at hl 3 rfl) ?_
        refine zz_getr X G fr_7_0 tl_100 rl_100_0 kw_782 dX7_readsParts_111 ?_
        refine lv_iload_n hx hb dX7_readsParts_114 rfl (lv_at hl 4 rfl) ?_
        refine zz_iald X G ia_30 tl_101 dX7_readsParts_115 h (fun x23 h => ?_)
        refine lv_icmp_ne (tgt := 154) hx hb dX7_readsParts_116 (by decide) (fun c24 => ?_) (fun c24 => ?_)
        · have h := (zz_br h).1 c24
          refine lv_aload_n hx hb dX7_readsParts_154 rfl (lv_at hl 3 rfl) ?_
          refine lv_iload_n hx hb dX7_readsParts_155 rfl (lv_at hl 4 rfl) ?_
          refine lv_iload hx hb dX7_readsParts_156 (lv_at hl 0 rfl) ?_
          refine zz_ci (rest := []) G h (fun r μ1 hf => zz_runV X G rc_7 tl_100 cv_X7_byteAt kw_932 (c_X7_byteAt l D ad cA  hf) ⟨rfl, rfl, Nat.le_of_ble_eq_true rfl, Nat.le_of_ble_eq_true rfl⟩ rfl rfl hl.1 (Nat.le_of_ble_eq_true rfl) dX7_readsParts_158) (fun x25 μ H locs G h => ?_)
          refine lv_bipush (v := (59 : Int32)) hx hb dX7_readsParts_161 (by decide) ?_
          refine lv_icmp_eq (tgt := 169) hx hb dX7_readsParts_163 (by decide) (fun c26 => ?_) (fun c26 => ?_)
          · have h := (zz_br h).1 c26
            obtain ⟨x27, ex27, h⟩ := zz_let h
            refine lv_iinc (v := x27) (lv' := [(4, .int x27), (3, .int x21), (5, .int y19), (0, .ref (ad 100)), (1, .int v1), (2, .int v2)]) hx hb dX7_readsParts_169 hl (k := 0) rfl (by rw [← ex27]; rfl) (by decide) rfl (fun ls hl => ?_)
            refine lv_goto (tgt := 48) hx hb dX7_readsParts_172 (by decide) ?_
            exact ih x21 x27 μ _ _ _ (lv_sub hl [3, 4, 5, 1, 0] rfl) G h
          have h := (zz_br h).2 c26
          refine lv_iload hx hb dX7_readsParts_166 (lv_at hl 0 rfl) ?_
          rw [hQ]
          exact zz_iret X G hr hlk dX7_readsParts_168 h
        have h := (zz_br h).2 (fun q => q c24)
        exact HX x21 μ _ _ _ (lv_sub hl [3, 4, 1] rfl) G h
      have h := (zz_br h).2 c20
      refine lv_iload hx hb dX7_readsParts_93 (lv_at hl 5 rfl) ?_
      refine lv_iload hx hb dX7_readsParts_95 (lv_at hl 0 rfl) ?_
      refine lv_iadd hx hb dX7_readsParts_97 ?_
      rw [hQ]
      exact zz_iret X G hr hlk dX7_readsParts_98 h
    obtain ⟨hj85_5, h⟩ := hj
    refine lv_if_ne (tgt := 78) hx hb dX7_readsParts_65 (by decide) (fun c28 => ?_) (fun c28 => ?_)
    · have h := (zz_br h).1 c28
      refine lv_aload_n hx hb dX7_readsParts_78 rfl (lv_at hl 0 rfl) ?_
      refine lv_iload_n hx hb dX7_readsParts_79 rfl (lv_at hl 3 rfl) ?_
      refine lv_iload hx hb dX7_readsParts_80 (lv_at hl 4 rfl) ?_
      refine zz_ci (rest := []) G h (fun r μ1 hf => zz_runV X G rc_7 tl_100 cv_X7_readsMan kw_939 (c_X7_readsMan l D ad cA  hf) ⟨rfl, rfl, Nat.le_of_ble_eq_true rfl, Nat.le_of_ble_eq_true rfl⟩ rfl rfl hl.1 (Nat.le_of_ble_eq_true rfl) dX7_readsParts_82) (fun x29 μ H locs G h => ?_)
      exact hj85_5 x29 μ _ _ _ (lv_sub hl [0, 1, 2, 3, 4] rfl) G h
    have h := (zz_br h).2 (fun q => q c28)
    refine lv_aload_n hx hb dX7_readsParts_68 rfl (lv_at hl 0 rfl) ?_
    refine lv_iload_n hx hb dX7_readsParts_69 rfl (lv_at hl 3 rfl) ?_
    refine lv_iload hx hb dX7_readsParts_70 (lv_at hl 4 rfl) ?_
    refine zz_ci (rest := []) G h (fun r μ1 hf => zz_runV X G rc_7 tl_100 cv_X7_readsCaller kw_928 (c_X7_readsCaller l D ad cA  hf) ⟨rfl, rfl, Nat.le_of_ble_eq_true rfl, Nat.le_of_ble_eq_true rfl⟩ rfl rfl hl.1 (Nat.le_of_ble_eq_true rfl) dX7_readsParts_72) (fun x30 μ H locs G h => ?_)
    refine lv_goto (tgt := 85) hx hb dX7_readsParts_75 (by decide) ?_
    exact hj85_5 x30 μ _ _ _ (lv_sub hl [0, 1, 2, 3, 4] rfl) G h
set_option maxHeartbeats 4000000 in
set_option maxRecDepth 100000 in
theorem c_X7_readsParts (l : Launch) (D : va_G) (ad : Nat → Nat) (cA : Nat → ClassId) {a1 : Int32} {μ : zM} {r : Int32} {μ' : zM} (h : f_X7_readsParts a1 μ = some (r, μ')) : zMet false D ad cA l yX7_readsParts cX7_readsParts 6 (some .int) ({ frames := 2, cells := 0, slots := 0, locals := 48 } : Room) [.ref (ad 100), .int a1] μ (zQi false D ad cA r μ') := by
  refine zMet_of "ButlerWeatherModel" ⟨by decide, rfl⟩ (Nat.le_of_ble_eq_true rfl) ?_
  intro p e s m args below meth c X G hr hlk ls hl
  have hl : lv_has ls 6 [(0, .ref (ad 100)), (1, .int a1)] := hl
  obtain ⟨hx, hb, hml, hown, hts, -, -, -⟩ := id X
  obtain ⟨Q, hQ⟩ : ∃ Q, Q = MQ below (zQi false D ad cA r μ') args s 0 0 (zA false ad) := ⟨_, rfl⟩
  rw [← hQ]
  unfold f_X7_readsParts at h
  refine lv_iload_n hx hb dX7_readsParts_0 rfl (lv_at hl 1 rfl) ?_
  refine Exists.elim (zz_jn (P := fun (j : Int32 → zM → Option (Int32 × zM)) => ∀ (y1 : Int32) (μ : zM) (H : Heap) (locs : List Loc) (ls : Array Slot), lv_has ls 6 [(0, .ref (ad 100)), (1, .int a1)] → zG false D ad cA s μ H locs → j y1 μ = some (r, μ') → W p l e ({ frames := 2, cells := 0, slots := 0, locals := 48 } : Room) s m args below meth c H locs 0 0 Q (F0 m 9 ls [.int y1])) h ?_) (fun j9_1 hj => ?_)
  · intro y1 μ H locs ls hl G h
    refine lv_istore_n (lv' := [(2, .int y1), (0, .ref (ad 100)), (1, .int a1)]) hx hb dX7_readsParts_9 rfl hl (by decide) rfl (fun ls hl => ?_)
    refine lv_iconst (v := (0 : Int32)) hx hb dX7_readsParts_10 (by decide) ?_
    refine lv_istore_n (lv' := [(3, .int (0 : Int32)), (2, .int y1), (0, .ref (ad 100)), (1, .int a1)]) hx hb dX7_readsParts_11 rfl hl (by decide) rfl (fun ls hl => ?_)
    refine lv_iconst (v := (0 : Int32)) hx hb dX7_readsParts_12 (by decide) ?_
    refine lv_istore (lv' := [(4, .int (0 : Int32)), (3, .int (0 : Int32)), (2, .int y1), (0, .ref (ad 100)), (1, .int a1)]) hx hb dX7_readsParts_13 hl (by decide) rfl (fun ls hl => ?_)
    refine lv_aload_n hx hb dX7_readsParts_15 rfl (lv_at hl 3 rfl) ?_
    refine lv_iload_n hx hb dX7_readsParts_16 rfl (lv_at hl 4 rfl) ?_
    refine Exists.elim (zz_jn (P := fun (j : Int32 → zM → Option (Int32 × zM)) => ∀ (y2 : Int32) (μ : zM) (H : Heap) (locs : List Loc) (ls : Array Slot), lv_has ls 6 [(0, .ref (ad 100)), (1, .int a1), (2, .int y1), (3, .int (0 : Int32)), (4, .int (0 : Int32))] → zG false D ad cA s μ H locs → j y2 μ = some (r, μ') → W p l e ({ frames := 2, cells := 0, slots := 0, locals := 48 } : Room) s m args below meth c H locs 0 0 Q (F0 m 28 ls [.int y2, .ref (ad 100)])) h ?_) (fun j28_2 hj => ?_)
    · intro y2 μ H locs ls hl G h
      refine zz_puti X G fp_7_2 tl_100 kw_784 rfl rfl dX7_readsParts_28 h (fun μ H locs G h => ?_)
      refine lv_aload_n hx hb dX7_readsParts_31 rfl (lv_at hl 0 rfl) ?_
      refine lv_iload_n hx hb dX7_readsParts_32 rfl (lv_at hl 1 rfl) ?_
      refine lv_iconst (v := (1 : Int32)) hx hb dX7_readsParts_33 (by decide) ?_
      refine Exists.elim (zz_jn (P := fun (j : Int32 → zM → Option (Int32 × zM)) => ∀ (y3 : Int32) (μ : zM) (H : Heap) (locs : List Loc) (ls : Array Slot), lv_has ls 6 [(0, .ref (ad 100)), (1, .int a1), (2, .int y1), (3, .int (0 : Int32)), (4, .int (0 : Int32))] → zG false D ad cA s μ H locs → j y3 μ = some (r, μ') → W p l e ({ frames := 2, cells := 0, slots := 0, locals := 48 } : Room) s m args below meth c H locs 0 0 Q (F0 m 45 ls [.int y3, .ref (ad 100)])) h ?_) (fun j45_3 hj => ?_)
      · intro y3 μ H locs ls hl G h
        refine zz_puti X G fp_7_7 tl_100 kw_789 rfl rfl dX7_readsParts_45 h (fun μ H locs G h => ?_)
        refine w_X7_readsParts_L48 X hQ hr hlk  (fun x31 μ H locs ls hl G h => ?_) 400 (0 : Int32) (0 : Int32) μ _ _ _ (lv_sub hl [0, 1, 2, 3, 4] rfl) G h
        refine lv_aload_n hx hb dX7_readsParts_119 rfl (lv_at hl 0 rfl) ?_
        refine lv_iload_n hx hb dX7_readsParts_120 rfl (lv_at hl 1 rfl) ?_
        refine Exists.elim (zz_jn (P := fun (j : Int32 → zM → Option (Int32 × zM)) => ∀ (y32 : Int32) (μ : zM) (H : Heap) (locs : List Loc) (ls : Array Slot), lv_has ls 6 [(0, .ref (ad 100)), (1, .int a1), (3, .int x31)] → zG false D ad cA s μ H locs → j y32 μ = some (r, μ') → W p l e ({ frames := 2, cells := 0, slots := 0, locals := 48 } : Room) s m args below meth c H locs 0 0 Q (F0 m 132 ls [.int y32, .ref (ad 100)])) h ?_) (fun j132_6 hj => ?_)
        · intro y32 μ H locs ls hl G h
          refine zz_puti X G fp_7_2 tl_100 kw_784 rfl rfl dX7_readsParts_132 h (fun μ H locs G h => ?_)
          refine lv_aload_n hx hb dX7_readsParts_135 rfl (lv_at hl 0 rfl) ?_
          refine lv_iload_n hx hb dX7_readsParts_136 rfl (lv_at hl 1 rfl) ?_
          refine lv_iconst (v := (1 : Int32)) hx hb dX7_readsParts_137 (by decide) ?_
          refine lv_icmp_ne (tgt := 145) hx hb dX7_readsParts_138 (by decide) (fun c33 => ?_) (fun c33 => ?_)
          · have h := (zz_br h).1 c33
            refine lv_aload_n hx hb dX7_readsParts_145 rfl (lv_at hl 0 rfl) ?_
            refine zz_geti X G fi_7_7 tl_100 kw_789 dX7_readsParts_146 h (fun x34 h => ?_)
            refine zz_puti X G fp_7_7 tl_100 kw_789 rfl rfl dX7_readsParts_149 h (fun μ H locs G h => ?_)
            refine lv_iconst (v := (-1 : Int32)) hx hb dX7_readsParts_152 (by decide) ?_
            rw [hQ]
            exact zz_iret X G hr hlk dX7_readsParts_153 h
          have h := (zz_br h).2 (fun q => q c33)
          refine lv_iload_n hx hb dX7_readsParts_141 rfl (lv_at hl 2 rfl) ?_
          refine lv_goto (tgt := 149) hx hb dX7_readsParts_142 (by decide) ?_
          refine zz_puti X G fp_7_7 tl_100 kw_789 rfl rfl dX7_readsParts_149 h (fun μ H locs G h => ?_)
          refine lv_iconst (v := (-1 : Int32)) hx hb dX7_readsParts_152 (by decide) ?_
          rw [hQ]
          exact zz_iret X G hr hlk dX7_readsParts_153 h
        obtain ⟨hj132_6, h⟩ := hj
        refine lv_if_ne (tgt := 128) hx hb dX7_readsParts_121 (by decide) (fun c35 => ?_) (fun c35 => ?_)
        · have h := (zz_br h).1 c35
          refine lv_aload_n hx hb dX7_readsParts_128 rfl (lv_at hl 0 rfl) ?_
          refine zz_geti X G fi_7_2 tl_100 kw_784 dX7_readsParts_129 h (fun x36 h => ?_)
          exact hj132_6 x36 μ _ _ _ (lv_sub hl [0, 1, 2] rfl) G h
        have h := (zz_br h).2 (fun q => q c35)
        refine lv_iload_n hx hb dX7_readsParts_124 rfl (lv_at hl 2 rfl) ?_
        refine lv_goto (tgt := 132) hx hb dX7_readsParts_125 (by decide) ?_
        exact hj132_6 x31 μ _ _ _ (lv_sub hl [0, 1, 2] rfl) G h
      obtain ⟨hj45_3, h⟩ := hj
      refine lv_icmp_ne (tgt := 41) hx hb dX7_readsParts_34 (by decide) (fun c37 => ?_) (fun c37 => ?_)
      · have h := (zz_br h).1 c37
        refine lv_aload_n hx hb dX7_readsParts_41 rfl (lv_at hl 0 rfl) ?_
        refine zz_geti X G fi_7_7 tl_100 kw_789 dX7_readsParts_42 h (fun x38 h => ?_)
        exact hj45_3 x38 μ _ _ _ (lv_sub hl [0, 1, 2, 3, 4] rfl) G h
      have h := (zz_br h).2 (fun q => q c37)
      refine lv_iconst (v := (0 : Int32)) hx hb dX7_readsParts_37 (by decide) ?_
      refine lv_goto (tgt := 45) hx hb dX7_readsParts_38 (by decide) ?_
      exact hj45_3 (0 : Int32) μ _ _ _ (lv_sub hl [0, 1, 2, 3, 4] rfl) G h
    obtain ⟨hj28_2, h⟩ := hj
    refine lv_if_ne (tgt := 24) hx hb dX7_readsParts_17 (by decide) (fun c39 => ?_) (fun c39 => ?_)
    · have h := (zz_br h).1 c39
      refine lv_aload_n hx hb dX7_readsParts_24 rfl (lv_at hl 3 rfl) ?_
      refine zz_geti X G fi_7_2 tl_100 kw_784 dX7_readsParts_25 h (fun x40 h => ?_)
      exact hj28_2 x40 μ _ _ _ (lv_sub hl [3, 4, 2, 1, 0] rfl) G h
    have h := (zz_br h).2 (fun q => q c39)
    refine lv_iconst (v := (0 : Int32)) hx hb dX7_readsParts_20 (by decide) ?_
    refine lv_goto (tgt := 28) hx hb dX7_readsParts_21 (by decide) ?_
    exact hj28_2 (0 : Int32) μ _ _ _ (lv_sub hl [3, 4, 2, 1, 0] rfl) G h
  obtain ⟨hj9_1, h⟩ := hj
  refine lv_if_ne (tgt := 8) hx hb dX7_readsParts_1 (by decide) (fun c41 => ?_) (fun c41 => ?_)
  · have h := (zz_br h).1 c41
    refine lv_iconst (v := (3 : Int32)) hx hb dX7_readsParts_8 (by decide) ?_
    exact hj9_1 (3 : Int32) μ _ _ _ (lv_sub hl [0, 1] rfl) G h
  have h := (zz_br h).2 (fun q => q c41)
  refine lv_iconst (v := (4 : Int32)) hx hb dX7_readsParts_4 (by decide) ?_
  refine lv_goto (tgt := 9) hx hb dX7_readsParts_5 (by decide) ?_
  exact hj9_1 (4 : Int32) μ _ _ _ (lv_sub hl [0, 1] rfl) G h
set_option maxHeartbeats 4000000 in
set_option maxRecDepth 100000 in
theorem c_X7_faultOf (l : Launch) (D : va_G) (ad : Nat → Nat) (cA : Nat → ClassId) {a1 : Int32} {μ : zM} {r : Int32} {μ' : zM} (h : f_X7_faultOf a1 μ = some (r, μ')) : zMet false D ad cA l yX7_faultOf cX7_faultOf 4 (some .int) ({ frames := 3, cells := 0, slots := 0, locals := 73 } : Room) [.ref (ad 100), .int a1] μ (zQi false D ad cA r μ') := by
  refine zMet_of "ButlerWeatherModel" ⟨by decide, rfl⟩ (Nat.le_of_ble_eq_true rfl) ?_
  intro p e s m args below meth c X G hr hlk ls hl
  have hl : lv_has ls 4 [(0, .ref (ad 100)), (1, .int a1)] := hl
  obtain ⟨hx, hb, hml, hown, hts, -, -, -⟩ := id X
  obtain ⟨Q, hQ⟩ : ∃ Q, Q = MQ below (zQi false D ad cA r μ') args s 0 0 (zA false ad) := ⟨_, rfl⟩
  rw [← hQ]
  unfold f_X7_faultOf at h
  refine lv_aload_n hx hb dX7_faultOf_0 rfl (lv_at hl 0 rfl) ?_
  refine lv_iconst (v := (0 : Int32)) hx hb dX7_faultOf_1 (by decide) ?_
  refine zz_ci (rest := []) G h (fun r μ1 hf => zz_runV X G rc_7 tl_100 cv_X7_readsParts kw_924 (c_X7_readsParts l D ad cA  hf) ⟨rfl, rfl, Nat.le_of_ble_eq_true rfl, Nat.le_of_ble_eq_true rfl⟩ rfl rfl hl.1 (Nat.le_of_ble_eq_true rfl) dX7_faultOf_2) (fun x1 μ H locs G h => ?_)
  refine lv_istore_n (lv' := [(2, .int x1), (0, .ref (ad 100)), (1, .int a1)]) hx hb dX7_faultOf_5 rfl hl (by decide) rfl (fun ls hl => ?_)
  refine lv_aload_n hx hb dX7_faultOf_6 rfl (lv_at hl 1 rfl) ?_
  refine lv_iconst (v := (1 : Int32)) hx hb dX7_faultOf_7 (by decide) ?_
  refine zz_ci (rest := []) G h (fun r μ1 hf => zz_runV X G rc_7 tl_100 cv_X7_readsParts kw_924 (c_X7_readsParts l D ad cA  hf) ⟨rfl, rfl, Nat.le_of_ble_eq_true rfl, Nat.le_of_ble_eq_true rfl⟩ rfl rfl hl.1 (Nat.le_of_ble_eq_true rfl) dX7_faultOf_8) (fun x2 μ H locs G h => ?_)
  refine lv_istore_n (lv' := [(3, .int x2), (2, .int x1), (0, .ref (ad 100)), (1, .int a1)]) hx hb dX7_faultOf_11 rfl hl (by decide) rfl (fun ls hl => ?_)
  refine lv_iload_n hx hb dX7_faultOf_12 rfl (lv_at hl 3 rfl) ?_
  refine lv_if_ne (tgt := 20) hx hb dX7_faultOf_13 (by decide) (fun c3 => ?_) (fun c3 => ?_)
  · have h := (zz_br h).1 c3
    refine lv_iload_n hx hb dX7_faultOf_20 rfl (lv_at hl 0 rfl) ?_
    rw [hQ]
    exact zz_iret X G hr hlk dX7_faultOf_21 h
  have h := (zz_br h).2 (fun q => q c3)
  refine lv_iload_n hx hb dX7_faultOf_16 rfl (lv_at hl 1 rfl) ?_
  refine lv_goto (tgt := 21) hx hb dX7_faultOf_17 (by decide) ?_
  rw [hQ]
  exact zz_iret X G hr hlk dX7_faultOf_21 h
set_option maxHeartbeats 4000000 in
set_option maxRecDepth 100000 in
theorem c_X7_reads (l : Launch) (D : va_G) (ad : Nat → Nat) (cA : Nat → ClassId)  {μ : zM} {r : Unit} {μ' : zM} (h : f_X7_reads μ = some (r, μ')) : zMet false D ad cA l yX7_reads cX7_reads 2 none ({ frames := 4, cells := 0, slots := 0, locals := 96 } : Room) [.ref (ad 100)] μ (zQv false D ad cA r μ') := by
  refine zMet_of "ButlerWeatherModel" ⟨by decide, rfl⟩ (Nat.le_of_ble_eq_true rfl) ?_
  intro p e s m args below meth c X G hr hlk ls hl
  have hl : lv_has ls 2 [(0, .ref (ad 100))] := hl
  obtain ⟨hx, hb, hml, hown, hts, -, -, -⟩ := id X
  obtain ⟨Q, hQ⟩ : ∃ Q, Q = MQ below (zQv false D ad cA r μ') args s 0 0 (zA false ad) := ⟨_, rfl⟩
  rw [← hQ]
  unfold f_X7_reads at h
  refine lv_aload_n hx hb dX7_reads_0 rfl (lv_at hl 0 rfl) ?_
  refine lv_iconst (v := (0 : Int32)) hx hb dX7_reads_1 (by decide) ?_
  refine zz_ci (rest := []) G h (fun r μ1 hf => zz_runV X G rc_7 tl_100 cv_X7_faultOf kw_920 (c_X7_faultOf l D ad cA  hf) ⟨rfl, rfl, Nat.le_of_ble_eq_true rfl, Nat.le_of_ble_eq_true rfl⟩ rfl rfl hl.1 (Nat.le_of_ble_eq_true rfl) dX7_reads_2) (fun x1 μ H locs G h => ?_)
  refine lv_istore_n (lv' := [(1, .int x1), (0, .ref (ad 100))]) hx hb dX7_reads_5 rfl hl (by decide) rfl (fun ls hl => ?_)
  rw [hQ]
  exact zz_vret X G hr hlk dX7_reads_6 h
set_option maxHeartbeats 4000000 in
set_option maxRecDepth 100000 in
theorem c_X7_fault (l : Launch) (D : va_G) (ad : Nat → Nat) (cA : Nat → ClassId) {a1 : Int32} {μ : zM} {r : Int32} {μ' : zM} (h : f_X7_fault a1 μ = some (r, μ')) : zMet false D ad cA l yX7_fault cX7_fault 2 (some .int) ({ frames := 4, cells := 0, slots := 0, locals := 96 } : Room) [.ref (ad 100), .int a1] μ (zQi false D ad cA r μ') := by
  refine zMet_of "ButlerWeatherModel" ⟨by decide, rfl⟩ (Nat.le_of_ble_eq_true rfl) ?_
  intro p e s m args below meth c X G hr hlk ls hl
  have hl : lv_has ls 2 [(0, .ref (ad 100)), (1, .int a1)] := hl
  obtain ⟨hx, hb, hml, hown, hts, -, -, -⟩ := id X
  obtain ⟨Q, hQ⟩ : ∃ Q, Q = MQ below (zQi false D ad cA r μ') args s 0 0 (zA false ad) := ⟨_, rfl⟩
  rw [← hQ]
  unfold f_X7_fault at h
  refine lv_iload_n hx hb dX7_fault_0 rfl (lv_at hl 1 rfl) ?_
  refine zz_ci (rest := []) G h (fun r μ1 hf => zz_runS X G cs_X7_isText kw_902 (c_X7_isText l D ad cA  hf) ⟨rfl, rfl, Nat.le_of_ble_eq_true rfl, Nat.le_of_ble_eq_true rfl⟩ rfl rfl hl.1 (Nat.le_of_ble_eq_true rfl) dX7_fault_1) (fun x1 μ H locs G h => ?_)
  refine lv_if_eq (tgt := 15) hx hb dX7_fault_4 (by decide) (fun c2 => ?_) (fun c2 => ?_)
  · have h := (zz_br h).1 c2
    refine lv_bipush (v := (-2 : Int32)) hx hb dX7_fault_15 (by decide) ?_
    rw [hQ]
    exact zz_iret X G hr hlk dX7_fault_17 h
  have h := (zz_br h).2 c2
  refine lv_aload_n hx hb dX7_fault_7 rfl (lv_at hl 0 rfl) ?_
  refine lv_iload_n hx hb dX7_fault_8 rfl (lv_at hl 1 rfl) ?_
  refine zz_ci (rest := []) G h (fun r μ1 hf => zz_runV X G rc_7 tl_100 cv_X7_faultOf kw_920 (c_X7_faultOf l D ad cA  hf) ⟨rfl, rfl, Nat.le_of_ble_eq_true rfl, Nat.le_of_ble_eq_true rfl⟩ rfl rfl hl.1 (Nat.le_of_ble_eq_true rfl) dX7_fault_9) (fun x3 μ H locs G h => ?_)
  refine lv_goto (tgt := 17) hx hb dX7_fault_12 (by decide) ?_
  rw [hQ]
  exact zz_iret X G hr hlk dX7_fault_17 h
set_option maxHeartbeats 4000000 in
set_option maxRecDepth 100000 in
theorem c_X7_isCaller (l : Launch) (D : va_G) (ad : Nat → Nat) (cA : Nat → ClassId) {a1 : Int32} {μ : zM} {r : Int32} {μ' : zM} (h : f_X7_isCaller a1 μ = some (r, μ')) : zMet false D ad cA l yX7_isCaller cX7_isCaller 2 (some .boolean) ({ frames := 5, cells := 0, slots := 0, locals := 117 } : Room) [.ref (ad 100), .int a1] μ (zQi false D ad cA r μ') := by
  refine zMet_of "ButlerWeatherModel" ⟨by decide, rfl⟩ (Nat.le_of_ble_eq_true rfl) ?_
  intro p e s m args below meth c X G hr hlk ls hl
  have hl : lv_has ls 2 [(0, .ref (ad 100)), (1, .int a1)] := hl
  obtain ⟨hx, hb, hml, hown, hts, -, -, -⟩ := id X
  obtain ⟨Q, hQ⟩ : ∃ Q, Q = MQ below (zQi false D ad cA r μ') args s 0 0 (zA false ad) := ⟨_, rfl⟩
  rw [← hQ]
  unfold f_X7_isCaller at h
  refine lv_aload_n hx hb dX7_isCaller_0 rfl (lv_at hl 0 rfl) ?_
  refine zz_cv (rest := []) G h (fun r μ1 hf => zz_runV X G rc_7 tl_100 cv_X7_reads kw_951 (c_X7_reads l D ad cA  hf) ⟨rfl, rfl, Nat.le_of_ble_eq_true rfl, Nat.le_of_ble_eq_true rfl⟩ rfl rfl hl.1 (Nat.le_of_ble_eq_true rfl) dX7_isCaller_1) (fun _ μ H locs G h => ?_)
  refine lv_iload_n hx hb dX7_isCaller_4 rfl (lv_at hl 1 rfl) ?_
  refine lv_iconst (v := (0 : Int32)) hx hb dX7_isCaller_5 (by decide) ?_
  refine lv_aload_n hx hb dX7_isCaller_6 rfl (lv_at hl 0 rfl) ?_
  refine zz_geti X G fi_7_2 tl_100 kw_784 dX7_isCaller_7 h (fun x1 h => ?_)
  refine lv_iconst (v := (1 : Int32)) hx hb dX7_isCaller_10 (by decide) ?_
  refine lv_isub hx hb dX7_isCaller_11 ?_
  refine zz_ci (rest := []) G h (fun r μ1 hf => zz_runS X G cs_X7_in kw_905 (c_X7_in l D ad cA  hf) ⟨rfl, rfl, Nat.le_of_ble_eq_true rfl, Nat.le_of_ble_eq_true rfl⟩ rfl rfl hl.1 (Nat.le_of_ble_eq_true rfl) dX7_isCaller_12) (fun x2 μ H locs G h => ?_)
  rw [hQ]
  exact zz_zret X G hr hlk dX7_isCaller_15 h
set_option maxHeartbeats 4000000 in
set_option maxRecDepth 100000 in
theorem c_X7_isMan (l : Launch) (D : va_G) (ad : Nat → Nat) (cA : Nat → ClassId) {a1 : Int32} {μ : zM} {r : Int32} {μ' : zM} (h : f_X7_isMan a1 μ = some (r, μ')) : zMet false D ad cA l yX7_isMan cX7_isMan 2 (some .boolean) ({ frames := 5, cells := 0, slots := 0, locals := 117 } : Room) [.ref (ad 100), .int a1] μ (zQi false D ad cA r μ') := by
  refine zMet_of "ButlerWeatherModel" ⟨by decide, rfl⟩ (Nat.le_of_ble_eq_true rfl) ?_
  intro p e s m args below meth c X G hr hlk ls hl
  have hl : lv_has ls 2 [(0, .ref (ad 100)), (1, .int a1)] := hl
  obtain ⟨hx, hb, hml, hown, hts, -, -, -⟩ := id X
  obtain ⟨Q, hQ⟩ : ∃ Q, Q = MQ below (zQi false D ad cA r μ') args s 0 0 (zA false ad) := ⟨_, rfl⟩
  rw [← hQ]
  unfold f_X7_isMan at h
  refine lv_aload_n hx hb dX7_isMan_0 rfl (lv_at hl 0 rfl) ?_
  refine zz_cv (rest := []) G h (fun r μ1 hf => zz_runV X G rc_7 tl_100 cv_X7_reads kw_951 (c_X7_reads l D ad cA  hf) ⟨rfl, rfl, Nat.le_of_ble_eq_true rfl, Nat.le_of_ble_eq_true rfl⟩ rfl rfl hl.1 (Nat.le_of_ble_eq_true rfl) dX7_isMan_1) (fun _ μ H locs G h => ?_)
  refine lv_iload_n hx hb dX7_isMan_4 rfl (lv_at hl 1 rfl) ?_
  refine lv_iconst (v := (0 : Int32)) hx hb dX7_isMan_5 (by decide) ?_
  refine lv_aload_n hx hb dX7_isMan_6 rfl (lv_at hl 0 rfl) ?_
  refine zz_geti X G fi_7_7 tl_100 kw_789 dX7_isMan_7 h (fun x1 h => ?_)
  refine lv_iconst (v := (1 : Int32)) hx hb dX7_isMan_10 (by decide) ?_
  refine lv_isub hx hb dX7_isMan_11 ?_
  refine zz_ci (rest := []) G h (fun r μ1 hf => zz_runS X G cs_X7_in kw_905 (c_X7_in l D ad cA  hf) ⟨rfl, rfl, Nat.le_of_ble_eq_true rfl, Nat.le_of_ble_eq_true rfl⟩ rfl rfl hl.1 (Nat.le_of_ble_eq_true rfl) dX7_isMan_12) (fun x2 μ H locs G h => ?_)
  rw [hQ]
  exact zz_zret X G hr hlk dX7_isMan_15 h
set_option maxHeartbeats 4000000 in
set_option maxRecDepth 100000 in
theorem c_X7_callerOf (l : Launch) (D : va_G) (ad : Nat → Nat) (cA : Nat → ClassId) {a1 : Int32} {a2 : Int32} {μ : zM} {r : Int32} {μ' : zM} (h : f_X7_callerOf a1 a2 μ = some (r, μ')) : zMet false D ad cA l yX7_callerOf cX7_callerOf 3 (some .int) ({ frames := 0, cells := 0, slots := 0, locals := 0 } : Room) [.ref (ad 100), .int a1, .int a2] μ (zQi false D ad cA r μ') := by
  refine zMet_of "ButlerWeatherModel" ⟨by decide, rfl⟩ (Nat.le_of_ble_eq_true rfl) ?_
  intro p e s m args below meth c X G hr hlk ls hl
  have hl : lv_has ls 3 [(0, .ref (ad 100)), (1, .int a1), (2, .int a2)] := hl
  obtain ⟨hx, hb, hml, hown, hts, -, -, -⟩ := id X
  obtain ⟨Q, hQ⟩ : ∃ Q, Q = MQ below (zQi false D ad cA r μ') args s 0 0 (zA false ad) := ⟨_, rfl⟩
  rw [← hQ]
  unfold f_X7_callerOf at h
  refine lv_iload_n hx hb dX7_callerOf_0 rfl (lv_at hl 2 rfl) ?_
  refine lv_if_ne (tgt := 13) hx hb dX7_callerOf_1 (by decide) (fun c1 => ?_) (fun c1 => ?_)
  · have h := (zz_br h).1 c1
    refine lv_iload_n hx hb dX7_callerOf_13 rfl (lv_at hl 2 rfl) ?_
    refine lv_iconst (v := (1 : Int32)) hx hb dX7_callerOf_14 (by decide) ?_
    refine lv_icmp_ne (tgt := 27) hx hb dX7_callerOf_15 (by decide) (fun c2 => ?_) (fun c2 => ?_)
    · have h := (zz_br h).1 c2
      refine lv_iload_n hx hb dX7_callerOf_27 rfl (lv_at hl 2 rfl) ?_
      refine lv_iconst (v := (2 : Int32)) hx hb dX7_callerOf_28 (by decide) ?_
      refine lv_icmp_ne (tgt := 41) hx hb dX7_callerOf_29 (by decide) (fun c3 => ?_) (fun c3 => ?_)
      · have h := (zz_br h).1 c3
        refine lv_aload_n hx hb dX7_callerOf_41 rfl (lv_at hl 0 rfl) ?_
        refine zz_getr X G fr_7_6 tl_100 rl_100_6 kw_788 dX7_callerOf_42 ?_
        refine lv_iload_n hx hb dX7_callerOf_45 rfl (lv_at hl 1 rfl) ?_
        refine zz_iald X G ia_30 tl_107 dX7_callerOf_46 h (fun x4 h => ?_)
        rw [hQ]
        exact zz_iret X G hr hlk dX7_callerOf_47 h
      have h := (zz_br h).2 (fun q => q c3)
      refine lv_aload_n hx hb dX7_callerOf_32 rfl (lv_at hl 0 rfl) ?_
      refine zz_getr X G fr_7_5 tl_100 rl_100_5 kw_787 dX7_callerOf_33 ?_
      refine lv_iload_n hx hb dX7_callerOf_36 rfl (lv_at hl 1 rfl) ?_
      refine zz_iald X G ia_30 tl_106 dX7_callerOf_37 h (fun x5 h => ?_)
      refine lv_goto (tgt := 47) hx hb dX7_callerOf_38 (by decide) ?_
      rw [hQ]
      exact zz_iret X G hr hlk dX7_callerOf_47 h
    have h := (zz_br h).2 (fun q => q c2)
    refine lv_aload_n hx hb dX7_callerOf_18 rfl (lv_at hl 0 rfl) ?_
    refine zz_getr X G fr_7_4 tl_100 rl_100_4 kw_786 dX7_callerOf_19 ?_
    refine lv_iload_n hx hb dX7_callerOf_22 rfl (lv_at hl 1 rfl) ?_
    refine zz_iald X G ia_30 tl_105 dX7_callerOf_23 h (fun x6 h => ?_)
    refine lv_goto (tgt := 47) hx hb dX7_callerOf_24 (by decide) ?_
    rw [hQ]
    exact zz_iret X G hr hlk dX7_callerOf_47 h
  have h := (zz_br h).2 (fun q => q c1)
  refine lv_aload_n hx hb dX7_callerOf_4 rfl (lv_at hl 0 rfl) ?_
  refine zz_getr X G fr_7_3 tl_100 rl_100_3 kw_785 dX7_callerOf_5 ?_
  refine lv_iload_n hx hb dX7_callerOf_8 rfl (lv_at hl 1 rfl) ?_
  refine zz_iald X G ia_30 tl_104 dX7_callerOf_9 h (fun x7 h => ?_)
  refine lv_goto (tgt := 47) hx hb dX7_callerOf_10 (by decide) ?_
  rw [hQ]
  exact zz_iret X G hr hlk dX7_callerOf_47 h
set_option maxHeartbeats 4000000 in
set_option maxRecDepth 100000 in
theorem c_X7_caller (l : Launch) (D : va_G) (ad : Nat → Nat) (cA : Nat → ClassId) {a1 : Int32} {a2 : Int32} {μ : zM} {r : Int32} {μ' : zM} (h : f_X7_caller a1 a2 μ = some (r, μ')) : zMet false D ad cA l yX7_caller cX7_caller 3 (some .int) ({ frames := 6, cells := 0, slots := 0, locals := 138 } : Room) [.ref (ad 100), .int a1, .int a2] μ (zQi false D ad cA r μ') := by
  refine zMet_of "ButlerWeatherModel" ⟨by decide, rfl⟩ (Nat.le_of_ble_eq_true rfl) ?_
  intro p e s m args below meth c X G hr hlk ls hl
  have hl : lv_has ls 3 [(0, .ref (ad 100)), (1, .int a1), (2, .int a2)] := hl
  obtain ⟨hx, hb, hml, hown, hts, -, -, -⟩ := id X
  obtain ⟨Q, hQ⟩ : ∃ Q, Q = MQ below (zQi false D ad cA r μ') args s 0 0 (zA false ad) := ⟨_, rfl⟩
  rw [← hQ]
  unfold f_X7_caller at h
  refine lv_aload_n hx hb dX7_caller_0 rfl (lv_at hl 0 rfl) ?_
  refine lv_iload_n hx hb dX7_caller_1 rfl (lv_at hl 1 rfl) ?_
  refine zz_ci (rest := []) G h (fun r μ1 hf => zz_runV X G rc_7 tl_100 cv_X7_isCaller kw_947 (c_X7_isCaller l D ad cA  hf) ⟨rfl, rfl, Nat.le_of_ble_eq_true rfl, Nat.le_of_ble_eq_true rfl⟩ rfl rfl hl.1 (Nat.le_of_ble_eq_true rfl) dX7_caller_2) (fun x1 μ H locs G h => ?_)
  refine lv_if_eq (tgt := 26) hx hb dX7_caller_5 (by decide) (fun c2 => ?_) (fun c2 => ?_)
  · have h := (zz_br h).1 c2
    refine lv_bipush (v := (-2 : Int32)) hx hb dX7_caller_26 (by decide) ?_
    rw [hQ]
    exact zz_iret X G hr hlk dX7_caller_28 h
  have h := (zz_br h).2 c2
  refine lv_iload_n hx hb dX7_caller_8 rfl (lv_at hl 2 rfl) ?_
  refine lv_iconst (v := (0 : Int32)) hx hb dX7_caller_9 (by decide) ?_
  refine lv_iconst (v := (3 : Int32)) hx hb dX7_caller_10 (by decide) ?_
  refine zz_ci (rest := []) G h (fun r μ1 hf => zz_runS X G cs_X7_in kw_905 (c_X7_in l D ad cA  hf) ⟨rfl, rfl, Nat.le_of_ble_eq_true rfl, Nat.le_of_ble_eq_true rfl⟩ rfl rfl hl.1 (Nat.le_of_ble_eq_true rfl) dX7_caller_11) (fun x3 μ H locs G h => ?_)
  refine lv_if_eq (tgt := 26) hx hb dX7_caller_14 (by decide) (fun c4 => ?_) (fun c4 => ?_)
  · have h := (zz_br h).1 c4
    refine lv_bipush (v := (-2 : Int32)) hx hb dX7_caller_26 (by decide) ?_
    rw [hQ]
    exact zz_iret X G hr hlk dX7_caller_28 h
  have h := (zz_br h).2 c4
  refine lv_aload_n hx hb dX7_caller_17 rfl (lv_at hl 0 rfl) ?_
  refine lv_iload_n hx hb dX7_caller_18 rfl (lv_at hl 1 rfl) ?_
  refine lv_iload_n hx hb dX7_caller_19 rfl (lv_at hl 2 rfl) ?_
  refine zz_ci (rest := []) G h (fun r μ1 hf => zz_runV X G rc_7 tl_100 cv_X7_callerOf kw_955 (c_X7_callerOf l D ad cA  hf) ⟨rfl, rfl, Nat.le_of_ble_eq_true rfl, Nat.le_of_ble_eq_true rfl⟩ rfl rfl hl.1 (Nat.le_of_ble_eq_true rfl) dX7_caller_20) (fun x5 μ H locs G h => ?_)
  refine lv_goto (tgt := 28) hx hb dX7_caller_23 (by decide) ?_
  rw [hQ]
  exact zz_iret X G hr hlk dX7_caller_28 h
set_option maxHeartbeats 4000000 in
set_option maxRecDepth 100000 in
theorem c_X7_manOf (l : Launch) (D : va_G) (ad : Nat → Nat) (cA : Nat → ClassId) {a1 : Int32} {a2 : Int32} {μ : zM} {r : Int32} {μ' : zM} (h : f_X7_manOf a1 a2 μ = some (r, μ')) : zMet false D ad cA l yX7_manOf cX7_manOf 3 (some .int) ({ frames := 0, cells := 0, slots := 0, locals := 0 } : Room) [.ref (ad 100), .int a1, .int a2] μ (zQi false D ad cA r μ') := by
  refine zMet_of "ButlerWeatherModel" ⟨by decide, rfl⟩ (Nat.le_of_ble_eq_true rfl) ?_
  intro p e s m args below meth c X G hr hlk ls hl
  have hl : lv_has ls 3 [(0, .ref (ad 100)), (1, .int a1), (2, .int a2)] := hl
  obtain ⟨hx, hb, hml, hown, hts, -, -, -⟩ := id X
  obtain ⟨Q, hQ⟩ : ∃ Q, Q = MQ below (zQi false D ad cA r μ') args s 0 0 (zA false ad) := ⟨_, rfl⟩
  rw [← hQ]
  unfold f_X7_manOf at h
  refine lv_iload_n hx hb dX7_manOf_0 rfl (lv_at hl 2 rfl) ?_
  refine lv_if_ne (tgt := 13) hx hb dX7_manOf_1 (by decide) (fun c1 => ?_) (fun c1 => ?_)
  · have h := (zz_br h).1 c1
    refine lv_iload_n hx hb dX7_manOf_13 rfl (lv_at hl 2 rfl) ?_
    refine lv_iconst (v := (1 : Int32)) hx hb dX7_manOf_14 (by decide) ?_
    refine lv_icmp_ne (tgt := 27) hx hb dX7_manOf_15 (by decide) (fun c2 => ?_) (fun c2 => ?_)
    · have h := (zz_br h).1 c2
      refine lv_aload_n hx hb dX7_manOf_27 rfl (lv_at hl 0 rfl) ?_
      refine zz_getr X G fr_7_10 tl_100 rl_100_10 kw_792 dX7_manOf_28 ?_
      refine lv_iload_n hx hb dX7_manOf_31 rfl (lv_at hl 1 rfl) ?_
      refine zz_iald X G ia_30 tl_111 dX7_manOf_32 h (fun x3 h => ?_)
      rw [hQ]
      exact zz_iret X G hr hlk dX7_manOf_33 h
    have h := (zz_br h).2 (fun q => q c2)
    refine lv_aload_n hx hb dX7_manOf_18 rfl (lv_at hl 0 rfl) ?_
    refine zz_getr X G fr_7_9 tl_100 rl_100_9 kw_791 dX7_manOf_19 ?_
    refine lv_iload_n hx hb dX7_manOf_22 rfl (lv_at hl 1 rfl) ?_
    refine zz_iald X G ia_30 tl_110 dX7_manOf_23 h (fun x4 h => ?_)
    refine lv_goto (tgt := 33) hx hb dX7_manOf_24 (by decide) ?_
    rw [hQ]
    exact zz_iret X G hr hlk dX7_manOf_33 h
  have h := (zz_br h).2 (fun q => q c1)
  refine lv_aload_n hx hb dX7_manOf_4 rfl (lv_at hl 0 rfl) ?_
  refine zz_getr X G fr_7_8 tl_100 rl_100_8 kw_790 dX7_manOf_5 ?_
  refine lv_iload_n hx hb dX7_manOf_8 rfl (lv_at hl 1 rfl) ?_
  refine zz_iald X G ia_30 tl_109 dX7_manOf_9 h (fun x5 h => ?_)
  refine lv_goto (tgt := 33) hx hb dX7_manOf_10 (by decide) ?_
  rw [hQ]
  exact zz_iret X G hr hlk dX7_manOf_33 h
set_option maxHeartbeats 4000000 in
set_option maxRecDepth 100000 in
theorem c_X7_man (l : Launch) (D : va_G) (ad : Nat → Nat) (cA : Nat → ClassId) {a1 : Int32} {a2 : Int32} {μ : zM} {r : Int32} {μ' : zM} (h : f_X7_man a1 a2 μ = some (r, μ')) : zMet false D ad cA l yX7_man cX7_man 3 (some .int) ({ frames := 6, cells := 0, slots := 0, locals := 138 } : Room) [.ref (ad 100), .int a1, .int a2] μ (zQi false D ad cA r μ') := by
  refine zMet_of "ButlerWeatherModel" ⟨by decide, rfl⟩ (Nat.le_of_ble_eq_true rfl) ?_
  intro p e s m args below meth c X G hr hlk ls hl
  have hl : lv_has ls 3 [(0, .ref (ad 100)), (1, .int a1), (2, .int a2)] := hl
  obtain ⟨hx, hb, hml, hown, hts, -, -, -⟩ := id X
  obtain ⟨Q, hQ⟩ : ∃ Q, Q = MQ below (zQi false D ad cA r μ') args s 0 0 (zA false ad) := ⟨_, rfl⟩
  rw [← hQ]
  unfold f_X7_man at h
  refine lv_aload_n hx hb dX7_man_0 rfl (lv_at hl 0 rfl) ?_
  refine lv_iload_n hx hb dX7_man_1 rfl (lv_at hl 1 rfl) ?_
  refine zz_ci (rest := []) G h (fun r μ1 hf => zz_runV X G rc_7 tl_100 cv_X7_isMan kw_963 (c_X7_isMan l D ad cA  hf) ⟨rfl, rfl, Nat.le_of_ble_eq_true rfl, Nat.le_of_ble_eq_true rfl⟩ rfl rfl hl.1 (Nat.le_of_ble_eq_true rfl) dX7_man_2) (fun x1 μ H locs G h => ?_)
  refine lv_if_eq (tgt := 26) hx hb dX7_man_5 (by decide) (fun c2 => ?_) (fun c2 => ?_)
  · have h := (zz_br h).1 c2
    refine lv_bipush (v := (-2 : Int32)) hx hb dX7_man_26 (by decide) ?_
    rw [hQ]
    exact zz_iret X G hr hlk dX7_man_28 h
  have h := (zz_br h).2 c2
  refine lv_iload_n hx hb dX7_man_8 rfl (lv_at hl 2 rfl) ?_
  refine lv_iconst (v := (0 : Int32)) hx hb dX7_man_9 (by decide) ?_
  refine lv_iconst (v := (2 : Int32)) hx hb dX7_man_10 (by decide) ?_
  refine zz_ci (rest := []) G h (fun r μ1 hf => zz_runS X G cs_X7_in kw_905 (c_X7_in l D ad cA  hf) ⟨rfl, rfl, Nat.le_of_ble_eq_true rfl, Nat.le_of_ble_eq_true rfl⟩ rfl rfl hl.1 (Nat.le_of_ble_eq_true rfl) dX7_man_11) (fun x3 μ H locs G h => ?_)
  refine lv_if_eq (tgt := 26) hx hb dX7_man_14 (by decide) (fun c4 => ?_) (fun c4 => ?_)
  · have h := (zz_br h).1 c4
    refine lv_bipush (v := (-2 : Int32)) hx hb dX7_man_26 (by decide) ?_
    rw [hQ]
    exact zz_iret X G hr hlk dX7_man_28 h
  have h := (zz_br h).2 c4
  refine lv_aload_n hx hb dX7_man_17 rfl (lv_at hl 0 rfl) ?_
  refine lv_iload_n hx hb dX7_man_18 rfl (lv_at hl 1 rfl) ?_
  refine lv_iload_n hx hb dX7_man_19 rfl (lv_at hl 2 rfl) ?_
  refine zz_ci (rest := []) G h (fun r μ1 hf => zz_runV X G rc_7 tl_100 cv_X7_manOf kw_967 (c_X7_manOf l D ad cA  hf) ⟨rfl, rfl, Nat.le_of_ble_eq_true rfl, Nat.le_of_ble_eq_true rfl⟩ rfl rfl hl.1 (Nat.le_of_ble_eq_true rfl) dX7_man_20) (fun x5 μ H locs G h => ?_)
  refine lv_goto (tgt := 28) hx hb dX7_man_23 (by decide) ?_
  rw [hQ]
  exact zz_iret X G hr hlk dX7_man_28 h
set_option maxHeartbeats 4000000 in
set_option maxRecDepth 100000 in
theorem c_X7_card (l : Launch) (D : va_G) (ad : Nat → Nat) (cA : Nat → ClassId) {a1 : Int32} {a2 : Int32} {μ : zM} {r : Int32} {μ' : zM} (h : f_X7_card a1 a2 μ = some (r, μ')) : zMet false D ad cA l yX7_card cX7_card 3 (some .int) ({ frames := 2, cells := 0, slots := 0, locals := 42 } : Room) [.ref (ad 100), .int a1, .int a2] μ (zQi false D ad cA r μ') := by
  refine zMet_of "ButlerWeatherModel" ⟨by decide, rfl⟩ (Nat.le_of_ble_eq_true rfl) ?_
  intro p e s m args below meth c X G hr hlk ls hl
  have hl : lv_has ls 3 [(0, .ref (ad 100)), (1, .int a1), (2, .int a2)] := hl
  obtain ⟨hx, hb, hml, hown, hts, -, -, -⟩ := id X
  obtain ⟨Q, hQ⟩ : ∃ Q, Q = MQ below (zQi false D ad cA r μ') args s 0 0 (zA false ad) := ⟨_, rfl⟩
  rw [← hQ]
  unfold f_X7_card at h
  refine lv_iload_n hx hb dX7_card_0 rfl (lv_at hl 1 rfl) ?_
  refine zz_ci (rest := []) G h (fun r μ1 hf => zz_runS X G cs_X7_isDay kw_975 (c_X7_isDay l D ad cA  hf) ⟨rfl, rfl, Nat.le_of_ble_eq_true rfl, Nat.le_of_ble_eq_true rfl⟩ rfl rfl hl.1 (Nat.le_of_ble_eq_true rfl) dX7_card_1) (fun x1 μ H locs G h => ?_)
  refine lv_if_eq (tgt := 17) hx hb dX7_card_4 (by decide) (fun c2 => ?_) (fun c2 => ?_)
  · have h := (zz_br h).1 c2
    refine lv_bipush (v := (-2 : Int32)) hx hb dX7_card_17 (by decide) ?_
    rw [hQ]
    exact zz_iret X G hr hlk dX7_card_19 h
  have h := (zz_br h).2 c2
  refine lv_iload_n hx hb dX7_card_7 rfl (lv_at hl 2 rfl) ?_
  refine lv_iconst (v := (0 : Int32)) hx hb dX7_card_8 (by decide) ?_
  refine lv_bipush (v := (7 : Int32)) hx hb dX7_card_9 (by decide) ?_
  refine zz_ci (rest := []) G h (fun r μ1 hf => zz_runS X G cs_X7_in kw_905 (c_X7_in l D ad cA  hf) ⟨rfl, rfl, Nat.le_of_ble_eq_true rfl, Nat.le_of_ble_eq_true rfl⟩ rfl rfl hl.1 (Nat.le_of_ble_eq_true rfl) dX7_card_11) (fun x3 μ H locs G h => ?_)
  refine lv_if_ne (tgt := 20) hx hb dX7_card_14 (by decide) (fun c4 => ?_) (fun c4 => ?_)
  · have h := (zz_br h).1 c4
    refine lv_aload_n hx hb dX7_card_20 rfl (lv_at hl 0 rfl) ?_
    refine zz_geti X G fi_7_11 tl_100 kw_793 dX7_card_21 h (fun x5 h => ?_)
    refine lv_bipush (v := (8 : Int32)) hx hb dX7_card_24 (by decide) ?_
    refine lv_icmp_ne (tgt := 32) hx hb dX7_card_26 (by decide) (fun c6 => ?_) (fun c6 => ?_)
    · have h := (zz_br h).1 c6
      refine lv_aload_n hx hb dX7_card_32 rfl (lv_at hl 0 rfl) ?_
      refine zz_getr X G fr_7_12 tl_100 rl_100_12 kw_794 dX7_card_33 ?_
      refine lv_aload_n hx hb dX7_card_36 rfl (lv_at hl 0 rfl) ?_
      refine zz_geti X G fi_7_11 tl_100 kw_793 dX7_card_37 h (fun x7 h => ?_)
      refine lv_iload_n hx hb dX7_card_40 rfl (lv_at hl 1 rfl) ?_
      refine zz_iast X G ia_30 tl_113 dX7_card_41 h (fun μ H locs G h => ?_)
      refine lv_aload_n hx hb dX7_card_42 rfl (lv_at hl 0 rfl) ?_
      refine zz_getr X G fr_7_13 tl_100 rl_100_13 kw_795 dX7_card_43 ?_
      refine lv_aload_n hx hb dX7_card_46 rfl (lv_at hl 0 rfl) ?_
      refine zz_geti X G fi_7_11 tl_100 kw_793 dX7_card_47 h (fun x8 h => ?_)
      refine lv_iload_n hx hb dX7_card_50 rfl (lv_at hl 2 rfl) ?_
      refine zz_iast X G ia_30 tl_114 dX7_card_51 h (fun μ H locs G h => ?_)
      refine lv_aload_n hx hb dX7_card_52 rfl (lv_at hl 0 rfl) ?_
      refine lv_dup hx hb dX7_card_53 rfl ?_
      refine zz_geti X G fi_7_11 tl_100 kw_793 dX7_card_54 h (fun x9 h => ?_)
      refine lv_iconst (v := (1 : Int32)) hx hb dX7_card_57 (by decide) ?_
      refine lv_iadd hx hb dX7_card_58 ?_
      refine zz_puti X G fp_7_11 tl_100 kw_793 rfl rfl dX7_card_59 h (fun μ H locs G h => ?_)
      refine lv_aload_n hx hb dX7_card_62 rfl (lv_at hl 0 rfl) ?_
      refine zz_geti X G fi_7_11 tl_100 kw_793 dX7_card_63 h (fun x10 h => ?_)
      rw [hQ]
      exact zz_iret X G hr hlk dX7_card_66 h
    have h := (zz_br h).2 (fun q => q c6)
    refine lv_bipush (v := (-4 : Int32)) hx hb dX7_card_29 (by decide) ?_
    rw [hQ]
    exact zz_iret X G hr hlk dX7_card_31 h
  have h := (zz_br h).2 (fun q => q c4)
  refine lv_bipush (v := (-2 : Int32)) hx hb dX7_card_17 (by decide) ?_
  rw [hQ]
  exact zz_iret X G hr hlk dX7_card_19 h
set_option maxHeartbeats 4000000 in
set_option maxRecDepth 100000 in
theorem c_X7_back (l : Launch) (D : va_G) (ad : Nat → Nat) (cA : Nat → ClassId)  {μ : zM} {r : Int32} {μ' : zM} (h : f_X7_back μ = some (r, μ')) : zMet false D ad cA l yX7_back cX7_back 1 (some .int) ({ frames := 0, cells := 0, slots := 0, locals := 0 } : Room) [.ref (ad 100)] μ (zQi false D ad cA r μ') := by
  refine zMet_of "ButlerWeatherModel" ⟨by decide, rfl⟩ (Nat.le_of_ble_eq_true rfl) ?_
  intro p e s m args below meth c X G hr hlk ls hl
  have hl : lv_has ls 1 [(0, .ref (ad 100))] := hl
  obtain ⟨hx, hb, hml, hown, hts, -, -, -⟩ := id X
  obtain ⟨Q, hQ⟩ : ∃ Q, Q = MQ below (zQi false D ad cA r μ') args s 0 0 (zA false ad) := ⟨_, rfl⟩
  rw [← hQ]
  unfold f_X7_back at h
  refine lv_aload_n hx hb dX7_back_0 rfl (lv_at hl 0 rfl) ?_
  refine zz_geti X G fi_7_11 tl_100 kw_793 dX7_back_1 h (fun x1 h => ?_)
  refine lv_if_ne (tgt := 10) hx hb dX7_back_4 (by decide) (fun c2 => ?_) (fun c2 => ?_)
  · have h := (zz_br h).1 c2
    refine lv_aload_n hx hb dX7_back_10 rfl (lv_at hl 0 rfl) ?_
    refine lv_dup hx hb dX7_back_11 rfl ?_
    refine zz_geti X G fi_7_11 tl_100 kw_793 dX7_back_12 h (fun x3 h => ?_)
    refine lv_iconst (v := (1 : Int32)) hx hb dX7_back_15 (by decide) ?_
    refine lv_isub hx hb dX7_back_16 ?_
    refine zz_puti X G fp_7_11 tl_100 kw_793 rfl rfl dX7_back_17 h (fun μ H locs G h => ?_)
    refine lv_aload_n hx hb dX7_back_20 rfl (lv_at hl 0 rfl) ?_
    refine zz_geti X G fi_7_11 tl_100 kw_793 dX7_back_21 h (fun x4 h => ?_)
    rw [hQ]
    exact zz_iret X G hr hlk dX7_back_24 h
  have h := (zz_br h).2 (fun q => q c2)
  refine lv_bipush (v := (-3 : Int32)) hx hb dX7_back_7 (by decide) ?_
  rw [hQ]
  exact zz_iret X G hr hlk dX7_back_9 h
set_option maxHeartbeats 4000000 in
set_option maxRecDepth 100000 in
theorem c_X7_isSheet (l : Launch) (D : va_G) (ad : Nat → Nat) (cA : Nat → ClassId) {a0 : Int32} {μ : zM} {r : Int32} {μ' : zM} (h : f_X7_isSheet a0 μ = some (r, μ')) : zMet false D ad cA l yX7_isSheet cX7_isSheet 1 (some .boolean) ({ frames := 1, cells := 0, slots := 0, locals := 22 } : Room) [.int a0] μ (zQi false D ad cA r μ') := by
  refine zMet_of "ButlerWeatherModel" ⟨by decide, rfl⟩ (Nat.le_of_ble_eq_true rfl) ?_
  intro p e s m args below meth c X G hr hlk ls hl
  have hl : lv_has ls 1 [(0, .int a0)] := hl
  obtain ⟨hx, hb, hml, hown, hts, -, -, -⟩ := id X
  obtain ⟨Q, hQ⟩ : ∃ Q, Q = MQ below (zQi false D ad cA r μ') args s 0 0 (zA false ad) := ⟨_, rfl⟩
  rw [← hQ]
  unfold f_X7_isSheet at h
  refine lv_iload_n hx hb dX7_isSheet_0 rfl (lv_at hl 0 rfl) ?_
  refine lv_iconst (v := (0 : Int32)) hx hb dX7_isSheet_1 (by decide) ?_
  refine lv_iconst (v := (3 : Int32)) hx hb dX7_isSheet_2 (by decide) ?_
  refine zz_ci (rest := []) G h (fun r μ1 hf => zz_runS X G cs_X7_in kw_905 (c_X7_in l D ad cA  hf) ⟨rfl, rfl, Nat.le_of_ble_eq_true rfl, Nat.le_of_ble_eq_true rfl⟩ rfl rfl hl.1 (Nat.le_of_ble_eq_true rfl) dX7_isSheet_3) (fun x1 μ H locs G h => ?_)
  rw [hQ]
  exact zz_zret X G hr hlk dX7_isSheet_6 h
set_option maxHeartbeats 4000000 in
set_option maxRecDepth 100000 in
theorem c_X7_meets (l : Launch) (D : va_G) (ad : Nat → Nat) (cA : Nat → ClassId) {a1 : Int32} {μ : zM} {r : Int32} {μ' : zM} (h : f_X7_meets a1 μ = some (r, μ')) : zMet false D ad cA l yX7_meets cX7_meets 2 (some .int) ({ frames := 0, cells := 0, slots := 0, locals := 0 } : Room) [.ref (ad 100), .int a1] μ (zQi false D ad cA r μ') := by
  refine zMet_of "ButlerWeatherModel" ⟨by decide, rfl⟩ (Nat.le_of_ble_eq_true rfl) ?_
  intro p e s m args below meth c X G hr hlk ls hl
  have hl : lv_has ls 2 [(0, .ref (ad 100)), (1, .int a1)] := hl
  obtain ⟨hx, hb, hml, hown, hts, -, -, -⟩ := id X
  obtain ⟨Q, hQ⟩ : ∃ Q, Q = MQ below (zQi false D ad cA r μ') args s 0 0 (zA false ad) := ⟨_, rfl⟩
  rw [← hQ]
  unfold f_X7_meets at h
  refine lv_aload_n hx hb dX7_meets_0 rfl (lv_at hl 0 rfl) ?_
  refine lv_iload_n hx hb dX7_meets_1 rfl (lv_at hl 1 rfl) ?_
  refine zz_puti X G fp_7_37 tl_100 kw_819 rfl rfl dX7_meets_2 h (fun μ H locs G h => ?_)
  refine lv_bipush (v := (-10 : Int32)) hx hb dX7_meets_5 (by decide) ?_
  refine lv_iload_n hx hb dX7_meets_7 rfl (lv_at hl 1 rfl) ?_
  refine lv_isub hx hb dX7_meets_8 ?_
  rw [hQ]
  exact zz_iret X G hr hlk dX7_meets_9 h
set_option maxHeartbeats 4000000 in
set_option maxRecDepth 100000 in
theorem w_X7_read_L27 {p : Program} {l : Launch} {e : Env} {s : State} {m : MethodId} {args : Array Value} {below : List Frame} {meth : Method} {c : Code} {Q : State → Prop} {D : va_G} {ad : Nat → Nat} {cA : Nat → ClassId} {r : Int32} {μ' : zM} (X : zX false D ad cA p s m args c cX7_read "ButlerWeatherModel" 3) (hQ : Q = MQ below (zQi false D ad cA r μ') args s 0 0 (zA false ad)) (hr : meth.sig.returnType = (some .int)) (hlk : meth.locks = false) {v1 : Int32} {kx : Int32 → zM → Option (Int32 × zM)} (HX : ∀ (w2 : Int32) (μ : zM) (H : Heap) (locs : List Loc) (ls : Array Slot), lv_has ls 3 [(2, .int w2)] → zG false D ad cA s μ H locs → kx w2 μ = some (r, μ') → W p l e ({ frames := 3, cells := 0, slots := 0, locals := 64 } : Room) s m args below meth c H locs 0 0 Q (F0 m 82 ls [])) : ∀ (n : Nat) (v2 : Int32) (μ : zM) (H : Heap) (locs : List Loc) (ls : Array Slot), lv_has ls 3 [(0, .ref (ad 100)), (1, .int v1), (2, .int v2)] → zG false D ad cA s μ H locs → f_X7_read_L27 v1 kx n v2 μ = some (r, μ') → W p l e ({ frames := 3, cells := 0, slots := 0, locals := 64 } : Room) s m args below meth c H locs 0 0 Q (F0 m 27 ls []) := by
  obtain ⟨hx, hb, hml, hown, hts, -, -, -⟩ := id X
  intro n
  induction n with
  | zero =>
    intro v2 μ H locs ls hl G h
    cases (show (none : Option (Int32 × zM)) = some (r, μ') from h)
  | succ n ih =>
    intro v2 μ H locs ls hl G h
    rw [f_X7_read_L27] at h
    refine lv_iconst (v := (2 : Int32)) hx hb dX7_read_27 (by decide) ?_
    refine lv_iload_n hx hb dX7_read_28 rfl (lv_at hl 2 rfl) ?_
    refine lv_imul hx hb dX7_read_29 ?_
    refine lv_iconst (v := (1 : Int32)) hx hb dX7_read_30 (by decide) ?_
    refine lv_iadd hx hb dX7_read_31 ?_
    refine lv_aload_n hx hb dX7_read_32 rfl (lv_at hl 0 rfl) ?_
    refine zz_getr X G fr_7_34 tl_100 rl_100_34 kw_816 dX7_read_33 ?_
    refine lv_iload_n hx hb dX7_read_36 rfl (lv_at hl 1 rfl) ?_
    refine zz_iald X G ia_30 tl_135 dX7_read_37 h (fun x5 h => ?_)
    refine lv_icmp_ge (tgt := 82) hx hb dX7_read_38 (by decide) (fun c6 => ?_) (fun c6 => ?_)
    · have h := (zz_br h).1 c6
      exact HX v2 μ _ _ _ (lv_sub hl [2] rfl) G h
    have h := (zz_br h).2 c6
    refine lv_aload_n hx hb dX7_read_41 rfl (lv_at hl 0 rfl) ?_
    refine lv_aload_n hx hb dX7_read_42 rfl (lv_at hl 0 rfl) ?_
    refine zz_getr X G fr_7_35 tl_100 rl_100_35 kw_817 dX7_read_43 ?_
    refine lv_bipush (v := (60 : Int32)) hx hb dX7_read_46 (by decide) ?_
    refine lv_iload_n hx hb dX7_read_48 rfl (lv_at hl 1 rfl) ?_
    refine lv_imul hx hb dX7_read_49 ?_
    refine lv_iconst (v := (2 : Int32)) hx hb dX7_read_50 (by decide) ?_
    refine lv_iload_n hx hb dX7_read_51 rfl (lv_at hl 2 rfl) ?_
    refine lv_imul hx hb dX7_read_52 ?_
    refine lv_iadd hx hb dX7_read_53 ?_
    refine zz_iald X G ia_30 tl_136 dX7_read_54 h (fun x7 h => ?_)
    refine lv_aload_n hx hb dX7_read_55 rfl (lv_at hl 0 rfl) ?_
    refine zz_getr X G fr_7_35 tl_100 rl_100_35 kw_817 dX7_read_56 ?_
    refine lv_bipush (v := (60 : Int32)) hx hb dX7_read_59 (by decide) ?_
    refine lv_iload_n hx hb dX7_read_61 rfl (lv_at hl 1 rfl) ?_
    refine lv_imul hx hb dX7_read_62 ?_
    refine lv_iconst (v := (2 : Int32)) hx hb dX7_read_63 (by decide) ?_
    refine lv_iload_n hx hb dX7_read_64 rfl (lv_at hl 2 rfl) ?_
    refine lv_imul hx hb dX7_read_65 ?_
    refine lv_iadd hx hb dX7_read_66 ?_
    refine lv_iconst (v := (1 : Int32)) hx hb dX7_read_67 (by decide) ?_
    refine lv_iadd hx hb dX7_read_68 ?_
    refine zz_iald X G ia_30 tl_136 dX7_read_69 h (fun x8 h => ?_)
    refine zz_ci (rest := []) G h (fun r μ1 hf => zz_runV X G rc_7 tl_100 cv_X7_card kw_993 (c_X7_card l D ad cA  hf) ⟨rfl, rfl, Nat.le_of_ble_eq_true rfl, Nat.le_of_ble_eq_true rfl⟩ rfl rfl hl.1 (Nat.le_of_ble_eq_true rfl) dX7_read_70) (fun x9 μ H locs G h => ?_)
    refine lv_if_le (tgt := 82) hx hb dX7_read_73 (by decide) (fun c10 => ?_) (fun c10 => ?_)
    · have h := (zz_br h).1 c10
      exact HX v2 μ _ _ _ (lv_sub hl [2] rfl) G h
    have h := (zz_br h).2 c10
    obtain ⟨x11, ex11, h⟩ := zz_let h
    refine lv_iinc (v := x11) (lv' := [(2, .int x11), (0, .ref (ad 100)), (1, .int v1)]) hx hb dX7_read_76 hl (k := 2) rfl (by rw [← ex11]; rfl) (by decide) rfl (fun ls hl => ?_)
    refine lv_goto (tgt := 27) hx hb dX7_read_79 (by decide) ?_
    exact ih x11 μ _ _ _ (lv_sub hl [1, 2, 0] rfl) G h
set_option maxHeartbeats 4000000 in
set_option maxRecDepth 100000 in
theorem c_X7_read (l : Launch) (D : va_G) (ad : Nat → Nat) (cA : Nat → ClassId) {a1 : Int32} {μ : zM} {r : Int32} {μ' : zM} (h : f_X7_read a1 μ = some (r, μ')) : zMet false D ad cA l yX7_read cX7_read 3 (some .int) ({ frames := 3, cells := 0, slots := 0, locals := 64 } : Room) [.ref (ad 100), .int a1] μ (zQi false D ad cA r μ') := by
  refine zMet_of "ButlerWeatherModel" ⟨by decide, rfl⟩ (Nat.le_of_ble_eq_true rfl) ?_
  intro p e s m args below meth c X G hr hlk ls hl
  have hl : lv_has ls 3 [(0, .ref (ad 100)), (1, .int a1)] := hl
  obtain ⟨hx, hb, hml, hown, hts, -, -, -⟩ := id X
  obtain ⟨Q, hQ⟩ : ∃ Q, Q = MQ below (zQi false D ad cA r μ') args s 0 0 (zA false ad) := ⟨_, rfl⟩
  rw [← hQ]
  unfold f_X7_read at h
  refine lv_iload_n hx hb dX7_read_0 rfl (lv_at hl 1 rfl) ?_
  refine zz_ci (rest := []) G h (fun r μ1 hf => zz_runS X G cs_X7_isSheet kw_986 (c_X7_isSheet l D ad cA  hf) ⟨rfl, rfl, Nat.le_of_ble_eq_true rfl, Nat.le_of_ble_eq_true rfl⟩ rfl rfl hl.1 (Nat.le_of_ble_eq_true rfl) dX7_read_1) (fun x1 μ H locs G h => ?_)
  refine lv_if_ne (tgt := 10) hx hb dX7_read_4 (by decide) (fun c2 => ?_) (fun c2 => ?_)
  · have h := (zz_br h).1 c2
    refine lv_aload_n hx hb dX7_read_10 rfl (lv_at hl 0 rfl) ?_
    refine zz_getr X G fr_7_32 tl_100 rl_100_32 kw_814 dX7_read_11 ?_
    refine lv_iload_n hx hb dX7_read_14 rfl (lv_at hl 1 rfl) ?_
    refine zz_zald X G ia_31 tl_133 dX7_read_15 h (fun x3 h => ?_)
    refine lv_if_ne (tgt := 25) hx hb dX7_read_16 (by decide) (fun c4 => ?_) (fun c4 => ?_)
    · have h := (zz_br h).1 c4
      refine lv_iconst (v := (0 : Int32)) hx hb dX7_read_25 (by decide) ?_
      refine lv_istore_n (lv' := [(2, .int (0 : Int32)), (0, .ref (ad 100)), (1, .int a1)]) hx hb dX7_read_26 rfl hl (by decide) rfl (fun ls hl => ?_)
      refine w_X7_read_L27 X hQ hr hlk  (fun x12 μ H locs ls hl G h => ?_) 400 (0 : Int32) μ _ _ _ (lv_sub hl [1, 2, 0] rfl) G h
      refine lv_iload_n hx hb dX7_read_82 rfl (lv_at hl 0 rfl) ?_
      rw [hQ]
      exact zz_iret X G hr hlk dX7_read_83 h
    have h := (zz_br h).2 (fun q => q c4)
    refine lv_aload_n hx hb dX7_read_19 rfl (lv_at hl 0 rfl) ?_
    refine lv_iconst (v := (1 : Int32)) hx hb dX7_read_20 (by decide) ?_
    refine zz_ci (rest := []) G h (fun r μ1 hf => zz_runV X G rc_7 tl_100 cv_X7_meets kw_989 (c_X7_meets l D ad cA  hf) ⟨rfl, rfl, Nat.le_of_ble_eq_true rfl, Nat.le_of_ble_eq_true rfl⟩ rfl rfl hl.1 (Nat.le_of_ble_eq_true rfl) dX7_read_21) (fun x13 μ H locs G h => ?_)
    rw [hQ]
    exact zz_iret X G hr hlk dX7_read_24 h
  have h := (zz_br h).2 (fun q => q c2)
  refine lv_bipush (v := (-2 : Int32)) hx hb dX7_read_7 (by decide) ?_
  rw [hQ]
  exact zz_iret X G hr hlk dX7_read_9 h
set_option maxHeartbeats 4000000 in
set_option maxRecDepth 100000 in
theorem w_X7_asTold_L14 {p : Program} {l : Launch} {e : Env} {s : State} {m : MethodId} {args : Array Value} {below : List Frame} {meth : Method} {c : Code} {Q : State → Prop} {D : va_G} {ad : Nat → Nat} {cA : Nat → ClassId} {r : Unit} {μ' : zM} (X : zX false D ad cA p s m args c cX7_asTold "ButlerWeatherModel" 2) (hQ : Q = MQ below (zQv false D ad cA r μ') args s 0 0 (zA false ad)) (hr : meth.sig.returnType = none) (hlk : meth.locks = false)  {kx : zM → Option (Unit × zM)} (HX : ∀ (μ : zM) (H : Heap) (locs : List Loc) (ls : Array Slot), lv_has ls 2 [(0, .ref (ad 100))] → zG false D ad cA s μ H locs → kx  μ = some (r, μ') → W p l e ({ frames := 5, cells := 0, slots := 0, locals := 117 } : Room) s m args below meth c H locs 0 0 Q (F0 m 52 ls [])) : ∀ (n : Nat) (v1 : Int32) (μ : zM) (H : Heap) (locs : List Loc) (ls : Array Slot), lv_has ls 2 [(0, .ref (ad 100)), (1, .int v1)] → zG false D ad cA s μ H locs → f_X7_asTold_L14 kx n v1 μ = some (r, μ') → W p l e ({ frames := 5, cells := 0, slots := 0, locals := 117 } : Room) s m args below meth c H locs 0 0 Q (F0 m 14 ls []) := by
  obtain ⟨hx, hb, hml, hown, hts, -, -, -⟩ := id X
  intro n
  induction n with
  | zero =>
    intro v1 μ H locs ls hl G h
    cases (show (none : Option (Unit × zM)) = some (r, μ') from h)
  | succ n ih =>
    intro v1 μ H locs ls hl G h
    rw [f_X7_asTold_L14] at h
    refine lv_iload_n hx hb dX7_asTold_14 rfl (lv_at hl 1 rfl) ?_
    refine lv_aload_n hx hb dX7_asTold_15 rfl (lv_at hl 0 rfl) ?_
    refine zz_geti X G fi_7_11 tl_100 kw_793 dX7_asTold_16 h (fun x2 h => ?_)
    refine lv_icmp_ge (tgt := 52) hx hb dX7_asTold_19 (by decide) (fun c3 => ?_) (fun c3 => ?_)
    · have h := (zz_br h).1 c3
      exact HX  μ _ _ _ (lv_sub hl [0] rfl) G h
    have h := (zz_br h).2 c3
    refine lv_aload_n hx hb dX7_asTold_22 rfl (lv_at hl 0 rfl) ?_
    refine zz_getr X G fr_7_15 tl_100 rl_100_15 kw_797 dX7_asTold_23 ?_
    refine lv_iload_n hx hb dX7_asTold_26 rfl (lv_at hl 1 rfl) ?_
    refine lv_aload_n hx hb dX7_asTold_27 rfl (lv_at hl 0 rfl) ?_
    refine zz_getr X G fr_7_12 tl_100 rl_100_12 kw_794 dX7_asTold_28 ?_
    refine lv_iload_n hx hb dX7_asTold_31 rfl (lv_at hl 1 rfl) ?_
    refine zz_iald X G ia_30 tl_113 dX7_asTold_32 h (fun x4 h => ?_)
    refine zz_iast X G ia_30 tl_116 dX7_asTold_33 h (fun μ H locs G h => ?_)
    refine lv_aload_n hx hb dX7_asTold_34 rfl (lv_at hl 0 rfl) ?_
    refine zz_getr X G fr_7_16 tl_100 rl_100_16 kw_798 dX7_asTold_35 ?_
    refine lv_iload_n hx hb dX7_asTold_38 rfl (lv_at hl 1 rfl) ?_
    refine lv_aload_n hx hb dX7_asTold_39 rfl (lv_at hl 0 rfl) ?_
    refine zz_getr X G fr_7_13 tl_100 rl_100_13 kw_795 dX7_asTold_40 ?_
    refine lv_iload_n hx hb dX7_asTold_43 rfl (lv_at hl 1 rfl) ?_
    refine zz_iald X G ia_30 tl_114 dX7_asTold_44 h (fun x5 h => ?_)
    refine zz_iast X G ia_30 tl_117 dX7_asTold_45 h (fun μ H locs G h => ?_)
    obtain ⟨x6, ex6, h⟩ := zz_let h
    refine lv_iinc (v := x6) (lv' := [(1, .int x6), (0, .ref (ad 100))]) hx hb dX7_asTold_46 hl (k := 1) rfl (by rw [← ex6]; rfl) (by decide) rfl (fun ls hl => ?_)
    refine lv_goto (tgt := 14) hx hb dX7_asTold_49 (by decide) ?_
    exact ih x6 μ _ _ _ (lv_sub hl [1, 0] rfl) G h
set_option maxHeartbeats 4000000 in
set_option maxRecDepth 100000 in
theorem c_X7_asTold (l : Launch) (D : va_G) (ad : Nat → Nat) (cA : Nat → ClassId)  {μ : zM} {r : Unit} {μ' : zM} (h : f_X7_asTold μ = some (r, μ')) : zMet false D ad cA l yX7_asTold cX7_asTold 2 none ({ frames := 5, cells := 0, slots := 0, locals := 117 } : Room) [.ref (ad 100)] μ (zQv false D ad cA r μ') := by
  refine zMet_of "ButlerWeatherModel" ⟨by decide, rfl⟩ (Nat.le_of_ble_eq_true rfl) ?_
  intro p e s m args below meth c X G hr hlk ls hl
  have hl : lv_has ls 2 [(0, .ref (ad 100))] := hl
  obtain ⟨hx, hb, hml, hown, hts, -, -, -⟩ := id X
  obtain ⟨Q, hQ⟩ : ∃ Q, Q = MQ below (zQv false D ad cA r μ') args s 0 0 (zA false ad) := ⟨_, rfl⟩
  rw [← hQ]
  unfold f_X7_asTold at h
  refine lv_aload_n hx hb dX7_asTold_0 rfl (lv_at hl 0 rfl) ?_
  refine zz_cv (rest := []) G h (fun r μ1 hf => zz_runV X G rc_7 tl_100 cv_X7_reads kw_951 (c_X7_reads l D ad cA  hf) ⟨rfl, rfl, Nat.le_of_ble_eq_true rfl, Nat.le_of_ble_eq_true rfl⟩ rfl rfl hl.1 (Nat.le_of_ble_eq_true rfl) dX7_asTold_1) (fun _ μ H locs G h => ?_)
  refine lv_aload_n hx hb dX7_asTold_4 rfl (lv_at hl 0 rfl) ?_
  refine lv_aload_n hx hb dX7_asTold_5 rfl (lv_at hl 0 rfl) ?_
  refine zz_geti X G fi_7_11 tl_100 kw_793 dX7_asTold_6 h (fun x1 h => ?_)
  refine zz_puti X G fp_7_14 tl_100 kw_796 rfl rfl dX7_asTold_9 h (fun μ H locs G h => ?_)
  refine lv_iconst (v := (0 : Int32)) hx hb dX7_asTold_12 (by decide) ?_
  refine lv_istore_n (lv' := [(1, .int (0 : Int32)), (0, .ref (ad 100))]) hx hb dX7_asTold_13 rfl hl (by decide) rfl (fun ls hl => ?_)
  refine w_X7_asTold_L14 X hQ hr hlk  (fun  μ H locs ls hl G h => ?_) 400 (0 : Int32) μ _ _ _ (lv_sub hl [1, 0] rfl) G h
  refine lv_aload_n hx hb dX7_asTold_52 rfl (lv_at hl 0 rfl) ?_
  refine lv_iconst (v := (0 : Int32)) hx hb dX7_asTold_53 (by decide) ?_
  refine zz_puti X G fp_7_17 tl_100 kw_799 rfl rfl dX7_asTold_54 h (fun μ H locs G h => ?_)
  rw [hQ]
  exact zz_vret X G hr hlk dX7_asTold_57 h
set_option maxHeartbeats 4000000 in
set_option maxRecDepth 100000 in
theorem c_X7_letsIn (l : Launch) (D : va_G) (ad : Nat → Nat) (cA : Nat → ClassId) {a1 : Int32} {a2 : Int32} {a3 : Int32} {μ : zM} {r : Unit} {μ' : zM} (h : f_X7_letsIn a1 a2 a3 μ = some (r, μ')) : zMet false D ad cA l yX7_letsIn cX7_letsIn 4 none ({ frames := 0, cells := 0, slots := 0, locals := 0 } : Room) [.ref (ad 100), .int a1, .int a2, .int a3] μ (zQv false D ad cA r μ') := by
  refine zMet_of "ButlerWeatherModel" ⟨by decide, rfl⟩ (Nat.le_of_ble_eq_true rfl) ?_
  intro p e s m args below meth c X G hr hlk ls hl
  have hl : lv_has ls 4 [(0, .ref (ad 100)), (1, .int a1), (2, .int a2), (3, .int a3)] := hl
  obtain ⟨hx, hb, hml, hown, hts, -, -, -⟩ := id X
  obtain ⟨Q, hQ⟩ : ∃ Q, Q = MQ below (zQv false D ad cA r μ') args s 0 0 (zA false ad) := ⟨_, rfl⟩
  rw [← hQ]
  unfold f_X7_letsIn at h
  refine lv_aload_n hx hb dX7_letsIn_0 rfl (lv_at hl 0 rfl) ?_
  refine zz_getr X G fr_7_18 tl_100 rl_100_18 kw_800 dX7_letsIn_1 ?_
  refine lv_iload_n hx hb dX7_letsIn_4 rfl (lv_at hl 1 rfl) ?_
  refine lv_iconst (v := (2 : Int32)) hx hb dX7_letsIn_5 (by decide) ?_
  refine zz_iast X G ia_30 tl_119 dX7_letsIn_6 h (fun μ H locs G h => ?_)
  refine lv_aload_n hx hb dX7_letsIn_7 rfl (lv_at hl 0 rfl) ?_
  refine zz_getr X G fr_7_19 tl_100 rl_100_19 kw_801 dX7_letsIn_8 ?_
  refine lv_iload_n hx hb dX7_letsIn_11 rfl (lv_at hl 1 rfl) ?_
  refine lv_iload_n hx hb dX7_letsIn_12 rfl (lv_at hl 2 rfl) ?_
  refine zz_iast X G ia_30 tl_120 dX7_letsIn_13 h (fun μ H locs G h => ?_)
  refine lv_aload_n hx hb dX7_letsIn_14 rfl (lv_at hl 0 rfl) ?_
  refine zz_getr X G fr_7_20 tl_100 rl_100_20 kw_802 dX7_letsIn_15 ?_
  refine lv_iload_n hx hb dX7_letsIn_18 rfl (lv_at hl 1 rfl) ?_
  refine lv_iload_n hx hb dX7_letsIn_19 rfl (lv_at hl 3 rfl) ?_
  refine zz_iast X G ia_30 tl_121 dX7_letsIn_20 h (fun μ H locs G h => ?_)
  rw [hQ]
  exact zz_vret X G hr hlk dX7_letsIn_21 h
set_option maxHeartbeats 4000000 in
set_option maxRecDepth 100000 in
theorem w_X7_arrives_L2 {p : Program} {l : Launch} {e : Env} {s : State} {m : MethodId} {args : Array Value} {below : List Frame} {meth : Method} {c : Code} {Q : State → Prop} {D : va_G} {ad : Nat → Nat} {cA : Nat → ClassId} {r : Unit} {μ' : zM} (X : zX false D ad cA p s m args c cX7_arrives "ButlerWeatherModel" 3) (hQ : Q = MQ below (zQv false D ad cA r μ') args s 0 0 (zA false ad)) (hr : meth.sig.returnType = none) (hlk : meth.locks = false) {v1 : Int32} {kx : zM → Option (Unit × zM)} (HX : ∀ (μ : zM) (H : Heap) (locs : List Loc) (ls : Array Slot), lv_has ls 3 [(0, .ref (ad 100)), (1, .int v1)] → zG false D ad cA s μ H locs → kx  μ = some (r, μ') → W p l e ({ frames := 1, cells := 0, slots := 0, locals := 23 } : Room) s m args below meth c H locs 0 0 Q (F0 m 59 ls [])) : ∀ (n : Nat) (v2 : Int32) (μ : zM) (H : Heap) (locs : List Loc) (ls : Array Slot), lv_has ls 3 [(0, .ref (ad 100)), (1, .int v1), (2, .int v2)] → zG false D ad cA s μ H locs → f_X7_arrives_L2 v1 kx n v2 μ = some (r, μ') → W p l e ({ frames := 1, cells := 0, slots := 0, locals := 23 } : Room) s m args below meth c H locs 0 0 Q (F0 m 2 ls []) := by
  obtain ⟨hx, hb, hml, hown, hts, -, -, -⟩ := id X
  intro n
  induction n with
  | zero =>
    intro v2 μ H locs ls hl G h
    cases (show (none : Option (Unit × zM)) = some (r, μ') from h)
  | succ n ih =>
    intro v2 μ H locs ls hl G h
    rw [f_X7_arrives_L2] at h
    refine lv_iload_n hx hb dX7_arrives_2 rfl (lv_at hl 2 rfl) ?_
    refine lv_aload_n hx hb dX7_arrives_3 rfl (lv_at hl 0 rfl) ?_
    refine zz_geti X G fi_7_2 tl_100 kw_784 dX7_arrives_4 h (fun x1 h => ?_)
    refine lv_icmp_ge (tgt := 59) hx hb dX7_arrives_7 (by decide) (fun c2 => ?_) (fun c2 => ?_)
    · have h := (zz_br h).1 c2
      exact HX  μ _ _ _ (lv_sub hl [0, 1] rfl) G h
    have h := (zz_br h).2 c2
    refine lv_aload_n hx hb dX7_arrives_10 rfl (lv_at hl 0 rfl) ?_
    refine zz_getr X G fr_7_18 tl_100 rl_100_18 kw_800 dX7_arrives_11 ?_
    refine lv_iload_n hx hb dX7_arrives_14 rfl (lv_at hl 2 rfl) ?_
    refine lv_aload_n hx hb dX7_arrives_15 rfl (lv_at hl 0 rfl) ?_
    refine zz_getr X G fr_7_18 tl_100 rl_100_18 kw_800 dX7_arrives_16 ?_
    refine lv_iload_n hx hb dX7_arrives_19 rfl (lv_at hl 2 rfl) ?_
    refine zz_iald X G ia_30 tl_119 dX7_arrives_20 h (fun x3 h => ?_)
    refine lv_iconst (v := (2 : Int32)) hx hb dX7_arrives_21 (by decide) ?_
    refine lv_icmp_ne (tgt := 46) hx hb dX7_arrives_22 (by decide) (fun c4 => ?_) (fun c4 => ?_)
    · have h := (zz_br h).1 c4
      refine lv_aload_n hx hb dX7_arrives_46 rfl (lv_at hl 0 rfl) ?_
      refine zz_getr X G fr_7_18 tl_100 rl_100_18 kw_800 dX7_arrives_47 ?_
      refine lv_iload_n hx hb dX7_arrives_50 rfl (lv_at hl 2 rfl) ?_
      refine zz_iald X G ia_30 tl_119 dX7_arrives_51 h (fun x5 h => ?_)
      refine zz_iast X G ia_30 tl_119 dX7_arrives_52 h (fun μ H locs G h => ?_)
      obtain ⟨x6, ex6, h⟩ := zz_let h
      refine lv_iinc (v := x6) (lv' := [(2, .int x6), (0, .ref (ad 100)), (1, .int v1)]) hx hb dX7_arrives_53 hl (k := 2) rfl (by rw [← ex6]; rfl) (by decide) rfl (fun ls hl => ?_)
      refine lv_goto (tgt := 2) hx hb dX7_arrives_56 (by decide) ?_
      exact ih x6 μ _ _ _ (lv_sub hl [1, 2, 0] rfl) G h
    have h := (zz_br h).2 (fun q => q c4)
    refine lv_iload_n hx hb dX7_arrives_25 rfl (lv_at hl 1 rfl) ?_
    refine lv_aload_n hx hb dX7_arrives_26 rfl (lv_at hl 0 rfl) ?_
    refine zz_getr X G fr_7_19 tl_100 rl_100_19 kw_801 dX7_arrives_27 ?_
    refine lv_iload_n hx hb dX7_arrives_30 rfl (lv_at hl 2 rfl) ?_
    refine zz_iald X G ia_30 tl_120 dX7_arrives_31 h (fun x7 h => ?_)
    refine lv_isub hx hb dX7_arrives_32 ?_
    refine lv_aload_n hx hb dX7_arrives_33 rfl (lv_at hl 0 rfl) ?_
    refine zz_getr X G fr_7_6 tl_100 rl_100_6 kw_788 dX7_arrives_34 ?_
    refine lv_iload_n hx hb dX7_arrives_37 rfl (lv_at hl 2 rfl) ?_
    refine zz_iald X G ia_30 tl_107 dX7_arrives_38 h (fun x8 h => ?_)
    refine lv_icmp_ne (tgt := 46) hx hb dX7_arrives_39 (by decide) (fun c9 => ?_) (fun c9 => ?_)
    · have h := (zz_br h).1 c9
      refine lv_aload_n hx hb dX7_arrives_46 rfl (lv_at hl 0 rfl) ?_
      refine zz_getr X G fr_7_18 tl_100 rl_100_18 kw_800 dX7_arrives_47 ?_
      refine lv_iload_n hx hb dX7_arrives_50 rfl (lv_at hl 2 rfl) ?_
      refine zz_iald X G ia_30 tl_119 dX7_arrives_51 h (fun x10 h => ?_)
      refine zz_iast X G ia_30 tl_119 dX7_arrives_52 h (fun μ H locs G h => ?_)
      obtain ⟨x11, ex11, h⟩ := zz_let h
      refine lv_iinc (v := x11) (lv' := [(2, .int x11), (0, .ref (ad 100)), (1, .int v1)]) hx hb dX7_arrives_53 hl (k := 2) rfl (by rw [← ex11]; rfl) (by decide) rfl (fun ls hl => ?_)
      refine lv_goto (tgt := 2) hx hb dX7_arrives_56 (by decide) ?_
      exact ih x11 μ _ _ _ (lv_sub hl [1, 2, 0] rfl) G h
    have h := (zz_br h).2 (fun q => q c9)
    refine lv_iconst (v := (3 : Int32)) hx hb dX7_arrives_42 (by decide) ?_
    refine lv_goto (tgt := 52) hx hb dX7_arrives_43 (by decide) ?_
    refine zz_iast X G ia_30 tl_119 dX7_arrives_52 h (fun μ H locs G h => ?_)
    obtain ⟨x12, ex12, h⟩ := zz_let h
    refine lv_iinc (v := x12) (lv' := [(2, .int x12), (0, .ref (ad 100)), (1, .int v1)]) hx hb dX7_arrives_53 hl (k := 2) rfl (by rw [← ex12]; rfl) (by decide) rfl (fun ls hl => ?_)
    refine lv_goto (tgt := 2) hx hb dX7_arrives_56 (by decide) ?_
    exact ih x12 μ _ _ _ (lv_sub hl [1, 2, 0] rfl) G h
set_option maxHeartbeats 4000000 in
set_option maxRecDepth 100000 in
theorem w_X7_arrives_L61 {p : Program} {l : Launch} {e : Env} {s : State} {m : MethodId} {args : Array Value} {below : List Frame} {meth : Method} {c : Code} {Q : State → Prop} {D : va_G} {ad : Nat → Nat} {cA : Nat → ClassId} {r : Unit} {μ' : zM} (X : zX false D ad cA p s m args c cX7_arrives "ButlerWeatherModel" 3) (hQ : Q = MQ below (zQv false D ad cA r μ') args s 0 0 (zA false ad)) (hr : meth.sig.returnType = none) (hlk : meth.locks = false) {v1 : Int32} {kx : zM → Option (Unit × zM)} (HX : ∀ (μ : zM) (H : Heap) (locs : List Loc) (ls : Array Slot), lv_has ls 3 [] → zG false D ad cA s μ H locs → kx  μ = some (r, μ') → W p l e ({ frames := 1, cells := 0, slots := 0, locals := 23 } : Room) s m args below meth c H locs 0 0 Q (F0 m 122 ls [])) : ∀ (n : Nat) (v2 : Int32) (μ : zM) (H : Heap) (locs : List Loc) (ls : Array Slot), lv_has ls 3 [(0, .ref (ad 100)), (1, .int v1), (2, .int v2)] → zG false D ad cA s μ H locs → f_X7_arrives_L61 v1 kx n v2 μ = some (r, μ') → W p l e ({ frames := 1, cells := 0, slots := 0, locals := 23 } : Room) s m args below meth c H locs 0 0 Q (F0 m 61 ls []) := by
  obtain ⟨hx, hb, hml, hown, hts, -, -, -⟩ := id X
  intro n
  induction n with
  | zero =>
    intro v2 μ H locs ls hl G h
    cases (show (none : Option (Unit × zM)) = some (r, μ') from h)
  | succ n ih =>
    intro v2 μ H locs ls hl G h
    rw [f_X7_arrives_L61] at h
    refine lv_iload_n hx hb dX7_arrives_61 rfl (lv_at hl 2 rfl) ?_
    refine lv_aload_n hx hb dX7_arrives_62 rfl (lv_at hl 0 rfl) ?_
    refine zz_geti X G fi_7_2 tl_100 kw_784 dX7_arrives_63 h (fun x13 h => ?_)
    refine lv_icmp_ge (tgt := 122) hx hb dX7_arrives_66 (by decide) (fun c14 => ?_) (fun c14 => ?_)
    · have h := (zz_br h).1 c14
      exact HX  μ _ _ _ (lv_sub hl [] rfl) G h
    have h := (zz_br h).2 c14
    refine lv_aload_n hx hb dX7_arrives_69 rfl (lv_at hl 0 rfl) ?_
    refine zz_getr X G fr_7_5 tl_100 rl_100_5 kw_787 dX7_arrives_70 ?_
    refine lv_iload_n hx hb dX7_arrives_73 rfl (lv_at hl 2 rfl) ?_
    refine zz_iald X G ia_30 tl_106 dX7_arrives_74 h (fun x15 h => ?_)
    refine lv_iload_n hx hb dX7_arrives_75 rfl (lv_at hl 1 rfl) ?_
    refine lv_icmp_ne (tgt := 99) hx hb dX7_arrives_76 (by decide) (fun c16 => ?_) (fun c16 => ?_)
    · have h := (zz_br h).1 c16
      refine lv_aload_n hx hb dX7_arrives_99 rfl (lv_at hl 0 rfl) ?_
      refine zz_getr X G fr_7_5 tl_100 rl_100_5 kw_787 dX7_arrives_100 ?_
      refine lv_iload_n hx hb dX7_arrives_103 rfl (lv_at hl 2 rfl) ?_
      refine zz_iald X G ia_30 tl_106 dX7_arrives_104 h (fun x17 h => ?_)
      refine lv_iload_n hx hb dX7_arrives_105 rfl (lv_at hl 1 rfl) ?_
      refine lv_icmp_ne (tgt := 116) hx hb dX7_arrives_106 (by decide) (fun c18 => ?_) (fun c18 => ?_)
      · have h := (zz_br h).1 c18
        obtain ⟨x19, ex19, h⟩ := zz_let h
        refine lv_iinc (v := x19) (lv' := [(2, .int x19), (0, .ref (ad 100)), (1, .int v1)]) hx hb dX7_arrives_116 hl (k := 2) rfl (by rw [← ex19]; rfl) (by decide) rfl (fun ls hl => ?_)
        refine lv_goto (tgt := 61) hx hb dX7_arrives_119 (by decide) ?_
        exact ih x19 μ _ _ _ (lv_sub hl [1, 2, 0] rfl) G h
      have h := (zz_br h).2 (fun q => q c18)
      refine lv_aload_n hx hb dX7_arrives_109 rfl (lv_at hl 0 rfl) ?_
      refine zz_getr X G fr_7_18 tl_100 rl_100_18 kw_800 dX7_arrives_110 ?_
      refine lv_iload_n hx hb dX7_arrives_113 rfl (lv_at hl 2 rfl) ?_
      refine lv_iconst (v := (1 : Int32)) hx hb dX7_arrives_114 (by decide) ?_
      refine zz_iast X G ia_30 tl_119 dX7_arrives_115 h (fun μ H locs G h => ?_)
      obtain ⟨x20, ex20, h⟩ := zz_let h
      refine lv_iinc (v := x20) (lv' := [(2, .int x20), (0, .ref (ad 100)), (1, .int v1)]) hx hb dX7_arrives_116 hl (k := 2) rfl (by rw [← ex20]; rfl) (by decide) rfl (fun ls hl => ?_)
      refine lv_goto (tgt := 61) hx hb dX7_arrives_119 (by decide) ?_
      exact ih x20 μ _ _ _ (lv_sub hl [1, 2, 0] rfl) G h
    have h := (zz_br h).2 (fun q => q c16)
    refine lv_aload_n hx hb dX7_arrives_79 rfl (lv_at hl 0 rfl) ?_
    refine zz_getr X G fr_7_3 tl_100 rl_100_3 kw_785 dX7_arrives_80 ?_
    refine lv_iload_n hx hb dX7_arrives_83 rfl (lv_at hl 2 rfl) ?_
    refine zz_iald X G ia_30 tl_104 dX7_arrives_84 h (fun x21 h => ?_)
    refine lv_iconst (v := (2 : Int32)) hx hb dX7_arrives_85 (by decide) ?_
    refine lv_icmp_ne (tgt := 99) hx hb dX7_arrives_86 (by decide) (fun c22 => ?_) (fun c22 => ?_)
    · have h := (zz_br h).1 c22
      refine lv_aload_n hx hb dX7_arrives_99 rfl (lv_at hl 0 rfl) ?_
      refine zz_getr X G fr_7_5 tl_100 rl_100_5 kw_787 dX7_arrives_100 ?_
      refine lv_iload_n hx hb dX7_arrives_103 rfl (lv_at hl 2 rfl) ?_
      refine zz_iald X G ia_30 tl_106 dX7_arrives_104 h (fun x23 h => ?_)
      refine lv_iload_n hx hb dX7_arrives_105 rfl (lv_at hl 1 rfl) ?_
      refine lv_icmp_ne (tgt := 116) hx hb dX7_arrives_106 (by decide) (fun c24 => ?_) (fun c24 => ?_)
      · have h := (zz_br h).1 c24
        obtain ⟨x25, ex25, h⟩ := zz_let h
        refine lv_iinc (v := x25) (lv' := [(2, .int x25), (0, .ref (ad 100)), (1, .int v1)]) hx hb dX7_arrives_116 hl (k := 2) rfl (by rw [← ex25]; rfl) (by decide) rfl (fun ls hl => ?_)
        refine lv_goto (tgt := 61) hx hb dX7_arrives_119 (by decide) ?_
        exact ih x25 μ _ _ _ (lv_sub hl [1, 2, 0] rfl) G h
      have h := (zz_br h).2 (fun q => q c24)
      refine lv_aload_n hx hb dX7_arrives_109 rfl (lv_at hl 0 rfl) ?_
      refine zz_getr X G fr_7_18 tl_100 rl_100_18 kw_800 dX7_arrives_110 ?_
      refine lv_iload_n hx hb dX7_arrives_113 rfl (lv_at hl 2 rfl) ?_
      refine lv_iconst (v := (1 : Int32)) hx hb dX7_arrives_114 (by decide) ?_
      refine zz_iast X G ia_30 tl_119 dX7_arrives_115 h (fun μ H locs G h => ?_)
      obtain ⟨x26, ex26, h⟩ := zz_let h
      refine lv_iinc (v := x26) (lv' := [(2, .int x26), (0, .ref (ad 100)), (1, .int v1)]) hx hb dX7_arrives_116 hl (k := 2) rfl (by rw [← ex26]; rfl) (by decide) rfl (fun ls hl => ?_)
      refine lv_goto (tgt := 61) hx hb dX7_arrives_119 (by decide) ?_
      exact ih x26 μ _ _ _ (lv_sub hl [1, 2, 0] rfl) G h
    have h := (zz_br h).2 (fun q => q c22)
    refine lv_aload_n hx hb dX7_arrives_89 rfl (lv_at hl 0 rfl) ?_
    refine lv_iload_n hx hb dX7_arrives_90 rfl (lv_at hl 2 rfl) ?_
    refine lv_iload_n hx hb dX7_arrives_91 rfl (lv_at hl 1 rfl) ?_
    refine lv_iconst (v := (2 : Int32)) hx hb dX7_arrives_92 (by decide) ?_
    refine zz_cv (rest := []) G h (fun r μ1 hf => zz_runV X G rc_7 tl_100 cv_X7_letsIn kw_1022 (c_X7_letsIn l D ad cA  hf) ⟨rfl, rfl, Nat.le_of_ble_eq_true rfl, Nat.le_of_ble_eq_true rfl⟩ rfl rfl hl.1 (Nat.le_of_ble_eq_true rfl) dX7_arrives_93) (fun _ μ H locs G h => ?_)
    refine lv_goto (tgt := 116) hx hb dX7_arrives_96 (by decide) ?_
    obtain ⟨x27, ex27, h⟩ := zz_let h
    refine lv_iinc (v := x27) (lv' := [(2, .int x27), (0, .ref (ad 100)), (1, .int v1)]) hx hb dX7_arrives_116 hl (k := 2) rfl (by rw [← ex27]; rfl) (by decide) rfl (fun ls hl => ?_)
    refine lv_goto (tgt := 61) hx hb dX7_arrives_119 (by decide) ?_
    exact ih x27 μ _ _ _ (lv_sub hl [1, 2, 0] rfl) G h
set_option maxHeartbeats 4000000 in
set_option maxRecDepth 100000 in
theorem c_X7_arrives (l : Launch) (D : va_G) (ad : Nat → Nat) (cA : Nat → ClassId) {a1 : Int32} {μ : zM} {r : Unit} {μ' : zM} (h : f_X7_arrives a1 μ = some (r, μ')) : zMet false D ad cA l yX7_arrives cX7_arrives 3 none ({ frames := 1, cells := 0, slots := 0, locals := 23 } : Room) [.ref (ad 100), .int a1] μ (zQv false D ad cA r μ') := by
  refine zMet_of "ButlerWeatherModel" ⟨by decide, rfl⟩ (Nat.le_of_ble_eq_true rfl) ?_
  intro p e s m args below meth c X G hr hlk ls hl
  have hl : lv_has ls 3 [(0, .ref (ad 100)), (1, .int a1)] := hl
  obtain ⟨hx, hb, hml, hown, hts, -, -, -⟩ := id X
  obtain ⟨Q, hQ⟩ : ∃ Q, Q = MQ below (zQv false D ad cA r μ') args s 0 0 (zA false ad) := ⟨_, rfl⟩
  rw [← hQ]
  unfold f_X7_arrives at h
  refine lv_iconst (v := (0 : Int32)) hx hb dX7_arrives_0 (by decide) ?_
  refine lv_istore_n (lv' := [(2, .int (0 : Int32)), (0, .ref (ad 100)), (1, .int a1)]) hx hb dX7_arrives_1 rfl hl (by decide) rfl (fun ls hl => ?_)
  refine w_X7_arrives_L2 X hQ hr hlk  (fun  μ H locs ls hl G h => ?_) 400 (0 : Int32) μ _ _ _ (lv_sub hl [1, 2, 0] rfl) G h
  refine lv_iconst (v := (0 : Int32)) hx hb dX7_arrives_59 (by decide) ?_
  refine lv_istore_n (lv' := [(2, .int (0 : Int32)), (0, .ref (ad 100)), (1, .int a1)]) hx hb dX7_arrives_60 rfl hl (by decide) rfl (fun ls hl => ?_)
  refine w_X7_arrives_L61 X hQ hr hlk  (fun  μ H locs ls hl G h => ?_) 400 (0 : Int32) μ _ _ _ (lv_sub hl [1, 2, 0] rfl) G h
  rw [hQ]
  exact zz_vret X G hr hlk dX7_arrives_122 h
set_option maxHeartbeats 4000000 in
set_option maxRecDepth 100000 in
theorem w_X7_onDuty_L2 {p : Program} {l : Launch} {e : Env} {s : State} {m : MethodId} {args : Array Value} {below : List Frame} {meth : Method} {c : Code} {Q : State → Prop} {D : va_G} {ad : Nat → Nat} {cA : Nat → ClassId} {r : Int32} {μ' : zM} (X : zX false D ad cA p s m args c cX7_onDuty "ButlerWeatherModel" 3) (hQ : Q = MQ below (zQi false D ad cA r μ') args s 0 0 (zA false ad)) (hr : meth.sig.returnType = (some .int)) (hlk : meth.locks = false) {v1 : Int32} {kx : zM → Option (Int32 × zM)} (HX : ∀ (μ : zM) (H : Heap) (locs : List Loc) (ls : Array Slot), lv_has ls 3 [] → zG false D ad cA s μ H locs → kx  μ = some (r, μ') → W p l e ({ frames := 1, cells := 0, slots := 0, locals := 22 } : Room) s m args below meth c H locs 0 0 Q (F0 m 37 ls [])) : ∀ (n : Nat) (v2 : Int32) (μ : zM) (H : Heap) (locs : List Loc) (ls : Array Slot), lv_has ls 3 [(0, .ref (ad 100)), (1, .int v1), (2, .int v2)] → zG false D ad cA s μ H locs → f_X7_onDuty_L2 v1 kx n v2 μ = some (r, μ') → W p l e ({ frames := 1, cells := 0, slots := 0, locals := 22 } : Room) s m args below meth c H locs 0 0 Q (F0 m 2 ls []) := by
  obtain ⟨hx, hb, hml, hown, hts, -, -, -⟩ := id X
  intro n
  induction n with
  | zero =>
    intro v2 μ H locs ls hl G h
    cases (show (none : Option (Int32 × zM)) = some (r, μ') from h)
  | succ n ih =>
    intro v2 μ H locs ls hl G h
    rw [f_X7_onDuty_L2] at h
    refine lv_iload_n hx hb dX7_onDuty_2 rfl (lv_at hl 2 rfl) ?_
    refine lv_aload_n hx hb dX7_onDuty_3 rfl (lv_at hl 0 rfl) ?_
    refine zz_geti X G fi_7_7 tl_100 kw_789 dX7_onDuty_4 h (fun x1 h => ?_)
    refine lv_icmp_ge (tgt := 37) hx hb dX7_onDuty_7 (by decide) (fun c2 => ?_) (fun c2 => ?_)
    · have h := (zz_br h).1 c2
      exact HX  μ _ _ _ (lv_sub hl [] rfl) G h
    have h := (zz_br h).2 c2
    refine lv_iload_n hx hb dX7_onDuty_10 rfl (lv_at hl 1 rfl) ?_
    refine lv_aload_n hx hb dX7_onDuty_11 rfl (lv_at hl 0 rfl) ?_
    refine zz_getr X G fr_7_9 tl_100 rl_100_9 kw_791 dX7_onDuty_12 ?_
    refine lv_iload_n hx hb dX7_onDuty_15 rfl (lv_at hl 2 rfl) ?_
    refine zz_iald X G ia_30 tl_110 dX7_onDuty_16 h (fun x3 h => ?_)
    refine lv_aload_n hx hb dX7_onDuty_17 rfl (lv_at hl 0 rfl) ?_
    refine zz_getr X G fr_7_10 tl_100 rl_100_10 kw_792 dX7_onDuty_18 ?_
    refine lv_iload_n hx hb dX7_onDuty_21 rfl (lv_at hl 2 rfl) ?_
    refine zz_iald X G ia_30 tl_111 dX7_onDuty_22 h (fun x4 h => ?_)
    refine zz_ci (rest := []) G h (fun r μ1 hf => zz_runS X G cs_X7_in kw_905 (c_X7_in l D ad cA  hf) ⟨rfl, rfl, Nat.le_of_ble_eq_true rfl, Nat.le_of_ble_eq_true rfl⟩ rfl rfl hl.1 (Nat.le_of_ble_eq_true rfl) dX7_onDuty_23) (fun x5 μ H locs G h => ?_)
    refine lv_if_eq (tgt := 31) hx hb dX7_onDuty_26 (by decide) (fun c6 => ?_) (fun c6 => ?_)
    · have h := (zz_br h).1 c6
      obtain ⟨x7, ex7, h⟩ := zz_let h
      refine lv_iinc (v := x7) (lv' := [(2, .int x7), (0, .ref (ad 100)), (1, .int v1)]) hx hb dX7_onDuty_31 hl (k := 2) rfl (by rw [← ex7]; rfl) (by decide) rfl (fun ls hl => ?_)
      refine lv_goto (tgt := 2) hx hb dX7_onDuty_34 (by decide) ?_
      exact ih x7 μ _ _ _ (lv_sub hl [1, 2, 0] rfl) G h
    have h := (zz_br h).2 c6
    refine lv_iload_n hx hb dX7_onDuty_29 rfl (lv_at hl 2 rfl) ?_
    rw [hQ]
    exact zz_iret X G hr hlk dX7_onDuty_30 h
set_option maxHeartbeats 4000000 in
set_option maxRecDepth 100000 in
theorem c_X7_onDuty (l : Launch) (D : va_G) (ad : Nat → Nat) (cA : Nat → ClassId) {a1 : Int32} {μ : zM} {r : Int32} {μ' : zM} (h : f_X7_onDuty a1 μ = some (r, μ')) : zMet false D ad cA l yX7_onDuty cX7_onDuty 3 (some .int) ({ frames := 1, cells := 0, slots := 0, locals := 22 } : Room) [.ref (ad 100), .int a1] μ (zQi false D ad cA r μ') := by
  refine zMet_of "ButlerWeatherModel" ⟨by decide, rfl⟩ (Nat.le_of_ble_eq_true rfl) ?_
  intro p e s m args below meth c X G hr hlk ls hl
  have hl : lv_has ls 3 [(0, .ref (ad 100)), (1, .int a1)] := hl
  obtain ⟨hx, hb, hml, hown, hts, -, -, -⟩ := id X
  obtain ⟨Q, hQ⟩ : ∃ Q, Q = MQ below (zQi false D ad cA r μ') args s 0 0 (zA false ad) := ⟨_, rfl⟩
  rw [← hQ]
  unfold f_X7_onDuty at h
  refine lv_iconst (v := (0 : Int32)) hx hb dX7_onDuty_0 (by decide) ?_
  refine lv_istore_n (lv' := [(2, .int (0 : Int32)), (0, .ref (ad 100)), (1, .int a1)]) hx hb dX7_onDuty_1 rfl hl (by decide) rfl (fun ls hl => ?_)
  refine w_X7_onDuty_L2 X hQ hr hlk  (fun  μ H locs ls hl G h => ?_) 400 (0 : Int32) μ _ _ _ (lv_sub hl [1, 2, 0] rfl) G h
  refine lv_iconst (v := (-1 : Int32)) hx hb dX7_onDuty_37 (by decide) ?_
  rw [hQ]
  exact zz_iret X G hr hlk dX7_onDuty_38 h
set_option maxHeartbeats 4000000 in
set_option maxRecDepth 100000 in
theorem w_X7_hasCard_L5 {p : Program} {l : Launch} {e : Env} {s : State} {m : MethodId} {args : Array Value} {below : List Frame} {meth : Method} {c : Code} {Q : State → Prop} {D : va_G} {ad : Nat → Nat} {cA : Nat → ClassId} {r : Int32} {μ' : zM} (X : zX false D ad cA p s m args c cX7_hasCard "ButlerWeatherModel" 5) (hQ : Q = MQ below (zQi false D ad cA r μ') args s 0 0 (zA false ad)) (hr : meth.sig.returnType = (some .boolean)) (hlk : meth.locks = false) {v1 : Int32} {v2 : Int32} {kx : Int32 → zM → Option (Int32 × zM)} (HX : ∀ (w3 : Int32) (μ : zM) (H : Heap) (locs : List Loc) (ls : Array Slot), lv_has ls 5 [(3, .int w3)] → zG false D ad cA s μ H locs → kx w3 μ = some (r, μ') → W p l e ({ frames := 1, cells := 0, slots := 0, locals := 21 } : Room) s m args below meth c H locs 0 0 Q (F0 m 64 ls [])) : ∀ (n : Nat) (v3 : Int32) (v4 : Int32) (μ : zM) (H : Heap) (locs : List Loc) (ls : Array Slot), lv_has ls 5 [(0, .ref (ad 100)), (1, .int v1), (2, .int v2), (3, .int v3), (4, .int v4)] → zG false D ad cA s μ H locs → f_X7_hasCard_L5 v1 v2 kx n v3 v4 μ = some (r, μ') → W p l e ({ frames := 1, cells := 0, slots := 0, locals := 21 } : Room) s m args below meth c H locs 0 0 Q (F0 m 5 ls []) := by
  obtain ⟨hx, hb, hml, hown, hts, -, -, -⟩ := id X
  intro n
  induction n with
  | zero =>
    intro v3 v4 μ H locs ls hl G h
    cases (show (none : Option (Int32 × zM)) = some (r, μ') from h)
  | succ n ih =>
    intro v3 v4 μ H locs ls hl G h
    rw [f_X7_hasCard_L5] at h
    refine lv_iload hx hb dX7_hasCard_5 (lv_at hl 4 rfl) ?_
    refine lv_aload_n hx hb dX7_hasCard_7 rfl (lv_at hl 0 rfl) ?_
    refine zz_geti X G fi_7_14 tl_100 kw_796 dX7_hasCard_8 h (fun x1 h => ?_)
    refine lv_icmp_ge (tgt := 64) hx hb dX7_hasCard_11 (by decide) (fun c2 => ?_) (fun c2 => ?_)
    · have h := (zz_br h).1 c2
      exact HX v3 μ _ _ _ (lv_sub hl [3] rfl) G h
    have h := (zz_br h).2 c2
    refine lv_iload_n hx hb dX7_hasCard_14 rfl (lv_at hl 3 rfl) ?_
    refine lv_if_ne (tgt := 52) hx hb dX7_hasCard_15 (by decide) (fun c3 => ?_) (fun c3 => ?_)
    · have h := (zz_br h).1 c3
      refine lv_iconst (v := (1 : Int32)) hx hb dX7_hasCard_52 (by decide) ?_
      refine lv_goto (tgt := 57) hx hb dX7_hasCard_53 (by decide) ?_
      refine lv_istore_n (lv' := [(3, .int (1 : Int32)), (0, .ref (ad 100)), (1, .int v1), (2, .int v2), (4, .int v4)]) hx hb dX7_hasCard_57 rfl hl (by decide) rfl (fun ls hl => ?_)
      obtain ⟨x4, ex4, h⟩ := zz_let h
      refine lv_iinc (v := x4) (lv' := [(4, .int x4), (3, .int (1 : Int32)), (0, .ref (ad 100)), (1, .int v1), (2, .int v2)]) hx hb dX7_hasCard_58 hl (k := 4) rfl (by rw [← ex4]; rfl) (by decide) rfl (fun ls hl => ?_)
      refine lv_goto (tgt := 5) hx hb dX7_hasCard_61 (by decide) ?_
      exact ih (1 : Int32) x4 μ _ _ _ (lv_sub hl [2, 3, 4, 1, 0] rfl) G h
    have h := (zz_br h).2 (fun q => q c3)
    refine lv_aload_n hx hb dX7_hasCard_18 rfl (lv_at hl 0 rfl) ?_
    refine zz_getr X G fr_7_16 tl_100 rl_100_16 kw_798 dX7_hasCard_19 ?_
    refine lv_iload hx hb dX7_hasCard_22 (lv_at hl 4 rfl) ?_
    refine zz_iald X G ia_30 tl_117 dX7_hasCard_24 h (fun x5 h => ?_)
    refine lv_iload_n hx hb dX7_hasCard_25 rfl (lv_at hl 1 rfl) ?_
    refine lv_icmp_ne (tgt := 56) hx hb dX7_hasCard_26 (by decide) (fun c6 => ?_) (fun c6 => ?_)
    · have h := (zz_br h).1 c6
      refine lv_iconst (v := (0 : Int32)) hx hb dX7_hasCard_56 (by decide) ?_
      refine lv_istore_n (lv' := [(3, .int (0 : Int32)), (0, .ref (ad 100)), (1, .int v1), (2, .int v2), (4, .int v4)]) hx hb dX7_hasCard_57 rfl hl (by decide) rfl (fun ls hl => ?_)
      obtain ⟨x7, ex7, h⟩ := zz_let h
      refine lv_iinc (v := x7) (lv' := [(4, .int x7), (3, .int (0 : Int32)), (0, .ref (ad 100)), (1, .int v1), (2, .int v2)]) hx hb dX7_hasCard_58 hl (k := 4) rfl (by rw [← ex7]; rfl) (by decide) rfl (fun ls hl => ?_)
      refine lv_goto (tgt := 5) hx hb dX7_hasCard_61 (by decide) ?_
      exact ih (0 : Int32) x7 μ _ _ _ (lv_sub hl [2, 3, 4, 1, 0] rfl) G h
    have h := (zz_br h).2 (fun q => q c6)
    refine lv_aload_n hx hb dX7_hasCard_29 rfl (lv_at hl 0 rfl) ?_
    refine zz_getr X G fr_7_15 tl_100 rl_100_15 kw_797 dX7_hasCard_30 ?_
    refine lv_iload hx hb dX7_hasCard_33 (lv_at hl 4 rfl) ?_
    refine zz_iald X G ia_30 tl_116 dX7_hasCard_35 h (fun x8 h => ?_)
    refine lv_iload_n hx hb dX7_hasCard_36 rfl (lv_at hl 2 rfl) ?_
    refine lv_icmp_gt (tgt := 56) hx hb dX7_hasCard_37 (by decide) (fun c9 => ?_) (fun c9 => ?_)
    · have h := (zz_br h).1 c9
      refine lv_iconst (v := (0 : Int32)) hx hb dX7_hasCard_56 (by decide) ?_
      refine lv_istore_n (lv' := [(3, .int (0 : Int32)), (0, .ref (ad 100)), (1, .int v1), (2, .int v2), (4, .int v4)]) hx hb dX7_hasCard_57 rfl hl (by decide) rfl (fun ls hl => ?_)
      obtain ⟨x10, ex10, h⟩ := zz_let h
      refine lv_iinc (v := x10) (lv' := [(4, .int x10), (3, .int (0 : Int32)), (0, .ref (ad 100)), (1, .int v1), (2, .int v2)]) hx hb dX7_hasCard_58 hl (k := 4) rfl (by rw [← ex10]; rfl) (by decide) rfl (fun ls hl => ?_)
      refine lv_goto (tgt := 5) hx hb dX7_hasCard_61 (by decide) ?_
      exact ih (0 : Int32) x10 μ _ _ _ (lv_sub hl [2, 3, 4, 1, 0] rfl) G h
    have h := (zz_br h).2 c9
    refine lv_aload_n hx hb dX7_hasCard_40 rfl (lv_at hl 0 rfl) ?_
    refine zz_geti X G fi_7_17 tl_100 kw_799 dX7_hasCard_41 h (fun x11 h => ?_)
    refine lv_iload hx hb dX7_hasCard_44 (lv_at hl 4 rfl) ?_
    refine zz_ci (rest := []) G h (fun r μ1 hf => zz_runS X G cs_X7_isIn kw_1038 (c_X7_isIn l D ad cA  hf) ⟨rfl, rfl, Nat.le_of_ble_eq_true rfl, Nat.le_of_ble_eq_true rfl⟩ rfl rfl hl.1 (Nat.le_of_ble_eq_true rfl) dX7_hasCard_46) (fun x12 μ H locs G h => ?_)
    refine lv_if_ne (tgt := 56) hx hb dX7_hasCard_49 (by decide) (fun c13 => ?_) (fun c13 => ?_)
    · have h := (zz_br h).1 c13
      refine lv_iconst (v := (0 : Int32)) hx hb dX7_hasCard_56 (by decide) ?_
      refine lv_istore_n (lv' := [(3, .int (0 : Int32)), (0, .ref (ad 100)), (1, .int v1), (2, .int v2), (4, .int v4)]) hx hb dX7_hasCard_57 rfl hl (by decide) rfl (fun ls hl => ?_)
      obtain ⟨x14, ex14, h⟩ := zz_let h
      refine lv_iinc (v := x14) (lv' := [(4, .int x14), (3, .int (0 : Int32)), (0, .ref (ad 100)), (1, .int v1), (2, .int v2)]) hx hb dX7_hasCard_58 hl (k := 4) rfl (by rw [← ex14]; rfl) (by decide) rfl (fun ls hl => ?_)
      refine lv_goto (tgt := 5) hx hb dX7_hasCard_61 (by decide) ?_
      exact ih (0 : Int32) x14 μ _ _ _ (lv_sub hl [2, 3, 4, 1, 0] rfl) G h
    have h := (zz_br h).2 (fun q => q c13)
    refine lv_iconst (v := (1 : Int32)) hx hb dX7_hasCard_52 (by decide) ?_
    refine lv_goto (tgt := 57) hx hb dX7_hasCard_53 (by decide) ?_
    refine lv_istore_n (lv' := [(3, .int (1 : Int32)), (0, .ref (ad 100)), (1, .int v1), (2, .int v2), (4, .int v4)]) hx hb dX7_hasCard_57 rfl hl (by decide) rfl (fun ls hl => ?_)
    obtain ⟨x15, ex15, h⟩ := zz_let h
    refine lv_iinc (v := x15) (lv' := [(4, .int x15), (3, .int (1 : Int32)), (0, .ref (ad 100)), (1, .int v1), (2, .int v2)]) hx hb dX7_hasCard_58 hl (k := 4) rfl (by rw [← ex15]; rfl) (by decide) rfl (fun ls hl => ?_)
    refine lv_goto (tgt := 5) hx hb dX7_hasCard_61 (by decide) ?_
    exact ih (1 : Int32) x15 μ _ _ _ (lv_sub hl [2, 3, 4, 1, 0] rfl) G h
set_option maxHeartbeats 4000000 in
set_option maxRecDepth 100000 in
theorem c_X7_hasCard (l : Launch) (D : va_G) (ad : Nat → Nat) (cA : Nat → ClassId) {a1 : Int32} {a2 : Int32} {μ : zM} {r : Int32} {μ' : zM} (h : f_X7_hasCard a1 a2 μ = some (r, μ')) : zMet false D ad cA l yX7_hasCard cX7_hasCard 5 (some .boolean) ({ frames := 1, cells := 0, slots := 0, locals := 21 } : Room) [.ref (ad 100), .int a1, .int a2] μ (zQi false D ad cA r μ') := by
  refine zMet_of "ButlerWeatherModel" ⟨by decide, rfl⟩ (Nat.le_of_ble_eq_true rfl) ?_
  intro p e s m args below meth c X G hr hlk ls hl
  have hl : lv_has ls 5 [(0, .ref (ad 100)), (1, .int a1), (2, .int a2)] := hl
  obtain ⟨hx, hb, hml, hown, hts, -, -, -⟩ := id X
  obtain ⟨Q, hQ⟩ : ∃ Q, Q = MQ below (zQi false D ad cA r μ') args s 0 0 (zA false ad) := ⟨_, rfl⟩
  rw [← hQ]
  unfold f_X7_hasCard at h
  refine lv_iconst (v := (0 : Int32)) hx hb dX7_hasCard_0 (by decide) ?_
  refine lv_istore_n (lv' := [(3, .int (0 : Int32)), (0, .ref (ad 100)), (1, .int a1), (2, .int a2)]) hx hb dX7_hasCard_1 rfl hl (by decide) rfl (fun ls hl => ?_)
  refine lv_iconst (v := (0 : Int32)) hx hb dX7_hasCard_2 (by decide) ?_
  refine lv_istore (lv' := [(4, .int (0 : Int32)), (3, .int (0 : Int32)), (0, .ref (ad 100)), (1, .int a1), (2, .int a2)]) hx hb dX7_hasCard_3 hl (by decide) rfl (fun ls hl => ?_)
  refine w_X7_hasCard_L5 X hQ hr hlk  (fun x16 μ H locs ls hl G h => ?_) 400 (0 : Int32) (0 : Int32) μ _ _ _ (lv_sub hl [2, 3, 4, 1, 0] rfl) G h
  refine lv_iload_n hx hb dX7_hasCard_64 rfl (lv_at hl 0 rfl) ?_
  rw [hQ]
  exact zz_zret X G hr hlk dX7_hasCard_65 h
