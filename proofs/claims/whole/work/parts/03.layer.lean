-- LAYER: the class's and the reference's cells as one memory of numbers; every cell has a fixed name (id), a fixed type, fixed references
def GT : List Cond := lw_tbl.filter goodWord
theorem gt_at {w : Cond} (i : Nat) (h : lw_tbl[i]? = some w) (g : goodWord w = true) : w ∈ GT := List.mem_filter.mpr ⟨List.mem_of_getElem? h, g⟩
theorem gt_in {w : Cond} (h : w ∈ GT) : w ∈ lw_tbl := (List.mem_filter.mp h).1
theorem gt_good {w : Cond} (h : w ∈ GT) : (w.onTables && w.keeps) = true ∨ ∃ ty, w = .arrayClass ty := good_of_word (List.mem_filter.mp h).2
theorem gt_goodIn {ws : List Cond} (h : ∀ w ∈ ws, w ∈ GT) : GoodIn GT ws := fun w hw => ⟨h w hw, gt_good (h w hw)⟩
abbrev zM : Type := Nat → Nat → Int32
def zup (μ : zM) (j i : Nat) (v : Int32) : zM := fun a => if a = j then upd (μ j) i v else μ a
theorem zup_s {μ : zM} {j i : Nat} {v : Int32} : zup μ j i v j = upd (μ j) i v := if_pos rfl
theorem zup_n {μ : zM} {j i a : Nat} {v : Int32} (h : a ≠ j) : zup μ j i v a = μ a := if_neg h
/-- types of cells: below 10 an object of that class of vwCl; 10, 30 int[]; 31 boolean[]; 12 int[][]; 13 Text[]; 14 Sheet[]; 20 a static int[] -/
def zT : List Nat := [6, 13, 5, 10, 5, 10, 0, 10, 10, 1, 10, 10, 14, 4, 10, 4, 10, 4, 10, 4, 10, 2, 10, 10, 10, 10, 10, 10, 10, 10, 10, 10, 10, 10, 2, 10, 10, 10, 10, 10, 10, 10, 10, 10, 10, 10, 10, 3, 12, 12, 10, 10, 10, 10, 10, 10, 10, 10, 10, 10, 10, 10, 10, 10, 10, 10, 10, 99, 99, 99, 20, 20, 20, 99, 99, 99, 99, 99, 99, 99, 99, 99, 99, 99, 99, 99, 99, 99, 99, 99, 99, 99, 99, 99, 99, 99, 99, 99, 99, 99, 7, 30, 30, 99, 30, 30, 30, 30, 99, 30, 30, 30, 99, 30, 30, 99, 30, 30, 99, 30, 30, 30, 99, 99, 30, 30, 30, 30, 30, 99, 30, 30, 30, 31, 30, 30, 30, 30]
def zty (id : Nat) : Nat := zT.getD id 99
/-- lengths of arrays -/
def zL : List Nat := [0, 2, 0, 39, 0, 15, 0, 8, 8, 0, 8, 8, 4, 0, 60, 0, 60, 0, 60, 0, 60, 0, 8, 8, 8, 8, 8, 4, 4, 4, 24, 8, 8, 8, 0, 8, 8, 8, 8, 8, 4, 4, 4, 24, 8, 8, 8, 0, 8, 9, 9, 9, 9, 9, 9, 9, 9, 9, 24, 24, 24, 24, 24, 24, 24, 24, 24, 0, 0, 0, 4, 3, 4, 0, 0, 0, 0, 0, 0, 0, 0, 0, 0, 0, 0, 0, 0, 0, 0, 0, 0, 0, 0, 0, 0, 0, 0, 0, 0, 0, 0, 2, 78, 0, 9, 9, 9, 9, 0, 5, 5, 5, 0, 9, 9, 0, 9, 9, 0, 8, 8, 8, 0, 0, 192, 24, 24, 24, 2, 0, 8, 8, 240, 4, 4, 4, 240, 60]
def zln (id : Nat) : Nat := zL.getD id 0
def zrf (id k : Nat) : Nat := match zty id with
  | 6 => [1, 6, 9, 12, 21, 34, 47].getD k 0
  | 13 => 2 + 2 * k
  | 5 => if k = 0 then 69 + id / 2 else id + 1
  | 0 => id + 1 + k
  | 1 => id + 1 + k
  | 14 => 13 + 2 * k
  | 4 => id + 1
  | 2 => if k < 6 then id + k else id + k - 1
  | 3 => if k = 0 then 48 else 49
  | 12 => if id = 48 then 50 + k else 58 + k
  | 7 => 101 + k
  | _ => 0
/-- which slots of a class are numbers -/
def zisI (c k : Nat) : Bool := match c with
  | 0 => k == 2
  | 1 => k == 2
  | 2 => k == 0 || k == 6
  | 3 => k == 1
  | 4 => k == 0 || k == 1
  | 5 => k == 1 || k == 3
  | 6 => k == 7 || k == 8
  | _ => k == 2 || k == 7 || k == 11 || k == 14 || k == 17 || k == 21 || k == 22 || k == 28 || k == 37
def znf (c : Nat) : Nat := [3, 3, 14, 3, 3, 4, 9, 38].getD c 0
def zft (t : Nat) : FieldType := match t with
  | 31 => .boolean
  | 12 => .array .int
  | 13 => .object "ButlerWeather$Text"
  | 14 => .object "ButlerWeather$Sheet"
  | _ => .int
/-- what the static arrays hold -/
def zsv (id k : Nat) : Int32 := if id = 70 then [0, 2, 3, 2].getD k 0 else if id = 71 then [1, 3, 3].getD k 0 else [-1, -3, -2, 4].getD k 0
def zfs (ad : Nat → Nat) (μ : zM) (id : Nat) : List Value := (List.range (znf (zty id))).map (fun k => if zisI (zty id) k = true then .int (μ id k) else .ref (ad (zrf id k)))
def zcell (ad : Nat → Nat) (cA : Nat → ClassId) (μ : zM) (id : Nat) : va_E :=
  if zty id < 10 then .inr (zty id, zfs ad μ id)
  else if zty id = 12 ∨ zty id = 13 ∨ zty id = 14 then .inl (cA id, zln id, .inr (.inr (.inr (.inr (fun i => if i < zln id then some (ad (zrf id i)) else none)))))
  else .inl (cA id, zln id, .inl (μ id))
/-- the cells of a side: true the class's, false the reference's -/
def zS (b : Bool) : List Nat := if b = true then List.range 67 else [100, 101, 102, 104, 105, 106, 107, 109, 110, 111, 113, 114, 116, 117, 119, 120, 121, 124, 125, 126, 127, 128, 130, 131, 132, 133, 134, 135, 136, 137]
def zok (b : Bool) (t : Nat) : Bool := if b = true then decide (t < 20) && !(t == 7) else t == 7 || t == 30 || t == 31
theorem zty_big {id : Nat} (h : 138 ≤ id) : zty id = 99 := by
  unfold zty
  rw [List.getD_eq_getElem?_getD, List.getElem?_eq_none (by exact h)]
  rfl
theorem z_inA : (List.range 138).all (fun id => [true, false].all (fun b => !(zok b (zty id)) || decide (id ∈ zS b))) = true := by decide +kernel
theorem z_in {b : Bool} {id t : Nat} (h : zty id = t) (hb : zok b t = true) : id ∈ zS b := by
  subst h
  by_cases hi : id < 138
  · have h1 := List.all_eq_true.mp z_inA id (List.mem_range.mpr hi)
    have h2 := List.all_eq_true.mp h1 b (by cases b <;> simp)
    rw [hb] at h2
    simpa using h2
  · rw [zty_big (by omega)] at hb
    cases b <;> simp [zok] at hb
theorem zS_nd (b : Bool) : va_nd (zS b) = true := by cases b <;> decide +kernel
theorem zS_one {b : Bool} {i j id : Nat} (hi : (zS b)[i]? = some id) (hj : (zS b)[j]? = some id) : i = j := va_nd_inj (zS b) (zS_nd b) i j id hi hj
def zW (b : Bool) (ad : Nat → Nat) (cA : Nat → ClassId) (μ : zM) : va_W := (zS b).map (fun id => (ad id, zcell ad cA μ id))
def zInj (b : Bool) (ad : Nat → Nat) : Prop := ∀ i, i ∈ zS b → ∀ j, j ∈ zS b → ad i = ad j → i = j
def zA (b : Bool) (ad : Nat → Nat) : Nat → Prop := fun q => ∃ id, id ∈ zS b ∧ q = ad id
theorem zW_at {b : Bool} {ad : Nat → Nat} {cA : Nat → ClassId} {μ : zM} {id : Nat} (hi : id ∈ zS b) : ∃ k : Nat, (zS b)[k]? = some id ∧ (zW b ad cA μ)[k]? = some (ad id, zcell ad cA μ id) := by
  obtain ⟨k, hk⟩ := List.getElem?_of_mem hi
  exact ⟨k, hk, by unfold zW; rw [List.getElem?_map, hk]; rfl⟩
theorem zW_of {b : Bool} {ad : Nat → Nat} {cA : Nat → ClassId} {μ : zM} {k : Nat} {q : Nat × va_E} (h : (zW b ad cA μ)[k]? = some q) : ∃ id, id ∈ zS b ∧ (zS b)[k]? = some id ∧ q = (ad id, zcell ad cA μ id) := by
  unfold zW at h
  rw [List.getElem?_map] at h
  cases hk : (zS b)[k]? with
  | none => rw [hk] at h; cases h
  | some id => rw [hk] at h; exact ⟨id, List.mem_of_getElem? hk, rfl, (Option.some.inj h).symm⟩
theorem zD_of {b : Bool} {ad : Nat → Nat} (hI : zInj b ad) (cA : Nat → ClassId) (μ : zM) : va_D (zA b ad) (zW b ad cA μ) := by
  refine ⟨fun i j x y hi hj hxy => ?_, fun k q hk => ?_⟩
  · obtain ⟨a, h1, h2, rfl⟩ := zW_of hi
    obtain ⟨c, h3, h4, rfl⟩ := zW_of hj
    have e := hI a h1 c h3 hxy
    subst e
    exact zS_one h2 h4
  · obtain ⟨a, h1, h2, rfl⟩ := zW_of hk
    exact ⟨a, h1, rfl⟩
theorem zW_set {b : Bool} {ad : Nat → Nat} {cA : Nat → ClassId} {μ μ' : zM} {id k : Nat} {e : va_E} (hk : (zS b)[k]? = some id) (ho : ∀ j, j ≠ id → zcell ad cA μ' j = zcell ad cA μ j) (he : e = zcell ad cA μ' id) : (zW b ad cA μ).set k (ad id, e) = zW b ad cA μ' := by
  apply List.ext_getElem?
  intro n
  by_cases hn : n = k
  · subst hn
    have hl : n < (zW b ad cA μ).length := by unfold zW; rw [List.length_map]; exact (List.getElem?_eq_some_iff.mp hk).1
    rw [List.getElem?_set_self hl]
    unfold zW
    rw [List.getElem?_map, hk, he]
    rfl
  · rw [List.getElem?_set_ne (Ne.symm hn)]
    unfold zW
    rw [List.getElem?_map, List.getElem?_map]
    cases hj : (zS b)[n]? with
    | none => rfl
    | some j =>
      have hne : j ≠ id := fun q => hn (zS_one (by rw [q] at hj; exact hj) hk)
      show some (ad j, zcell ad cA μ j) = some (ad j, zcell ad cA μ' j)
      rw [ho j hne]
theorem zcell_n {ad : Nat → Nat} {cA : Nat → ClassId} {μ : zM} {id k j : Nat} {v : Int32} (h : j ≠ id) : zcell ad cA (zup μ id k v) j = zcell ad cA μ j := by
  unfold zcell zfs
  rw [zup_n h]
theorem zcell_o {ad : Nat → Nat} {cA : Nat → ClassId} {μ : zM} {id c : Nat} (h : zty id = c) (hc : c < 10) : zcell ad cA μ id = .inr (c, zfs ad μ id) := by
  subst h
  unfold zcell
  rw [if_pos hc]
theorem zcell_a {ad : Nat → Nat} {cA : Nat → ClassId} {μ : zM} {id t : Nat} (h : zty id = t) (hc : ¬ t < 10) (hc2 : ¬ (t = 12 ∨ t = 13 ∨ t = 14)) : zcell ad cA μ id = .inl (cA id, zln id, .inl (μ id)) := by
  subst h
  unfold zcell
  rw [if_neg hc, if_neg hc2]
theorem zcell_r {ad : Nat → Nat} {cA : Nat → ClassId} {μ : zM} {id t : Nat} (h : zty id = t) (hc : ¬ t < 10) (hc2 : t = 12 ∨ t = 13 ∨ t = 14) : zcell ad cA μ id = .inl (cA id, zln id, .inr (.inr (.inr (.inr (fun i => if i < zln id then some (ad (zrf id i)) else none))))) := by
  subst h
  unfold zcell
  rw [if_neg hc, if_pos hc2]
theorem zfs_at {ad : Nat → Nat} {μ : zM} {id c k : Nat} (h : zty id = c) (hk : k < znf c) : (zfs ad μ id)[k]? = some (if zisI c k = true then .int (μ id k) else .ref (ad (zrf id k))) := by
  subst h
  unfold zfs
  rw [List.getElem?_map, List.getElem?_range hk]
  rfl
theorem zfs_len {ad : Nat → Nat} {μ : zM} {id c : Nat} (h : zty id = c) : (zfs ad μ id).length = znf c := by
  subst h
  unfold zfs
  rw [List.length_map, List.length_range]
theorem zfs_set {ad : Nat → Nat} {μ : zM} {id c k : Nat} {v : Int32} (h : zty id = c) (hk : k < znf c) (hI : zisI c k = true) : (zfs ad μ id).set k (.int v) = zfs ad (zup μ id k v) id := by
  apply List.ext_getElem?
  intro n
  by_cases hn : n = k
  · subst hn
    rw [List.getElem?_set_self (by rw [zfs_len h]; exact hk), zfs_at h hk, if_pos hI, zup_s]
    simp [upd]
  · rw [List.getElem?_set_ne (Ne.symm hn)]
    by_cases hl : n < znf c
    · rw [zfs_at h hl, zfs_at h hl, zup_s]
      simp [upd, hn]
    · rw [List.getElem?_eq_none (by rw [zfs_len h]; omega), List.getElem?_eq_none (by rw [zfs_len h]; omega)]
/-- the tables: classes, and each array's class -/
def zK (b : Bool) (D : va_G) (cA : Nat → ClassId) (U : State) : Prop := (∀ (c : Nat) (q : vw_C), vwCl[c]? = some q → u_Kn U q.1 q.2.1 q.2.2 (D.1 c) (D.2 c)) ∧ ∀ id, id ∈ zS b → 10 ≤ zty id → ArrOfT U (cA id) (zft (zty id)) ∧ va_RA U (cA id) (zft (zty id))
theorem zK.moved {b : Bool} {D : va_G} {cA : Nat → ClassId} {u U : State} (hvm : u.vm.Alike U.vm) (h : zK b D cA u) : zK b D cA U := ⟨fun c q hq => u_Kn_moved hvm (h.1 c q hq), fun id h1 h2 => ⟨arrOfT_moved hvm (h.2 id h1 h2).1, (h.2 id h1 h2).2.moved hvm⟩⟩
theorem zK.k0 {b : Bool} {D : va_G} {cA : Nat → ClassId} {U : State} (h : zK b D cA U) : va_K D vwCl [] U := ⟨h.1, fun k q hk => by simp at hk⟩
theorem zK.k1 {b : Bool} {D : va_G} {cA : Nat → ClassId} {U : State} (h : zK b D cA U) {id t : Nat} (hi : id ∈ zS b) (ht : zty id = t) (h10 : 10 ≤ t) : va_K D vwCl [(cA id, zft t)] U := by
  subst ht
  refine ⟨h.1, fun k q hk => ?_⟩
  cases k with
  | zero => cases hk; exact h.2 id hi h10
  | succ k => simp at hk
/-- what a side's methods use beside their cells: static arrays, a static field, links to nest mates -/
def zNw : List Cond := [.methodLinkNest "ButlerWeather$Text" 37 yX6_within "ButlerWeather", .methodLinkNest "ButlerWeather$House" 52 yX6_within "ButlerWeather", .methodLinkNest "ButlerWeather$Odds" 47 yX6_within "ButlerWeather", .methodLinkNest "ButlerWeather$Sheet" 26 yX6_within "ButlerWeather"]
def zSt (b : Bool) (ad : Nat → Nat) (U : State) (H : Heap) : Prop := b = true → ((∀ id, zty id = 20 → va_T .int (ad id) (zln id) (fun j => .int (zsv id j)) (zA b ad) U H) ∧ va_Z "ButlerWeather" "WARMER" "[I" (.ref (ad 72)) (zA b ad) U H ∧ (∀ w ∈ zNw, va_Nw w U) ∧ va_Nw (.fieldLinkNest "ButlerWeather$House" 103 "ButlerWeather" "WARMER" "[I" "ButlerWeather") U)
theorem zSt.warm {b : Bool} {ad : Nat → Nat} {s U : State} {H0 H : Heap} (h : zSt b ad s H0) (hW : s.WarmedH U.vm) (hq : ∀ a : Nat, a < H0.size → ¬ zA b ad a → H[a]? = H0[a]?) : zSt b ad U H := by
  intro hb
  obtain ⟨h1, h2, h3, h4⟩ := h hb
  refine ⟨fun id hi => (((h1 id hi).kept hq).moved hW.alike), ((h2.kept hq).moved hW.alike), fun w hw => ?_, h4.warmF hW⟩
  have h5 := h3 w hw
  simp only [zNw, List.mem_cons, List.not_mem_nil, or_false] at hw
  rcases hw with rfl | rfl | rfl | rfl <;> exact h5.warmM hW
/-- the heap holds the memory μ -/
def zH (b : Bool) (D : va_G) (ad : Nat → Nat) (cA : Nat → ClassId) (μ : zM) (U : State) : Prop := zInj b ad ∧ va_P D vwCl (zW b ad cA μ) U.heap ∧ zK b D cA U ∧ zSt b ad U U.heap
