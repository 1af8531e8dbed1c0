-- WORDS OF THE FUNCTIONAL PROGRAMS: each names what it reads or makes; 'none' where the machine would throw
def gI {α : Type} (μ : zM) (id k : Nat) (c : Int32 → Option α) : Option α := c (μ id k)
def pI {α : Type} (μ : zM) (id k : Nat) (v : Int32) (c : zM → Option α) : Option α := c (zup μ id k v)
def vI {α : Type} (x : Int32) (c : Int32 → Option α) : Option α := c x
def vJ {α : Type} (x : Int64) (c : Int64 → Option α) : Option α := c x
def ldI {α : Type} (μ : zM) (id : Nat) (i : Int32) (c : Int32 → Option α) : Option α := if i < 0 ∨ zln id ≤ i.toNatClampNeg then none else c (μ id i.toNatClampNeg)
def stI {α : Type} (μ : zM) (id : Nat) (i v : Int32) (c : zM → Option α) : Option α := if i < 0 ∨ zln id ≤ i.toNatClampNeg then none else c (zup μ id i.toNatClampNeg v)
def ldS {α : Type} (id : Nat) (i : Int32) (c : Int32 → Option α) : Option α := if i < 0 ∨ zln id ≤ i.toNatClampNeg then none else c (zsv id i.toNatClampNeg)
def ldR {α : Type} (id : Nat) (i : Int32) (c : Nat → Option α) : Option α := if i < 0 ∨ zln id ≤ i.toNatClampNeg then none else c (zrf id i.toNatClampNeg)
def gd {α : Type} (q : Prop) [Decidable q] (c : Option α) : Option α := if q then c else none
def cl {α β : Type} (e : Option (β × zM)) (c : β → zM → Option α) : Option α := match e with
  | some x => c x.1 x.2
  | none => none
/-- arraycopy of numbers from one array to another (or the same) -/
def zcp (μ : zM) (id i jd j n : Nat) : zM := fun a => if a = jd then va_cpy (μ id) (μ jd) i j n else μ a
theorem zcp_s {μ : zM} {id i jd j n : Nat} : zcp μ id i jd j n jd = va_cpy (μ id) (μ jd) i j n := if_pos rfl
theorem zcp_n {μ : zM} {id i jd j n a : Nat} (h : a ≠ jd) : zcp μ id i jd j n a = μ a := if_neg h
def cpI {α : Type} (μ : zM) (id : Nat) (i : Int32) (jd : Nat) (j n : Int32) (c : zM → Option α) : Option α := if (i < 0 ∨ j < 0) ∨ n < 0 ∨ zln id < i.toNatClampNeg + n.toNatClampNeg ∨ zln jd < j.toNatClampNeg + n.toNatClampNeg then none else c (zcp μ id i.toNatClampNeg jd j.toNatClampNeg n.toNatClampNeg)
theorem zz_br {α : Type} {q : Prop} [Decidable q] {a b : Option α} {out : α} (h : (if q then a else b) = some out) : (q → a = some out) ∧ (¬ q → b = some out) := ⟨fun c => by rw [if_pos c] at h; exact h, fun c => by rw [if_neg c] at h; exact h⟩
theorem zz_gd {α : Type} {q : Prop} [Decidable q] {a : Option α} {out : α} (h : gd q a = some out) : q ∧ a = some out := by
  unfold gd at h
  by_cases c : q
  · rw [if_pos c] at h; exact ⟨c, h⟩
  · rw [if_neg c] at h; cases h
theorem zz_cl {α β : Type} {e : Option (β × zM)} {c : β → zM → Option α} {out : α} (h : cl e c = some out) : ∃ r μ, e = some (r, μ) ∧ c r μ = some out := by
  cases e with
  | none => cases h
  | some x => exact ⟨x.1, x.2, rfl, h⟩
def zX (b : Bool) (D : va_G) (ad : Nat → Nat) (cA : Nat → ClassId) (p : Program) (s : State) (m : MethodId) (args : Array Value) (c : Code) (cc : ByteArray) (own : String) (nL : Nat) : Prop :=
  p.tables.exec = Jvm.exec ∧ c.code = cc ∧ c.maxLocals = nL ∧ s.vm.findClass own = some m.cls ∧ (∀ w ∈ GT, w.before args s = true) ∧ zK b D cA s ∧ zSt b ad s s.heap ∧ zInj b ad
def zG (b : Bool) (D : va_G) (ad : Nat → Nat) (cA : Nat → ClassId) (s : State) (μ : zM) (H : Heap) (locs : List Loc) : Prop := va_P D vwCl (zW b ad cA μ) H ∧ va_S (zA b ad) s.heap H locs
/-- a class's slot: a number; a reference; a number that may be put -/
def zFi (b : Bool) (ci k : Nat) (C : String) (T : u_T) (N : Nat) : Prop := vwCl[ci]? = some (C, T, N) ∧ (∀ w ∈ u_ws C T N, w ∈ GT) ∧ ci < 10 ∧ k < N ∧ N = znf ci ∧ zok b ci = true ∧ zisI ci k = true
def zFr (b : Bool) (ci k : Nat) (C : String) (T : u_T) (N : Nat) : Prop := vwCl[ci]? = some (C, T, N) ∧ (∀ w ∈ u_ws C T N, w ∈ GT) ∧ ci < 10 ∧ k < N ∧ N = znf ci ∧ zok b ci = true ∧ zisI ci k = false
def zFp (b : Bool) (ci k : Nat) (C : String) (T : u_T) (N : Nat) (ty0 : Nat → FieldType) (ty : FieldType) : Prop := zFi b ci k C T N ∧ (∀ k, k < N → parseFieldDescriptor (T k).2.2.1 = some (ty0 k)) ∧ (∀ a, a < N → ∀ b, b < N → a ≠ b → (T a).2.1 ≠ (T b).2.1) ∧ (T k).2.2.2 = false ∧ parseFieldDescriptor (T k).2.2.1 = some ty
/-- a type of int arrays of a side -/
def zIa (b : Bool) (t : Nat) (ty : FieldType) : Prop := zok b t = true ∧ zft t = ty ∧ ¬ t < 10 ∧ ¬ (t = 12 ∨ t = 13 ∨ t = 14)
def zRa (b : Bool) (t : Nat) : Prop := zok b t = true ∧ (zft t).isReference = true ∧ ¬ t < 10 ∧ (t = 12 ∨ t = 13 ∨ t = 14)
section ZR
variable {p : Program} {l : Launch} {e : Env} {R : Room} {s : State} {m : MethodId} {args : Array Value} {below : List Frame} {meth : Method} {c : Code} {H : Heap} {locs : List Loc} {cells slots : Nat} {Q : State → Prop}
variable {cc : ByteArray} {pc : Nat} {ls : Array Slot} {rest : List Value} {b : Bool} {D : va_G} {ad : Nat → Nat} {cA : Nat → ClassId} {μ : zM} {own : String} {nL : Nat} {α : Type} {out : α}
theorem zz_vi {x : Int32} {kk : Int32 → Option α} (h : vI x kk = some out) (K : ∀ y, kk y = some out → W p l e R s m args below meth c H locs cells slots Q (F0 m pc ls (.int y :: rest))) : W p l e R s m args below meth c H locs cells slots Q (F0 m pc ls (.int x :: rest)) := K x h
theorem zz_vj {x : Int64} {kk : Int64 → Option α} (h : vJ x kk = some out) (K : ∀ y, kk y = some out → W p l e R s m args below meth c H locs cells slots Q (F0 m pc ls (.long y :: rest))) : W p l e R s m args below meth c H locs cells slots Q (F0 m pc ls (.long x :: rest)) := K x h
theorem zz_geti (X : zX b D ad cA p s m args c cc own nL) (G : zG b D ad cA s μ H locs) {ci k id index N : Nat} {C : String} {T : u_T} (F : zFi b ci k C T N) (ht : zty id = ci) (hw : Cond.fieldLink own index (T k).1 (T k).2.1 (T k).2.2.1 ∈ GT) (hdg : decode cc pc = .ok (.getfield index, 3)) {kk : Int32 → Option α} (h : gI μ id k kk = some out)
    (K : ∀ x, kk x = some out → W p l e R s m args below meth c H locs cells slots Q (F0 m (pc + 3) ls (.int x :: rest))) : W p l e R s m args below meth c H locs cells slots Q (F0 m pc ls (.ref (ad id) :: rest)) := by
  obtain ⟨hx, hb, hml, hown, hts, hK, hSt, hI⟩ := X
  obtain ⟨hP, hS⟩ := G
  obtain ⟨hc, hlay, h1, h2, h3, h4, h5⟩ := F
  obtain ⟨q0, -, he⟩ := zW_at (ad := ad) (cA := cA) (μ := μ) (z_in ht h4)
  rw [zcell_o ht h1] at he
  refine va_get (D := D) (ci := ci) (v := .int (μ id k)) hx hb hts hlay hown hK.k0 hP q0 he hc k h2 (hts _ hw) (fun _ h9 => h9) ?_ hdg (K _ h)
  rw [zfs_at ht (by rw [← h3]; exact h2), if_pos h5]
theorem zz_getr (X : zX b D ad cA p s m args c cc own nL) (G : zG b D ad cA s μ H locs) {ci k id j index N : Nat} {C : String} {T : u_T} (F : zFr b ci k C T N) (ht : zty id = ci) (hj : zrf id k = j) (hw : Cond.fieldLink own index (T k).1 (T k).2.1 (T k).2.2.1 ∈ GT) (hdg : decode cc pc = .ok (.getfield index, 3))
    (K : W p l e R s m args below meth c H locs cells slots Q (F0 m (pc + 3) ls (.ref (ad j) :: rest))) : W p l e R s m args below meth c H locs cells slots Q (F0 m pc ls (.ref (ad id) :: rest)) := by
  obtain ⟨hx, hb, hml, hown, hts, hK, hSt, hI⟩ := X
  obtain ⟨hP, hS⟩ := G
  obtain ⟨hc, hlay, h1, h2, h3, h4, h5⟩ := F
  obtain ⟨q0, -, he⟩ := zW_at (ad := ad) (cA := cA) (μ := μ) (z_in ht h4)
  rw [zcell_o ht h1] at he
  refine va_get (D := D) (ci := ci) (v := .ref (ad j)) hx hb hts hlay hown hK.k0 hP q0 he hc k h2 (hts _ hw) (fun _ h9 => h9) ?_ hdg K
  rw [zfs_at ht (by rw [← h3]; exact h2), if_neg (by rw [h5]; decide), hj]
theorem zz_puti (X : zX b D ad cA p s m args c cc own nL) (G : zG b D ad cA s μ H locs) {ci k id index N : Nat} {C : String} {T : u_T} {ty0 : Nat → FieldType} {ty : FieldType} (F : zFp b ci k C T N ty0 ty) (ht : zty id = ci) (hw : Cond.fieldLink own index (T k).1 (T k).2.1 (T k).2.2.1 ∈ GT) {v : Int32} (hn : narrow ty (.int v) = .int v) (hfit : fits ty (.int v) = true) (hdg : decode cc pc = .ok (.putfield index, 3)) {kk : zM → Option α} (h : pI μ id k v kk = some out)
    (K : ∀ (μ : zM) (H : Heap) (locs : List Loc), zG b D ad cA s μ H locs → kk μ = some out → W p l e R s m args below meth c H locs cells slots Q (F0 m (pc + 3) ls rest)) : W p l e R s m args below meth c H locs cells slots Q (F0 m pc ls (.int v :: .ref (ad id) :: rest)) := by
  obtain ⟨hx, hb, hml, hown, hts, hK, hSt, hI⟩ := X
  obtain ⟨hP, hS⟩ := G
  obtain ⟨⟨hc, hlay, h1, h2, h3, h4, h5⟩, hty, hnm, hfin, hd⟩ := F
  obtain ⟨q0, hq, he⟩ := zW_at (ad := ad) (cA := cA) (μ := μ) (z_in ht h4)
  rw [zcell_o ht h1] at he
  have hk : k < znf ci := by rw [← h3]; exact h2
  refine va_put (D := D) (ci := ci) (v := .int v) (ty := ty) hx hb hts hlay ty0 hty hnm hown hK.k0 hP (zD_of hI cA μ) hS q0 he hc k h2 (hts _ hw) (fun _ h9 => h9) hfin hd hn hfit (by rw [zfs_len ht]; exact hk) hdg (fun H1 locs1 hP1 _ hS1 => ?_)
  refine K (zup μ id k v) H1 locs1 ⟨?_, hS1⟩ h
  rw [zW_set (μ' := zup μ id k v) hq (fun j hj => zcell_n hj) (by rw [zcell_o ht h1, zfs_set ht hk h5])] at hP1
  exact hP1
theorem zz_iald (X : zX b D ad cA p s m args c cc own nL) (G : zG b D ad cA s μ H locs) {id t : Nat} {i : Int32} (F : zIa b t .int) (ht : zty id = t) (hdg : decode cc pc = .ok (.iaload, 1)) {kk : Int32 → Option α} (h : ldI μ id i kk = some out)
    (K : ∀ x, kk x = some out → W p l e R s m args below meth c H locs cells slots Q (F0 m (pc + 1) ls (.int x :: rest))) : W p l e R s m args below meth c H locs cells slots Q (F0 m pc ls (.int i :: .ref (ad id) :: rest)) := by
  obtain ⟨hx, hb, hml, hown, hts, hK, hSt, hI⟩ := X
  obtain ⟨hP, hS⟩ := G
  obtain ⟨h1, h2, h3, h4⟩ := F
  have hm := z_in ht h1
  obtain ⟨q0, -, he⟩ := zW_at (ad := ad) (cA := cA) (μ := μ) hm
  rw [zcell_a ht h3 h4] at he
  unfold ldI at h
  by_cases hi : i < 0 ∨ zln id ≤ i.toNatClampNeg
  · rw [if_pos hi] at h; cases h
  · rw [if_neg hi] at h
    exact va_iald hx hb (hK.k1 hm ht (by omega)) hP q0 0 he (by rw [h2]; rfl) hi hdg (K _ h)
theorem zz_zald (X : zX b D ad cA p s m args c cc own nL) (G : zG b D ad cA s μ H locs) {id t : Nat} {i : Int32} (F : zIa b t .boolean) (ht : zty id = t) (hdg : decode cc pc = .ok (.baload, 1)) {kk : Int32 → Option α} (h : ldI μ id i kk = some out)
    (K : ∀ x, kk x = some out → W p l e R s m args below meth c H locs cells slots Q (F0 m (pc + 1) ls (.int x :: rest))) : W p l e R s m args below meth c H locs cells slots Q (F0 m pc ls (.int i :: .ref (ad id) :: rest)) := by
  obtain ⟨hx, hb, hml, hown, hts, hK, hSt, hI⟩ := X
  obtain ⟨hP, hS⟩ := G
  obtain ⟨h1, h2, h3, h4⟩ := F
  have hm := z_in ht h1
  obtain ⟨q0, -, he⟩ := zW_at (ad := ad) (cA := cA) (μ := μ) hm
  rw [zcell_a ht h3 h4] at he
  unfold ldI at h
  by_cases hi : i < 0 ∨ zln id ≤ i.toNatClampNeg
  · rw [if_pos hi] at h; cases h
  · rw [if_neg hi] at h
    exact va_zald hx hb (hK.k1 hm ht (by omega)) hP q0 0 he (by rw [h2]; rfl) hi hdg (K _ h)
theorem zz_ialdS (X : zX true D ad cA p s m args c cc own nL) (G : zG true D ad cA s μ H locs) {id : Nat} {i : Int32} (ht : zty id = 20) (hdg : decode cc pc = .ok (.iaload, 1)) {kk : Int32 → Option α} (h : ldS id i kk = some out)
    (K : ∀ x, kk x = some out → W p l e R s m args below meth c H locs cells slots Q (F0 m (pc + 1) ls (.int x :: rest))) : W p l e R s m args below meth c H locs cells slots Q (F0 m pc ls (.int i :: .ref (ad id) :: rest)) := by
  obtain ⟨hx, hb, hml, hown, hts, hK, hSt, hI⟩ := X
  obtain ⟨hP, hS⟩ := G
  unfold ldS at h
  by_cases hi : i < 0 ∨ zln id ≤ i.toNatClampNeg
  · rw [if_pos hi] at h; cases h
  · rw [if_neg hi] at h
    exact va_ti hx hb ((hSt rfl).1 id ht) hS hi rfl hdg (K _ h)
theorem zz_alenS (X : zX true D ad cA p s m args c cc own nL) (G : zG true D ad cA s μ H locs) {id : Nat} (ht : zty id = 20) (hdg : decode cc pc = .ok (.arraylength, 1))
    (K : W p l e R s m args below meth c H locs cells slots Q (F0 m (pc + 1) ls (.int (nI (zln id)) :: rest))) : W p l e R s m args below meth c H locs cells slots Q (F0 m pc ls (.ref (ad id) :: rest)) := by
  obtain ⟨hx, hb, hml, hown, hts, hK, hSt, hI⟩ := X
  obtain ⟨hP, hS⟩ := G
  obtain ⟨cell, h1, h2, h3, h4, h5, h6, h7⟩ := (hSt rfl).1 id ht
  exact W.alen (n := nI (zln id)) hx hb (by rw [hS.2.1 _ (Array.getElem?_eq_some_iff.mp h1).1 h7]; exact h1) h2 h5 rfl rfl hdg K
theorem zz_alen (X : zX b D ad cA p s m args c cc own nL) (G : zG b D ad cA s μ H locs) {id t : Nat} (F : zIa b t .int) (ht : zty id = t) (hdg : decode cc pc = .ok (.arraylength, 1))
    (K : W p l e R s m args below meth c H locs cells slots Q (F0 m (pc + 1) ls (.int (nI (zln id)) :: rest))) : W p l e R s m args below meth c H locs cells slots Q (F0 m pc ls (.ref (ad id) :: rest)) := by
  obtain ⟨hx, hb, hml, hown, hts, hK, hSt, hI⟩ := X
  obtain ⟨hP, hS⟩ := G
  obtain ⟨h1, h2, h3, h4⟩ := F
  have hm := z_in ht h1
  obtain ⟨q0, -, he⟩ := zW_at (ad := ad) (cA := cA) (μ := μ) hm
  rw [zcell_a ht h3 h4] at he
  exact va_alen hx hb (hK.k1 hm ht (by omega)) hP q0 0 he (ty := zft t) rfl rfl hdg K
theorem zz_aald (X : zX b D ad cA p s m args c cc own nL) (G : zG b D ad cA s μ H locs) {id t : Nat} {i : Int32} (F : zRa b t) (ht : zty id = t) (hdg : decode cc pc = .ok (.aaload, 1)) {kk : Nat → Option α} (h : ldR id i kk = some out)
    (K : ∀ r, (∃ j, j < zln id ∧ r = zrf id j) → kk r = some out → W p l e R s m args below meth c H locs cells slots Q (F0 m (pc + 1) ls (.ref (ad r) :: rest))) : W p l e R s m args below meth c H locs cells slots Q (F0 m pc ls (.int i :: .ref (ad id) :: rest)) := by
  obtain ⟨hx, hb, hml, hown, hts, hK, hSt, hI⟩ := X
  obtain ⟨hP, hS⟩ := G
  obtain ⟨h1, h2, h3, h4⟩ := F
  have hm := z_in ht h1
  obtain ⟨q0, -, he⟩ := zW_at (ad := ad) (cA := cA) (μ := μ) hm
  rw [zcell_r ht h3 h4] at he
  unfold ldR at h
  by_cases hi : i < 0 ∨ zln id ≤ i.toNatClampNeg
  · rw [if_pos hi] at h; cases h
  · rw [if_neg hi] at h
    have hlt : i.toNatClampNeg < zln id := Nat.not_le.mp fun q => hi (Or.inr q)
    have hk := (hK.k1 hm ht (by omega)).2 0 _ rfl
    refine W.aald (v := .ref (ad (zrf id i.toNatClampNeg))) (ty := zft t) hx hb (hP q0 _ he) (hk.1 (zln id) (fun j => va_rf (if j < zln id then some (ad (zrf id j)) else none))) h2 (fun q => by cases q) (by show ¬ (i < 0 ∨ (arrV _ _ _).slots.size ≤ _); rw [arrV_size]; exact hi) (by show (arrV _ _ _).slots[_]? = _; rw [arrV_read _ _ hlt]; show some (va_rf (if i.toNatClampNeg < zln id then _ else _)) = _; rw [if_pos hlt]; rfl) rfl rfl hdg (K _ ⟨_, hlt, rfl⟩ h)
theorem zz_iast (X : zX b D ad cA p s m args c cc own nL) (G : zG b D ad cA s μ H locs) {id t : Nat} {i x : Int32} (F : zIa b t .int) (ht : zty id = t) (hdg : decode cc pc = .ok (.iastore, 1)) {kk : zM → Option α} (h : stI μ id i x kk = some out)
    (K : ∀ (μ : zM) (H : Heap) (locs : List Loc), zG b D ad cA s μ H locs → kk μ = some out → W p l e R s m args below meth c H locs cells slots Q (F0 m (pc + 1) ls rest)) : W p l e R s m args below meth c H locs cells slots Q (F0 m pc ls (.int x :: .int i :: .ref (ad id) :: rest)) := by
  obtain ⟨hx, hb, hml, hown, hts, hK, hSt, hI⟩ := X
  obtain ⟨hP, hS⟩ := G
  obtain ⟨h1, h2, h3, h4⟩ := F
  have hm := z_in ht h1
  obtain ⟨q0, hq, he⟩ := zW_at (ad := ad) (cA := cA) (μ := μ) hm
  rw [zcell_a ht h3 h4] at he
  unfold stI at h
  by_cases hi : i < 0 ∨ zln id ≤ i.toNatClampNeg
  · rw [if_pos hi] at h; cases h
  · rw [if_neg hi] at h
    refine va_iast hx hb (hK.k1 hm ht (by omega)) hP (zD_of hI cA μ) hS q0 0 he (by rw [h2]; rfl) hi hdg (fun H1 locs1 hP1 _ hS1 => ?_)
    refine K (zup μ id i.toNatClampNeg x) H1 locs1 ⟨?_, hS1⟩ h
    rw [zW_set (μ' := zup μ id i.toNatClampNeg x) hq (fun j hj => zcell_n hj) (by rw [zcell_a ht h3 h4, zup_s])] at hP1
    exact hP1
theorem zz_zast (X : zX b D ad cA p s m args c cc own nL) (G : zG b D ad cA s μ H locs) {id t : Nat} {i x : Int32} (F : zIa b t .boolean) (ht : zty id = t) (hx1 : vp_nar .boolean x = x) (hdg : decode cc pc = .ok (.bastore, 1)) {kk : zM → Option α} (h : stI μ id i x kk = some out)
    (K : ∀ (μ : zM) (H : Heap) (locs : List Loc), zG b D ad cA s μ H locs → kk μ = some out → W p l e R s m args below meth c H locs cells slots Q (F0 m (pc + 1) ls rest)) : W p l e R s m args below meth c H locs cells slots Q (F0 m pc ls (.int x :: .int i :: .ref (ad id) :: rest)) := by
  obtain ⟨hx, hb, hml, hown, hts, hK, hSt, hI⟩ := X
  obtain ⟨hP, hS⟩ := G
  obtain ⟨h1, h2, h3, h4⟩ := F
  have hm := z_in ht h1
  obtain ⟨q0, hq, he⟩ := zW_at (ad := ad) (cA := cA) (μ := μ) hm
  rw [zcell_a ht h3 h4] at he
  unfold stI at h
  by_cases hi : i < 0 ∨ zln id ≤ i.toNatClampNeg
  · rw [if_pos hi] at h; cases h
  · rw [if_neg hi] at h
    refine va_zast hx hb (hK.k1 hm ht (by omega)) hP (zD_of hI cA μ) hS q0 0 he (by rw [h2]; rfl) hi hdg (fun H1 locs1 hP1 _ hS1 => ?_)
    refine K (zup μ id i.toNatClampNeg x) H1 locs1 ⟨?_, hS1⟩ h
    rw [hx1, zW_set (μ' := zup μ id i.toNatClampNeg x) hq (fun j hj => zcell_n hj) (by rw [zcell_a ht h3 h4, zup_s])] at hP1
    exact hP1
theorem zz_gets (X : zX true D ad cA p s m args c cc "ButlerWeather$House" nL) (G : zG true D ad cA s μ H locs) (hdg : decode cc pc = .ok (.getstatic 103, 3))
    (K : W p l e R s m args below meth c H locs cells slots Q (F0 m (pc + 3) ls (.ref (ad 72) :: rest))) : W p l e R s m args below meth c H locs cells slots Q (F0 m pc ls rest) := by
  obtain ⟨hx, hb, hml, hown, hts, hK, hSt, hI⟩ := X
  obtain ⟨hP, hS⟩ := G
  exact va_getsN hx hb (hSt rfl).2.1 hS hown (va_Nw.use rfl (hSt rfl).2.2.2) (fun _ h => h) hdg K
end ZR
