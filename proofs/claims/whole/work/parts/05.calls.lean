-- CONTRACTS of the two sides, how a method is entered, left and called
def zQi (b : Bool) (D : va_G) (ad : Nat → Nat) (cA : Nat → ClassId) (r : Int32) (μ : zM) : Array Value → State → Outcome → State → Prop := va_Qi (fun x (_ : Unit) => x = r) (fun _ t => zH b D ad cA μ t) (zA b ad)
def zQl (b : Bool) (D : va_G) (ad : Nat → Nat) (cA : Nat → ClassId) (r : Int64) (μ : zM) : Array Value → State → Outcome → State → Prop := va_Ql (fun x (_ : Unit) => x = r) (fun _ t => zH b D ad cA μ t) (zA b ad)
def zQv (b : Bool) (D : va_G) (ad : Nat → Nat) (cA : Nat → ClassId) (_ : Unit) (μ : zM) : Array Value → State → Outcome → State → Prop := va_Qv (fun (_ : Unit) => True) (fun _ t => zH b D ad cA μ t) (zA b ad)
def zQr (b : Bool) (D : va_G) (ad : Nat → Nat) (cA : Nat → ClassId) (r : Nat) (_ : Unit) (μ : zM) : Array Value → State → Outcome → State → Prop := va_Qr (fun (_ : Unit) => True) (fun _ a t => a = ad r ∧ zH b D ad cA μ t) (zA b ad)
/-- the contract of a method of a side: from the memory μ, by Qc -/
def zMet (b : Bool) (D : va_G) (ad : Nat → Nat) (cA : Nat → ClassId) (l : Launch) (y : MethodName) (cc : ByteArray) (maxL : Nat) (ret : Option FieldType) (rm : Room) (av : List Value) (μ : zM) (Qc : Array Value → State → Outcome → State → Prop) : Prop := Met l y (.code y cc maxL ret :: GT) rm (va_Pc av (zH b D ad cA μ)) Qc 0 0 (zA b ad)
theorem zMet_of {b : Bool} {D : va_G} {ad : Nat → Nat} {cA : Nat → ClassId} {l : Launch} {y : MethodName} {cc : ByteArray} {maxL : Nat} {ret : Option FieldType} {rm : Room} {av : List Value} {μ : zM} {Qc : Array Value → State → Outcome → State → Prop} (own : String) (hpl : plainName y.cls = true ∧ y.cls = own) (hsl : (lg_sl av).length ≤ maxL)
    (body : ∀ (p : Program) (e : Env) (s : State) (m : MethodId) (args : Array Value) (below : List Frame) (meth : Method) (c : Code), zX b D ad cA p s m args c cc own maxL → zG b D ad cA s μ s.heap [] → meth.sig.returnType = ret → meth.locks = false → ∀ ls, lv_has ls maxL (lv_args 0 av) → W p l e rm s m args below meth c s.heap [] 0 0 (MQ below Qc args s 0 0 (zA b ad)) (F0 m 0 ls [])) : zMet b D ad cA l y cc maxL ret rm av μ Qc := by
  refine Met.ofW (cc := cc) (maxL := maxL) (ret := ret) hpl.1 rfl ?_
  intro p e s m args below meth c s₁ B hml hv
  obtain ⟨rfl, hI, hP, hK, hSt⟩ := hv
  have hts := atoms_spec (ws := .code y cc maxL ret :: GT) B.pre
  have hown : s.vm.findClass y.cls = some m.cls := findClass_of_methodNamed B.named
  have hl := lv_entry av (n := maxL) hsl
  rw [lg_entry_eq]
  generalize (lg_sl av ++ List.replicate (maxL - (lg_sl av).length) Slot.unset).toArray = ls at hl ⊢
  exact body p e s m _ below meth c ⟨B.exec, B.bytes, hml, by rw [← hpl.2]; exact hown, fun w hw => hts w (List.mem_cons_of_mem _ hw), hK, hSt, hI⟩ ⟨hP, va_S.rf⟩ B.returns B.notSynchronized ls hl
section ZC
variable {p : Program} {l : Launch} {e : Env} {R : Room} {s : State} {m : MethodId} {args : Array Value} {below : List Frame} {meth : Method} {c : Code} {H : Heap} {locs : List Loc} {Q : State → Prop}
variable {cc : ByteArray} {pc : Nat} {ls : Array Slot} {rest st0 : List Value} {b : Bool} {D : va_G} {ad : Nat → Nat} {cA : Nat → ClassId} {μ μ' : zM} {own : String} {nL : Nat} {α : Type} {out : α}
theorem zH_of (X : zX b D ad cA p s m args c cc own nL) (G : zG b D ad cA s μ H locs) {U : State} (hU : U.heap = H) (hW : s.WarmedH U.vm) : zH b D ad cA μ U := by
  obtain ⟨hx, hb, hml, hown, hts, hK, hSt, hI⟩ := X
  obtain ⟨hP, hS⟩ := G
  refine ⟨hI, by rw [hU]; exact hP, hK.moved hW.alike, ?_⟩
  rw [hU]
  exact hSt.warm hW hS.2.1
theorem zH_blind {av : List Value} : FrameBlind (va_Pc av (zH b D ad cA μ)) := by
  intro a U g mk q
  obtain ⟨h1, h2, h3, h4, h5⟩ := q
  have hW : U.WarmedH (U.calling g mk a).vm := State.WarmedH.refl U
  exact ⟨h1, h2, h3, h4.moved (Vm.Alike.refl U.vm), h5.warm hW (fun _ _ _ => rfl)⟩
theorem zz_iret (X : zX b D ad cA p s m args c cc own nL) (G : zG b D ad cA s μ H locs) (hr : meth.sig.returnType = some .int) (hlk : meth.locks = false) {v r : Int32} (hdg : decode cc pc = .ok (.ireturn, 1)) (h : some (v, μ) = some (r, μ')) : W p l e R s m args below meth c H locs 0 0 (MQ below (zQi b D ad cA r μ') args s 0 0 (zA b ad)) (F0 m pc ls [.int v]) := by
  cases h
  exact W.iret X.1 X.2.1 hr (fun t ht hW => ⟨⟨_, (), rfl, rfl, zH_of X G ht hW⟩, G.2.F ht⟩) G.2.2.2 hdg hlk
theorem zz_zret (X : zX b D ad cA p s m args c cc own nL) (G : zG b D ad cA s μ H locs) (hr : meth.sig.returnType = some .boolean) (hlk : meth.locks = false) {v r : Int32} (hdg : decode cc pc = .ok (.ireturn, 1)) (h : gd (v = 0 ∨ v = 1) (some (v, μ)) = some (r, μ')) : W p l e R s m args below meth c H locs 0 0 (MQ below (zQi b D ad cA r μ') args s 0 0 (zA b ad)) (F0 m pc ls [.int v]) := by
  obtain ⟨h1, h⟩ := zz_gd h
  cases h
  exact W.zret X.1 X.2.1 hr (by rcases h1 with rfl | rfl <;> rfl) (fun t ht hW => ⟨⟨_, (), rfl, rfl, zH_of X G ht hW⟩, G.2.F ht⟩) G.2.2.2 hdg hlk
theorem zz_lret (X : zX b D ad cA p s m args c cc own nL) (G : zG b D ad cA s μ H locs) (hr : meth.sig.returnType = some .long) (hlk : meth.locks = false) {v r : Int64} (hdg : decode cc pc = .ok (.lreturn, 1)) (h : some (v, μ) = some (r, μ')) : W p l e R s m args below meth c H locs 0 0 (MQ below (zQl b D ad cA r μ') args s 0 0 (zA b ad)) (F0 m pc ls [.long v]) := by
  cases h
  exact W.lret X.1 X.2.1 hr (fun t ht hW => ⟨⟨_, (), rfl, rfl, zH_of X G ht hW⟩, G.2.F ht⟩) G.2.2.2 hdg hlk
theorem zz_vret (X : zX b D ad cA p s m args c cc own nL) (G : zG b D ad cA s μ H locs) (hr : meth.sig.returnType = none) (hlk : meth.locks = false) {r : Unit} (hdg : decode cc pc = .ok (.return_, 1)) (h : some ((), μ) = some (r, μ')) : W p l e R s m args below meth c H locs 0 0 (MQ below (zQv b D ad cA r μ') args s 0 0 (zA b ad)) (F0 m pc ls []) := by
  cases h
  exact W.vret X.1 X.2.1 hr (fun t ht hW => ⟨⟨(), rfl, trivial, zH_of X G ht hW⟩, G.2.F ht⟩) G.2.2.2 hdg hlk
theorem zz_aret (X : zX b D ad cA p s m args c cc own nL) (G : zG b D ad cA s μ H locs) {C : String} (hr : meth.sig.returnType = some (.object C)) (hlk : meth.locks = false) {j : Nat} {r : Unit} (hdg : decode cc pc = .ok (.areturn, 1)) (h : some ((), μ) = some (r, μ')) : W p l e R s m args below meth c H locs 0 0 (MQ below (zQr b D ad cA j r μ') args s 0 0 (zA b ad)) (F0 m pc ls [.ref (ad j)]) := by
  cases h
  exact W.aret X.1 X.2.1 hr (Or.inl ⟨_, rfl⟩) (Or.inr ⟨_, rfl⟩) (fun t ht hW => ⟨⟨(), _, rfl, trivial, rfl, zH_of X G ht hW⟩, G.2.F ht⟩) G.2.2.2 hdg hlk
/-- a callee: its words -/
def zCV (y : MethodName) (bytes : ByteArray) (maxL : Nat) (ret : Option FieldType) (n : Nat) : Prop := Cond.code y bytes maxL ret ∈ GT ∧ Cond.initialized y.cls ∈ GT ∧ Cond.instanceMethod y ∈ GT ∧ Cond.selects y.cls y y ∈ GT ∧ (y.cls ≠ "java/lang/invoke/MethodHandle" ∧ y.cls ≠ "java/lang/invoke/VarHandle" ∧ (parseMethodDescriptor y.desc).map (fun d => d.parameters.length) = some n)
def zCS (y : MethodName) (bytes : ByteArray) (maxL : Nat) (ret : Option FieldType) (n : Nat) : Prop := Cond.code y bytes maxL ret ∈ GT ∧ Cond.initialized y.cls ∈ GT ∧ Cond.static y ∈ GT ∧ (y.cls ≠ "java/lang/invoke/MethodHandle" ∧ y.cls ≠ "java/lang/invoke/VarHandle" ∧ (parseMethodDescriptor y.desc).map (fun d => d.parameters.length) = some n)
variable {y : MethodName} {bytes : ByteArray} {maxL n index : Nat} {ret : Option FieldType} {rm : Room} {Qc : Array Value → State → Outcome → State → Prop} {As : List Value}
theorem zz_runV (X : zX b D ad cA p s m args c cc own nL) (G : zG b D ad cA s μ H locs) {id ci N : Nat} {T : u_T} (hF : vwCl[ci]? = some (y.cls, T, N) ∧ ci < 10 ∧ zok b ci = true) (ht : zty id = ci) (V : zCV y bytes maxL ret n) (hl : Cond.methodLink own index y ∈ GT) (hM : zMet b D ad cA l y bytes maxL ret rm (.ref (ad id) :: As) μ Qc) (hR : rm.cells = 0 ∧ rm.slots = 0 ∧ rm.frames + 1 ≤ R.frames ∧ 8 + (maxL + 11) + rm.locals ≤ R.locals) (hn : As.length = n) (hst : st0 = As.reverse ++ .ref (ad id) :: rest) (hL : ls.size = nL) (hrest : (rest.map fun v => v.category).sum ≤ 8) (hdg : decode cc pc = .ok (.invokevirtual index, 3)) :
    va_Run p l e R s m args below meth c H locs 0 0 0 0 (F0 m pc ls st0) rest (Qc (Value.ref (ad id) :: As).toArray) (zA b ad) := by
  have hH := fun (U : State) (hU : U.heap = H) (hW : s.WarmedH U.vm) => zH_of X G hU hW
  obtain ⟨hx, hb, hml, hown, hts, hK, hSt, hI⟩ := X
  obtain ⟨hP, hS⟩ := G
  obtain ⟨v1, v2, v3, v4, v5⟩ := V
  obtain ⟨q0, -, he⟩ := zW_at (ad := ad) (cA := cA) (μ := μ) (z_in ht hF.2.2)
  rw [zcell_o ht hF.2.1] at he
  refine va_runV (Ts := GT) (bytes := bytes) (maxL := maxL) (ret := ret) (C := y.cls) (n := n) ⟨hx, hb, hml, hown, hts⟩ hM ⟨callB_of n hts (gt_goodIn (fun w hw => (List.mem_cons.mp hw).elim (fun e => by rw [e]; exact v1) (fun h9 => h9))) rfl hR.1 hR.2.1 (hts _ v2) (hts _ hl) v5 hR.2.2, hts _ v3, hts _ v4⟩ ⟨zH_blind, ?_, fun U hU hW => ⟨rfl, hH U hU hW⟩⟩ rfl hn hL hst (lv_room hrest) hdg ⟨Nat.zero_le _, Nat.zero_le _⟩
  exact va_recv (q0 := q0) (ci := ci) hK.k0 hP hF.1 he
theorem zz_runS (X : zX b D ad cA p s m args c cc own nL) (G : zG b D ad cA s μ H locs) (V : zCS y bytes maxL ret n) (hl : Cond.methodLink own index y ∈ GT) (hM : zMet b D ad cA l y bytes maxL ret rm As μ Qc) (hR : rm.cells = 0 ∧ rm.slots = 0 ∧ rm.frames + 1 ≤ R.frames ∧ 8 + (maxL + 11) + rm.locals ≤ R.locals) (hn : As.length = n) (hst : st0 = As.reverse ++ rest) (hL : ls.size = nL) (hrest : (rest.map fun v => v.category).sum ≤ 8) (hdg : decode cc pc = .ok (.invokestatic index, 3)) :
    va_Run p l e R s m args below meth c H locs 0 0 0 0 (F0 m pc ls st0) rest (Qc As.toArray) (zA b ad) := by
  have hH := fun (U : State) (hU : U.heap = H) (hW : s.WarmedH U.vm) => zH_of X G hU hW
  obtain ⟨hx, hb, hml, hown, hts, hK, hSt, hI⟩ := X
  obtain ⟨v1, v2, v3, v5⟩ := V
  exact va_runS (Ts := GT) (bytes := bytes) (maxL := maxL) (ret := ret) (n := n) ⟨hx, hb, hml, hown, hts⟩ hM ⟨callB_of n hts (gt_goodIn (fun w hw => (List.mem_cons.mp hw).elim (fun e => by rw [e]; exact v1) (fun h9 => h9))) rfl hR.1 hR.2.1 (hts _ v2) (hts _ hl) v5 hR.2.2, hts _ v3⟩ ⟨zH_blind, fun U hU hW => ⟨rfl, hH U hU hW⟩⟩ rfl hn hL hst (lv_room hrest) hdg ⟨Nat.zero_le _, Nat.zero_le _⟩
theorem zz_runSN (X : zX true D ad cA p s m args c cc own nL) (G : zG true D ad cA s μ H locs) (V : zCS y bytes maxL ret n) (hl : Cond.methodLinkNest own index y "ButlerWeather" ∈ zNw) (hM : zMet true D ad cA l y bytes maxL ret rm As μ Qc) (hR : rm.cells = 0 ∧ rm.slots = 0 ∧ rm.frames + 1 ≤ R.frames ∧ 8 + (maxL + 11) + rm.locals ≤ R.locals) (hn : As.length = n) (hst : st0 = As.reverse ++ rest) (hL : ls.size = nL) (hrest : (rest.map fun v => v.category).sum ≤ 8) (hdg : decode cc pc = .ok (.invokestatic index, 3)) :
    va_Run p l e R s m args below meth c H locs 0 0 0 0 (F0 m pc ls st0) rest (Qc As.toArray) (zA true ad) := by
  have hH := fun (U : State) (hU : U.heap = H) (hW : s.WarmedH U.vm) => zH_of X G hU hW
  obtain ⟨hx, hb, hml, hown, hts, hK, hSt, hI⟩ := X
  obtain ⟨v1, v2, v3, v5⟩ := V
  exact va_runSN (Ts := GT) (bytes := bytes) (maxL := maxL) (ret := ret) (n := n) ⟨hx, hb, hml, hown, hts⟩ hM ⟨va_cnB n hts (gt_goodIn (fun w hw => (List.mem_cons.mp hw).elim (fun e => by rw [e]; exact v1) (fun h9 => h9))) rfl hR.1 hR.2.1 ((hSt rfl).2.2.1 _ hl) (hts _ v2) v5 hR.2.2, hts _ v3, trivial⟩ ⟨zH_blind, fun U hU hW => ⟨rfl, hH U hU hW⟩⟩ rfl hn hL hst (lv_room hrest) hdg ⟨Nat.zero_le _, Nat.zero_le _⟩
theorem zz_ci (G : zG b D ad cA s μ H locs) {av : Array Value} {ec : Option (Int32 × zM)} {kk : Int32 → zM → Option α} (h : cl ec kk = some out) (hr : ∀ (r : Int32) (μ1 : zM), ec = some (r, μ1) → va_Run p l e R s m args below meth c H locs 0 0 0 0 (F0 m pc ls st0) rest (zQi b D ad cA r μ1 av) (zA b ad))
    (K : ∀ (r : Int32) (μ : zM) (H : Heap) (locs : List Loc), zG b D ad cA s μ H locs → kk r μ = some out → W p l e R s m args below meth c H locs 0 0 Q (F0 m (pc + 3) ls (.int r :: rest))) : W p l e R s m args below meth c H locs 0 0 Q (F0 m pc ls st0) := by
  obtain ⟨r, μ1, h1, h2⟩ := zz_cl h
  refine va_calli (hr r μ1 h1) G.2 (fun _ _ h => h) (fun _ h => h) (fun r' u t H1 locs1 ht hvm hw hB hz hk hS => ?_)
  cases hw
  exact K r μ1 H1 locs1 ⟨by have := hB.2.1; rw [ht] at this; exact this, hS⟩ h2
theorem zz_cj (G : zG b D ad cA s μ H locs) {av : Array Value} {ec : Option (Int64 × zM)} {kk : Int64 → zM → Option α} (h : cl ec kk = some out) (hr : ∀ (r : Int64) (μ1 : zM), ec = some (r, μ1) → va_Run p l e R s m args below meth c H locs 0 0 0 0 (F0 m pc ls st0) rest (zQl b D ad cA r μ1 av) (zA b ad))
    (K : ∀ (r : Int64) (μ : zM) (H : Heap) (locs : List Loc), zG b D ad cA s μ H locs → kk r μ = some out → W p l e R s m args below meth c H locs 0 0 Q (F0 m (pc + 3) ls (.long r :: rest))) : W p l e R s m args below meth c H locs 0 0 Q (F0 m pc ls st0) := by
  obtain ⟨r, μ1, h1, h2⟩ := zz_cl h
  refine va_calll (hr r μ1 h1) G.2 (fun _ _ h => h) (fun _ h => h) (fun r' u t H1 locs1 ht hvm hw hB hz hk hS => ?_)
  cases hw
  exact K r μ1 H1 locs1 ⟨by have := hB.2.1; rw [ht] at this; exact this, hS⟩ h2
theorem zz_cv (G : zG b D ad cA s μ H locs) {av : Array Value} {ec : Option (Unit × zM)} {kk : Unit → zM → Option α} (h : cl ec kk = some out) (hr : ∀ (r : Unit) (μ1 : zM), ec = some (r, μ1) → va_Run p l e R s m args below meth c H locs 0 0 0 0 (F0 m pc ls st0) rest (zQv b D ad cA r μ1 av) (zA b ad))
    (K : ∀ (r : Unit) (μ : zM) (H : Heap) (locs : List Loc), zG b D ad cA s μ H locs → kk r μ = some out → W p l e R s m args below meth c H locs 0 0 Q (F0 m (pc + 3) ls rest)) : W p l e R s m args below meth c H locs 0 0 Q (F0 m pc ls st0) := by
  obtain ⟨r, μ1, h1, h2⟩ := zz_cl h
  refine va_callv (hr r μ1 h1) G.2 (fun _ _ h => h) (fun _ h => h) (fun u t H1 locs1 ht hvm hw hB hz hk hS => ?_)
  exact K r μ1 H1 locs1 ⟨by have := hB.2.1; rw [ht] at this; exact this, hS⟩ h2
theorem zz_cr (G : zG b D ad cA s μ H locs) {j : Nat} {av : Array Value} {ec : Option (Unit × zM)} {kk : Unit → zM → Option α} (h : cl ec kk = some out) (hr : ∀ (r : Unit) (μ1 : zM), ec = some (r, μ1) → va_Run p l e R s m args below meth c H locs 0 0 0 0 (F0 m pc ls st0) rest (zQr b D ad cA j r μ1 av) (zA b ad))
    (K : ∀ (r : Unit) (μ : zM) (H : Heap) (locs : List Loc), zG b D ad cA s μ H locs → kk r μ = some out → W p l e R s m args below meth c H locs 0 0 Q (F0 m (pc + 3) ls (.ref (ad j) :: rest))) : W p l e R s m args below meth c H locs 0 0 Q (F0 m pc ls st0) := by
  obtain ⟨r, μ1, h1, h2⟩ := zz_cl h
  refine va_callr (hr r μ1 h1) G.2 (fun _ _ h => h) (fun _ h => h) (fun u ra t H1 locs1 ht hvm hw hB hz hk hS => ?_)
  obtain ⟨rfl, hB⟩ := hB
  exact K r μ1 H1 locs1 ⟨by have := hB.2.1; rw [ht] at this; exact this, hS⟩ h2
end ZC
section ZCP
variable {p : Program} {l : Launch} {e : Env} {R : Room} {s : State} {m : MethodId} {args : Array Value} {below : List Frame} {meth : Method} {c : Code} {H : Heap} {locs : List Loc} {cells slots : Nat} {Q : State → Prop}
variable {cc : ByteArray} {pc : Nat} {ls : Array Slot} {rest : List Value} {b : Bool} {D : va_G} {ad : Nat → Nat} {cA : Nat → ClassId} {μ : zM} {own : String} {nL : Nat} {α : Type} {out : α}
theorem zz_copy (X : zX b D ad cA p s m args c cc own nL) (G : zG b D ad cA s μ H locs) (hL : ls.size = nL) {index : Nat} (hlink : (Cond.methodLink own index arraycopyName).before args s = true) (hnat : (Cond.native arraycopyName).before args s = true) (hstat : (Cond.static arraycopyName).before args s = true) (hini : (Cond.initialized "java/lang/System").before args s = true) {id jd t : Nat} {i j n : Int32} (F : zIa b t .int) (ht : zty id = t) (hj : zty jd = t) (hframes : 1 ≤ R.frames) (hlocals : (rest.map fun v => v.category).sum + 18 ≤ R.locals) (hdg : decode cc pc = .ok (.invokestatic index, 3)) {kk : zM → Option α} (h : cpI μ id i jd j n kk = some out)
    (K : ∀ (μ : zM) (H : Heap) (locs : List Loc), zG b D ad cA s μ H locs → kk μ = some out → W p l e R s m args below meth c H locs cells slots Q (F0 m (pc + 3) ls rest)) : W p l e R s m args below meth c H locs cells slots Q (F0 m pc ls (.int n :: .int j :: .ref (ad jd) :: .int i :: .ref (ad id) :: rest)) := by
  obtain ⟨hx, hb, hml, hown, hts, hK, hSt, hI⟩ := X
  obtain ⟨hP, hS⟩ := G
  obtain ⟨h1, h2, h3, h4⟩ := F
  have hm := z_in ht h1
  have hm2 := z_in hj h1
  obtain ⟨q0, hq, he⟩ := zW_at (ad := ad) (cA := cA) (μ := μ) hm
  obtain ⟨q1, hq1, he1⟩ := zW_at (ad := ad) (cA := cA) (μ := μ) hm2
  rw [zcell_a ht h3 h4] at he
  rw [zcell_a hj h3 h4] at he1
  unfold cpI at h
  by_cases hi : (i < 0 ∨ j < 0) ∨ n < 0 ∨ zln id < i.toNatClampNeg + n.toNatClampNeg ∨ zln jd < j.toNatClampNeg + n.toNatClampNeg
  · rw [if_pos hi] at h; cases h
  · rw [if_neg hi] at h
    have hK2 : va_K D vwCl [(cA id, zft t), (cA jd, zft t)] s := (hK.k1 hm ht (by omega)).app (hK.k1 hm2 hj (by omega))
    refine va_copyi hx hb (hml.trans hL.symm) hown hlink hnat hstat hini hK2 hP (zD_of hI cA μ) hS q0 q1 0 1 (ty := zft t) he he1 rfl rfl (by rw [h2]; rfl) (fun q => hi (Or.inl (Or.inl q))) (fun q => hi (Or.inl (Or.inr q))) (fun q => hi (Or.inr (Or.inl q))) (Nat.not_lt.mp fun q => hi (Or.inr (Or.inr (Or.inl q)))) (Nat.not_lt.mp fun q => hi (Or.inr (Or.inr (Or.inr q)))) (fun k _ => by rw [h2]; rfl) hframes (by show _ + (7 + 11) ≤ _; exact hlocals) hdg (fun H1 locs1 hP1 _ hS1 => ?_)
    refine K _ H1 locs1 ⟨?_, hS1⟩ h
    rw [zW_set (μ' := zcp μ id i.toNatClampNeg jd j.toNatClampNeg n.toNatClampNeg) hq1 (fun k hk => by unfold zcell zfs; rw [zcp_n hk]) (by rw [zcell_a hj h3 h4, zcp_s])] at hP1
    exact hP1
end ZCP
