/-! constructors: the contract, and a call of one -/
def kRM (fr mc ms : Nat) : Room := { frames := fr, cells := mc, slots := ms, locals := 40 * fr }
/-- a constructor of class ci: out of a cell with its first fields it makes the world B -/
def kC (l : Launch) (D : va_G) (cA : Nat → ClassId) (y : MethodName) (b : ByteArray) (ml fr mc ms ci : Nat) (fs0 : List Value) (as : List Value) (X : State → Prop) (B : (Nat → Nat) → Nat → va_W) : Prop :=
  ∀ (h sz : Nat), Met l y (.code y b ml none :: am_GT) (kRM fr mc ms) (va_Pc (.ref h :: as) (fun U => U.heap.size = sz ∧ va_P D vwCl [(h, .inr (ci, fs0))] U.heap ∧ va_K D vwCl (am_ty cA) U ∧ X U)) (va_Qv (fun _ : Nat → Nat => True) (fun u t => va_P D vwCl (B u h) t.heap ∧ va_D (va_A [(h, .inr (ci, fs0))] sz) (B u h)) (va_A [(h, .inr (ci, fs0))] sz)) mc ms (va_A [(h, .inr (ci, fs0))] sz)
/-- what a constructor asks of the tables beside the words: it lies in the tables alone -/
def kX (X : State → Prop) : Prop := (∀ U U' : State, U.vm = U'.vm → X U → X U') ∧ ∀ s U : State, s.WarmedH U.vm → X s → X U
theorem kX_t : kX (fun _ => True) := ⟨fun _ _ _ _ => trivial, fun _ _ _ _ => trivial⟩
section KCC
variable {p : Program} {l : Launch} {e : Env} {R : Room} {s : State} {m : MethodId} {args : Array Value} {below : List Frame} {meth : Method} {c : Code} {H : Heap} {locs : List Loc} {cells slots : Nat} {Q : State → Prop} {cc : ByteArray} {pc : Nat} {ls : Array Slot} {rest : List Value} {D : va_G} {A : Nat → Prop} {cA : Nat → ClassId} {H0 : Heap} {y : MethodName} {b : ByteArray} {ml fr mc ms ci : Nat} {fs0 as : List Value} {X : State → Prop} {B : (Nat → Nat) → Nat → va_W} {h : Nat} {W0 : va_W} {own : String} {nL idx : Nat}
theorem kC_pre (hX : kX X) (hXs : X s) (hK : va_K D vwCl (am_ty cA) s) (hQ : vQ D A ((h, .inr (ci, fs0)) :: W0) H) : PreS s H (va_Pc (.ref h :: as) (fun U => U.heap.size = H.size ∧ va_P D vwCl [(h, .inr (ci, fs0))] U.heap ∧ va_K D vwCl (am_ty cA) U ∧ X U)) (.ref h :: as) :=
  ⟨fun a U g mk q => by
    obtain ⟨q0, q1, qP, qK, qX⟩ := q
    exact ⟨q0, q1, qP, va_K.moved (u := U) (U := U.calling g mk a) (Vm.Alike.refl U.vm) qK, hX.1 U (U.calling g mk a) rfl qX⟩, fun U hU hW => ⟨rfl, by rw [hU], by rw [hU]; exact hQ.1.sub [0] rfl, va_K.moved hW.alike hK, hX.2 s U hW hXs⟩⟩
theorem kC_go (hr : va_Run p l e R s m args below meth c H locs cells slots mc ms (F0 m pc ls (as.reverse ++ .ref h :: rest)) rest (va_Qv (fun _ : Nat → Nat => True) (fun u t => va_P D vwCl (B u h) t.heap ∧ va_D (va_A [(h, .inr (ci, fs0))] H.size) (B u h)) (va_A [(h, .inr (ci, fs0))] H.size) (Value.ref h :: as).toArray) (va_A [(h, .inr (ci, fs0))] H.size)) (hQ : vQ D A ((h, .inr (ci, fs0)) :: W0) H) (hS : va_S A H0 H locs) (hA : ∀ q, H0.size ≤ q → A q)
    (kk : ∀ (u : Nat → Nat) (H1 : Heap) (locs1 : List Loc), vQ D A (B u h ++ W0) H1 → va_S A H0 H1 locs1 → W p l e R s m args below meth c H1 locs1 (cells + mc) (slots + ms) Q (F0 m (pc + 3) ls rest)) : W p l e R s m args below meth c H locs cells slots Q (F0 m pc ls (as.reverse ++ .ref h :: rest)) := by
  have hFc : ∀ q, va_A [(h, .inr (ci, fs0))] H.size q → A q := va_free (ws := (h, .inr (ci, fs0)) :: W0) hQ.2 hS hA [0] rfl
  refine va_callv hr hS (fun q _ hq => hFc q hq) hFc (fun u t H1 locs1 ht hvm _ hB hz1 hk1 hS1 => ?_)
  obtain ⟨hP1, hD1⟩ := hB
  rw [ht] at hP1
  exact kk u H1 locs1 (vQ_join hQ hk1 hFc hP1 hD1) hS1
theorem kC_call (hk : kC l D cA y b ml fr mc ms ci fs0 as X B) (hX : kX X) (hXs : X s) (hx : p.tables.exec = Jvm.exec) (hb : c.code = cc) (hml : c.maxLocals = nL) (hown : s.vm.findClass own = some m.cls) (hts : ∀ w ∈ am_GT, w.before args s = true) (hK : va_K D vwCl (am_ty cA) s) (hcode : Cond.code y b ml none ∈ am_GT) (hini : Cond.initialized y.cls ∈ am_GT) (hlink : Cond.methodLink own idx y ∈ am_GT) (hinst : Cond.instanceMethod y ∈ am_GT) (hy : y.name = "<init>")
    (hd : y.cls ≠ "java/lang/invoke/MethodHandle" ∧ y.cls ≠ "java/lang/invoke/VarHandle" ∧ (parseMethodDescriptor y.desc).map (fun d => d.parameters.length) = some as.length) (hR : fr + 1 ≤ R.frames ∧ 8 + (ml + 11) + 40 * fr ≤ R.locals) (hQ : vQ D A ((h, .inr (ci, fs0)) :: W0) H) (hS : va_S A H0 H locs) (hA : ∀ q, H0.size ≤ q → A q) (hls : ls.size = nL) (hcat : (rest.map fun v => v.category).sum ≤ 8) (hdg : decode cc pc = .ok (.invokespecial idx, 3)) (hf : cells + mc ≤ R.cells ∧ slots + ms ≤ R.slots)
    (kk : ∀ (u : Nat → Nat) (H1 : Heap) (locs1 : List Loc), vQ D A (B u h ++ W0) H1 → va_S A H0 H1 locs1 → W p l e R s m args below meth c H1 locs1 (cells + mc) (slots + ms) Q (F0 m (pc + 3) ls rest)) : W p l e R s m args below meth c H locs cells slots Q (F0 m pc ls (as.reverse ++ .ref h :: rest)) :=
  kC_go (va_runI (As := as) (rest := rest) ⟨hx, hb, hml, hown, hts⟩ (hk h H.size) (cwI as.length hts (am_goodL fun w hw => (List.mem_cons.mp hw).elim (fun z => by rw [z]; exact hcode) id) rfl rfl rfl (hts _ hini) (hts _ hlink) (hts _ hinst) hy hd hR) (kC_pre hX hXs hK hQ) rfl rfl hls rfl (lv_room hcat) hdg hf) hQ hS hA kk
theorem kC_callN (hk : kC l D cA y b ml fr mc ms ci fs0 as X B) (hX : kX X) (hXs : X s) (hx : p.tables.exec = Jvm.exec) (hb : c.code = cc) (hml : c.maxLocals = nL) (hown : s.vm.findClass own = some m.cls) (hts : ∀ w ∈ am_GT, w.before args s = true) (hK : va_K D vwCl (am_ty cA) s) (hcode : Cond.code y b ml none ∈ am_GT) (hini : Cond.initialized y.cls ∈ am_GT) (hlink : va_Nw (.methodLinkNest own idx y "DeadLasts") s) (hinst : Cond.instanceMethod y ∈ am_GT) (hy : y.name = "<init>")
    (hd : y.cls ≠ "java/lang/invoke/MethodHandle" ∧ y.cls ≠ "java/lang/invoke/VarHandle" ∧ (parseMethodDescriptor y.desc).map (fun d => d.parameters.length) = some as.length) (hR : fr + 1 ≤ R.frames ∧ 8 + (ml + 11) + 40 * fr ≤ R.locals) (hQ : vQ D A ((h, .inr (ci, fs0)) :: W0) H) (hS : va_S A H0 H locs) (hA : ∀ q, H0.size ≤ q → A q) (hls : ls.size = nL) (hcat : (rest.map fun v => v.category).sum ≤ 8) (hdg : decode cc pc = .ok (.invokespecial idx, 3)) (hf : cells + mc ≤ R.cells ∧ slots + ms ≤ R.slots)
    (kk : ∀ (u : Nat → Nat) (H1 : Heap) (locs1 : List Loc), vQ D A (B u h ++ W0) H1 → va_S A H0 H1 locs1 → W p l e R s m args below meth c H1 locs1 (cells + mc) (slots + ms) Q (F0 m (pc + 3) ls rest)) : W p l e R s m args below meth c H locs cells slots Q (F0 m pc ls (as.reverse ++ .ref h :: rest)) :=
  kC_go (va_runIN (As := as) (rest := rest) ⟨hx, hb, hml, hown, hts⟩ (hk h H.size) ⟨va_cnB as.length hts (am_goodL fun w hw => (List.mem_cons.mp hw).elim (fun z => by rw [z]; exact hcode) id) rfl rfl rfl hlink (hts _ hini) hd hR, hy, hts _ hinst⟩ (kC_pre hX hXs hK hQ) rfl rfl hls rfl (lv_room hcat) hdg hf) hQ hS hA kk
end KCC
theorem vD_one {x : Nat × va_E} {sz : Nat} : va_D (va_A [x] sz) [x] := ⟨fun i j p q hi hj _ => by
  have h1 := (List.getElem?_eq_some_iff.mp hi).1
  have h2 := (List.getElem?_eq_some_iff.mp hj).1
  simp at h1 h2
  omega, fun _ _ hk => va_A.in hk⟩
