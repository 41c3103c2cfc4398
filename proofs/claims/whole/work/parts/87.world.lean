/-! worlds that grow: rows for the constructors -/
def vQ (D : va_G) (A : Nat → Prop) (ws : va_W) (H : Heap) : Prop := va_P D vwCl ws H ∧ va_D A ws
theorem vD_nd {ws : va_W} (h : ∀ (i j : Nat) (p q : Nat × va_E), ws[i]? = some p → ws[j]? = some q → p.1 = q.1 → i = j) : (ws.map Prod.fst).Nodup := by
  unfold List.Nodup
  rw [List.pairwise_map, List.pairwise_iff_getElem]
  intro i j hi hj hij e
  have := h i j _ _ (List.getElem?_eq_getElem hi) (List.getElem?_eq_getElem hj) e
  omega
theorem nd_vD {ws : va_W} (h : (ws.map Prod.fst).Nodup) : ∀ (i j : Nat) (p q : Nat × va_E), ws[i]? = some p → ws[j]? = some q → p.1 = q.1 → i = j := by
  unfold List.Nodup at h
  rw [List.pairwise_map, List.pairwise_iff_getElem] at h
  intro i j p q hi hj e
  obtain ⟨hi1, hi2⟩ := List.getElem?_eq_some_iff.mp hi
  obtain ⟨hj1, hj2⟩ := List.getElem?_eq_some_iff.mp hj
  rcases Nat.lt_trichotomy i j with z | z | z
  · exact absurd (by rw [hi2, hj2]; exact e) (h i j hi1 hj1 z)
  · exact z
  · exact absurd (by rw [hi2, hj2]; exact e.symm) (h j i hj1 hi1 z)
theorem vQ.perm {D : va_G} {A : Nat → Prop} {ws ws' : va_W} {H : Heap} (h : vQ D A ws H) (hp : ws'.Perm ws) : vQ D A ws' H := by
  refine ⟨fun k q hk => ?_, nd_vD ((hp.map Prod.fst).nodup_iff.mpr (vD_nd h.2.1)), fun k q hk => ?_⟩
  · obtain ⟨j, hj⟩ := List.getElem?_of_mem (hp.mem_iff.mp (List.mem_of_getElem? hk))
    exact h.1 j q hj
  · obtain ⟨j, hj⟩ := List.getElem?_of_mem (hp.mem_iff.mp (List.mem_of_getElem? hk))
    exact h.2.2 j q hj
theorem va_RA_u {U : State} {c c' : ClassId} {ty : FieldType} (hty : ty = .int ∨ ∃ C, ty = .object C) (h : va_RA U c ty) (h' : va_RA U c' ty) : c = c' := by
  rcases hty with rfl | ⟨C, rfl⟩
  · have e : some c = some c' := h.symm.trans h'
    exact Option.some.inj e
  · obtain ⟨_, _, _, _, _, e⟩ := h
    obtain ⟨_, _, _, _, _, e'⟩ := h'
    exact Option.some.inj (e.symm.trans e')
theorem am_uin {ci : Nat} {C : String} {T : u_T} {N : Nat} (h : vwCl[ci]? = some (C, T, N)) : ∀ w ∈ u_ws C T N, w ∈ am_GT := by
  have hcl := am_cls h
  simp only [am_clok, Bool.and_eq_true] at hcl
  exact fun w hw => of_decide_eq_true (List.all_eq_true.mp hcl.1 w hw)
section VQR
variable {p : Program} {l : Launch} {e : Env} {R : Room} {s : State} {m : MethodId} {args : Array Value} {below : List Frame} {meth : Method} {c : Code} {H : Heap} {locs : List Loc} {cells slots : Nat} {Q : State → Prop} {cc : ByteArray} {pc : Nat} {ls : Array Slot} {rest : List Value} {D : va_G} {A : Nat → Prop} {cA : Nat → ClassId} {ws : va_W} {H0 : Heap}
theorem vQ_newi (hexec : p.tables.exec = Jvm.exec) (hb : c.code = cc) (harr : (Cond.arrayClass .int).before args s = true) (hK : va_K D vwCl (am_ty cA) s) (hQ : vQ D A ws H) (hS : va_S A H0 H locs) (hA : ∀ q, H0.size ≤ q → A q) {n : Int32} (N : Nat) (hn : ¬ n < 0) (hN : n.toNatClampNeg = N) (hbytes : N * 4 ≤ 536870912) (hcells : cells + 1 ≤ R.cells) (hslots : slots + N ≤ R.slots) (hdg : decode cc pc = .ok (.newarray .int, 2))
    (kk : ∀ (q : Nat) (H1 : Heap), vQ D A ((q, .inl (cA 0, N, .inl (fun _ => 0))) :: ws) H1 → va_S A H0 H1 locs → W p l e R s m args below meth c H1 locs (cells + 1) (slots + N) Q (F0 m (pc + 2) ls (.ref q :: rest))) : W p l e R s m args below meth c H locs cells slots Q (F0 m pc ls (.int n :: rest)) := by
  refine va_newa (atype := .int) (ty := .int) (a0 := (N, .inl (fun _ => 0))) (N' := N) hexec hb harr rfl hK hQ.1 hQ.2 hS hA (fun _ => rfl) hn hN hbytes hcells hslots hdg (fun q cA' H1 hK' hP hD hS' => ?_)
  have e1 : cA' = cA 0 := va_RA_u (Or.inl rfl) (hK'.2 5 (cA', .int) rfl).2 (hK.2 0 (cA 0, .int) rfl).2
  subst e1
  exact kk q H1 (vQ.perm ⟨hP, hD⟩ (List.perm_append_singleton _ _).symm) hS'
theorem vQ_newq (hexec : p.tables.exec = Jvm.exec) (hb : c.code = cc) {own C : String} {index : Nat} (i : Nat) (hi : (am_ty cA)[i]? = some (cA i, .object C)) (hown : s.vm.findClass own = some m.cls) (hclink : (Cond.classLink own index C).before args s = true) (hover : va_AO C s) (hK : va_K D vwCl (am_ty cA) s) (hQ : vQ D A ws H) (hS : va_S A H0 H locs) (hA : ∀ q, H0.size ≤ q → A q) {n : Int32} (N : Nat) (hn : ¬ n < 0) (hN : n.toNatClampNeg = N) (hbytes : N * 4 ≤ 536870912) (hcells : cells + 1 ≤ R.cells) (hslots : slots + N ≤ R.slots) (hdg : decode cc pc = .ok (.anewarray index, 3))
    (kk : ∀ (q : Nat) (H1 : Heap), vQ D A ((q, .inl (cA i, N, .inr (.inr (.inr (.inr (fun _ => none)))))) :: ws) H1 → va_S A H0 H1 locs → W p l e R s m args below meth c H1 locs (cells + 1) (slots + N) Q (F0 m (pc + 3) ls (.ref q :: rest))) : W p l e R s m args below meth c H locs cells slots Q (F0 m pc ls (.int n :: rest)) := by
  refine va_newq (N' := N) hexec hb hown hclink hover hK hQ.1 hQ.2 hS hA hn hN hbytes hcells hslots hdg (fun q cA' H1 hK' hP hD hS' => ?_)
  have e1 : cA' = cA i := va_RA_u (Or.inr ⟨C, rfl⟩) (hK'.2 5 (cA', .object C) rfl).2 (hK.2 i (cA i, .object C) hi).2
  subst e1
  exact kk q H1 (vQ.perm ⟨hP, hD⟩ (List.perm_append_singleton _ _).symm) hS'
theorem vQ_new (hexec : p.tables.exec = Jvm.exec) (hb : c.code = cc) {own C : String} {T : u_T} {N index : Nat} (ci : Nat) (hc : vwCl[ci]? = some (C, T, N)) (hts : ∀ w ∈ am_GT, w.before args s = true) (ty : Nat → FieldType) (hty : ∀ k, k < N → parseFieldDescriptor (T k).2.2.1 = some (ty k)) (hown : s.vm.findClass own = some m.cls) (hcl : Cond.classLink own index C ∈ am_GT) (hinst : Cond.instantiable C N ∈ am_GT) (hK : va_K D vwCl (am_ty cA) s) (hQ : vQ D A ws H) (hS : va_S A H0 H locs) (hA : ∀ q, H0.size ≤ q → A q) {fs : List Value} (hfs : ∀ j, j < N → defaultValue (ty j) = vp_V fs j) (hcells : cells + 1 ≤ R.cells) (hslots : slots + N ≤ R.slots) (hdg : decode cc pc = .ok (.new index, 3))
    (kk : ∀ (q : Nat) (H1 : Heap), vQ D A ((q, .inr (ci, fs)) :: ws) H1 → va_S A H0 H1 locs → W p l e R s m args below meth c H1 locs (cells + 1) (slots + N) Q (F0 m (pc + 3) ls (.ref q :: rest))) : W p l e R s m args below meth c H locs cells slots Q (F0 m pc ls rest) := by
  have hini : Cond.initialized C ∈ am_GT := by
    have hcl := am_cls hc
    simp only [am_clok, Bool.and_eq_true, decide_eq_true_eq] at hcl
    exact hcl.2.1
  refine va_new (ci := ci) (fs := fs) hexec hb hts (am_uin hc) ty hty hown (hts _ hcl) (hts _ hinst) (hts _ hini) hK hQ.1 hQ.2 hS hA hc hfs hcells hslots hdg (fun q H1 hP hD hS' => ?_)
  exact kk q H1 (vQ.perm ⟨hP, hD⟩ (List.perm_append_singleton _ _).symm) hS'
end VQR
theorem va_nd_of : ∀ {l : List Nat}, l.Nodup → va_nd l = true
  | [], _ => rfl
  | a :: l, h => by
    rw [List.nodup_cons] at h
    rw [va_nd, va_nd_of h.2, Bool.and_true]
    exact decide_eq_true h.1
/-- behind a call: the made object's cells ahead of the rest -/
theorem vQ_join {D : va_G} {A : Nat → Prop} {x : Nat × va_E} {W w1 : va_W} {H H1 : Heap} (hQ : vQ D A (x :: W) H) (hk : ∀ q : Nat, q < H.size → ¬ va_A [x] H.size q → H1[q]? = H[q]?) (hF : ∀ q, va_A [x] H.size q → A q) (hP1 : va_P D vwCl w1 H1) (hD1 : va_D (va_A [x] H.size) w1) : vQ D A (w1 ++ W) H1 := by
  have := va_join (wc := [x]) (wr := W) (w1 := w1) hQ.1 hQ.2 [0] ((List.range W.length).map (· + 1)) rfl (by
    rw [List.map_map]
    apply List.ext_getElem?
    intro i
    simp only [List.getElem?_map]
    by_cases hi : i < W.length
    · rw [List.getElem?_range hi, List.getElem?_eq_getElem hi]
      simp
    · rw [List.getElem?_eq_none (by rw [List.length_range]; omega), List.getElem?_eq_none (by omega)]
      rfl) (by
    have : ((List.range W.length).map (· + 1)).Nodup := by
      unfold List.Nodup
      rw [List.pairwise_map]
      exact List.Pairwise.imp (fun h z => h (by omega)) List.nodup_range
    exact va_nd_of this) (fun i hi => by
    obtain ⟨j, _, rfl⟩ := List.mem_map.mp hi
    simp) hk hF hP1 hD1
  exact vQ.perm ⟨this.1, this.2⟩ List.perm_append_comm
