def am_RM (n : Nat) : Room := { frames := n, cells := 0, slots := 0, locals := 40 * n }
/-- what stands outside: nest words, static rows, Strings -/
def am_St (ad : Nat → Nat) (A : Nat → Prop) (U : State) (H : Heap) : Prop :=
  (∀ x ∈ am_NW, va_Nw x U) ∧ (∀ j, j < 4 → va_Z "DeadLasts" (am_sn j) "[I" (.ref (ad (1000 + j))) A U H) ∧ (∀ j l, am_ST[j]? = some (.inl (.inl l)) → va_T .int (ad (1000 + j)) l.length (fun i => .int (l.getD i 0)) A U H) ∧ (∀ j l, am_ST[j]? = some (.inl (.inr l)) → va_T .byte (ad (1000 + j)) l.length (fun i => .int (l.getD i 0)) A U H) ∧
  (∀ j v, am_ST[j]? = some (.inr v) → va_O "java/lang/String" (ad (1000 + j)) A U H ∧ va_OF "java/lang/String" "coder" "B" (.int 0) (ad (1000 + j)) A U H ∧ va_OF "java/lang/String" "value" "[B" (.ref (ad (1000 + v))) (ad (1000 + j)) A U H) ∧ va_Z "java/lang/String" "COMPACT_STRINGS" "Z" (.int 1) A U H ∧ ∀ q ∈ am_SL, vk_R q.1 q.2.1 q.2.2.1 (ad (1000 + q.2.2.2)) U
theorem am_St.kept {ad : Nat → Nat} {A : Nat → Prop} {U : State} {H H1 : Heap} (h : am_St ad A U H) (hq : ∀ a : Nat, a < H.size → ¬ A a → H1[a]? = H[a]?) : am_St ad A U H1 := by
  obtain ⟨h1, h2, h3, h4, h5, h6, h7⟩ := h
  exact ⟨h1, fun j hj => (h2 j hj).kept hq, fun j l hj => (h3 j l hj).kept hq, fun j l hj => (h4 j l hj).kept hq, fun j v hj => ⟨(h5 j v hj).1.kept hq, (h5 j v hj).2.1.kept hq, (h5 j v hj).2.2.kept hq⟩, h6.kept hq, h7⟩
theorem am_NW_form {x : Cond} (h : x ∈ am_NW) : (∃ a i b n d g, x = .fieldLinkNest a i b n d g) ∨ ∃ a i y g, x = .methodLinkNest a i y g := by
  have := (List.mem_filter.mp h).2
  unfold am_nestw at this
  split at this
  · exact Or.inl ⟨_, _, _, _, _, _, rfl⟩
  · exact Or.inr ⟨_, _, _, _, rfl⟩
  · cases this
theorem am_St.warm {ad : Nat → Nat} {A : Nat → Prop} {s U : State} {H : Heap} (hW : s.WarmedH U.vm) (h : am_St ad A s H) : am_St ad A U H := by
  obtain ⟨h1, h2, h3, h4, h5, h6, h7⟩ := h
  have ha := hW.alike
  refine ⟨fun x hx => ?_, fun j hj => (h2 j hj).moved ha, fun j l hj => (h3 j l hj).moved ha, fun j l hj => (h4 j l hj).moved ha, fun j v hj => ⟨(h5 j v hj).1.moved ha, (h5 j v hj).2.1.moved ha, (h5 j v hj).2.2.moved ha⟩, h6.moved ha, fun q hq => (h7 q hq).warm hW⟩
  have := h1 x hx
  rcases am_NW_form hx with ⟨a, i, b, n, d, g, rfl⟩ | ⟨a, i, y, g, rfl⟩
  · exact this.warmF hW
  · exact this.warmM hW
theorem am_St.same {ad : Nat → Nat} {A : Nat → Prop} {s U : State} {H : Heap} (hv : s.vm = U.vm) (h : am_St ad A s H) : am_St ad A U H := by
  obtain ⟨h1, h2, h3, h4, h5, h6, h7⟩ := h
  have ha : s.vm.Alike U.vm := hv ▸ Vm.Alike.refl _
  refine ⟨fun x hx => ?_, fun j hj => (h2 j hj).moved ha, fun j l hj => (h3 j l hj).moved ha, fun j l hj => (h4 j l hj).moved ha, fun j v hj => ⟨(h5 j v hj).1.moved ha, (h5 j v hj).2.1.moved ha, (h5 j v hj).2.2.moved ha⟩, h6.moved ha, fun q hq => (h7 q hq).same hv.symm⟩
  have := h1 x hx
  rcases am_NW_form hx with ⟨a, i, b, n, d, g, rfl⟩ | ⟨a, i, y, g, rfl⟩
  · exact this.same rfl hv
  · exact this.same rfl hv
def am_Q (sh : List am_S) (cA : Nat → ClassId) (ad : Nat → Nat) (D : va_G) (A : Nat → Prop) (o : am_O) : Array Value → State → Outcome → State → Prop := fun _ st oc t => oc = .returned o.1 ∧ va_P D vwCl (am_w sh cA ad o.2) t.heap ∧ va_F A st t
/-- the contract that the abstract machine's run gives -/
def am_Pre (sh : List am_S) (cA : Nat → ClassId) (ad : Nat → Nat) (D : va_G) (A : Nat → Prop) (as : List Value) (w : am_M) : Array Value → State → Prop := va_Pc (as.map (am_c ad)) (fun U => va_P D vwCl (am_w sh cA ad w) U.heap ∧ va_K D vwCl (am_ty cA) U ∧ am_St ad A U U.heap)
def am_C (l : Launch) (sh : List am_S) (cA : Nat → ClassId) (ad : Nat → Nat) (D : va_G) (A : Nat → Prop) (n mid : Nat) (as : List Value) (w : am_M) (o : am_O) : Prop :=
  Met l (am_y mid) (.code (am_y mid) (am_b mid) (am_ml mid) (am_rt mid) :: am_GT) (am_RM n) (am_Pre sh cA ad D A as w) (am_Q sh cA ad D A o) 0 0 A
theorem am_blind {sh : List am_S} {cA : Nat → ClassId} {ad : Nat → Nat} {D : va_G} {A : Nat → Prop} {as : List Value} {w : am_M} : FrameBlind (am_Pre sh cA ad D A as w) := fun a U g mk q => ⟨q.1, q.2.1, va_K.moved (u := U) (U := U.calling g mk a) (Vm.Alike.refl U.vm) q.2.2.1, am_St.same (s := U) rfl q.2.2.2⟩
def am_AD (sh : List am_S) (ad : Nat → Nat) (A : Nat → Prop) : Prop := (∀ i j, i < sh.length → j < sh.length → ad i = ad j → i = j) ∧ ∀ i, i < sh.length → A (ad i)
theorem am_AD.D {sh : List am_S} {ad : Nat → Nat} {A : Nat → Prop} (h : am_AD sh ad A) (cA : Nat → ClassId) (w : am_M) : va_D A (am_w sh cA ad w) := by
  have key : ∀ (k : Nat) (q : Nat × va_E), (am_w sh cA ad w)[k]? = some q → k < sh.length ∧ q.1 = ad k := by
    intro k q hq
    by_cases hk : k < sh.length
    · obtain ⟨S, hS⟩ : ∃ S, sh[k]? = some S := ⟨_, List.getElem?_eq_getElem hk⟩
      rw [am_w_at hS] at hq
      cases hq
      exact ⟨hk, rfl⟩
    · rw [am_w_no (by omega)] at hq
      cases hq
  refine ⟨fun i j x y hi hj hxy => ?_, fun k q hq => ?_⟩
  · obtain ⟨h1, h2⟩ := key i x hi
    obtain ⟨h3, h4⟩ := key j y hj
    exact h.1 i j h1 h3 (by rw [← h2, ← h4]; exact hxy)
  · obtain ⟨h1, h2⟩ := key k q hq
    rw [h2]
    exact h.2 k h1
theorem am_dn {b : ByteArray} {pc : Nat} {i : Instr} {v : Int32} {nx tg : Nat} (h : am_ok1 b (pc, i, v, nx, tg) = true) (ht : am_tsw i = false) : nx = pc + am_len i ∧ decode b pc = .ok (i, am_len i) ∧ am_vok pc i v tg = true := by
  simp only [am_ok1, Bool.and_eq_true, Bool.or_eq_true, decide_eq_true_eq, ht, Bool.false_eq_true, or_false] at h
  obtain ⟨⟨hd, hn⟩, hv⟩ := h
  have hn := Nat.eq_of_beq_eq_true hn
  subst hn
  rw [Nat.add_sub_cancel_left] at hd
  exact ⟨rfl, hd, hv⟩
def am_slt (ml : Nat) : Instr → Bool
  | .istore_n i => Nat.blt i.val ml
  | .istore i => Nat.blt i ml
  | .astore_n i => Nat.blt i.val ml
  | .astore i => Nat.blt i ml
  | .lstore_n i => Nat.blt (i.val + 1) ml
  | .lstore i => Nat.blt (i + 1) ml
  | _ => true
def am_cksl : Bool := (List.range 199).all fun n => (am_CD.getD n []).all fun q => am_slt (am_ml n) q.2.1
set_option maxRecDepth 100000 in
theorem am_tsl : am_cksl = true := by decide +kernel
theorem am_slot {mid pc : Nat} {e : Instr × Int32 × Nat × Nat} (h : am_at mid pc = some e) : am_slt (am_ml mid) e.1 = true := by
  unfold am_at at h
  split at h
  · rename_i l hl
    have hm : mid < 199 := (List.getElem?_eq_some_iff.mp hl).1
    have := List.all_eq_true.mp am_tsl mid (List.mem_range.mpr hm)
    rw [List.getD_eq_getElem?_getD, hl] at this
    exact List.all_eq_true.mp this _ (am_fnd_s h)
  · cases h
theorem am_cls {ci : Nat} {q : vw_C} (h : vwCl[ci]? = some q) : am_clok ci q = true := by
  have hm : ci < 13 := (List.getElem?_eq_some_iff.mp h).1
  have := List.all_eq_true.mp am_tcl ci (List.mem_range.mpr hm)
  simp only [h] at this
  exact this
theorem am_nm {ci : Nat} {q : vw_C} (h : vwCl[ci]? = some q) : ∀ a, a < q.2.2 → ∀ b, b < q.2.2 → a ≠ b → (q.2.1 a).2.1 ≠ (q.2.1 b).2.1 := by
  match ci, h with
  | 0, h => cases h; exact nmX0
  | 1, h => cases h; exact nmX1
  | 2, h => cases h; exact nmX2
  | 3, h => cases h; exact nmX3
  | 4, h => cases h; exact nmX4
  | 5, h => cases h; exact nmX5
  | 6, h => cases h; exact nmX6
  | 7, h => cases h; exact nmX7
  | 8, h => cases h; exact nmX8
  | 9, h => cases h; exact nmX9
  | 10, h => cases h; exact nmX10
  | 11, h => cases h; exact nmX11
  | 12, h => cases h; exact nmX12
  | n + 13, h => simp at h
theorem am_all15 {α : Type} {L : List (List (Nat × α))} {P : Nat → Nat × α → Bool} (hl : L.length = 15) (h : ((List.range 15).all fun o => (L.getD o []).all (P o)) = true) {o x : Nat} {a : α} (hf : am_fnd (L.getD o []) x = some a) : P o (x, a) = true := by
  by_cases ho : o < 15
  · exact List.all_eq_true.mp (List.all_eq_true.mp h o (List.mem_range.mpr ho)) _ (am_fnd_s hf)
  · rw [List.getD_eq_getElem?_getD, List.getElem?_eq_none (by omega)] at hf
    simp [am_fnd] at hf
theorem am_fld {o x : Nat} {q : Nat × Nat × Bool} (h : am_fnd (am_FTL.getD o []) x = some q) : am_fok o (x, q) = true := am_all15 rfl am_tf h
theorem am_gst {o x : Nat} {q : Nat × Bool} (h : am_fnd (am_GSL.getD o []) x = some q) : am_gok o (x, q) = true := am_all15 rfl am_tg0 h
theorem am_lds {o x : Nat} {q : Nat} (h : am_fnd (am_LSL.getD o []) x = some q) : am_sok o (x, q) = true := am_all15 rfl am_ts h
theorem am_ldi {o x : Nat} {q : Int32} (h : am_fnd (am_LIL.getD o []) x = some q) : Cond.constant (am_cn o) x q ∈ am_GT := of_decide_eq_true (am_all15 (P := fun o q => decide (Cond.constant (am_cn o) q.1 q.2 ∈ am_GT)) rfl am_ti h)
theorem am_ldl {o x : Nat} {q : Int64} (h : am_fnd (am_LLL.getD o []) x = some q) : Cond.constantLong (am_cn o) x q ∈ am_GT := of_decide_eq_true (am_all15 (P := fun o q => decide (Cond.constantLong (am_cn o) q.1 q.2 ∈ am_GT)) rfl am_tl h)
theorem am_mth {mid : Nat} (h : mid < 199) : am_MPr (am_y mid, am_b mid, am_ml mid, am_rt mid, am_o mid) := by
  obtain ⟨q, hq⟩ : ∃ q, am_MI[mid]? = some q := ⟨_, List.getElem?_eq_getElem (by exact h)⟩
  have := am_mpA q (List.mem_of_getElem? hq)
  simp only [am_y, am_b, am_ml, am_rt, am_o, hq]
  exact this
theorem am_goodL {l : List Cond} (h : ∀ w ∈ l, w ∈ am_GT) : GoodIn am_GT l := fun w hw => am_good w (h w hw)
/-- behind a call -/
theorem am_call {p : Program} {l : Launch} {e : Env} {R : Room} {s : State} {m : MethodId} {args : Array Value} {below : List Frame} {meth : Method} {c : Code} {H : Heap} {locs : List Loc} {Q : State → Prop} {sh : List am_S} {cA : Nat → ClassId} {ad : Nat → Nat} {D : va_G} {A : Nat → Prop} {o : am_O} {pc : Nat} {ls : Array Slot} {st0 rest : List Value} {a : Array Value}
    (hr : va_Run p l e R s m args below meth c H locs 0 0 0 0 (F0 m pc ls st0) rest (am_Q sh cA ad D A o a) A) (hS : va_S A s.heap H locs)
    (kk : ∀ (H1 : Heap) (locs1 : List Loc), va_P D vwCl (am_w sh cA ad o.2) H1 → va_S A s.heap H1 locs1 → W p l e R s m args below meth c H1 locs1 0 0 Q (F0 m (pc + 3) ls (o.1.toList ++ rest))) : W p l e R s m args below meth c H locs 0 0 Q (F0 m pc ls st0) := by
  intro T hT X
  obtain ⟨v, st₀, t, T', L, h0, X', hL, e1, e2, ⟨hv, hp, hz, hk⟩, st⟩ := hr T hT X
  cases hv
  rw [h0] at hz hk
  obtain ⟨t2, a1, b1⟩ := kk T'.heap (locs ++ L) (by rw [e1]; exact hp)
    ⟨Nat.le_trans hS.1 (by rw [e1]; exact hz), fun q h1 h2 => by rw [e1, hk q (Nat.lt_of_lt_of_le h1 hS.1) h2]; exact hS.2.1 q h1 h2, fun q hq => by
      rcases List.mem_append.mp hq with h | h
      · exact hS.2.2 q h
      · exact hL q h⟩ T' rfl X'
  exact ⟨t2, st t2 a1, b1⟩
