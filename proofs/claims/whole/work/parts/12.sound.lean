theorem am_nr_map {ad : Nat → Nat} {x : Option Value} {r : List Value} (h : am_nr x = true) : (x.toList ++ r).map (am_c ad) = x.toList ++ r.map (am_c ad) := by
  match x, h with
  | none, _ => rfl
  | some (.int _), _ => rfl
  | some (.long _), _ => rfl
section AMS
variable {p : Program} {l : Launch} {e : Env} {R : Room} {s : State} {m : MethodId} {args : Array Value} {below : List Frame} {meth : Method} {c : Code} {sh : List am_S} {cA : Nat → ClassId} {ad : Nat → Nat} {D : va_G} {A : Nat → Prop} {mid n : Nat} {o : am_O} {call : Nat → List Value → am_M → am_O → Prop}
/-- the machine goes on rightly from here, whatever heap has the picture -/
def am_G (p : Program) (l : Launch) (e : Env) (R : Room) (s : State) (m : MethodId) (args : Array Value) (below : List Frame) (meth : Method) (c : Code) (sh : List am_S) (cA : Nat → ClassId) (ad : Nat → Nat) (D : va_G) (A : Nat → Prop) (nL : Nat) (o : am_O) (pc : Nat) (lv : am_L) (st : List Value) (w : am_M) : Prop :=
  ∀ (H : Heap) (locs : List Loc) (ls : Array Slot), va_P D vwCl (am_w sh cA ad w) H → va_S A s.heap H locs → lv_has ls nL (am_cl ad lv) → W p l e R s m args below meth c H locs 0 0 (MQ below (am_Q sh cA ad D A o) args s 0 0 A) (F0 m pc ls (st.map (am_c ad)))
/-- what holds throughout a method's body -/
def am_X (p : Program) (l : Launch) (R : Room) (s : State) (m : MethodId) (args : Array Value) (meth : Method) (c : Code) (sh : List am_S) (cA : Nat → ClassId) (ad : Nat → Nat) (D : va_G) (A : Nat → Prop) (mid n : Nat) (call : Nat → List Value → am_M → am_O → Prop) : Prop :=
  p.tables.exec = Jvm.exec ∧ c.code = am_b mid ∧ c.maxLocals = am_ml mid ∧ meth.sig.returnType = am_rt mid ∧ meth.locks = false ∧ s.vm.findClass (am_cn (am_o mid)) = some m.cls ∧ (∀ w ∈ am_GT, w.before args s = true) ∧ va_K D vwCl (am_ty cA) s ∧ am_AD sh ad A ∧ am_St ad A s s.heap ∧ am_okS sh = true ∧ R = am_RM (n + 1) ∧ (∀ mid as w o, call mid as w o → mid < 199 ∧ am_C l sh cA ad D A n mid as w o)
set_option maxHeartbeats 4000000 in
theorem am_stepG (X : am_X p l R s m args meth c sh cA ad D A mid n call) {pc : Nat} {en : Instr × Int32 × Nat × Nat} {lv : am_L} {st : List Value} {w : am_M} (he : am_at mid pc = some en)
    (h : am_step sh mid call (fun r => r = o) (am_G p l e R s m args below meth c sh cA ad D A (am_ml mid) o) pc en lv st w) : am_G p l e R s m args below meth c sh cA ad D A (am_ml mid) o pc lv st w := by
  obtain ⟨hx, hb, hml, hr, hlocks, hown, hts, hK, hAD, hSt, hsh, hR, hcall⟩ := X
  obtain ⟨i, v, nx, tg⟩ := en
  have hk := am_at_s he
  have hsl := am_slot he
  unfold am_step at h
  dsimp only at h
  split at h
  · -- iconst
    obtain ⟨rfl, hd, hv⟩ := am_dn hk rfl
    exact fun H locs ls hP hS hl => lv_iconst hx hb hd (of_decide_eq_true hv) (h H locs ls hP hS hl)
  · obtain ⟨rfl, hd, hv⟩ := am_dn hk rfl
    exact fun H locs ls hP hS hl => lv_bipush hx hb hd (of_decide_eq_true hv) (h H locs ls hP hS hl)
  · obtain ⟨rfl, hd, hv⟩ := am_dn hk rfl
    exact fun H locs ls hP hS hl => lv_sipush hx hb hd (of_decide_eq_true hv) (h H locs ls hP hS hl)
  · -- ldc
    obtain ⟨rfl, hd, hv⟩ := am_dn hk rfl
    split at h
    · rename_i j hj
      have hs := am_lds hj
      simp only [am_sok, List.any_eq_true, decide_eq_true_eq] at hs
      obtain ⟨q, hq, h1, h2, h3⟩ := hs
      have hz := hSt.2.2.2.2.2.2 q hq
      rw [h1, h2, h3] at hz
      exact fun H locs ls hP hS hl => va_ldcS hx hb hown hz hd (h H locs ls hP hS hl)
    · obtain ⟨x, hq, h9⟩ := am_opt_s h
      replace h := h9
      exact fun H locs ls hP hS hl => lv_ldc hx hb hown (hts _ (am_ldi hq)) hd (h H locs ls hP hS hl)
  · obtain ⟨rfl, hd, hv⟩ := am_dn hk rfl
    obtain ⟨x, hq, h9⟩ := am_opt_s h
    replace h := h9
    exact fun H locs ls hP hS hl => lv_ldcw hx hb hown (hts _ (am_ldi hq)) hd (h H locs ls hP hS hl)
  · obtain ⟨rfl, hd, hv⟩ := am_dn hk rfl
    obtain ⟨x, hq, h9⟩ := am_opt_s h
    replace h := h9
    exact fun H locs ls hP hS hl => lv_ldc2 hx hb hown (hts _ (am_ldl hq)) hd (h H locs ls hP hS hl)
  · -- lconst
    rename_i k
    obtain ⟨rfl, hd, hv⟩ := am_dn hk rfl
    split at h
    · rename_i hz
      exact fun H locs ls hP hS hl => lv_lconst hx hb hd (by rw [hz]; rfl) (h H locs ls hP hS hl)
    · rename_i hz
      have hz : ¬ k.val = 0 := hz
      have hk1 : k.val = 1 := by have := k.isLt; omega
      exact fun H locs ls hP hS hl => lv_lconst hx hb hd (by rw [hk1]; rfl) (h H locs ls hP hS hl)
  · obtain ⟨rfl, hd, hv⟩ := am_dn hk rfl
    obtain ⟨x, hq, h9⟩ := am_li1_s h
    replace h := h9
    exact fun H locs ls hP hS hl => lv_iload_n hx hb hd rfl (am_get hl hq) (h H locs ls hP hS hl)
  · obtain ⟨rfl, hd, hv⟩ := am_dn hk rfl
    obtain ⟨x, hq, h9⟩ := am_li1_s h
    replace h := h9
    exact fun H locs ls hP hS hl => lv_iload hx hb hd (am_get hl hq) (h H locs ls hP hS hl)
  · obtain ⟨rfl, hd, hv⟩ := am_dn hk rfl
    obtain ⟨x, hq, h9⟩ := am_ll1_s h
    replace h := h9
    exact fun H locs ls hP hS hl => lv_lload_n hx hb hd rfl (am_get hl hq) (h H locs ls hP hS hl)
  · obtain ⟨rfl, hd, hv⟩ := am_dn hk rfl
    obtain ⟨x, hq, h9⟩ := am_ll1_s h
    replace h := h9
    exact fun H locs ls hP hS hl => lv_lload hx hb hd (am_get hl hq) (h H locs ls hP hS hl)
  · obtain ⟨rfl, hd, hv⟩ := am_dn hk rfl
    obtain ⟨x, hq, h9⟩ := am_lr1_s h
    replace h := h9
    exact fun H locs ls hP hS hl => lv_aload_n hx hb hd rfl (am_get hl hq) (h H locs ls hP hS hl)
  · obtain ⟨rfl, hd, hv⟩ := am_dn hk rfl
    obtain ⟨x, hq, h9⟩ := am_lr1_s h
    replace h := h9
    exact fun H locs ls hP hS hl => lv_aload hx hb hd (am_get hl hq) (h H locs ls hP hS hl)
  · -- istore_n
    obtain ⟨rfl, hd, hv⟩ := am_dn hk rfl
    obtain ⟨x, r, e9, h9⟩ := am_i1_s h
    replace h := h9
    subst e9
    exact fun H locs ls hP hS hl => lv_istore_n hx hb hd rfl hl (Nat.le_of_ble_eq_true hsl) rfl (fun ls' hl' => h H locs ls' hP hS (am_st1 (v := .int x) hl'))
  · obtain ⟨rfl, hd, hv⟩ := am_dn hk rfl
    obtain ⟨x, r, e9, h9⟩ := am_i1_s h
    replace h := h9
    subst e9
    exact fun H locs ls hP hS hl => lv_istore hx hb hd hl (Nat.le_of_ble_eq_true hsl) rfl (fun ls' hl' => h H locs ls' hP hS (am_st1 (v := .int x) hl'))
  · obtain ⟨rfl, hd, hv⟩ := am_dn hk rfl
    obtain ⟨x, r, e9, h9⟩ := am_l1_s h
    replace h := h9
    subst e9
    exact fun H locs ls hP hS hl => lv_lstore_n hx hb hd rfl hl (Nat.le_of_ble_eq_true hsl) rfl (fun ls' hl' => h H locs ls' hP hS (am_st2 (v := .long x) hl'))
  · obtain ⟨rfl, hd, hv⟩ := am_dn hk rfl
    obtain ⟨x, r, e9, h9⟩ := am_l1_s h
    replace h := h9
    subst e9
    exact fun H locs ls hP hS hl => lv_lstore hx hb hd hl (Nat.le_of_ble_eq_true hsl) rfl (fun ls' hl' => h H locs ls' hP hS (am_st2 (v := .long x) hl'))
  · obtain ⟨rfl, hd, hv⟩ := am_dn hk rfl
    obtain ⟨x, r, e9, h9⟩ := am_r1_s h
    replace h := h9
    subst e9
    exact fun H locs ls hP hS hl => lv_astore_n hx hb hd rfl hl (Nat.le_of_ble_eq_true hsl) rfl (fun ls' hl' => h H locs ls' hP hS (am_st1 (v := .ref x) hl'))
  · obtain ⟨rfl, hd, hv⟩ := am_dn hk rfl
    obtain ⟨x, r, e9, h9⟩ := am_r1_s h
    replace h := h9
    subst e9
    exact fun H locs ls hP hS hl => lv_astore hx hb hd hl (Nat.le_of_ble_eq_true hsl) rfl (fun ls' hl' => h H locs ls' hP hS (am_st1 (v := .ref x) hl'))
  · -- iinc
    rename_i i0 k0
    obtain ⟨rfl, hd, hv⟩ := am_dn hk rfl
    obtain ⟨x, hq, h9⟩ := am_li1_s h
    replace h := h9
    intro H locs ls hP hS hl
    have hm : (i0, Value.int x) ∈ am_cl ad lv := List.mem_map.mpr ⟨(i0, .int x), am_lk_s hq, rfl⟩
    obtain ⟨k1, hk1⟩ := List.getElem?_of_mem hm
    have hlt : i0 < am_ml mid := by
      have := lv_lt (am_get hl hq)
      rw [hl.1] at this
      exact this
    exact lv_iinc hx hb hd hl hk1 (by rw [of_decide_eq_true hv]) hlt rfl (fun ls' hl' => h H locs ls' hP hS (am_st1 (v := .int (x + v)) hl'))
  · obtain ⟨rfl, hd, hv⟩ := am_dn hk rfl
    obtain ⟨x, y, r, e9, h9⟩ := am_i2_s h
    replace h := h9
    subst e9
    exact fun H locs ls hP hS hl => lv_iadd hx hb hd (h H locs ls hP hS hl)
  · obtain ⟨rfl, hd, hv⟩ := am_dn hk rfl
    obtain ⟨x, y, r, e9, h9⟩ := am_i2_s h
    replace h := h9
    subst e9
    exact fun H locs ls hP hS hl => lv_isub hx hb hd (h H locs ls hP hS hl)
  · obtain ⟨rfl, hd, hv⟩ := am_dn hk rfl
    obtain ⟨x, y, r, e9, h9⟩ := am_i2_s h
    replace h := h9
    subst e9
    exact fun H locs ls hP hS hl => lv_imul hx hb hd (h H locs ls hP hS hl)
  · obtain ⟨rfl, hd, hv⟩ := am_dn hk rfl
    obtain ⟨x, y, r, e9, h9⟩ := am_i2_s h
    replace h := h9
    subst e9
    exact fun H locs ls hP hS hl => lv_iand hx hb hd (h H locs ls hP hS hl)
  · obtain ⟨rfl, hd, hv⟩ := am_dn hk rfl
    obtain ⟨x, y, r, e9, h9⟩ := am_i2_s h
    replace h := h9
    subst e9
    exact fun H locs ls hP hS hl => lv_ior hx hb hd (h H locs ls hP hS hl)
  · obtain ⟨rfl, hd, hv⟩ := am_dn hk rfl
    obtain ⟨x, y, r, e9, h9⟩ := am_i2_s h
    replace h := h9
    subst e9
    exact fun H locs ls hP hS hl => lv_ixor hx hb hd (h H locs ls hP hS hl)
  · obtain ⟨rfl, hd, hv⟩ := am_dn hk rfl
    obtain ⟨x, y, r, e9, h9⟩ := am_i2_s h
    replace h := h9
    subst e9
    exact fun H locs ls hP hS hl => lv_ishl hx hb hd (h H locs ls hP hS hl)
  · obtain ⟨rfl, hd, hv⟩ := am_dn hk rfl
    obtain ⟨x, y, r, e9, h9⟩ := am_i2_s h
    replace h := h9
    subst e9
    exact fun H locs ls hP hS hl => lv_ishr hx hb hd (h H locs ls hP hS hl)
  · obtain ⟨rfl, hd, hv⟩ := am_dn hk rfl
    obtain ⟨x, y, r, e9, h9⟩ := am_i2_s h
    replace h := h9
    subst e9
    exact fun H locs ls hP hS hl => lv_iushr hx hb hd rfl (h H locs ls hP hS hl)
  · obtain ⟨rfl, hd, hv⟩ := am_dn hk rfl
    obtain ⟨x, y, r, e9, h9⟩ := am_i2_s h
    replace h := h9
    subst e9
    split at h
    · exact h.elim
    · rename_i hy
      exact fun H locs ls hP hS hl => lv_idiv hx hb hd hy (h H locs ls hP hS hl)
  · obtain ⟨rfl, hd, hv⟩ := am_dn hk rfl
    obtain ⟨x, y, r, e9, h9⟩ := am_i2_s h
    replace h := h9
    subst e9
    split at h
    · exact h.elim
    · rename_i hy
      exact fun H locs ls hP hS hl => lv_irem hx hb hd hy (h H locs ls hP hS hl)
  · obtain ⟨rfl, hd, hv⟩ := am_dn hk rfl
    obtain ⟨x, r, e9, h9⟩ := am_i1_s h
    replace h := h9
    subst e9
    exact fun H locs ls hP hS hl => lv_i2l hx hb hd rfl (h H locs ls hP hS hl)
  · obtain ⟨rfl, hd, hv⟩ := am_dn hk rfl
    obtain ⟨x, r, e9, h9⟩ := am_i1_s h
    replace h := h9
    subst e9
    exact fun H locs ls hP hS hl => lv_i2b hx hb hd rfl (h H locs ls hP hS hl)
  · obtain ⟨rfl, hd, hv⟩ := am_dn hk rfl
    obtain ⟨x, r, e9, h9⟩ := am_i1_s h
    replace h := h9
    subst e9
    exact fun H locs ls hP hS hl => lv_i2s hx hb hd rfl (h H locs ls hP hS hl)
  · obtain ⟨rfl, hd, hv⟩ := am_dn hk rfl
    obtain ⟨x, r, e9, h9⟩ := am_i1_s h
    replace h := h9
    subst e9
    exact fun H locs ls hP hS hl => lv_i2c hx hb hd rfl (h H locs ls hP hS hl)
  · obtain ⟨rfl, hd, hv⟩ := am_dn hk rfl
    obtain ⟨x, y, r, e9, h9⟩ := am_l2_s h
    replace h := h9
    subst e9
    exact fun H locs ls hP hS hl => lv_ladd hx hb hd (h H locs ls hP hS hl)
  · obtain ⟨rfl, hd, hv⟩ := am_dn hk rfl
    obtain ⟨x, y, r, e9, h9⟩ := am_l2_s h
    replace h := h9
    subst e9
    exact fun H locs ls hP hS hl => lv_lsub hx hb hd (h H locs ls hP hS hl)
  · obtain ⟨rfl, hd, hv⟩ := am_dn hk rfl
    obtain ⟨x, y, r, e9, h9⟩ := am_l2_s h
    replace h := h9
    subst e9
    exact fun H locs ls hP hS hl => lv_lmul hx hb hd (h H locs ls hP hS hl)
  · obtain ⟨rfl, hd, hv⟩ := am_dn hk rfl
    obtain ⟨x, y, r, e9, h9⟩ := am_l2_s h
    replace h := h9
    subst e9
    exact fun H locs ls hP hS hl => lv_land hx hb hd (h H locs ls hP hS hl)
  · obtain ⟨rfl, hd, hv⟩ := am_dn hk rfl
    obtain ⟨x, y, r, e9, h9⟩ := am_l2_s h
    replace h := h9
    subst e9
    split at h
    · exact h.elim
    · rename_i hy
      exact fun H locs ls hP hS hl => lv_ldiv hx hb hd hy (h H locs ls hP hS hl)
  · obtain ⟨rfl, hd, hv⟩ := am_dn hk rfl
    obtain ⟨x, y, r, e9, h9⟩ := am_l2_s h
    replace h := h9
    subst e9
    split at h
    · exact h.elim
    · rename_i hy
      exact fun H locs ls hP hS hl => lv_lrem hx hb hd hy (h H locs ls hP hS hl)
  · obtain ⟨rfl, hd, hv⟩ := am_dn hk rfl
    obtain ⟨x, y, r, e9, h9⟩ := am_li_s h
    replace h := h9
    subst e9
    exact fun H locs ls hP hS hl => lv_lshl hx hb hd rfl (h H locs ls hP hS hl)
  · obtain ⟨rfl, hd, hv⟩ := am_dn hk rfl
    obtain ⟨x, y, r, e9, h9⟩ := am_li_s h
    replace h := h9
    subst e9
    exact fun H locs ls hP hS hl => lv_lshr hx hb hd rfl (h H locs ls hP hS hl)
  · obtain ⟨rfl, hd, hv⟩ := am_dn hk rfl
    obtain ⟨x, y, r, e9, h9⟩ := am_l2_s h
    replace h := h9
    subst e9
    exact fun H locs ls hP hS hl => W.lcmp hx hb hd (h H locs ls hP hS hl)
  · -- dup
    obtain ⟨rfl, hd, hv⟩ := am_dn hk rfl
    obtain ⟨x, r, e9, hc, h9⟩ := am_v1_s h
    replace h := h9
    subst e9
    exact fun H locs ls hP hS hl => lv_dup hx hb hd (by rw [am_cat_c]; exact hc) (h H locs ls hP hS hl)
  · obtain ⟨rfl, hd, hv⟩ := am_dn hk rfl
    obtain ⟨x, r, e9, hc, h9⟩ := am_v1_s h
    replace h := h9
    subst e9
    exact fun H locs ls hP hS hl => lv_pop hx hb hd (by rw [am_cat_c]; exact hc) (h H locs ls hP hS hl)
  · obtain ⟨rfl, hd, hv⟩ := am_dn hk rfl
    obtain ⟨x, y, r, e9, hc, hc2, h9⟩ := am_v2_s h
    replace h := h9
    subst e9
    exact fun H locs ls hP hS hl => lv_dup2_11 hx hb hd (by rw [am_cat_c]; exact hc2) (by rw [am_cat_c]; exact hc) (h H locs ls hP hS hl)
  · -- goto
    obtain ⟨rfl, hd, hv⟩ := am_dn hk rfl
    exact fun H locs ls hP hS hl => lv_goto hx hb hd (of_decide_eq_true hv) (h H locs ls hP hS hl)
  · -- if
    rename_i cnd off
    obtain ⟨rfl, hd, hv⟩ := am_dn hk rfl
    obtain ⟨x, r, e9, h9⟩ := am_i1_s h
    replace h := h9
    subst e9
    intro H locs ls hP hS hl
    replace hv := of_decide_eq_true hv
    cases cnd
    all_goals dsimp only at h
    · exact lv_if_eq hx hb hd hv (fun q => by rw [if_pos q] at h; exact h H locs ls hP hS hl) (fun q => by rw [if_neg q] at h; exact h H locs ls hP hS hl)
    · exact lv_if_ne hx hb hd hv (fun q => by rw [if_neg q] at h; exact h H locs ls hP hS hl) (fun q => by rw [if_pos q] at h; exact h H locs ls hP hS hl)
    · exact lv_if_lt hx hb hd hv (fun q => by rw [if_pos q] at h; exact h H locs ls hP hS hl) (fun q => by rw [if_neg q] at h; exact h H locs ls hP hS hl)
    · exact lv_if_ge hx hb hd hv (fun q => by rw [if_pos q] at h; exact h H locs ls hP hS hl) (fun q => by rw [if_neg q] at h; exact h H locs ls hP hS hl)
    · exact lv_if_gt hx hb hd hv (fun q => by rw [if_pos q] at h; exact h H locs ls hP hS hl) (fun q => by rw [if_neg q] at h; exact h H locs ls hP hS hl)
    · exact lv_if_le hx hb hd hv (fun q => by rw [if_pos q] at h; exact h H locs ls hP hS hl) (fun q => by rw [if_neg q] at h; exact h H locs ls hP hS hl)
  · rename_i cnd off
    obtain ⟨rfl, hd, hv⟩ := am_dn hk rfl
    obtain ⟨x, y, r, e9, h9⟩ := am_i2_s h
    replace h := h9
    subst e9
    intro H locs ls hP hS hl
    replace hv := of_decide_eq_true hv
    cases cnd
    all_goals dsimp only at h
    · exact lv_icmp_eq hx hb hd hv (fun q => by rw [if_pos q] at h; exact h H locs ls hP hS hl) (fun q => by rw [if_neg q] at h; exact h H locs ls hP hS hl)
    · exact lv_icmp_ne hx hb hd hv (fun q => by rw [if_neg q] at h; exact h H locs ls hP hS hl) (fun q => by rw [if_pos q] at h; exact h H locs ls hP hS hl)
    · exact lv_icmp_lt hx hb hd hv (fun q => by rw [if_pos q] at h; exact h H locs ls hP hS hl) (fun q => by rw [if_neg q] at h; exact h H locs ls hP hS hl)
    · exact lv_icmp_ge hx hb hd hv (fun q => by rw [if_pos q] at h; exact h H locs ls hP hS hl) (fun q => by rw [if_neg q] at h; exact h H locs ls hP hS hl)
    · exact lv_icmp_gt hx hb hd hv (fun q => by rw [if_pos q] at h; exact h H locs ls hP hS hl) (fun q => by rw [if_neg q] at h; exact h H locs ls hP hS hl)
    · exact lv_icmp_le hx hb hd hv (fun q => by rw [if_pos q] at h; exact h H locs ls hP hS hl) (fun q => by rw [if_neg q] at h; exact h H locs ls hP hS hl)
  · -- tableswitch
    simp only [am_ok1, Bool.and_eq_true, Bool.or_eq_true, decide_eq_true_eq] at hk
    obtain ⟨⟨hd, -⟩, -⟩ := hk
    obtain ⟨x, r, e9, t, hsw, h9⟩ := am_i1_s h
    replace h := h9
    subst e9
    intro H locs ls hP hS hl
    rcases hsw with ⟨h1, h2⟩ | ⟨h1, h2, off, h3, h4⟩
    · exact lv_tableOut hx hb hd h1 h2 (h H locs ls hP hS hl)
    · exact lv_tableIn hx hb hd h1 h2 h3 h4 (h H locs ls hP hS hl)
  · -- getfield
    rename_i ix
    obtain ⟨rfl, hd, hv⟩ := am_dn hk rfl
    obtain ⟨⟨ci, j, nest⟩, hq, h9⟩ := am_opt_s h
    replace h := h9
    obtain ⟨b, r, e9, h9⟩ := am_r1_s h
    replace h := h9
    subst e9
    have hf := am_fld hq
    unfold am_getf at h
    split at h
    · rename_i h13
      obtain ⟨v0, hv0, h9⟩ := am_opt_s h
      replace h := h9
      obtain ⟨j0, rfl, hj⟩ := am_sv_s hv0
      obtain ⟨-, hco, hva⟩ := hSt.2.2.2.2.1 j0 v0 hj
      simp only [am_fok, h13] at hf
      match j, h, hf with
      | 0, h, hf => exact fun H locs ls hP hS hl => vk_getf hx hb hva hS hown (hts _ (of_decide_eq_true hf)) (fun _ h9 => h9) hd (h H locs ls hP hS hl)
      | k + 1, h, hf => exact fun H locs ls hP hS hl => vk_getf hx hb hco hS hown (hts _ (of_decide_eq_true hf)) (fun _ h9 => h9) hd (h H locs ls hP hS hl)
    · rename_i h13
      obtain ⟨hb2, h9⟩ := am_test_s h
      replace h := h9
      obtain ⟨fl, hfl⟩ := am_isb_s hb2
      have hoc := am_okc_at hsh hfl
      simp only [am_okc, Bool.and_eq_true] at hoc
      obtain ⟨ho1, ho2, ho3⟩ := hoc
      split at ho1
      case h_2 => cases ho1
      rename_i C hC
      have hlen : fl.length = C.2.2 := Nat.eq_of_beq_eq_true ho1
      have hcl := am_cls hC
      simp only [am_clok, Bool.and_eq_true, decide_eq_true_eq] at hcl
      obtain ⟨hc1, hc2, hc3, hc4⟩ := hcl
      have hin : ∀ w ∈ u_ws C.1 C.2.1 C.2.2, w ∈ am_GT := fun w hw => of_decide_eq_true (List.all_eq_true.mp hc1 w hw)
      simp only [am_fok, h13, hC] at hf
      have hj : j < C.2.2 := by
        cases nest <;> simp only [Bool.and_eq_true] at hf <;> exact Nat.le_of_ble_eq_true hf.2
      obtain ⟨f0, hf0⟩ : ∃ f0, fl[j]? = some f0 := ⟨_, List.getElem?_eq_getElem (by omega)⟩
      have hkd := am_okf_at ho2 hf0
      rw [Nat.zero_add] at hkd
      have hval : ∀ V : Value, am_fv ad w b j f0 = V → (am_fs ad w b 0 fl)[j]? = some V := fun V hV => by rw [am_fs_at, hf0, Nat.zero_add, Option.map_some, hV]
      have go : ∀ V : Value, am_fv ad w b j f0 = am_c ad V → am_G p l e R s m args below meth c sh cA ad D A (am_ml mid) o (pc + am_len (.getfield ix)) lv (V :: r) w → am_G p l e R s m args below meth c sh cA ad D A (am_ml mid) o pc lv (.ref b :: r) w := by
        intro V hV g1 H locs ls hP hS hl
        have hw := am_w_at (cA := cA) (ad := ad) (w := w) hfl
        cases nest with
        | false =>
          simp only [Bool.and_eq_true] at hf
          exact va_get hx hb hts hin hown hK hP b hw hC j hj (hts _ (of_decide_eq_true hf.1)) (fun _ h9 => h9) (hval _ hV) hd (g1 H locs ls hP hS hl)
        | true =>
          simp only [Bool.and_eq_true] at hf
          exact va_getN hx hb hts hin hown hK hP b hw hC j hj ((hSt.1 _ (of_decide_eq_true hf.1)).use rfl) (fun _ h9 => h9) (hval _ hV) hd (g1 H locs ls hP hS hl)
      split at h
      · rename_i hz
        match f0, hkd, hf0, go with
        | none, _, _, go => exact go _ rfl h
        | some none, hkd, _, _ => rw [hz] at hkd; cases hkd
        | some (some t), hkd, _, _ => rw [hz] at hkd; cases hkd
      · rename_i hz
        match f0, hkd, hf0, go with
        | none, hkd, _, _ => rw [hz] at hkd; cases hkd
        | some none, hkd, _, _ => rw [hz] at hkd; cases hkd
        | some (some t), _, hf0, go =>
          obtain ⟨t1, ht1, h9⟩ := am_opt_s h
          replace h := h9
          have ht2 : am_tg sh b j = some t := by simp only [am_tg, hfl, hf0]
          rw [ht2] at ht1
          cases ht1
          exact go _ rfl h
      · rename_i hz
        match f0, hkd, hf0, go with
        | none, hkd, _, _ => rw [hz] at hkd; cases hkd
        | some none, _, _, go => exact go _ rfl h
        | some (some t), hkd, _, _ => rw [hz] at hkd; cases hkd
      · exact h.elim
  · -- putfield
    rename_i ix
    obtain ⟨rfl, hd, hv⟩ := am_dn hk rfl
    obtain ⟨⟨ci, j, nest⟩, hq, h9⟩ := am_opt_s h
    replace h := h9
    have hf := am_fld hq
    dsimp only at h
    have key : ∀ (b : Nat) (V : Value) (r : List Value) (w' : am_M) (kd : Nat), am_kd ci j = kd → (am_isb sh b ci && am_wr ci j) = true → am_c ad V = V → (∀ ty, (am_kd ci j = 0 → am_bl ci j = true → ty = .boolean) → (am_kd ci j = 0 → am_bl ci j = false → ty = .int) → (am_kd ci j = 2 → ty = .long) → narrow ty V = V ∧ fits ty V = true) → (kd = 0 ∨ kd = 2) → (∀ fl, sh[b]? = some (.inr (ci, fl)) → ∀ f0, fl[j]? = some f0 → (am_kd ci j = match f0 with | none => 0 | some none => 2 | some (some _) => 1) → am_nl fl ≤ 1 → (am_fs ad w b 0 fl).set j V = am_fs ad w' b 0 fl) → (∀ a, a ≠ b → w'.1 a = w.1 a) → (∀ a, a ≠ b → w'.2 a = w.2 a) →
        am_G p l e R s m args below meth c sh cA ad D A (am_ml mid) o (pc + am_len (.putfield ix)) lv r w' → am_G p l e R s m args below meth c sh cA ad D A (am_ml mid) o pc lv (V :: .ref b :: r) w := by
      intro b V r w' kd hkd0 hb3 hcV hty hkk hset h1 h2 h
      simp only [Bool.and_eq_true] at hb3
      obtain ⟨hb2, hwr⟩ := hb3
      obtain ⟨fl, hfl⟩ := am_isb_s hb2
      have hoc := am_okc_at hsh hfl
      simp only [am_okc, Bool.and_eq_true] at hoc
      obtain ⟨ho1, ho2, ho3⟩ := hoc
      split at ho1
      case h_2 => cases ho1
      rename_i C hC
      have hlen : fl.length = C.2.2 := Nat.eq_of_beq_eq_true ho1
      have hcl := am_cls hC
      simp only [am_clok, Bool.and_eq_true, decide_eq_true_eq] at hcl
      obtain ⟨hc1, hc2, hc3, hc4⟩ := hcl
      have hin : ∀ w ∈ u_ws C.1 C.2.1 C.2.2, w ∈ am_GT := fun w hw => of_decide_eq_true (List.all_eq_true.mp hc1 w hw)
      have h13 : Nat.beq ci 13 = false := by
        cases hz : Nat.beq ci 13 with
        | false => rfl
        | true =>
          have := Nat.eq_of_beq_eq_true hz
          subst this
          simp at hC
      simp only [am_fok, h13, hC] at hf
      have hj : j < C.2.2 := by
        cases nest <;> simp only [Bool.and_eq_true] at hf <;> exact Nat.le_of_ble_eq_true hf.2
      obtain ⟨f0, hf0⟩ : ∃ f0, fl[j]? = some f0 := ⟨_, List.getElem?_eq_getElem (by omega)⟩
      have hkd := am_okf_at ho2 hf0
      rw [Nat.zero_add] at hkd
      have hsm : ∀ i, i < C.2.2 → ∃ ty, parseFieldDescriptor (C.2.1 i).2.2.1 = some ty ∧ (am_kd ci i = 0 → am_bl ci i = true → ty = .boolean) ∧ (am_kd ci i = 0 → am_bl ci i = false → ty = .int) ∧ (am_kd ci i = 2 → ty = .long) := by
        intro i hi
        have := List.all_eq_true.mp hc4 i (List.mem_range.mpr hi)
        simp only [Bool.and_eq_true] at this
        have := this.2
        split at this
        · rename_i hz
          split at this
          · rename_i hz2
            exact ⟨_, of_decide_eq_true this, fun _ _ => rfl, fun _ h => (by rw [hz2] at h; cases h), fun h => (by rw [hz] at h; cases h)⟩
          · rename_i hz2
            exact ⟨_, of_decide_eq_true this, fun _ h => (by rw [hz2] at h; cases h), fun _ _ => rfl, fun h => (by rw [hz] at h; cases h)⟩
        · rename_i hz
          exact ⟨_, of_decide_eq_true this, fun h => (by rw [hz] at h; cases h), fun h => (by rw [hz] at h; cases h), fun _ => rfl⟩
        · rename_i hz1 hz2
          obtain ⟨ty, hty⟩ := Option.isSome_iff_exists.mp this
          exact ⟨ty, hty, fun h => absurd h hz1, fun h => absurd h hz1, fun h => absurd h hz2⟩
      obtain ⟨ty, hp1, hp2, hp3, hp4⟩ := hsm j hj
      obtain ⟨hn1, hn2⟩ := hty ty hp2 hp3 hp4
      have hty0 : ∀ k, k < C.2.2 → parseFieldDescriptor (C.2.1 k).2.2.1 = some ((parseFieldDescriptor (C.2.1 k).2.2.1).getD .int) := by
        intro k hk
        obtain ⟨ty, h, -⟩ := hsm k hk
        rw [h]; rfl
      have hfin : (C.2.1 j).2.2.2 = false := by
        unfold am_wr at hwr
        rw [hC] at hwr
        simpa using hwr
      have hs2 := hset fl hfl f0 hf0 hkd (Nat.le_of_ble_eq_true ho3)
      intro H locs ls hP hS hl
      have hw := am_w_at (cA := cA) (ad := ad) (w := w) hfl
      have hk2 : ∀ (H1 : Heap) (locs1 : List Loc), va_P D vwCl ((am_w sh cA ad w).set b (ad b, .inr (ci, (am_fs ad w b 0 fl).set j V))) H1 → va_D A ((am_w sh cA ad w).set b (ad b, .inr (ci, (am_fs ad w b 0 fl).set j V))) → va_S A s.heap H1 locs1 → W p l e R s m args below meth c H1 locs1 0 0 (MQ below (am_Q sh cA ad D A o) args s 0 0 A) (F0 m (pc + 3) ls (r.map (am_c ad))) := by
        intro H1 locs1 hP1 _ hS1
        rw [am_w_set hfl (w' := w') (by rw [hs2]; rfl) h1 h2] at hP1
        exact h H1 locs1 ls hP1 hS1 hl
      show W p l e R s m args below meth c H locs 0 0 _ (F0 m pc ls (am_c ad V :: .ref (ad b) :: r.map (am_c ad)))
      rw [hcV]
      cases nest with
      | false =>
        simp only [Bool.and_eq_true] at hf
        exact va_put hx hb hts hin _ hty0 (am_nm hC) hown hK hP (hAD.D cA w) hS b hw hC j hj (hts _ (of_decide_eq_true hf.1)) (fun _ h9 => h9) hfin hp1 hn1 hn2 (by rw [am_fs_len]; show j < fl.length; omega) hd hk2
      | true =>
        simp only [Bool.and_eq_true] at hf
        exact va_putN hx hb hts hin _ hty0 (am_nm hC) hown hK hP (hAD.D cA w) hS b hw hC j hj ((hSt.1 _ (of_decide_eq_true hf.1)).use rfl) (fun _ h9 => h9) hfin hp1 hn1 hn2 (by rw [am_fs_len]; show j < fl.length; omega) hd hk2
    split at h
    · rename_i hz
      obtain ⟨a, v0, r, e9, -, -, h9⟩ := am_v2_s h
      replace h := h9
      subst e9
      have hab : (∃ b v1, a = .ref b ∧ v0 = .int v1) ∨ ¬ (∃ b v1, a = .ref b ∧ v0 = .int v1) := Classical.em _
      rcases hab with ⟨b, v1, ea, ev⟩ | hab
      · subst ea
        subst ev
        dsimp only at h
        obtain ⟨ht, h9⟩ := am_test_s h
        replace h := h9
        have hset : ∀ fl, sh[b]? = some (.inr (ci, fl)) → ∀ f0, fl[j]? = some f0 → (am_kd ci j = match f0 with | none => 0 | some none => 2 | some (some _) => 1) → am_nl fl ≤ 1 → (am_fs ad w b 0 fl).set j (.int v1) = am_fs ad (am_pi w b j v1) b 0 fl := by
          intro fl _ f0 hf0 hkd _
          match f0, hf0, hkd with
          | none, hf0, _ => exact am_fs_pi hf0
          | some none, _, hkd => rw [hz] at hkd; cases hkd
          | some (some t), _, hkd => rw [hz] at hkd; cases hkd
        have hp : ∀ a, a ≠ b → (am_pi w b j v1).1 a = w.1 a := fun a ha => by funext i; simp [am_pi, ha]
        split at h
        · rename_i hbl
          refine key b (.int v1) r _ 0 hz ht rfl (fun ty t1 t2 t3 => ?_) (Or.inl rfl) hset hp (fun _ _ => rfl) h
          rw [t2 hz hbl]
          exact ⟨rfl, rfl⟩
        · rename_i hbl
          refine key b (.int v1) r _ 0 hz ht rfl (fun ty t1 t2 t3 => ?_) (Or.inl rfl) hset hp (fun _ _ => rfl) h.2
          rw [t1 hz hbl]
          rcases h.1 with e | e <;> rw [e] <;> exact ⟨by decide, by decide⟩
      · split at h
        · exact absurd ⟨_, _, rfl, rfl⟩ hab
        · exact h.elim
    · rename_i hz
      obtain ⟨b, v1, r, e9, h9⟩ := am_rl1_s h
      replace h := h9
      subst e9
      obtain ⟨ht, h9⟩ := am_test_s h
      replace h := h9
      refine key b (.long v1) r (am_pl w b v1) 2 hz ht rfl (fun ty t1 t2 t3 => ?_) (Or.inr rfl) ?_ (fun _ _ => rfl) (fun a ha => by simp [am_pl, ha]) h
      · rw [t3 hz]
        exact ⟨rfl, rfl⟩
      · intro fl _ f0 hf0 hkd hnl
        match f0, hf0, hkd with
        | none, _, hkd => rw [hz] at hkd; cases hkd
        | some none, hf0, _ => exact am_fs_pl hf0 (fun i hi => am_nl_one hnl hi hf0)
        | some (some t), _, hkd => rw [hz] at hkd; cases hkd
    · exact h.elim
  · -- getstatic
    obtain ⟨rfl, hd, hv⟩ := am_dn hk rfl
    obtain ⟨⟨j, nest⟩, hq, h9⟩ := am_opt_s h
    replace h := h9
    have hg := am_gst hq
    dsimp only at h
    split at h
    · rename_i h4
      simp only [am_gok, h4] at hg
      exact fun H locs ls hP hS hl => va_gets hx hb hSt.2.2.2.2.2.1 hS hown (hts _ (of_decide_eq_true hg)) (fun _ h9 => h9) hd (h H locs ls hP hS hl)
    · rename_i h4
      have hj : j < 4 := by
        rcases Nat.lt_or_ge j 4 with z | z
        · exact z
        · rw [Nat.ble_eq_true_of_le z] at h4; cases h4
      have hz := hSt.2.1 j hj
      simp only [am_gok, h4] at hg
      cases nest with
      | false => exact fun H locs ls hP hS hl => va_gets hx hb hz hS hown (hts _ (of_decide_eq_true hg)) (fun _ h9 => h9) hd (h H locs ls hP hS hl)
      | true => exact fun H locs ls hP hS hl => va_getsN hx hb hz hS hown ((hSt.1 _ (of_decide_eq_true hg)).use rfl) (fun _ h9 => h9) hd (h H locs ls hP hS hl)
  · -- iaload
    obtain ⟨rfl, hd, hv⟩ := am_dn hk rfl
    obtain ⟨b, i0, r, e9, h9⟩ := am_ri_s h
    replace h := h9
    subst e9
    split at h
    · rename_i n0 hn0
      split at h
      · exact h.elim
      · rename_i hin
        have hw := fun (w : am_M) => am_w_at (cA := cA) (ad := ad) (w := w) (am_ln_s hn0)
        exact fun H locs ls hP hS hl => va_iald hx hb hK hP b 0 (hw w) rfl hin hd (h H locs ls hP hS hl)
    · obtain ⟨l0, hl0, h9⟩ := am_opt_s h
      replace h := h9
      split at h
      · exact h.elim
      · rename_i hin
        obtain ⟨j, rfl, hj⟩ := am_si_s hl0
        exact fun H locs ls hP hS hl => va_ti hx hb (hSt.2.2.1 j l0 hj) hS hin rfl hd (h H locs ls hP hS hl)
  · -- baload
    obtain ⟨rfl, hd, hv⟩ := am_dn hk rfl
    obtain ⟨b, i0, r, e9, h9⟩ := am_ri_s h
    replace h := h9
    subst e9
    obtain ⟨l0, hl0, h9⟩ := am_opt_s h
    replace h := h9
    split at h
    · exact h.elim
    · rename_i hin
      obtain ⟨j, rfl, hj⟩ := am_sb_s hl0
      exact fun H locs ls hP hS hl => va_tb hx hb (hSt.2.2.2.1 j l0 hj) hS hin rfl hd (h H locs ls hP hS hl)
  · -- iastore
    obtain ⟨rfl, hd, hv⟩ := am_dn hk rfl
    obtain ⟨b, i0, x, r, e9, h9⟩ := am_rii_s h
    replace h := h9
    subst e9
    obtain ⟨n0, hn0, h9⟩ := am_opt_s h
    replace h := h9
    split at h
    · exact h.elim
    · rename_i hin
      intro H locs ls hP hS hl
      have hsb := am_ln_s hn0
      refine va_iast hx hb hK hP (hAD.D cA w) hS b 0 (am_w_at hsb) rfl hin hd (fun H1 locs1 hP1 _ hS1 => ?_)
      rw [am_w_set hsb (w := w) (w' := am_pi w b i0.toNatClampNeg x) ?_ (fun a ha => by funext i; simp [am_pi, ha]) (fun _ _ => rfl)] at hP1
      · exact h H1 locs1 ls hP1 hS1 hl
      · simp only [am_e]
        congr 4
        funext i
        by_cases hi : i = i0.toNatClampNeg
        · subst hi; simp [upd, am_pi]
        · simp [upd, am_pi, hi]
  · -- aaload
    obtain ⟨rfl, hd, hv⟩ := am_dn hk rfl
    obtain ⟨b, i0, r, e9, h9⟩ := am_ri_s h
    replace h := h9
    subst e9
    obtain ⟨⟨q1, q2⟩, hq, h9⟩ := am_opt_s h
    replace h := h9
    dsimp only at h
    split at h
    · exact h.elim
    · rename_i hi0
      obtain ⟨t0, ht0, h9⟩ := am_opt_s h
      replace h := h9
      have hlt : i0.toNatClampNeg < q2.length := (List.getElem?_eq_some_iff.mp ht0).1
      have hin : ¬ (i0 < 0 ∨ q2.length ≤ i0.toNatClampNeg) := fun z => z.elim hi0 (fun z => absurd hlt (Nat.not_lt.mpr z))
      have hsb := am_rl_s hq
      have hoc := am_okc_at hsh hsb
      simp only [am_okc, Bool.and_eq_true] at hoc
      have hl1 : 1 ≤ q1 := Nat.le_of_ble_eq_true hoc.1
      have hl5 : q1 < 5 := Nat.le_of_ble_eq_true hoc.2
      have hty : ∃ C, (am_ty cA)[q1]? = some (cA q1, .object C) := by
        rcases (show q1 = 1 ∨ q1 = 2 ∨ q1 = 3 ∨ q1 = 4 by omega) with z | z | z | z <;> rw [z] <;> exact ⟨_, rfl⟩
      obtain ⟨C, hC⟩ := hty
      intro H locs ls hP hS hl
      refine va_aldq hx hb hK hP b q1 (am_w_at hsb) hC hin hd ?_
      have e2 : va_rf ((q2[i0.toNatClampNeg]?).map ad) = am_c ad (.ref t0) := by
        rw [ht0]
        rfl
      rw [e2]
      exact h H locs ls hP hS hl
  · -- arraylength
    obtain ⟨rfl, hd, hv⟩ := am_dn hk rfl
    obtain ⟨b, r, e9, h9⟩ := am_r1_s h
    replace h := h9
    subst e9
    obtain ⟨n0, hn0, h9⟩ := am_opt_s h
    replace h := h9
    rcases am_sl_s hn0 with ⟨l0, hl0, rfl⟩ | ⟨l0, hl0, rfl⟩
    · obtain ⟨j, rfl, hj⟩ := am_sb_s hl0
      exact fun H locs ls hP hS hl => va_tlen hx hb (hSt.2.2.2.1 j l0 hj) hS rfl hd (h H locs ls hP hS hl)
    · obtain ⟨j, rfl, hj⟩ := am_si_s hl0
      exact fun H locs ls hP hS hl => va_tlen hx hb (hSt.2.2.1 j l0 hj) hS rfl hd (h H locs ls hP hS hl)
  · -- invokevirtual
    obtain ⟨rfl, hd, hv⟩ := am_dn hk rfl
    obtain ⟨⟨y, nq, sq, nest⟩, hq, h9⟩ := am_opt_s h
    replace h := h9
    obtain ⟨⟨as, r0⟩, hpq, h9⟩ := am_opt_s h
    replace h := h9
    obtain ⟨b, r, e9, h9⟩ := am_r1_s h
    replace h := h9
    subst e9
    obtain ⟨htt, o1, hc1, h9⟩ := am_test_s h
    replace h := h9
    obtain ⟨hnr, h9⟩ := am_test_s h
    replace h := h9
    simp only [Bool.and_eq_true] at htt
    obtain ⟨ht0, ht1, ht2⟩ := htt
    obtain ⟨hm, hC⟩ := hcall _ _ _ _ hc1
    obtain ⟨ha1, ha2, ha3⟩ := am_args_s hpq
    simp only [List.length_nil, Nat.add_zero] at ha1
    have hst : st = as.reverse ++ .ref b :: r := by rw [ha2, ← ha1, List.take_length]
    have hcp := (am_cpA _ _ (am_fnd_s hq)).1 hm
    replace ht0 := Nat.eq_of_beq_eq_true ht0
    subst ht0
    obtain ⟨hl1, hl2, hl3, hl4, -⟩ := hcp
    obtain ⟨hi1, hi2⟩ := hl4 rfl
    obtain ⟨hm1, hm2, hm3, hm4, hm5, hm6⟩ := am_mth hm
    intro H locs ls hP hS hl
    have hrec : ∃ cell : Cell, H[ad b]? = some cell ∧ cell.vm.isStatics = false ∧ s.vm.findClass (am_y y).cls = some cell.cls := by
      rw [show (am_y y).cls = am_cn (am_o y) from hm3]
      split at ht2
      · rename_i hz
        obtain ⟨j, v0, rfl, hj⟩ := am_isstr_s ht2
        obtain ⟨cell, g1, g2, g3, -⟩ := (hSt.2.2.2.2.1 j v0 hj).1.kept hS.2.1
        replace hz := Nat.eq_of_beq_eq_true hz
        rw [hz]
        exact ⟨cell, g1, g2, g3⟩
      · obtain ⟨fl, hfl⟩ := am_isb_s ht2
        have hoc := am_okc_at hsh hfl
        simp only [am_okc, Bool.and_eq_true] at hoc
        obtain ⟨ho1, -, -⟩ := hoc
        split at ho1
        case h_2 => cases ho1
        rename_i C hCC
        have hcl := am_cls hCC
        simp only [am_clok, Bool.and_eq_true, decide_eq_true_eq] at hcl
        rw [← hcl.2.2.1]
        exact va_recv hK hP hCC (am_w_at hfl)
    have hpre : ∀ U : State, U.heap = H → s.WarmedH U.vm → am_Pre sh cA ad D A (.ref b :: as) w (Value.ref (ad b) :: as.map (am_c ad)).toArray U := fun U hU hW => ⟨rfl, by rw [hU]; exact hP, va_K.moved hW.alike hK, by rw [hU]; exact (hSt.kept hS.2.1).warm hW⟩
    have hgood : GoodIn am_GT (Cond.code (am_y y) (am_b y) (am_ml y) (am_rt y) :: am_GT) := am_goodL fun w hw => (List.mem_cons.mp hw).elim (fun z => by rw [z]; exact hm1) id
    have hstk : (F0 m pc ls (st.map (am_c ad))).stack = (as.map (am_c ad)).reverse ++ .ref (ad b) :: r.map (am_c ad) := by
      show st.map (am_c ad) = _
      rw [hst]
      simp [am_c]
    have hRR : (am_RM n).frames + 1 ≤ R.frames ∧ 8 + (am_ml y + 11) + (am_RM n).locals ≤ R.locals := by
      rw [hR]
      refine ⟨Nat.le_refl _, ?_⟩
      show 8 + (am_ml y + 11) + 40 * n ≤ 40 * (n + 1)
      have : am_ml y ≤ 20 := hm6
      omega
    have hroom : 2 * (F0 m pc ls (st.map (am_c ad))).monitorRoom + ((r.map (am_c ad)).map fun v => v.category).sum ≤ 8 := by
      rw [am_cat_sum]
      have := Nat.le_of_ble_eq_true ht1
      show 2 * 0 + _ ≤ 8
      omega
    refine am_call (sh := sh) (cA := cA) (ad := ad) (D := D) (A := A) (o := o1) (a := (Value.ref (ad b) :: as.map (am_c ad)).toArray) (rest := r.map (am_c ad)) ?_ hS (fun H1 locs1 hP1 hS1 => ?_)
    · cases nest with
      | false =>
        exact va_runV ⟨hx, hb, hml, hown, hts⟩ hC (cwV nq hts (fun w hw => by
          unfold wsV at hw
          rcases List.mem_append.mp hw with hw | hw
          · refine am_good w ?_
            simp only [List.mem_cons, List.not_mem_nil, or_false] at hw
            rcases hw with rfl | rfl | rfl | rfl
            · exact hl1 rfl
            · exact hi1
            · exact hi2
            · exact hm5
          · exact hgood w hw) rfl rfl rfl ⟨rfl, hm4.1, hm4.2, hl3⟩ hRR) ⟨am_blind, hrec, hpre⟩ rfl (by rw [List.length_map]; exact ha1) hl.1 hstk hroom hd ⟨Nat.zero_le _, Nat.zero_le _⟩
      | true =>
        exact va_runVN ⟨hx, hb, hml, hown, hts⟩ hC ⟨va_cnB nq hts hgood rfl rfl rfl (hSt.1 _ (List.mem_filter.mpr ⟨hl2 rfl, rfl⟩)) (hts _ hm5) ⟨hm4.1, hm4.2, hl3⟩ hRR, hts _ hi1, hts _ hi2⟩ ⟨am_blind, hrec, hpre⟩ rfl (by rw [List.length_map]; exact ha1) hl.1 hstk hroom hd ⟨Nat.zero_le _, Nat.zero_le _⟩
    · have h := h H1 locs1 ls hP1 hS1 hl
      rw [am_nr_map hnr] at h
      exact h
  · -- invokestatic
    obtain ⟨rfl, hd, hv⟩ := am_dn hk rfl
    obtain ⟨⟨y, nq, sq, nest⟩, hq, h9⟩ := am_opt_s h
    replace h := h9
    have hcp0 := am_cpA _ _ (am_fnd_s hq)
    dsimp only at h
    split at h
    · obtain ⟨⟨as, r⟩, hpq, h9⟩ := am_opt_s h
      replace h := h9
      obtain ⟨htt, o1, hc1, h9⟩ := am_test_s h
      replace h := h9
      obtain ⟨hnr, h9⟩ := am_test_s h
      replace h := h9
      simp only [Bool.and_eq_true] at htt
      obtain ⟨ht0, ht1⟩ := htt
      obtain ⟨hm, hC⟩ := hcall _ _ _ _ hc1
      obtain ⟨ha1, ha2, ha3⟩ := am_args_s hpq
      simp only [List.length_nil, Nat.add_zero] at ha1
      have hst : st = as.reverse ++ r := by rw [ha2, ← ha1, List.take_length]
      have hcp := hcp0.1 hm
      replace ht0 := Nat.eq_of_beq_eq_true ht0
      subst ht0
      obtain ⟨hl1, hl2, hl3, -, hl5⟩ := hcp
      have hi1 := hl5 rfl
      obtain ⟨hm1, hm2, hm3, hm4, hm5, hm6⟩ := am_mth hm
      intro H locs ls hP hS hl
      have hpre : ∀ U : State, U.heap = H → s.WarmedH U.vm → am_Pre sh cA ad D A as w (as.map (am_c ad)).toArray U := fun U hU hW => ⟨rfl, by rw [hU]; exact hP, va_K.moved hW.alike hK, by rw [hU]; exact (hSt.kept hS.2.1).warm hW⟩
      have hgood : GoodIn am_GT (Cond.code (am_y y) (am_b y) (am_ml y) (am_rt y) :: am_GT) := am_goodL fun w hw => (List.mem_cons.mp hw).elim (fun z => by rw [z]; exact hm1) id
      have hstk : (F0 m pc ls (st.map (am_c ad))).stack = (as.map (am_c ad)).reverse ++ r.map (am_c ad) := by
        show st.map (am_c ad) = _
        rw [hst]
        simp
      have hRR : (am_RM n).frames + 1 ≤ R.frames ∧ 8 + (am_ml y + 11) + (am_RM n).locals ≤ R.locals := by
        rw [hR]
        refine ⟨Nat.le_refl _, ?_⟩
        show 8 + (am_ml y + 11) + 40 * n ≤ 40 * (n + 1)
        have : am_ml y ≤ 20 := hm6
        omega
      have hroom : 2 * (F0 m pc ls (st.map (am_c ad))).monitorRoom + ((r.map (am_c ad)).map fun v => v.category).sum ≤ 8 := by
        rw [am_cat_sum]
        have := Nat.le_of_ble_eq_true ht1
        show 2 * 0 + _ ≤ 8
        omega
      refine am_call (sh := sh) (cA := cA) (ad := ad) (D := D) (A := A) (o := o1) (a := (as.map (am_c ad)).toArray) (rest := r.map (am_c ad)) ?_ hS (fun H1 locs1 hP1 hS1 => ?_)
      · cases nest with
        | false =>
          exact va_runS ⟨hx, hb, hml, hown, hts⟩ hC (va_cwS nq hts (fun w hw => by
            unfold va_wsS at hw
            rcases List.mem_append.mp hw with hw | hw
            · refine am_good w ?_
              simp only [List.mem_cons, List.not_mem_nil, or_false] at hw
              rcases hw with rfl | rfl | rfl
              · exact hl1 rfl
              · exact hi1
              · exact hm5
            · exact hgood w hw) rfl rfl rfl ⟨hm4.1, hm4.2, hl3⟩ hRR) ⟨am_blind, hpre⟩ rfl (by rw [List.length_map]; exact ha1) hl.1 hstk hroom hd ⟨Nat.zero_le _, Nat.zero_le _⟩
        | true =>
          exact va_runSN ⟨hx, hb, hml, hown, hts⟩ hC ⟨va_cnB nq hts hgood rfl rfl rfl (hSt.1 _ (List.mem_filter.mpr ⟨hl2 rfl, rfl⟩)) (hts _ hm5) ⟨hm4.1, hm4.2, hl3⟩ hRR, hts _ hi1, trivial⟩ ⟨am_blind, hpre⟩ rfl (by rw [List.length_map]; exact ha1) hl.1 hstk hroom hd ⟨Nat.zero_le _, Nat.zero_le _⟩
      · have h := h H1 locs1 ls hP1 hS1 hl
        rw [am_nr_map hnr] at h
        exact h
    · have hbi := am_tbi
      simp only [Bool.and_eq_true, decide_eq_true_eq] at hbi
      obtain ⟨b1, b2, b3, b4, b5, b6, b7, b8⟩ := hbi
      have hfr : 1 ≤ R.frames := by rw [hR]; exact Nat.succ_le_succ (Nat.zero_le n)
      have hlo : 40 ≤ R.locals := by rw [hR]; show 40 ≤ 40 * (n + 1); omega
      split at h
      · obtain ⟨x, y, r, e9, h9⟩ := am_i2_s h
        replace h := h9
        subst e9
        obtain ⟨ht, h9⟩ := am_test_s h
        replace h := h9
        replace ht := Nat.le_of_ble_eq_true ht
        exact fun H locs ls hP hS hl => va_mmin hx hb (hml.trans hl.1.symm) hown (hts _ (hcp0.2.1 rfl)) (hts _ b1) (hts _ b3) (hts _ b4) hfr (by rw [am_cat_sum]; omega) (Nat.zero_le _) (Nat.zero_le _) hd (h H locs ls hP hS hl)
      · obtain ⟨x, y, r, e9, h9⟩ := am_i2_s h
        replace h := h9
        subst e9
        obtain ⟨ht, h9⟩ := am_test_s h
        replace h := h9
        replace ht := Nat.le_of_ble_eq_true ht
        exact fun H locs ls hP hS hl => va_mmax hx hb (hml.trans hl.1.symm) hown (hts _ (hcp0.2.2.1 rfl)) (hts _ b2) (hts _ b3) (hts _ b5) hfr (by rw [am_cat_sum]; omega) (Nat.zero_le _) (Nat.zero_le _) hd (h H locs ls hP hS hl)
      · obtain ⟨a0, sp, a, dp, n0, r, e9, h9⟩ := am_cp_s h
        replace h := h9
        subst e9
        obtain ⟨ht, h9⟩ := am_test_s h
        replace h := h9
        replace ht := Nat.le_of_ble_eq_true ht
        obtain ⟨l0, hl0, h9⟩ := am_opt_s h
        replace h := h9
        obtain ⟨l1, hl1, g1, g2, g3, g4, g5, h9⟩ := am_opt_s h
        replace h := h9
        intro H locs ls hP hS hl
        have hnw : nativeFrameWords "java/lang/System" "arraycopy" 5 ≤ 20 := by decide
        have hs0 := am_ln_s hl0
        have hs1 := am_ln_s hl1
        refine va_copyi hx hb (hml.trans hl.1.symm) hown (hts _ (hcp0.2.2.2.1 rfl)) (hts _ b6) (hts _ b7) (hts _ b8) hK hP (hAD.D cA w) hS a0 a 0 0 (am_w_at hs0) (am_w_at hs1) rfl rfl rfl g1 g2 g3 g4 g5 (fun _ _ => rfl) hfr (by rw [am_cat_sum]; omega) hd (fun H1 locs1 hP1 _ hS1 => ?_)
        rw [am_w_set hs1 (w := w) (w' := am_pa w a (va_cpy (w.1 a0) (w.1 a) sp.toNatClampNeg dp.toNatClampNeg n0.toNatClampNeg)) ?_ (fun b hb => by funext i; simp [am_pa, hb]) (fun _ _ => rfl)] at hP1
        · exact h H1 locs1 ls hP1 hS1 hl
        · have e5 : ∀ f : Nat → Int32, (am_pa w a f).1 a = f := fun f => by funext i; simp [am_pa]
          simp only [am_e, e5]
      · exact h.elim
  · -- ireturn
    obtain ⟨rfl, hd, hv⟩ := am_dn hk rfl
    obtain ⟨x, r, e9, h9⟩ := am_i1_s h
    replace h := h9
    subst e9
    split at h
    · obtain ⟨t, ht, hn, h9⟩ := am_opt_s h
      replace h := h9
      intro H locs ls hP hS hl
      exact W.zret hx hb (hr.trans ht) hn (fun t' ht' hW => ⟨by rw [← h], by rw [← h, ht']; exact hP, hS.F ht'⟩) hS.2.2 hd hlocks
    · exact h.elim
  · obtain ⟨rfl, hd, hv⟩ := am_dn hk rfl
    obtain ⟨x, r, e9, h9⟩ := am_l1_s h
    replace h := h9
    subst e9
    split at h
    · obtain ⟨ht, h⟩ := h
      intro H locs ls hP hS hl
      exact W.lret hx hb (hr.trans ht) (fun t' ht' hW => ⟨by rw [← h], by rw [← h, ht']; exact hP, hS.F ht'⟩) hS.2.2 hd hlocks
    · exact h.elim
  · obtain ⟨rfl, hd, hv⟩ := am_dn hk rfl
    split at h
    · obtain ⟨ht, h⟩ := h
      intro H locs ls hP hS hl
      exact W.vret hx hb (hr.trans ht) (fun t' ht' hW => ⟨by rw [← h], by rw [← h, ht']; exact hP, hS.F ht'⟩) hS.2.2 hd hlocks
    · exact h.elim
  · exact h.elim
/-- a run of the abstract machine is one of the machine -/
theorem am_RG (X : am_X p l R s m args meth c sh cA ad D A mid n call) {pc : Nat} {lv : am_L} {st : List Value} {w : am_M} (h : am_R sh mid call (fun r => r = o) pc lv st w) : am_G p l e R s m args below meth c sh cA ad D A (am_ml mid) o pc lv st w :=
  h _ fun pc lv st w en he hs => by
    have := am_stepG (e := e) (below := below) X he hs
    exact fun H locs ls hP hS hl => this H locs ls hP hS (am_sub hl (fun q hq => am_kill_s hq))
end AMS
theorem am_in_eq (ad : Nat → Nat) : ∀ (as : List Value) (n : Nat), lv_args n (as.map (am_c ad)) = am_cl ad (am_in n as)
  | [], n => rfl
  | v :: l, n => by
    simp only [List.map_cons, lv_args, am_in, am_cl]
    rw [am_in_eq ad l]
    have : (if (am_c ad v).category = 2 then n + 2 else n + 1) = n + v.category := by
      rw [am_cat_c]
      cases v <;> rfl
    rw [this]
    rfl
theorem am_sl_len (ad : Nat → Nat) : ∀ as : List Value, (lg_sl (as.map (am_c ad))).length = am_cat as
  | [] => rfl
  | v :: l => by
    have ih := am_sl_len ad l
    simp only [lg_sl, List.map_cons, List.flatMap_cons, List.length_append, am_cat] at ih ⊢
    rw [ih, am_cat_c]
    cases v <;> rfl
/-- THE CONTRACTS: what the abstract machine does to a depth, the machine does -/
theorem am_sound (l : Launch) (sh : List am_S) (cA : Nat → ClassId) (ad : Nat → Nat) (D : va_G) (A : Nat → Prop) (hsh : am_okS sh = true) (hAD : am_AD sh ad A) : ∀ (d n : Nat), d ≤ n → ∀ (mid : Nat) (as : List Value) (w : am_M) (o : am_O), am_D sh d mid as w o → mid < 199 ∧ am_C l sh cA ad D A n mid as w o := by
  intro d
  induction d with
  | zero => intro n _ mid as w o h; exact h.elim
  | succ d ih =>
    intro n hn mid as w o h
    rcases h with h | ⟨hfit, hm, h⟩
    · exact ih n (by omega) mid as w o h
    · have hm : mid < 199 := Nat.le_of_ble_eq_true hm
      refine ⟨hm, ?_⟩
      obtain ⟨n, rfl⟩ : ∃ k, n = k + 1 := ⟨n - 1, by omega⟩
      obtain ⟨hm1, hm2, hm3, hm4, hm5, hm6⟩ := am_mth hm
      refine Met.ofW (cc := am_b mid) (maxL := am_ml mid) (ret := am_rt mid) hm2 rfl ?_
      intro p e s m args below meth c s₁ B hml hv
      obtain ⟨rfl, hP, hK, hSt⟩ := hv
      have hts := atoms_spec (ws := Cond.code (am_y mid) (am_b mid) (am_ml mid) (am_rt mid) :: am_GT) B.pre
      have hown : s.vm.findClass (am_cn (am_o mid)) = some m.cls := by
        rw [← (show (am_y mid).cls = am_cn (am_o mid) from hm3)]
        exact findClass_of_methodNamed B.named
      have X : am_X p l (am_RM (n + 1)) s m (as.map (am_c ad)).toArray meth c sh cA ad D A mid n (am_D sh d) := ⟨B.exec, B.bytes, hml, B.returns, B.notSynchronized, hown, fun w hw => hts w (List.mem_cons_of_mem _ hw), hK, hAD, hSt, hsh, rfl, ih n (by omega)⟩
      have hl := lv_entry (as.map (am_c ad)) (n := am_ml mid) (by rw [am_sl_len]; exact Nat.le_of_ble_eq_true hfit)
      rw [lg_entry_eq]
      rw [am_in_eq] at hl
      exact am_RG X h s.heap [] _ hP va_S.rf hl
