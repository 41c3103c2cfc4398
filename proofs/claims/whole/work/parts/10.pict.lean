/-! THE MACHINE KEEPS THE ABSTRACT MACHINE: pictures of cells, one row a step -/
def am_c (ad : Nat → Nat) : Value → Value
  | .ref k => .ref (ad k)
  | v => v
def am_cl (ad : Nat → Nat) (lv : am_L) : am_L := lv.map fun q => (q.1, am_c ad q.2)
def am_fv (ad : Nat → Nat) (w : am_M) (k j : Nat) : Option (Option Nat) → Value
  | none => .int (w.1 k j)
  | some none => .long (w.2 k)
  | some (some t) => .ref (ad t)
def am_fs (ad : Nat → Nat) (w : am_M) (k : Nat) : Nat → List (Option (Option Nat)) → List Value
  | _, [] => []
  | j, f :: l => am_fv ad w k j f :: am_fs ad w k (j + 1) l
def am_e (cA : Nat → ClassId) (ad : Nat → Nat) (w : am_M) (k : Nat) : am_S → va_E
  | .inl (.inl n) => .inl (cA 0, n, .inl (w.1 k))
  | .inl (.inr q) => .inl (cA q.1, q.2.length, .inr (.inr (.inr (.inr fun j => (q.2[j]?).map ad))))
  | .inr q => .inr (q.1, am_fs ad w k 0 q.2)
def am_w (sh : List am_S) (cA : Nat → ClassId) (ad : Nat → Nat) (w : am_M) : va_W := (List.range sh.length).map fun k => (ad k, am_e cA ad w k (sh.getD k (.inl (.inl 0))))
def am_ty (cA : Nat → ClassId) : List (ClassId × FieldType) := [(cA 0, .int), (cA 1, .object "DeadLasts$Text"), (cA 2, .object "DeadLasts$Sheet"), (cA 3, .object "DeadLasts$Trace"), (cA 4, .object "DeadLasts$Walker")]
theorem am_w_at {sh : List am_S} {cA : Nat → ClassId} {ad : Nat → Nat} {w : am_M} {k : Nat} {S : am_S} (h : sh[k]? = some S) : (am_w sh cA ad w)[k]? = some (ad k, am_e cA ad w k S) := by
  have hk : k < sh.length := (List.getElem?_eq_some_iff.mp h).1
  simp only [am_w, List.getElem?_map, List.getElem?_range hk, Option.map_some, List.getD_eq_getElem?_getD, h, Option.getD_some]
theorem am_w_no {sh : List am_S} {cA : Nat → ClassId} {ad : Nat → Nat} {w : am_M} {k : Nat} (h : sh.length ≤ k) : (am_w sh cA ad w)[k]? = none := by
  simp [am_w, h]
theorem am_fs_at (ad : Nat → Nat) (w : am_M) (k : Nat) : ∀ (l : List (Option (Option Nat))) (a j : Nat), (am_fs ad w k a l)[j]? = (l[j]?).map (am_fv ad w k (a + j))
  | [], a, j => by simp [am_fs]
  | f :: l, a, 0 => by simp [am_fs]
  | f :: l, a, j + 1 => by
    simp only [am_fs, List.getElem?_cons_succ]
    rw [am_fs_at ad w k l (a + 1) j, show a + 1 + j = a + (j + 1) by omega]
theorem am_fs_len (ad : Nat → Nat) (w : am_M) (k : Nat) : ∀ (l : List (Option (Option Nat))) (a : Nat), (am_fs ad w k a l).length = l.length
  | [], a => rfl
  | f :: l, a => by simp [am_fs, am_fs_len ad w k l (a + 1)]
/-- a cell's picture depends on its own numbers alone -/
theorem am_e_congr {cA : Nat → ClassId} {ad : Nat → Nat} {w w' : am_M} {k : Nat} (h1 : w'.1 k = w.1 k) (h2 : w'.2 k = w.2 k) (S : am_S) : am_e cA ad w' k S = am_e cA ad w k S := by
  match S with
  | .inl (.inl n) => simp [am_e, h1]
  | .inl (.inr q) => rfl
  | .inr q =>
    simp only [am_e]
    congr 2
    apply List.ext_getElem?
    intro j
    rw [am_fs_at, am_fs_at]
    congr 1
    funext f
    match f with
    | none => simp [am_fv, h1]
    | some none => simp [am_fv, h2]
    | some (some t) => rfl
theorem am_w_set {sh : List am_S} {cA : Nat → ClassId} {ad : Nat → Nat} {w w' : am_M} {k : Nat} {S : am_S} {E : va_E} (h : sh[k]? = some S) (hE : E = am_e cA ad w' k S) (h1 : ∀ a, a ≠ k → w'.1 a = w.1 a) (h2 : ∀ a, a ≠ k → w'.2 a = w.2 a) : (am_w sh cA ad w).set k (ad k, E) = am_w sh cA ad w' := by
  have hk : k < sh.length := (List.getElem?_eq_some_iff.mp h).1
  apply List.ext_getElem?
  intro j
  by_cases hj : j = k
  · subst hj
    rw [List.getElem?_set_self (by simp [am_w]; exact hk), am_w_at h, hE]
  · rw [List.getElem?_set_ne (Ne.symm hj)]
    by_cases hl : j < sh.length
    · obtain ⟨S', hS⟩ : ∃ S', sh[j]? = some S' := ⟨_, List.getElem?_eq_getElem hl⟩
      rw [am_w_at hS, am_w_at hS, am_e_congr (h1 j hj) (h2 j hj)]
    · rw [am_w_no (by omega), am_w_no (by omega)]
theorem am_fs_pi {ad : Nat → Nat} {w : am_M} {k j : Nat} {x : Int32} {l : List (Option (Option Nat))} (h : l[j]? = some none) : (am_fs ad w k 0 l).set j (.int x) = am_fs ad (am_pi w k j x) k 0 l := by
  apply List.ext_getElem?
  intro i
  by_cases hi : i = j
  · subst hi
    have hl : i < l.length := (List.getElem?_eq_some_iff.mp h).1
    rw [List.getElem?_set_self (by rw [am_fs_len]; exact hl), am_fs_at, h]
    simp [am_fv, am_pi]
  · rw [List.getElem?_set_ne (Ne.symm hi), am_fs_at, am_fs_at]
    congr 1
    funext f
    match f with
    | none => simp [am_fv, am_pi, hi]
    | some none => rfl
    | some (some t) => rfl
theorem am_fs_pl {ad : Nat → Nat} {w : am_M} {k j : Nat} {x : Int64} {l : List (Option (Option Nat))} (h : l[j]? = some (some none)) (hu : ∀ i, l[i]? = some (some none) → i = j) : (am_fs ad w k 0 l).set j (.long x) = am_fs ad (am_pl w k x) k 0 l := by
  apply List.ext_getElem?
  intro i
  by_cases hi : i = j
  · subst hi
    have hl : i < l.length := (List.getElem?_eq_some_iff.mp h).1
    rw [List.getElem?_set_self (by rw [am_fs_len]; exact hl), am_fs_at, h]
    simp [am_fv, am_pl]
  · rw [List.getElem?_set_ne (Ne.symm hi), am_fs_at, am_fs_at]
    cases hf : l[i]? with
    | none => rfl
    | some f =>
      match f, hf with
      | none, _ => rfl
      | some none, hf => exact absurd (hu i hf) hi
      | some (some t), _ => rfl
/-- the shape is one of the classes' -/
def am_okf (ci : Nat) : Nat → List (Option (Option Nat)) → Bool
  | _, [] => true
  | j, none :: l => Nat.beq (am_kd ci j) 0 && am_okf ci (j + 1) l
  | j, some none :: l => Nat.beq (am_kd ci j) 2 && am_okf ci (j + 1) l
  | j, some (some _) :: l => Nat.beq (am_kd ci j) 1 && am_okf ci (j + 1) l
def am_nl : List (Option (Option Nat)) → Nat
  | [] => 0
  | some none :: l => am_nl l + 1
  | _ :: l => am_nl l
def am_okc : am_S → Bool
  | .inl (.inl _) => true
  | .inl (.inr q) => Nat.ble 1 q.1 && Nat.blt q.1 5
  | .inr q => (match vwCl[q.1]? with
    | some r => Nat.beq q.2.length r.2.2
    | none => false) && (am_okf q.1 0 q.2 && Nat.ble (am_nl q.2) 1)
def am_okS (sh : List am_S) : Bool := sh.all am_okc && Nat.ble sh.length 1000
theorem am_okf_at {ci : Nat} : ∀ {l : List (Option (Option Nat))} {a j : Nat} {f : Option (Option Nat)}, am_okf ci a l = true → l[j]? = some f → (am_kd ci (a + j) = match f with | none => 0 | some none => 2 | some (some _) => 1)
  | [], a, j, f, _, h => by simp at h
  | g :: l, a, 0, f, h, hf => by
    simp only [List.getElem?_cons_zero, Option.some.injEq] at hf
    subst hf
    match g, h with
    | none, h => simp only [am_okf, Bool.and_eq_true] at h; exact Nat.eq_of_beq_eq_true h.1
    | some none, h => simp only [am_okf, Bool.and_eq_true] at h; exact Nat.eq_of_beq_eq_true h.1
    | some (some t), h => simp only [am_okf, Bool.and_eq_true] at h; exact Nat.eq_of_beq_eq_true h.1
  | g :: l, a, j + 1, f, h, hf => by
    simp only [List.getElem?_cons_succ] at hf
    have h2 : am_okf ci (a + 1) l = true := by
      match g, h with
      | none, h => simp only [am_okf, Bool.and_eq_true] at h; exact h.2
      | some none, h => simp only [am_okf, Bool.and_eq_true] at h; exact h.2
      | some (some t), h => simp only [am_okf, Bool.and_eq_true] at h; exact h.2
    have := am_okf_at h2 hf
    rw [show a + (j + 1) = a + 1 + j by omega]
    exact this
theorem am_nl_pos : ∀ {l : List (Option (Option Nat))} {j : Nat}, l[j]? = some (some none) → 1 ≤ am_nl l
  | [], j, h => by simp at h
  | some none :: l, j, h => by simp [am_nl]
  | none :: l, 0, h => by simp at h
  | none :: l, j + 1, h => am_nl_pos (l := l) (j := j) (by simpa using h)
  | some (some t) :: l, 0, h => by simp at h
  | some (some t) :: l, j + 1, h => am_nl_pos (l := l) (j := j) (by simpa using h)
theorem am_nl_one : ∀ {l : List (Option (Option Nat))} {i j : Nat}, am_nl l ≤ 1 → l[i]? = some (some none) → l[j]? = some (some none) → i = j
  | [], i, j, _, h, _ => by simp at h
  | none :: l, 0, j, _, h, _ => by simp at h
  | none :: l, i + 1, 0, _, _, h => by simp at h
  | none :: l, i + 1, j + 1, hn, h1, h2 => congrArg (· + 1) (am_nl_one (l := l) (i := i) (j := j) hn (by simpa using h1) (by simpa using h2))
  | some (some t) :: l, 0, j, _, h, _ => by simp at h
  | some (some t) :: l, i + 1, 0, _, _, h => by simp at h
  | some (some t) :: l, i + 1, j + 1, hn, h1, h2 => congrArg (· + 1) (am_nl_one (l := l) (i := i) (j := j) hn (by simpa using h1) (by simpa using h2))
  | some none :: l, 0, 0, _, _, _ => rfl
  | some none :: l, i + 1, j, hn, h1, _ => by
    have := am_nl_pos (l := l) (j := i) (by simpa using h1)
    simp only [am_nl] at hn; omega
  | some none :: l, 0, j + 1, hn, _, h2 => by
    have := am_nl_pos (l := l) (j := j) (by simpa using h2)
    simp only [am_nl] at hn; omega
theorem am_okc_at {sh : List am_S} (hsh : am_okS sh = true) {k : Nat} {S : am_S} (h : sh[k]? = some S) : am_okc S = true := by
  simp only [am_okS, Bool.and_eq_true] at hsh
  exact List.all_eq_true.mp hsh.1 S (List.mem_of_getElem? h)
theorem am_isb_s {sh : List am_S} {b ci : Nat} (h : am_isb sh b ci = true) : ∃ fl, sh[b]? = some (.inr (ci, fl)) := by
  unfold am_isb at h
  split at h
  · rename_i q hq
    have := Nat.eq_of_beq_eq_true h
    exact ⟨q.2, by rw [hq, ← this]⟩
  · cases h
theorem am_ln_s {sh : List am_S} {b n : Nat} (h : am_ln sh b = some n) : sh[b]? = some (.inl (.inl n)) := by
  unfold am_ln at h
  split at h
  · cases h; assumption
  · cases h
theorem am_rl_s {sh : List am_S} {b : Nat} {q : Nat × List Nat} (h : am_rl sh b = some q) : sh[b]? = some (.inl (.inr q)) := by
  unfold am_rl at h
  split at h
  · cases h; assumption
  · cases h
theorem am_si_s {b : Nat} {l : List Int32} (h : am_si b = some l) : ∃ j, b = 1000 + j ∧ am_ST[j]? = some (.inl (.inl l)) := by
  unfold am_si at h
  split at h
  · rename_i hb
    split at h
    · cases h
      exact ⟨b - 1000, by have := Nat.le_of_ble_eq_true hb; omega, by assumption⟩
    · cases h
  · cases h
theorem am_sb_s {b : Nat} {l : List Int32} (h : am_sb b = some l) : ∃ j, b = 1000 + j ∧ am_ST[j]? = some (.inl (.inr l)) := by
  unfold am_sb at h
  split at h
  · rename_i hb
    split at h
    · cases h
      exact ⟨b - 1000, by have := Nat.le_of_ble_eq_true hb; omega, by assumption⟩
    · cases h
  · cases h
theorem am_sv_s {b v : Nat} (h : am_sv b = some v) : ∃ j, b = 1000 + j ∧ am_ST[j]? = some (.inr v) := by
  unfold am_sv at h
  split at h
  · rename_i hb
    split at h
    · cases h
      exact ⟨b - 1000, by have := Nat.le_of_ble_eq_true hb; omega, by assumption⟩
    · cases h
  · cases h
theorem am_isstr_s {b : Nat} (h : am_isstr b = true) : ∃ j v, b = 1000 + j ∧ am_ST[j]? = some (.inr v) := by
  unfold am_isstr at h
  split at h
  · rename_i hb
    split at h
    · rename_i v hv
      exact ⟨b - 1000, v, by have := Nat.le_of_ble_eq_true hb; omega, hv⟩
    · cases h
  · cases h
theorem am_bf {a b : Nat} (h : Nat.beq a b = false) : (a == b) = false := by
  have : a ≠ b := fun e => by subst e; simp at h
  simp [this]
theorem am_fnd_s {α : Type} : ∀ {l : List (Nat × α)} {n : Nat} {a : α}, am_fnd l n = some a → (n, a) ∈ l
  | [], n, a, h => by simp [am_fnd] at h
  | q :: l, n, a, h => by
    unfold am_fnd at h
    split at h
    · rename_i hb
      cases h
      have := Nat.eq_of_beq_eq_true hb
      subst this
      exact List.mem_cons_self
    · exact List.mem_cons_of_mem _ (am_fnd_s h)
theorem am_at_s {mid pc : Nat} {e : Instr × Int32 × Nat × Nat} (h : am_at mid pc = some e) : am_ok1 (am_b mid) (pc, e) = true := by
  unfold am_at at h
  split at h
  · rename_i l hl
    exact List.all_eq_true.mp (am_tcd hl) _ (am_fnd_s h)
  · cases h
theorem am_lk_s : ∀ {lv : am_L} {i : Nat} {v : Value}, am_lk lv i = some v → (i, v) ∈ lv
  | [], i, v, h => by simp [am_lk] at h
  | q :: l, i, v, h => by
    unfold am_lk at h
    split at h
    · rename_i hb
      cases h
      have := Nat.eq_of_beq_eq_true hb
      subst this
      exact List.mem_cons_self
    · exact List.mem_cons_of_mem _ (am_lk_s h)
theorem am_ins_s {i : Nat} {v : Value} : ∀ {lv : am_L} {q : Nat × Value}, q ∈ am_ins i v lv → q = (i, v) ∨ q ∈ lv
  | [], q, h => by simp [am_ins] at h; exact Or.inl h
  | a :: l, q, h => by
    unfold am_ins at h
    split at h
    · rcases List.mem_cons.mp h with h | h
      · exact Or.inl h
      · exact Or.inr h
    · rcases List.mem_cons.mp h with h | h
      · exact Or.inr (by rw [h]; exact List.mem_cons_self)
      · rcases am_ins_s h with h | h
        · exact Or.inl h
        · exact Or.inr (List.mem_cons_of_mem _ h)
theorem am_cut1_s {i : Nat} : ∀ {lv : am_L} {q : Nat × Value}, q ∈ am_cut1 i lv → q ∈ lv ∧ (!(q.1 == i) && !(q.1 + 1 == i && q.2.category == 2)) = true
  | [], q, h => by simp [am_cut1] at h
  | a :: l, q, h => by
    unfold am_cut1 at h
    split at h
    · have := am_cut1_s h
      exact ⟨List.mem_cons_of_mem _ this.1, this.2⟩
    · rename_i hb
      rcases List.mem_cons.mp h with h | h
      · subst h
        refine ⟨List.mem_cons_self, ?_⟩
        simp only [Bool.or_eq_false_iff, Bool.and_eq_false_iff] at hb
        simp only [Bool.and_eq_true, Bool.not_eq_true', Bool.and_eq_false_iff]
        exact ⟨am_bf hb.1, hb.2.imp am_bf am_bf⟩
      · have := am_cut1_s h
        exact ⟨List.mem_cons_of_mem _ this.1, this.2⟩
theorem am_cut2_s {i : Nat} : ∀ {lv : am_L} {q : Nat × Value}, q ∈ am_cut2 i lv → q ∈ lv ∧ (!(q.1 == i) && (!(q.1 == i + 1) && !(q.1 + 1 == i && q.2.category == 2))) = true
  | [], q, h => by simp [am_cut2] at h
  | a :: l, q, h => by
    unfold am_cut2 at h
    split at h
    · have := am_cut2_s h
      exact ⟨List.mem_cons_of_mem _ this.1, this.2⟩
    · rename_i hb
      rcases List.mem_cons.mp h with h | h
      · subst h
        refine ⟨List.mem_cons_self, ?_⟩
        simp only [Bool.or_eq_false_iff, Bool.and_eq_false_iff] at hb
        simp only [Bool.and_eq_true, Bool.not_eq_true', Bool.and_eq_false_iff]
        exact ⟨am_bf hb.1, am_bf hb.2.1, hb.2.2.imp am_bf am_bf⟩
      · have := am_cut2_s h
        exact ⟨List.mem_cons_of_mem _ this.1, this.2⟩
theorem am_keep_s {ks : List Nat} : ∀ {lv : am_L} {q : Nat × Value}, q ∈ am_keep ks lv → q ∈ lv
  | [], q, h => by simp [am_keep] at h
  | a :: l, q, h => by
    unfold am_keep at h
    split at h
    · rcases List.mem_cons.mp h with h | h
      · rw [h]; exact List.mem_cons_self
      · exact List.mem_cons_of_mem _ (am_keep_s h)
    · exact List.mem_cons_of_mem _ (am_keep_s h)
theorem am_kill_s {mid pc : Nat} {lv : am_L} {q : Nat × Value} (h : q ∈ am_kill mid pc lv) : q ∈ lv := by
  unfold am_kill at h
  split at h
  · split at h
    · exact am_keep_s h
    · exact h
  · exact h
theorem am_cat_c (ad : Nat → Nat) (v : Value) : (am_c ad v).category = v.category := by cases v <;> rfl
theorem am_cat_sum (ad : Nat → Nat) : ∀ l : List Value, ((l.map (am_c ad)).map fun v => v.category).sum = am_cat l
  | [] => rfl
  | v :: l => by simp only [List.map_cons, List.sum_cons, am_cat, am_cat_c, am_cat_sum ad l]
theorem am_sub {ls : Array Slot} {nL : Nat} {a b : am_L} {ad : Nat → Nat} (h : lv_has ls nL (am_cl ad a)) (hs : ∀ q ∈ b, q ∈ a) : lv_has ls nL (am_cl ad b) := by
  refine ⟨h.1, h.2.1, fun q hq => ?_⟩
  obtain ⟨x, hx, rfl⟩ := List.mem_map.mp hq
  exact h.2.2 _ (List.mem_map.mpr ⟨x, hs x hx, rfl⟩)
theorem am_get {ls : Array Slot} {nL : Nat} {lv : am_L} {ad : Nat → Nat} {i : Nat} {v : Value} (h : lv_has ls nL (am_cl ad lv)) (hv : am_lk lv i = some v) : ls[i]? = some (.val (am_c ad v)) :=
  h.2.2 (i, am_c ad v) (List.mem_map.mpr ⟨(i, v), am_lk_s hv, rfl⟩)
theorem am_st1 {ls : Array Slot} {nL : Nat} {lv : am_L} {ad : Nat → Nat} {i : Nat} {v : Value} (h : lv_has ls nL ((i, am_c ad v) :: (am_cl ad lv).filter (fun q => !(q.1 == i) && !(q.1 + 1 == i && q.2.category == 2)))) : lv_has ls nL (am_cl ad (am_ins i v (am_cut1 i lv))) := by
  refine ⟨h.1, h.2.1, fun q hq => ?_⟩
  obtain ⟨x, hx, rfl⟩ := List.mem_map.mp hq
  refine h.2.2 _ ?_
  rcases am_ins_s hx with rfl | hx
  · exact List.mem_cons_self
  · obtain ⟨h1, h2⟩ := am_cut1_s hx
    refine List.mem_cons_of_mem _ (List.mem_filter.mpr ⟨List.mem_map.mpr ⟨x, h1, rfl⟩, ?_⟩)
    dsimp only
    rw [am_cat_c]
    exact h2
theorem am_st2 {ls : Array Slot} {nL : Nat} {lv : am_L} {ad : Nat → Nat} {i : Nat} {v : Value} (h : lv_has ls nL ((i, am_c ad v) :: (am_cl ad lv).filter (fun q => !(q.1 == i) && (!(q.1 == i + 1) && !(q.1 + 1 == i && q.2.category == 2))))) : lv_has ls nL (am_cl ad (am_ins i v (am_cut2 i lv))) := by
  refine ⟨h.1, h.2.1, fun q hq => ?_⟩
  obtain ⟨x, hx, rfl⟩ := List.mem_map.mp hq
  refine h.2.2 _ ?_
  rcases am_ins_s hx with rfl | hx
  · exact List.mem_cons_self
  · obtain ⟨h1, h2⟩ := am_cut2_s hx
    refine List.mem_cons_of_mem _ (List.mem_filter.mpr ⟨List.mem_map.mpr ⟨x, h1, rfl⟩, ?_⟩)
    dsimp only
    rw [am_cat_c]
    exact h2
theorem am_args_s : ∀ {n : Nat} {acc st as r : List Value}, am_args n acc st = some (as, r) → as.length = n + acc.length ∧ st = (as.take n).reverse ++ r ∧ as.drop n = acc
  | 0, acc, st, as, r, h => by simp [am_args] at h; obtain ⟨rfl, rfl⟩ := h; simp
  | n + 1, acc, [], as, r, h => by simp [am_args] at h
  | n + 1, acc, v :: st, as, r, h => by
    simp only [am_args] at h
    obtain ⟨h1, h2, h3⟩ := am_args_s h
    simp only [List.length_cons] at h1
    refine ⟨by omega, ?_, ?_⟩
    · have hv : as[n]? = some v := by
        have := congrArg (fun l => l[0]?) h3
        simpa using this
      have hn : n < as.length := by omega
      rw [h2, List.take_succ, hv]
      simp
    · have := congrArg (List.drop 1) h3
      simpa [List.drop_drop, Nat.add_comm] using this
