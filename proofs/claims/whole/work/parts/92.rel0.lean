/-! both sides, freshly made, hold the same -/
def S0 : Sp := (fun _ => 0, fun _ _ => 0, (0, fun _ => 0), (0, fun _ => 0, fun _ => 0, fun _ => 0), (fun _ => 0, fun _ => none, fun _ _ => 0), 0)
theorem S0_town : townR (S0.tb 0) (S0.tl 0) = (none, 0, 0, fun _ => 0) := rfl
theorem S0_lasts : lastsR (S0.tb 1) (S0.tl 1) = (none, 0, fun _ => 0, fun _ => 0, fun _ _ => 0) := rfl
theorem S0_people : peopleR (S0.tb 2) (S0.tl 2) = (none, 0, fun _ _ => 0) := rfl
theorem nz {P : Prop} {i : Nat} (h : i < 0) : P := absurd h (Nat.not_lt_zero i)
theorem RC_0 : RC w0C S0 := by
  refine ⟨⟨⟨fun t ht => ⟨Nat.zero_le _, fun i hi => nz hi⟩, ⟨Nat.zero_le _, fun i hi => nz hi⟩, ⟨Nat.zero_le _, fun i hi => nz hi⟩, fun s hs => ⟨by show 0 < 3; omega, fun n h => by cases h⟩⟩, fun t ht => ?_, ?_, ?_, ?_, ⟨rfl, fun i hi => nz hi⟩, ⟨rfl, Nat.zero_le _, fun i hi => nz hi⟩, fun s hs => ?_, rfl⟩, fun h => absurd h (by show ¬ (1 : Int32) = 0; decide), Or.inl rfl, Or.inl rfl, Or.inl rfl⟩
  · match t, ht with
    | 0, _ => exact ⟨⟨rfl, Nat.zero_le _, fun i hi => nz hi⟩, rfl⟩
    | 1, _ => exact ⟨⟨rfl, Nat.zero_le _, fun i hi => nz hi⟩, rfl⟩
    | 2, _ => exact ⟨⟨rfl, Nat.zero_le _, fun i hi => nz hi⟩, rfl⟩
    | t + 3, h => exact absurd h (by omega)
  · unfold tnOK
    rw [S0_town]
    exact ⟨⟨rfl, Nat.zero_le _, fun i hi => nz hi, fun i hi => nz hi⟩, rfl⟩
  · unfold lsOK
    rw [S0_lasts]
    exact ⟨⟨rfl, Nat.zero_le _, fun i hi => nz hi⟩, rfl⟩
  · unfold ppOK
    rw [S0_people]
    exact ⟨⟨rfl, Nat.zero_le _, fun i hi => nz hi⟩, rfl⟩
  · match s, hs with
    | 0, _ => exact ⟨rfl, fun n h => by cases h⟩
    | 1, _ => exact ⟨rfl, fun n h => by cases h⟩
    | 2, _ => exact ⟨rfl, fun n h => by cases h⟩
    | 3, _ => exact ⟨rfl, fun n h => by cases h⟩
    | s + 4, h => exact absurd h (by omega)
theorem RM_0 : RM w0M S0 := by
  refine ⟨fun t ht => ?_, fun s hs => ?_, rfl, ⟨rfl, fun i hi => nz hi⟩, ⟨rfl, fun i hi => nz hi⟩, rfl, rfl⟩
  · match t, ht with
    | 0, _ => exact ⟨rfl, fun i hi => nz hi⟩
    | 1, _ => exact ⟨rfl, fun i hi => nz hi⟩
    | 2, _ => exact ⟨rfl, fun i hi => nz hi⟩
    | t + 3, h => exact absurd h (by omega)
  · match s, hs with
    | 0, _ => exact ⟨fun _ => rfl, fun n h => by cases h⟩
    | 1, _ => exact ⟨fun _ => rfl, fun n h => by cases h⟩
    | 2, _ => exact ⟨fun _ => rfl, fun n h => by cases h⟩
    | 3, _ => exact ⟨fun _ => rfl, fun n h => by cases h⟩
    | s + 4, h => exact absurd h (by omega)
/-! classes and rows' classes at the start -/
theorem lw_inst : ∀ (k : Nat) (q : vw_C), vwCl[k]? = some q → Cond.instantiable q.1 q.2.2 ∈ am_GT := by
  intro k q h
  match k, h with
  | 0, h => cases h; exact am_ig (i := 140) (by decide +kernel) rfl
  | 1, h => cases h; exact am_ig (i := 329) (by decide +kernel) rfl
  | 2, h => cases h; exact am_ig (i := 161) (by decide +kernel) rfl
  | 3, h => cases h; exact am_ig (i := 175) (by decide +kernel) rfl
  | 4, h => cases h; exact am_ig (i := 210) (by decide +kernel) rfl
  | 5, h => cases h; exact am_ig (i := 189) (by decide +kernel) rfl
  | 6, h => cases h; exact am_ig (i := 303) (by decide +kernel) rfl
  | 7, h => cases h; exact am_ig (i := 96) (by decide +kernel) rfl
  | 8, h => cases h; exact am_ig (i := 120) (by decide +kernel) rfl
  | 9, h => cases h; exact am_ig (i := 230) (by decide +kernel) rfl
  | 10, h => cases h; exact am_ig (i := 248) (by decide +kernel) rfl
  | 11, h => cases h; exact am_ig (i := 87) (by decide +kernel) rfl
  | 12, h => cases h; exact am_ig (i := 948) (by decide +kernel) rfl
  | k + 13, h => simp at h
theorem lw_D {args : Array Value} {s : State} (hts : ∀ w ∈ am_GT, w.before args s = true) : ∃ D : va_G, ∀ (k : Nat) (q : vw_C), vwCl[k]? = some q → u_Kn s q.1 q.2.1 q.2.2 (D.1 k) (D.2 k) := by
  have h0 : ∀ k : Nat, ∃ x : ClassId × (Nat → Nat), ∀ q : vw_C, vwCl[k]? = some q → u_Kn s q.1 q.2.1 q.2.2 x.1 x.2 := by
    intro k
    cases hq : vwCl[k]? with
    | none => exact ⟨(0, fun _ => 0), fun q h => by cases h⟩
    | some q =>
      obtain ⟨cC, iS, hK⟩ := u_known (C := q.1) (T := q.2.1) (N := q.2.2) (n := q.2.2) hts (am_uin hq) (hts _ (lw_inst k q hq))
      exact ⟨(cC, iS), fun q' h => by cases h; exact hK⟩
  obtain ⟨f, hf⟩ := Classical.axiomOfChoice h0
  exact ⟨(fun k => (f k).1, fun k => (f k).2), fun k q h => hf k q h⟩
theorem lw_ao {args : Array Value} {s : State} {C : String} (h : (Cond.arrayOver (.object C)).before args s = true) : ∃ cA : ClassId, ArrOfT s cA (.object C) ∧ va_RA s cA (.object C) := by
  obtain ⟨comp, c, k, f1, f2, f3, f4, f5⟩ := Cond.arrayOver_spec (args := args) (first := s) (o := none) (s := s) (idx := []) h
  exact ⟨c, fun n z => ⟨(fun k h => by cases h), k, f3, comp, f4⟩, k, comp, f3, f4, f1, f5⟩
theorem lw_ai {args : Array Value} {s : State} (h : (Cond.arrayClass .int).before args s = true) : ∃ cA : ClassId, ArrOfT s cA .int ∧ va_RA s cA .int := by
  obtain ⟨c, k, comp, f1, f2, f3⟩ := Cond.arrayClass_spec (args := args) (first := s) (o := none) (s := s) (idx := []) h
  exact ⟨c, fun n z => ⟨(fun k h => by cases h), k, f2, comp, f3⟩, f1⟩
theorem lw_ov_Text : Cond.arrayOver (.object "DeadLasts$Text") ∈ lw_tbl := List.mem_of_getElem? (i := 95) (by decide +kernel)
theorem lw_ov_Sheet : Cond.arrayOver (.object "DeadLasts$Sheet") ∈ lw_tbl := List.mem_of_getElem? (i := 209) (by decide +kernel)
theorem lw_ov_Trace : Cond.arrayOver (.object "DeadLasts$Trace") ∈ lw_tbl := List.mem_of_getElem? (i := 229) (by decide +kernel)
theorem lw_ov_Walker : Cond.arrayOver (.object "DeadLasts$Walker") ∈ lw_tbl := List.mem_of_getElem? (i := 309) (by decide +kernel)
theorem lw_K {args : Array Value} {s : State} {D : va_G} (hts : ∀ w ∈ lw_tbl, w.before args s = true) (hD : ∀ (k : Nat) (q : vw_C), vwCl[k]? = some q → u_Kn s q.1 q.2.1 q.2.2 (D.1 k) (D.2 k)) : ∃ cA : Nat → ClassId, va_K D vwCl (am_ty cA) s := by
  obtain ⟨c0, h0⟩ := lw_ai (hts _ (List.mem_filter.mp kw_arr).1)
  obtain ⟨c1, h1⟩ := lw_ao (hts _ lw_ov_Text)
  obtain ⟨c2, h2⟩ := lw_ao (hts _ lw_ov_Sheet)
  obtain ⟨c3, h3⟩ := lw_ao (hts _ lw_ov_Trace)
  obtain ⟨c4, h4⟩ := lw_ao (hts _ lw_ov_Walker)
  refine ⟨fun i => ([c0, c1, c2, c3, c4] : List ClassId).getD i 0, hD, fun k q hk => ?_⟩
  match k, hk with
  | 0, hk => cases hk; exact h0
  | 1, hk => cases hk; exact h1
  | 2, hk => cases hk; exact h2
  | 3, hk => cases hk; exact h3
  | 4, hk => cases hk; exact h4
  | k + 5, hk => simp [am_ty] at hk
theorem kX_11 : kX kX11 := by
  refine ⟨fun U U' h q => ?_, fun s U hW q => ?_⟩
  · have ha : U.vm.Alike U'.vm := h ▸ Vm.Alike.refl _
    refine ⟨fun x hx => ?_, va_AO.moved ha q.2.1, va_AO.moved ha q.2.2.1, va_AO.moved ha q.2.2.2.1, va_AO.moved ha q.2.2.2.2⟩
    have := q.1 x hx
    rcases am_NW_form hx with ⟨a, i, b, n, d, g, rfl⟩ | ⟨a, i, y, g, rfl⟩
    · exact this.same rfl h
    · exact this.same rfl h
  · have ha := hW.alike
    refine ⟨fun x hx => ?_, va_AO.moved ha q.2.1, va_AO.moved ha q.2.2.1, va_AO.moved ha q.2.2.2.1, va_AO.moved ha q.2.2.2.2⟩
    have := q.1 x hx
    rcases am_NW_form hx with ⟨a, i, b, n, d, g, rfl⟩ | ⟨a, i, y, g, rfl⟩
    · exact this.warmF hW
    · exact this.warmM hW
theorem lw_kX {args : Array Value} {s : State} (hts : ∀ w ∈ lw_tbl, w.before args s = true) : kX11 s := by
  refine ⟨fun x hx => ?_, va_AO.of (hts _ lw_ov_Text), va_AO.of (hts _ lw_ov_Sheet), va_AO.of (hts _ lw_ov_Trace), va_AO.of (hts _ lw_ov_Walker)⟩
  have hx2 := hts x (List.mem_append_right _ (List.mem_filter.mp hx).1)
  rcases am_NW_form hx with ⟨a, i, b, n, d, g, rfl⟩ | ⟨a, i, y, g, rfl⟩
  · exact va_Nw.of rfl hx2
  · exact va_Nw.of rfl hx2
theorem kAd_st {sa : Nat → Nat} {h : Nat} {u : Nat → Nat} {j : Nat} : kAd sa h u (1000 + j) = sa j := by
  unfold kAd
  rw [if_neg (by omega), if_pos (by omega), show 1000 + j - 1000 = j by omega]
theorem va_P_l {D : va_G} {w1 w2 : va_W} {H : Heap} (h : va_P D vwCl (w1 ++ w2) H) : va_P D vwCl w1 H := fun k q hk => h k q (by rw [List.getElem?_append_left (List.getElem?_eq_some_iff.mp hk).1]; exact hk)
theorem va_P_r {D : va_G} {w1 w2 : va_W} {H : Heap} (h : va_P D vwCl (w1 ++ w2) H) : va_P D vwCl w2 H := fun k q hk => h (w1.length + k) q (by rw [List.getElem?_append_right (by omega), show w1.length + k - w1.length = k by omega]; exact hk)
theorem am_w_len {sh : List am_S} {cA : Nat → ClassId} {ad : Nat → Nat} {w : am_M} : (am_w sh cA ad w).length = sh.length := by simp [am_w]
/-- the cells of both systems are apart -/
theorem lw_apart {A : Nat → Prop} {sh1 sh2 : List am_S} {cA : Nat → ClassId} {ad1 ad2 : Nat → Nat} {w1 w2 : am_M} (h : va_D A (am_w sh2 cA ad2 w2 ++ (am_w sh1 cA ad1 w1 ++ []))) : (∀ i j, i < sh1.length → j < sh1.length → ad1 i = ad1 j → i = j) ∧ (∀ i j, i < sh2.length → j < sh2.length → ad2 i = ad2 j → i = j) ∧ (∀ i j, i < sh1.length → j < sh2.length → ad1 i ≠ ad2 j) ∧ (∀ i, i < sh1.length → A (ad1 i)) ∧ ∀ i, i < sh2.length → A (ad2 i) := by
  rw [List.append_nil] at h
  have p1 : ∀ i, i < sh1.length → ∃ e, (am_w sh2 cA ad2 w2 ++ am_w sh1 cA ad1 w1)[sh2.length + i]? = some (ad1 i, e) := fun i hi => by
    obtain ⟨S, hS⟩ : ∃ S, sh1[i]? = some S := ⟨_, List.getElem?_eq_getElem hi⟩
    rw [List.getElem?_append_right (by rw [am_w_len]; omega), am_w_len, show sh2.length + i - sh2.length = i by omega, am_w_at hS]
    exact ⟨_, rfl⟩
  have p2 : ∀ i, i < sh2.length → ∃ e, (am_w sh2 cA ad2 w2 ++ am_w sh1 cA ad1 w1)[i]? = some (ad2 i, e) := fun i hi => by
    obtain ⟨S, hS⟩ : ∃ S, sh2[i]? = some S := ⟨_, List.getElem?_eq_getElem hi⟩
    rw [List.getElem?_append_left (by rw [am_w_len]; exact hi), am_w_at hS]
    exact ⟨_, rfl⟩
  refine ⟨fun i j hi hj e => ?_, fun i j hi hj e => ?_, fun i j hi hj e => ?_, fun i hi => ?_, fun i hi => ?_⟩
  · obtain ⟨x, hx⟩ := p1 i hi
    obtain ⟨y, hy⟩ := p1 j hj
    have := h.1 _ _ _ _ hx hy e
    omega
  · obtain ⟨x, hx⟩ := p2 i hi
    obtain ⟨y, hy⟩ := p2 j hj
    exact h.1 _ _ _ _ hx hy e
  · obtain ⟨x, hx⟩ := p1 i hi
    obtain ⟨y, hy⟩ := p2 j hj
    have := h.1 _ _ _ _ hx hy e
    omega
  · obtain ⟨x, hx⟩ := p1 i hi
    exact h.2 _ _ hx
  · obtain ⟨x, hx⟩ := p2 i hi
    exact h.2 _ _ hx
