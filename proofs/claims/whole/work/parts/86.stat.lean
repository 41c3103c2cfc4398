/-! static rows and Strings at the start -/
theorem lw_str {args : Array Value} {s : State} {own : String} {k : Nat} {l : List Int32} (hN : l.length < 2 ^ 31) (hex : (Cond.exactly (.string own k) "java/lang/String").before args s = true) (hco : (Cond.eq (.field (.string own k) "java/lang/String" "coder" "B") (.int 0)).before args s = true)
    (har : (Cond.arrayOf (.field (.string own k) "java/lang/String" "value" "[B") .byte).before args s = true) (hle : (Cond.eq (.length (.field (.string own k) "java/lang/String" "value" "[B")) (.int (Int32.ofNat l.length))).before args s = true)
    (hel : ∀ j : Nat, j < l.length → (Cond.eq (.elem (.field (.string own k) "java/lang/String" "value" "[B") (.int (Int32.ofNat j))) (.int (l.getD j 0))).before args s = true) :
    ∃ a t : Nat, (Term.string own k).eval args s none [] s = some (.ref a) ∧ va_O "java/lang/String" a (lwA s) s s.heap ∧ va_OF "java/lang/String" "coder" "B" (.int 0) a (lwA s) s s.heap ∧ va_OF "java/lang/String" "value" "[B" (.ref t) a (lwA s) s s.heap ∧ va_T .byte t l.length (fun j => .int (l.getD j 0)) (lwA s) s s.heap := by
  have hA : ∀ a : Nat, a < s.heap.size → ¬ lwA s a := fun a h => Nat.not_le.mpr h
  obtain ⟨a, c, cA, kA, q1, q2, q3, q4, q5, q6, -⟩ := Cond.exactly_spec (args := args) (first := s) (o := none) (s := s) (idx := []) (t := .string own k) (cls := "java/lang/String") hex
  obtain ⟨t, ht, hT⟩ := va_Tof (f := fun j => .int (l.getD j 0)) (A := lwA s) hN har (va_eqt hle) (fun j hj => va_eqt (hel j hj)) hA
  exact ⟨a, t, q1, ⟨cA, q3, q5, by rw [q6]; exact q2, hA a (Array.getElem?_eq_some_iff.mp q3).1⟩, vk_OFof q1 (va_eqt hco) hA, vk_OFof q1 ht hA, hT⟩
theorem lw_row {args : Array Value} {s : State} {nm : String} {l : List Int32} (hN : l.length < 2 ^ 31) (hls : (Cond.laysStatic "DeadLasts" nm "[I").before args s = true) (hini : (Cond.initialized "DeadLasts").before args s = true)
    (har : (Cond.arrayOf (.static "DeadLasts" nm "[I") .int).before args s = true) (hle : (Cond.eq (.length (.static "DeadLasts" nm "[I")) (.int (Int32.ofNat l.length))).before args s = true)
    (hel : ∀ j : Nat, j < l.length → (Cond.eq (.elem (.static "DeadLasts" nm "[I") (.int (Int32.ofNat j))) (.int (l.getD j 0))).before args s = true) :
    ∃ t : Nat, va_Z "DeadLasts" nm "[I" (.ref t) (lwA s) s s.heap ∧ va_T .int t l.length (fun j => .int (l.getD j 0)) (lwA s) s s.heap := by
  have hA : ∀ a : Nat, a < s.heap.size → ¬ lwA s a := fun a h => Nat.not_le.mpr h
  obtain ⟨t, ht, hT⟩ := va_Tof (f := fun j => .int (l.getD j 0)) (A := lwA s) hN har (va_eqt hle) (fun j hj => va_eqt (hel j hj)) hA
  exact ⟨t, va_Zof hls hini ht hA, hT⟩
def lwNar : List Cond := flatC (Jvm.Cond.and given_1 narrow_1)
theorem lw_nar {args : Array Value} {s : State} (h : (Jvm.Cond.and given_1 narrow_1).before args s = true) : ∀ c ∈ lwNar, c.before args s = true := flat_of_before _ h
theorem lw_rw0 : (Cond.laysStatic "DeadLasts" "HIGHEST_FIGURES" "[I" ∈ lw_tbl ∧ Cond.initialized "DeadLasts" ∈ lw_tbl) ∧ (Cond.arrayOf (.static "DeadLasts" "HIGHEST_FIGURES" "[I") .int ∈ lwNar ∧ Cond.eq (.length (.static "DeadLasts" "HIGHEST_FIGURES" "[I")) (.int (Int32.ofNat 5)) ∈ lwNar ∧ ∀ j, j < 5 → Cond.eq (.elem (.static "DeadLasts" "HIGHEST_FIGURES" "[I") (.int (Int32.ofNat j))) (.int (([3, 9, 7, 7, 5] : List Int32).getD j 0)) ∈ lwNar) := by decide +kernel
theorem lw_rw1 : (Cond.laysStatic "DeadLasts" "STATES" "[I" ∈ lw_tbl ∧ Cond.initialized "DeadLasts" ∈ lw_tbl) ∧ (Cond.arrayOf (.static "DeadLasts" "STATES" "[I") .int ∈ lwNar ∧ Cond.eq (.length (.static "DeadLasts" "STATES" "[I")) (.int (Int32.ofNat 4)) ∈ lwNar ∧ ∀ j, j < 4 → Cond.eq (.elem (.static "DeadLasts" "STATES" "[I") (.int (Int32.ofNat j))) (.int (([0, 3, 1, 2] : List Int32).getD j 0)) ∈ lwNar) := by decide +kernel
theorem lw_rw2 : (Cond.laysStatic "DeadLasts" "THREES" "[I" ∈ lw_tbl ∧ Cond.initialized "DeadLasts" ∈ lw_tbl) ∧ (Cond.arrayOf (.static "DeadLasts" "THREES" "[I") .int ∈ lwNar ∧ Cond.eq (.length (.static "DeadLasts" "THREES" "[I")) (.int (Int32.ofNat 6)) ∈ lwNar ∧ ∀ j, j < 6 → Cond.eq (.elem (.static "DeadLasts" "THREES" "[I") (.int (Int32.ofNat j))) (.int (([1, 3, 9, 27, 81, 243] : List Int32).getD j 0)) ∈ lwNar) := by decide +kernel
theorem lw_rw3 : (Cond.laysStatic "DeadLasts" "DIGEST_STEPS" "[I" ∈ lw_tbl ∧ Cond.initialized "DeadLasts" ∈ lw_tbl) ∧ (Cond.arrayOf (.static "DeadLasts" "DIGEST_STEPS" "[I") .int ∈ lwNar ∧ Cond.eq (.length (.static "DeadLasts" "DIGEST_STEPS" "[I")) (.int (Int32.ofNat 4)) ∈ lwNar ∧ ∀ j, j < 4 → Cond.eq (.elem (.static "DeadLasts" "DIGEST_STEPS" "[I") (.int (Int32.ofNat j))) (.int (([0, 5, 12, 29] : List Int32).getD j 0)) ∈ lwNar) := by decide +kernel
theorem lw_s0 : Cond.stringRef "DeadLasts$Town" 42 ".#cr" ∈ lw_tbl ∧ Cond.exactly (.string "DeadLasts$Town" 42) "java/lang/String" ∈ lwNar ∧ Cond.eq (.field (.string "DeadLasts$Town" 42) "java/lang/String" "coder" "B") (.int 0) ∈ lwNar ∧ Cond.arrayOf (.field (.string "DeadLasts$Town" 42) "java/lang/String" "value" "[B") .byte ∈ lwNar ∧ Cond.eq (.length (.field (.string "DeadLasts$Town" 42) "java/lang/String" "value" "[B")) (.int (Int32.ofNat 4)) ∈ lwNar ∧ ∀ j, j < 4 → Cond.eq (.elem (.field (.string "DeadLasts$Town" 42) "java/lang/String" "value" "[B") (.int (Int32.ofNat j))) (.int (([46, 35, 99, 114] : List Int32).getD j 0)) ∈ lwNar := by decide +kernel
theorem lw_s1 : Cond.stringRef "DeadLasts$Lasts" 45 "pdt" ∈ lw_tbl ∧ Cond.exactly (.string "DeadLasts$Lasts" 45) "java/lang/String" ∈ lwNar ∧ Cond.eq (.field (.string "DeadLasts$Lasts" 45) "java/lang/String" "coder" "B") (.int 0) ∈ lwNar ∧ Cond.arrayOf (.field (.string "DeadLasts$Lasts" 45) "java/lang/String" "value" "[B") .byte ∈ lwNar ∧ Cond.eq (.length (.field (.string "DeadLasts$Lasts" 45) "java/lang/String" "value" "[B")) (.int (Int32.ofNat 3)) ∈ lwNar ∧ ∀ j, j < 3 → Cond.eq (.elem (.field (.string "DeadLasts$Lasts" 45) "java/lang/String" "value" "[B") (.int (Int32.ofNat j))) (.int (([112, 100, 116] : List Int32).getD j 0)) ∈ lwNar := by decide +kernel
theorem lw_s2 : Cond.stringRef "DeadLasts$Lasts" 52 "nesw" ∈ lw_tbl ∧ Cond.exactly (.string "DeadLasts$Lasts" 52) "java/lang/String" ∈ lwNar ∧ Cond.eq (.field (.string "DeadLasts$Lasts" 52) "java/lang/String" "coder" "B") (.int 0) ∈ lwNar ∧ Cond.arrayOf (.field (.string "DeadLasts$Lasts" 52) "java/lang/String" "value" "[B") .byte ∈ lwNar ∧ Cond.eq (.length (.field (.string "DeadLasts$Lasts" 52) "java/lang/String" "value" "[B")) (.int (Int32.ofNat 4)) ∈ lwNar ∧ ∀ j, j < 4 → Cond.eq (.elem (.field (.string "DeadLasts$Lasts" 52) "java/lang/String" "value" "[B") (.int (Int32.ofNat j))) (.int (([110, 101, 115, 119] : List Int32).getD j 0)) ∈ lwNar := by decide +kernel
theorem lw_s3 : Cond.stringRef "DeadLasts$People" 42 "nesw" ∈ lw_tbl ∧ Cond.exactly (.string "DeadLasts$People" 42) "java/lang/String" ∈ lwNar ∧ Cond.eq (.field (.string "DeadLasts$People" 42) "java/lang/String" "coder" "B") (.int 0) ∈ lwNar ∧ Cond.arrayOf (.field (.string "DeadLasts$People" 42) "java/lang/String" "value" "[B") .byte ∈ lwNar ∧ Cond.eq (.length (.field (.string "DeadLasts$People" 42) "java/lang/String" "value" "[B")) (.int (Int32.ofNat 4)) ∈ lwNar ∧ ∀ j, j < 4 → Cond.eq (.elem (.field (.string "DeadLasts$People" 42) "java/lang/String" "value" "[B") (.int (Int32.ofNat j))) (.int (([110, 101, 115, 119] : List Int32).getD j 0)) ∈ lwNar := by decide +kernel
theorem lw_cs : (Cond.laysStatic "java/lang/String" "COMPACT_STRINGS" "Z" ∈ lw_tbl ∧ Cond.initialized "java/lang/String" ∈ lw_tbl) ∧ Cond.eq (.static "java/lang/String" "COMPACT_STRINGS" "Z") (.int 1) ∈ lwNar := by decide +kernel
theorem lw_stat {args : Array Value} {s : State} (hts : ∀ w ∈ lw_tbl, w.before args s = true) (hgv : (Jvm.Cond.and given_1 narrow_1).before args s = true) : ∃ sa : Nat → Nat, ∀ (ad : Nat → Nat) (A : Nat → Prop), (∀ q, A q → s.heap.size ≤ q) → (∀ j, j < 12 → ad (1000 + j) = sa j) → am_St ad A s s.heap := by
  have hs := lw_nar hgv
  have hA : ∀ a : Nat, a < s.heap.size → ¬ lwA s a := fun a h => Nat.not_le.mpr h
  obtain ⟨⟨a1, a2⟩, a3, a4, a5⟩ := lw_rw0
  obtain ⟨t0, z0, y0⟩ := lw_row (l := [3, 9, 7, 7, 5]) (by decide) (hts _ a1) (hts _ a2) (hs _ a3) (hs _ a4) (fun j hj => hs _ (a5 j hj))
  obtain ⟨⟨a1, a2⟩, a3, a4, a5⟩ := lw_rw1
  obtain ⟨t1, z1, y1⟩ := lw_row (l := [0, 3, 1, 2]) (by decide) (hts _ a1) (hts _ a2) (hs _ a3) (hs _ a4) (fun j hj => hs _ (a5 j hj))
  obtain ⟨⟨a1, a2⟩, a3, a4, a5⟩ := lw_rw2
  obtain ⟨t2, z2, y2⟩ := lw_row (l := [1, 3, 9, 27, 81, 243]) (by decide) (hts _ a1) (hts _ a2) (hs _ a3) (hs _ a4) (fun j hj => hs _ (a5 j hj))
  obtain ⟨⟨a1, a2⟩, a3, a4, a5⟩ := lw_rw3
  obtain ⟨t3, z3, y3⟩ := lw_row (l := [0, 5, 12, 29]) (by decide) (hts _ a1) (hts _ a2) (hs _ a3) (hs _ a4) (fun j hj => hs _ (a5 j hj))
  obtain ⟨a1, a2, a3, a4, a5, a6⟩ := lw_s0
  obtain ⟨u0, v0, e0, o0, c0, f0, b0⟩ := lw_str (l := [46, 35, 99, 114]) (by decide) (hs _ a2) (hs _ a3) (hs _ a4) (hs _ a5) (fun j hj => hs _ (a6 j hj))
  have r0 := vk_R.of (hts _ a1) e0
  obtain ⟨a1, a2, a3, a4, a5, a6⟩ := lw_s1
  obtain ⟨u1, v1, e1, o1, c1, f1, b1⟩ := lw_str (l := [112, 100, 116]) (by decide) (hs _ a2) (hs _ a3) (hs _ a4) (hs _ a5) (fun j hj => hs _ (a6 j hj))
  have r1 := vk_R.of (hts _ a1) e1
  obtain ⟨a1, a2, a3, a4, a5, a6⟩ := lw_s2
  obtain ⟨u2, v2, e2, o2, c2, f2, b2⟩ := lw_str (l := [110, 101, 115, 119]) (by decide) (hs _ a2) (hs _ a3) (hs _ a4) (hs _ a5) (fun j hj => hs _ (a6 j hj))
  have r2 := vk_R.of (hts _ a1) e2
  obtain ⟨a1, a2, a3, a4, a5, a6⟩ := lw_s3
  obtain ⟨u3, v3, e3, o3, c3, f3, b3⟩ := lw_str (l := [110, 101, 115, 119]) (by decide) (hs _ a2) (hs _ a3) (hs _ a4) (hs _ a5) (fun j hj => hs _ (a6 j hj))
  have r3 := vk_R.of (hts _ a1) e3
  obtain ⟨⟨a1, a2⟩, a3⟩ := lw_cs
  have hcs : va_Z "java/lang/String" "COMPACT_STRINGS" "Z" (.int 1) (lwA s) s s.heap := va_Zof (hts _ a1) (hts _ a2) (va_eqi (hs _ a3)) hA
  refine ⟨fun j => ([t0, t1, t2, t3, u0, u1, u2, u3, v0, v1, v2, v3] : List Nat).getD j 0, fun ad A hAA had => ?_⟩
  have hN : ∀ q, A q → lwA s q := hAA
  have h0 : ad (1000 + 0) = t0 := had 0 (by omega)
  have h1 : ad (1000 + 1) = t1 := had 1 (by omega)
  have h2 : ad (1000 + 2) = t2 := had 2 (by omega)
  have h3 : ad (1000 + 3) = t3 := had 3 (by omega)
  have h4 : ad (1000 + 4) = u0 := had 4 (by omega)
  have h5 : ad (1000 + 5) = u1 := had 5 (by omega)
  have h6 : ad (1000 + 6) = u2 := had 6 (by omega)
  have h7 : ad (1000 + 7) = u3 := had 7 (by omega)
  have h8 : ad (1000 + 8) = v0 := had 8 (by omega)
  have h9 : ad (1000 + 9) = v1 := had 9 (by omega)
  have h10 : ad (1000 + 10) = v2 := had 10 (by omega)
  have h11 : ad (1000 + 11) = v3 := had 11 (by omega)
  refine ⟨fun x hx => ?_, fun j hj => ?_, fun j l hj => ?_, fun j l hj => ?_, fun j v hj => ?_, hcs.narrow hN, fun q hq => ?_⟩
  · have hx2 := hts x (List.mem_append_right _ (List.mem_filter.mp hx).1)
    rcases am_NW_form hx with ⟨a, i, b, n, d, g, rfl⟩ | ⟨a, i, y, g, rfl⟩
    · exact va_Nw.of rfl hx2
    · exact va_Nw.of rfl hx2
  · match j, hj with
    | 0, _ => rw [h0]; exact z0.narrow hN
    | 1, _ => rw [h1]; exact z1.narrow hN
    | 2, _ => rw [h2]; exact z2.narrow hN
    | 3, _ => rw [h3]; exact z3.narrow hN
  · match j, hj with
    | 0, hj => cases hj; rw [h0]; exact y0.narrow hN
    | 1, hj => cases hj; rw [h1]; exact y1.narrow hN
    | 2, hj => cases hj; rw [h2]; exact y2.narrow hN
    | 3, hj => cases hj; rw [h3]; exact y3.narrow hN
    | 4, hj => cases hj
    | 5, hj => cases hj
    | 6, hj => cases hj
    | 7, hj => cases hj
    | 8, hj => cases hj
    | 9, hj => cases hj
    | 10, hj => cases hj
    | 11, hj => cases hj
    | j + 12, hj => simp [am_ST] at hj
  · match j, hj with
    | 0, hj => cases hj
    | 1, hj => cases hj
    | 2, hj => cases hj
    | 3, hj => cases hj
    | 4, hj => cases hj
    | 5, hj => cases hj
    | 6, hj => cases hj
    | 7, hj => cases hj
    | 8, hj => cases hj; rw [h8]; exact b0.narrow hN
    | 9, hj => cases hj; rw [h9]; exact b1.narrow hN
    | 10, hj => cases hj; rw [h10]; exact b2.narrow hN
    | 11, hj => cases hj; rw [h11]; exact b3.narrow hN
    | j + 12, hj => simp [am_ST] at hj
  · match j, hj with
    | 0, hj => cases hj
    | 1, hj => cases hj
    | 2, hj => cases hj
    | 3, hj => cases hj
    | 4, hj => cases hj; rw [h4, h8]; exact ⟨o0.narrow hN, c0.narrow hN, f0.narrow hN⟩
    | 5, hj => cases hj; rw [h5, h9]; exact ⟨o1.narrow hN, c1.narrow hN, f1.narrow hN⟩
    | 6, hj => cases hj; rw [h6, h10]; exact ⟨o2.narrow hN, c2.narrow hN, f2.narrow hN⟩
    | 7, hj => cases hj; rw [h7, h11]; exact ⟨o3.narrow hN, c3.narrow hN, f3.narrow hN⟩
    | 8, hj => cases hj
    | 9, hj => cases hj
    | 10, hj => cases hj
    | 11, hj => cases hj
    | j + 12, hj => simp [am_ST] at hj
  · simp only [am_SL, List.mem_cons, List.not_mem_nil, or_false] at hq
    rcases hq with rfl | rfl | rfl | rfl
    · show vk_R _ _ _ (ad (1000 + 4)) s; rw [h4]; exact r0
    · show vk_R _ _ _ (ad (1000 + 5)) s; rw [h5]; exact r1
    · show vk_R _ _ _ (ad (1000 + 6)) s; rw [h6]; exact r2
    · show vk_R _ _ _ (ad (1000 + 7)) s; rw [h7]; exact r3
