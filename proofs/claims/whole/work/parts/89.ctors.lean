/-! the constructors of the nested classes -/
theorem kw_arr : Cond.arrayClass .int ∈ am_GT := am_ig (i := 118) (by decide +kernel) rfl
theorem kw_oi : Cond.instanceMethod Lib.objectInit ∈ am_GT := am_ig (i := 92) (by decide +kernel) rfl
theorem kw_oc : Cond.code Lib.objectInit ⟨#[0xb1]⟩ 1 none ∈ am_GT := am_ig (i := 93) (by decide +kernel) rfl
theorem kw_ms : Cond.static Lib.Math.min.name ∈ am_GT := am_ig (i := 102) (by decide +kernel) rfl
theorem kw_mi : Cond.initialized "java/lang/Math" ∈ am_GT := am_ig (i := 68) (by decide +kernel) rfl
theorem kw_mc : Cond.code Lib.Math.min.name Lib.Math.min.code 2 (some .int) ∈ am_GT := am_ig (i := 103) (by decide +kernel) rfl
theorem kz_0 : ∀ j, j < 4 → defaultValue (tyX0 j) = vp_V [.null, .null, .null, .int 0] j := by
  intro j hj
  match j, hj with
  | 0, _ => rfl
  | 1, _ => rfl
  | 2, _ => rfl
  | 3, _ => rfl
  | j + 4, h => exact absurd h (by omega)
theorem kc_0 : Cond.code yX0_init cX0_init 1 none ∈ am_GT := am_ig (i := 143) (by decide +kernel) rfl
theorem ki_0 : Cond.initialized yX0_init.cls ∈ am_GT := am_ig (i := 70) (by decide +kernel) rfl
theorem kn_0 : Cond.instanceMethod yX0_init ∈ am_GT := am_ig (i := 142) (by decide +kernel) rfl
theorem ke_0 : yX0_init.cls ≠ "java/lang/invoke/MethodHandle" ∧ yX0_init.cls ≠ "java/lang/invoke/VarHandle" ∧ (parseMethodDescriptor yX0_init.desc).map (fun d => d.parameters.length) = some 0 := by decide +kernel
theorem kz_1 : ∀ j, j < 3 → defaultValue (tyX1 j) = vp_V [.null, .null, .int 0] j := by
  intro j hj
  match j, hj with
  | 0, _ => rfl
  | 1, _ => rfl
  | 2, _ => rfl
  | j + 3, h => exact absurd h (by omega)
theorem kc_1 : Cond.code yX1_init cX1_init 1 none ∈ am_GT := am_ig (i := 332) (by decide +kernel) rfl
theorem ki_1 : Cond.initialized yX1_init.cls ∈ am_GT := am_ig (i := 78) (by decide +kernel) rfl
theorem kn_1 : Cond.instanceMethod yX1_init ∈ am_GT := am_ig (i := 331) (by decide +kernel) rfl
theorem ke_1 : yX1_init.cls ≠ "java/lang/invoke/MethodHandle" ∧ yX1_init.cls ≠ "java/lang/invoke/VarHandle" ∧ (parseMethodDescriptor yX1_init.desc).map (fun d => d.parameters.length) = some 0 := by decide +kernel
theorem kz_2 : ∀ j, j < 2 → defaultValue (tyX2 j) = vp_V [.null, .int 0] j := by
  intro j hj
  match j, hj with
  | 0, _ => rfl
  | 1, _ => rfl
  | j + 2, h => exact absurd h (by omega)
theorem kc_2 : Cond.code yX2_init cX2_init 1 none ∈ am_GT := am_ig (i := 164) (by decide +kernel) rfl
theorem ki_2 : Cond.initialized yX2_init.cls ∈ am_GT := am_ig (i := 71) (by decide +kernel) rfl
theorem kn_2 : Cond.instanceMethod yX2_init ∈ am_GT := am_ig (i := 163) (by decide +kernel) rfl
theorem ke_2 : yX2_init.cls ≠ "java/lang/invoke/MethodHandle" ∧ yX2_init.cls ≠ "java/lang/invoke/VarHandle" ∧ (parseMethodDescriptor yX2_init.desc).map (fun d => d.parameters.length) = some 0 := by decide +kernel
theorem kz_3 : ∀ j, j < 2 → defaultValue (tyX3 j) = vp_V [.null, .int 0] j := by
  intro j hj
  match j, hj with
  | 0, _ => rfl
  | 1, _ => rfl
  | j + 2, h => exact absurd h (by omega)
theorem kc_3 : Cond.code yX3_init cX3_init 1 none ∈ am_GT := am_ig (i := 178) (by decide +kernel) rfl
theorem ki_3 : Cond.initialized yX3_init.cls ∈ am_GT := am_ig (i := 72) (by decide +kernel) rfl
theorem kn_3 : Cond.instanceMethod yX3_init ∈ am_GT := am_ig (i := 177) (by decide +kernel) rfl
theorem ke_3 : yX3_init.cls ≠ "java/lang/invoke/MethodHandle" ∧ yX3_init.cls ≠ "java/lang/invoke/VarHandle" ∧ (parseMethodDescriptor yX3_init.desc).map (fun d => d.parameters.length) = some 0 := by decide +kernel
theorem kz_4 : ∀ j, j < 3 → defaultValue (tyX4 j) = vp_V [.null, .int 0, .int 0] j := by
  intro j hj
  match j, hj with
  | 0, _ => rfl
  | 1, _ => rfl
  | 2, _ => rfl
  | j + 3, h => exact absurd h (by omega)
theorem kc_4 : Cond.code yX4_init cX4_init 1 none ∈ am_GT := am_ig (i := 213) (by decide +kernel) rfl
theorem ki_4 : Cond.initialized yX4_init.cls ∈ am_GT := am_ig (i := 74) (by decide +kernel) rfl
theorem kn_4 : Cond.instanceMethod yX4_init ∈ am_GT := am_ig (i := 212) (by decide +kernel) rfl
theorem ke_4 : yX4_init.cls ≠ "java/lang/invoke/MethodHandle" ∧ yX4_init.cls ≠ "java/lang/invoke/VarHandle" ∧ (parseMethodDescriptor yX4_init.desc).map (fun d => d.parameters.length) = some 0 := by decide +kernel
theorem kz_5 : ∀ j, j < 4 → defaultValue (tyX5 j) = vp_V [.null, .null, .null, .int 0] j := by
  intro j hj
  match j, hj with
  | 0, _ => rfl
  | 1, _ => rfl
  | 2, _ => rfl
  | 3, _ => rfl
  | j + 4, h => exact absurd h (by omega)
theorem kc_5 : Cond.code yX5_init cX5_init 1 none ∈ am_GT := am_ig (i := 192) (by decide +kernel) rfl
theorem ki_5 : Cond.initialized yX5_init.cls ∈ am_GT := am_ig (i := 73) (by decide +kernel) rfl
theorem kn_5 : Cond.instanceMethod yX5_init ∈ am_GT := am_ig (i := 191) (by decide +kernel) rfl
theorem ke_5 : yX5_init.cls ≠ "java/lang/invoke/MethodHandle" ∧ yX5_init.cls ≠ "java/lang/invoke/VarHandle" ∧ (parseMethodDescriptor yX5_init.desc).map (fun d => d.parameters.length) = some 0 := by decide +kernel
theorem kz_6 : ∀ j, j < 5 → defaultValue (tyX6 j) = vp_V [.null, .int 0, .int 0, .int 0, .long 0] j := by
  intro j hj
  match j, hj with
  | 0, _ => rfl
  | 1, _ => rfl
  | 2, _ => rfl
  | 3, _ => rfl
  | 4, _ => rfl
  | j + 5, h => exact absurd h (by omega)
theorem kc_6 : Cond.code yX6_init cX6_init 4 none ∈ am_GT := am_ig (i := 306) (by decide +kernel) rfl
theorem ki_6 : Cond.initialized yX6_init.cls ∈ am_GT := am_ig (i := 77) (by decide +kernel) rfl
theorem kn_6 : Cond.instanceMethod yX6_init ∈ am_GT := am_ig (i := 305) (by decide +kernel) rfl
theorem ke_6 : yX6_init.cls ≠ "java/lang/invoke/MethodHandle" ∧ yX6_init.cls ≠ "java/lang/invoke/VarHandle" ∧ (parseMethodDescriptor yX6_init.desc).map (fun d => d.parameters.length) = some 2 := by decide +kernel
theorem kz_7 : ∀ j, j < 3 → defaultValue (tyX7 j) = vp_V [.null, .int 0, .int 0] j := by
  intro j hj
  match j, hj with
  | 0, _ => rfl
  | 1, _ => rfl
  | 2, _ => rfl
  | j + 3, h => exact absurd h (by omega)
theorem kc_7 : Cond.code yX7_init cX7_init 2 none ∈ am_GT := am_ig (i := 99) (by decide +kernel) rfl
theorem ki_7 : Cond.initialized yX7_init.cls ∈ am_GT := am_ig (i := 67) (by decide +kernel) rfl
theorem kn_7 : Cond.instanceMethod yX7_init ∈ am_GT := am_ig (i := 98) (by decide +kernel) rfl
theorem ke_7 : yX7_init.cls ≠ "java/lang/invoke/MethodHandle" ∧ yX7_init.cls ≠ "java/lang/invoke/VarHandle" ∧ (parseMethodDescriptor yX7_init.desc).map (fun d => d.parameters.length) = some 1 := by decide +kernel
theorem kz_8 : ∀ j, j < 4 → defaultValue (tyX8 j) = vp_V [.null, .null, .int 0, .int 0] j := by
  intro j hj
  match j, hj with
  | 0, _ => rfl
  | 1, _ => rfl
  | 2, _ => rfl
  | 3, _ => rfl
  | j + 4, h => exact absurd h (by omega)
theorem kc_8 : Cond.code yX8_init cX8_init 1 none ∈ am_GT := am_ig (i := 123) (by decide +kernel) rfl
theorem ki_8 : Cond.initialized yX8_init.cls ∈ am_GT := am_ig (i := 69) (by decide +kernel) rfl
theorem kn_8 : Cond.instanceMethod yX8_init ∈ am_GT := am_ig (i := 122) (by decide +kernel) rfl
theorem ke_8 : yX8_init.cls ≠ "java/lang/invoke/MethodHandle" ∧ yX8_init.cls ≠ "java/lang/invoke/VarHandle" ∧ (parseMethodDescriptor yX8_init.desc).map (fun d => d.parameters.length) = some 0 := by decide +kernel
theorem kz_9 : ∀ j, j < 3 → defaultValue (tyX9 j) = vp_V [.null, .int 0, .int 0] j := by
  intro j hj
  match j, hj with
  | 0, _ => rfl
  | 1, _ => rfl
  | 2, _ => rfl
  | j + 3, h => exact absurd h (by omega)
theorem kc_9 : Cond.code yX9_init cX9_init 1 none ∈ am_GT := am_ig (i := 233) (by decide +kernel) rfl
theorem ki_9 : Cond.initialized yX9_init.cls ∈ am_GT := am_ig (i := 75) (by decide +kernel) rfl
theorem kn_9 : Cond.instanceMethod yX9_init ∈ am_GT := am_ig (i := 232) (by decide +kernel) rfl
theorem ke_9 : yX9_init.cls ≠ "java/lang/invoke/MethodHandle" ∧ yX9_init.cls ≠ "java/lang/invoke/VarHandle" ∧ (parseMethodDescriptor yX9_init.desc).map (fun d => d.parameters.length) = some 0 := by decide +kernel
theorem kz_10 : ∀ j, j < 13 → defaultValue (tyX10 j) = vp_V [.null, .null, .int 0, .int 0, .int 0, .int 0, .int 0, .int 0, .int 0, .int 0, .int 0, .int 0, .int 0] j := by
  intro j hj
  match j, hj with
  | 0, _ => rfl
  | 1, _ => rfl
  | 2, _ => rfl
  | 3, _ => rfl
  | 4, _ => rfl
  | 5, _ => rfl
  | 6, _ => rfl
  | 7, _ => rfl
  | 8, _ => rfl
  | 9, _ => rfl
  | 10, _ => rfl
  | 11, _ => rfl
  | 12, _ => rfl
  | j + 13, h => exact absurd h (by omega)
theorem kc_10 : Cond.code yX10_init cX10_init 3 none ∈ am_GT := am_ig (i := 251) (by decide +kernel) rfl
theorem ki_10 : Cond.initialized yX10_init.cls ∈ am_GT := am_ig (i := 76) (by decide +kernel) rfl
theorem kn_10 : Cond.instanceMethod yX10_init ∈ am_GT := am_ig (i := 250) (by decide +kernel) rfl
theorem ke_10 : yX10_init.cls ≠ "java/lang/invoke/MethodHandle" ∧ yX10_init.cls ≠ "java/lang/invoke/VarHandle" ∧ (parseMethodDescriptor yX10_init.desc).map (fun d => d.parameters.length) = some 2 := by decide +kernel
theorem kz_11 : ∀ j, j < 20 → defaultValue (tyX11 j) = vp_V [.null, .null, .null, .null, .null, .null, .null, .null, .null, .null, .null, .null, .null, .null, .null, .null, .int 0, .int 0, .int 0, .int 0] j := by
  intro j hj
  match j, hj with
  | 0, _ => rfl
  | 1, _ => rfl
  | 2, _ => rfl
  | 3, _ => rfl
  | 4, _ => rfl
  | 5, _ => rfl
  | 6, _ => rfl
  | 7, _ => rfl
  | 8, _ => rfl
  | 9, _ => rfl
  | 10, _ => rfl
  | 11, _ => rfl
  | 12, _ => rfl
  | 13, _ => rfl
  | 14, _ => rfl
  | 15, _ => rfl
  | 16, _ => rfl
  | 17, _ => rfl
  | 18, _ => rfl
  | 19, _ => rfl
  | j + 20, h => exact absurd h (by omega)
theorem kc_11 : Cond.code yX11_init cX11_init 2 none ∈ am_GT := am_ig (i := 90) (by decide +kernel) rfl
theorem ki_11 : Cond.initialized yX11_init.cls ∈ am_GT := am_ig (i := 66) (by decide +kernel) rfl
theorem kn_11 : Cond.instanceMethod yX11_init ∈ am_GT := am_ig (i := 89) (by decide +kernel) rfl
theorem ke_11 : yX11_init.cls ≠ "java/lang/invoke/MethodHandle" ∧ yX11_init.cls ≠ "java/lang/invoke/VarHandle" ∧ (parseMethodDescriptor yX11_init.desc).map (fun d => d.parameters.length) = some 0 := by decide +kernel
theorem kz_12 : ∀ j, j < 36 → defaultValue (tyX12 j) = vp_V [.null, .null, .null, .null, .int 0, .null, .null, .int 0, .int 0, .null, .int 0, .null, .null, .null, .int 0, .null, .int 0, .null, .int 0, .int 0, .null, .null, .null, .null, .null, .null, .null, .null, .int 0, .int 0, .int 0, .null, .int 0, .null, .null, .int 0] j := by
  intro j hj
  match j, hj with
  | 0, _ => rfl
  | 1, _ => rfl
  | 2, _ => rfl
  | 3, _ => rfl
  | 4, _ => rfl
  | 5, _ => rfl
  | 6, _ => rfl
  | 7, _ => rfl
  | 8, _ => rfl
  | 9, _ => rfl
  | 10, _ => rfl
  | 11, _ => rfl
  | 12, _ => rfl
  | 13, _ => rfl
  | 14, _ => rfl
  | 15, _ => rfl
  | 16, _ => rfl
  | 17, _ => rfl
  | 18, _ => rfl
  | 19, _ => rfl
  | 20, _ => rfl
  | 21, _ => rfl
  | 22, _ => rfl
  | 23, _ => rfl
  | 24, _ => rfl
  | 25, _ => rfl
  | 26, _ => rfl
  | 27, _ => rfl
  | 28, _ => rfl
  | 29, _ => rfl
  | 30, _ => rfl
  | 31, _ => rfl
  | 32, _ => rfl
  | 33, _ => rfl
  | 34, _ => rfl
  | 35, _ => rfl
  | j + 36, h => exact absurd h (by omega)
theorem kc_12 : Cond.code yX12_init cX12_init 2 none ∈ am_GT := am_ig (i := 951) (by decide +kernel) rfl
theorem ki_12 : Cond.initialized yX12_init.cls ∈ am_GT := am_ig (i := 79) (by decide +kernel) rfl
theorem kn_12 : Cond.instanceMethod yX12_init ∈ am_GT := am_ig (i := 950) (by decide +kernel) rfl
theorem ke_12 : yX12_init.cls ≠ "java/lang/invoke/MethodHandle" ∧ yX12_init.cls ≠ "java/lang/invoke/VarHandle" ∧ (parseMethodDescriptor yX12_init.desc).map (fun d => d.parameters.length) = some 0 := by decide +kernel
theorem kX_W : kX (va_AO "DeadLasts$Walker") := ⟨fun U U' h q => va_AO.moved (h ▸ Vm.Alike.refl _) q, fun s U hW q => va_AO.moved hW.alike q⟩
theorem dX0_init_0 : decode cX0_init 0 = .ok (.aload_n 0, 1) := by decide +kernel
theorem dX0_init_1 : decode cX0_init 1 = .ok (.invokespecial 3, 3) := by decide +kernel
theorem dX0_init_4 : decode cX0_init 4 = .ok (.aload_n 0, 1) := by decide +kernel
theorem dX0_init_5 : decode cX0_init 5 = .ok (.bipush 8, 2) := by decide +kernel
theorem dX0_init_7 : decode cX0_init 7 = .ok (.newarray .int, 2) := by decide +kernel
theorem dX0_init_9 : decode cX0_init 9 = .ok (.putfield 9, 3) := by decide +kernel
theorem dX0_init_12 : decode cX0_init 12 = .ok (.aload_n 0, 1) := by decide +kernel
theorem dX0_init_13 : decode cX0_init 13 = .ok (.bipush 8, 2) := by decide +kernel
theorem dX0_init_15 : decode cX0_init 15 = .ok (.newarray .int, 2) := by decide +kernel
theorem dX0_init_17 : decode cX0_init 17 = .ok (.putfield 15, 3) := by decide +kernel
theorem dX0_init_20 : decode cX0_init 20 = .ok (.aload_n 0, 1) := by decide +kernel
theorem dX0_init_21 : decode cX0_init 21 = .ok (.bipush 32, 2) := by decide +kernel
theorem dX0_init_23 : decode cX0_init 23 = .ok (.newarray .int, 2) := by decide +kernel
theorem dX0_init_25 : decode cX0_init 25 = .ok (.putfield 18, 3) := by decide +kernel
theorem dX0_init_28 : decode cX0_init 28 = .ok (.return_, 1) := by decide +kernel
set_option maxHeartbeats 4000000 in
set_option maxRecDepth 100000 in
theorem kk_X0 (l : Launch) (D : va_G) (cA : Nat → ClassId) : kC l D cA yX0_init cX0_init 1 1 3 48 0 [.null, .null, .null, .int 0] [] (fun _ => True) (fun u h => [(u 0, .inl (cA 0, 32, .inl (fun _ => 0))), (u 1, .inl (cA 0, 8, .inl (fun _ => 0))), (u 2, .inl (cA 0, 8, .inl (fun _ => 0))), (h, .inr (0, [.ref (u 2), .ref (u 1), .ref (u 0), .int 0]))]) := by
  intro h sz
  refine Met.ofW (cc := cX0_init) (maxL := 1) (ret := none) (by decide +kernel) rfl ?_
  intro p e s m args below meth c s₁ Bd hml hv0
  obtain ⟨rfl, hsz, hP, hK, hX⟩ := hv0
  have hx := Bd.exec
  have hb := Bd.bytes
  have hr := Bd.returns
  have hts0 := atoms_spec (ws := .code yX0_init cX0_init 1 none :: am_GT) Bd.pre
  have hts : ∀ w ∈ am_GT, w.before _ s = true := fun w hw => hts0 w (List.mem_cons_of_mem _ hw)
  have hown : s.vm.findClass RX0 = some m.cls := findClass_of_methodNamed Bd.named
  have hlocks := Bd.notSynchronized
  have hin : meth.name = "<init>" := (name_of_methodNamed Bd.named Bd.method).1
  subst hsz
  have hQ : vQ D (va_A [(h, .inr (0, [.null, .null, .null, .int 0]))] s.heap.size) [(h, .inr (0, [.null, .null, .null, .int 0]))] s.heap := ⟨hP, vD_one⟩
  clear hP
  generalize hAe : va_A [(h, .inr (0, [.null, .null, .null, .int 0]))] s.heap.size = A at hQ ⊢
  have hA : ∀ q : Nat, s.heap.size ≤ q → A q := fun q hq => by rw [← hAe]; exact Or.inr hq
  have hS : va_S A s.heap s.heap [] := va_S.rf
  have hl := lv_entry ([.ref h]) (n := 1) (Nat.le_of_ble_eq_true rfl)
  rw [lg_entry_eq]
  generalize (lg_sl ([.ref h]) ++ List.replicate (1 - (lg_sl ([.ref h])).length) Slot.unset).toArray = ls at hl ⊢
  have hl : lv_has ls 1 [(0, .ref h)] := hl
  refine lv_aload_n hx hb dX0_init_0 rfl (lv_at hl 0 rfl) ?_
  refine W.objInit hx hb hown (hts _ (am_ig (i := 144) (by decide +kernel) rfl)) (hts _ kw_oi) (hts _ kw_oc) rfl (by rw [hml]; exact hl.1) rfl dX0_init_1 (Nat.le_of_ble_eq_true rfl) (Nat.le_of_ble_eq_true rfl) ?_
  refine W.eq (g2 := F0 m 4 ls []) rfl ?_
  refine lv_aload_n hx hb dX0_init_4 rfl (lv_at hl 0 rfl) ?_
  refine lv_bipush (v := 8) hx hb dX0_init_5 (by decide) ?_
  refine vQ_newi hx hb (hts _ kw_arr) hK hQ hS hA 8 (by decide) (by decide) (by decide) (Nat.le_of_ble_eq_true rfl) (Nat.le_of_ble_eq_true rfl) dX0_init_7 (fun q1 H hQ hS => ?_)
  refine W.widen (k := 1) (n := 8) (by omega) (by omega) ?_
  refine va_putF (D := D) (ci := 0) (v := .ref q1) (ty := .array .int) (C := RX0) (T := TX0) (N := 4) hx hb hts (am_uin (ci := 0) rfl) tyX0 tyX0_ok nmX0 hown hK hQ.1 hQ.2 hS 1 rfl rfl 0 (by decide) (hts _ (am_ig (i := 145) (by decide +kernel) rfl)) (fun _ h9 => h9) rfl hin rfl (by decide +kernel) rfl rfl (Nat.le_of_ble_eq_true rfl) dX0_init_9 (fun H locs hP hD hS => ?_)
  have hQ : vQ D A ([(q1, .inl (cA 0, 8, .inl (fun _ => 0))), (h, .inr (0, [.ref q1, .null, .null, .int 0]))]) H := ⟨hP, hD⟩
  refine lv_aload_n hx hb dX0_init_12 rfl (lv_at hl 0 rfl) ?_
  refine lv_bipush (v := 8) hx hb dX0_init_13 (by decide) ?_
  refine vQ_newi hx hb (hts _ kw_arr) hK hQ hS hA 8 (by decide) (by decide) (by decide) (Nat.le_of_ble_eq_true rfl) (Nat.le_of_ble_eq_true rfl) dX0_init_15 (fun q2 H hQ hS => ?_)
  refine W.widen (k := 2) (n := 16) (by omega) (by omega) ?_
  refine va_putF (D := D) (ci := 0) (v := .ref q2) (ty := .array .int) (C := RX0) (T := TX0) (N := 4) hx hb hts (am_uin (ci := 0) rfl) tyX0 tyX0_ok nmX0 hown hK hQ.1 hQ.2 hS 2 rfl rfl 1 (by decide) (hts _ (am_ig (i := 146) (by decide +kernel) rfl)) (fun _ h9 => h9) rfl hin rfl (by decide +kernel) rfl rfl (Nat.le_of_ble_eq_true rfl) dX0_init_17 (fun H locs hP hD hS => ?_)
  have hQ : vQ D A ([(q2, .inl (cA 0, 8, .inl (fun _ => 0))), (q1, .inl (cA 0, 8, .inl (fun _ => 0))), (h, .inr (0, [.ref q1, .ref q2, .null, .int 0]))]) H := ⟨hP, hD⟩
  refine lv_aload_n hx hb dX0_init_20 rfl (lv_at hl 0 rfl) ?_
  refine lv_bipush (v := 32) hx hb dX0_init_21 (by decide) ?_
  refine vQ_newi hx hb (hts _ kw_arr) hK hQ hS hA 32 (by decide) (by decide) (by decide) (Nat.le_of_ble_eq_true rfl) (Nat.le_of_ble_eq_true rfl) dX0_init_23 (fun q3 H hQ hS => ?_)
  refine W.widen (k := 3) (n := 48) (by omega) (by omega) ?_
  refine va_putF (D := D) (ci := 0) (v := .ref q3) (ty := .array .int) (C := RX0) (T := TX0) (N := 4) hx hb hts (am_uin (ci := 0) rfl) tyX0 tyX0_ok nmX0 hown hK hQ.1 hQ.2 hS 3 rfl rfl 2 (by decide) (hts _ (am_ig (i := 147) (by decide +kernel) rfl)) (fun _ h9 => h9) rfl hin rfl (by decide +kernel) rfl rfl (Nat.le_of_ble_eq_true rfl) dX0_init_25 (fun H locs hP hD hS => ?_)
  have hQ : vQ D A ([(q3, .inl (cA 0, 32, .inl (fun _ => 0))), (q2, .inl (cA 0, 8, .inl (fun _ => 0))), (q1, .inl (cA 0, 8, .inl (fun _ => 0))), (h, .inr (0, [.ref q1, .ref q2, .ref q3, .int 0]))]) H := ⟨hP, hD⟩
  exact W.vret hx hb hr (fun t ht hW => ⟨⟨fun k => ([q3, q2, q1] : List Nat).getD k 0, rfl, trivial, by rw [ht]; exact hQ.1, hQ.2⟩, hS.F ht⟩) hS.2.2 dX0_init_28
theorem dX1_init_0 : decode cX1_init 0 = .ok (.aload_n 0, 1) := by decide +kernel
theorem dX1_init_1 : decode cX1_init 1 = .ok (.invokespecial 3, 3) := by decide +kernel
theorem dX1_init_4 : decode cX1_init 4 = .ok (.aload_n 0, 1) := by decide +kernel
theorem dX1_init_5 : decode cX1_init 5 = .ok (.bipush 8, 2) := by decide +kernel
theorem dX1_init_7 : decode cX1_init 7 = .ok (.newarray .int, 2) := by decide +kernel
theorem dX1_init_9 : decode cX1_init 9 = .ok (.putfield 9, 3) := by decide +kernel
theorem dX1_init_12 : decode cX1_init 12 = .ok (.aload_n 0, 1) := by decide +kernel
theorem dX1_init_13 : decode cX1_init 13 = .ok (.bipush 8, 2) := by decide +kernel
theorem dX1_init_15 : decode cX1_init 15 = .ok (.newarray .int, 2) := by decide +kernel
theorem dX1_init_17 : decode cX1_init 17 = .ok (.putfield 15, 3) := by decide +kernel
theorem dX1_init_20 : decode cX1_init 20 = .ok (.return_, 1) := by decide +kernel
set_option maxHeartbeats 4000000 in
set_option maxRecDepth 100000 in
theorem kk_X1 (l : Launch) (D : va_G) (cA : Nat → ClassId) : kC l D cA yX1_init cX1_init 1 1 2 16 1 [.null, .null, .int 0] [] (fun _ => True) (fun u h => [(u 0, .inl (cA 0, 8, .inl (fun _ => 0))), (u 1, .inl (cA 0, 8, .inl (fun _ => 0))), (h, .inr (1, [.ref (u 1), .ref (u 0), .int 0]))]) := by
  intro h sz
  refine Met.ofW (cc := cX1_init) (maxL := 1) (ret := none) (by decide +kernel) rfl ?_
  intro p e s m args below meth c s₁ Bd hml hv0
  obtain ⟨rfl, hsz, hP, hK, hX⟩ := hv0
  have hx := Bd.exec
  have hb := Bd.bytes
  have hr := Bd.returns
  have hts0 := atoms_spec (ws := .code yX1_init cX1_init 1 none :: am_GT) Bd.pre
  have hts : ∀ w ∈ am_GT, w.before _ s = true := fun w hw => hts0 w (List.mem_cons_of_mem _ hw)
  have hown : s.vm.findClass RX1 = some m.cls := findClass_of_methodNamed Bd.named
  have hlocks := Bd.notSynchronized
  have hin : meth.name = "<init>" := (name_of_methodNamed Bd.named Bd.method).1
  subst hsz
  have hQ : vQ D (va_A [(h, .inr (1, [.null, .null, .int 0]))] s.heap.size) [(h, .inr (1, [.null, .null, .int 0]))] s.heap := ⟨hP, vD_one⟩
  clear hP
  generalize hAe : va_A [(h, .inr (1, [.null, .null, .int 0]))] s.heap.size = A at hQ ⊢
  have hA : ∀ q : Nat, s.heap.size ≤ q → A q := fun q hq => by rw [← hAe]; exact Or.inr hq
  have hS : va_S A s.heap s.heap [] := va_S.rf
  have hl := lv_entry ([.ref h]) (n := 1) (Nat.le_of_ble_eq_true rfl)
  rw [lg_entry_eq]
  generalize (lg_sl ([.ref h]) ++ List.replicate (1 - (lg_sl ([.ref h])).length) Slot.unset).toArray = ls at hl ⊢
  have hl : lv_has ls 1 [(0, .ref h)] := hl
  refine lv_aload_n hx hb dX1_init_0 rfl (lv_at hl 0 rfl) ?_
  refine W.objInit hx hb hown (hts _ (am_ig (i := 333) (by decide +kernel) rfl)) (hts _ kw_oi) (hts _ kw_oc) rfl (by rw [hml]; exact hl.1) rfl dX1_init_1 (Nat.le_of_ble_eq_true rfl) (Nat.le_of_ble_eq_true rfl) ?_
  refine W.eq (g2 := F0 m 4 ls []) rfl ?_
  refine lv_aload_n hx hb dX1_init_4 rfl (lv_at hl 0 rfl) ?_
  refine lv_bipush (v := 8) hx hb dX1_init_5 (by decide) ?_
  refine vQ_newi hx hb (hts _ kw_arr) hK hQ hS hA 8 (by decide) (by decide) (by decide) (Nat.le_of_ble_eq_true rfl) (Nat.le_of_ble_eq_true rfl) dX1_init_7 (fun q1 H hQ hS => ?_)
  refine W.widen (k := 1) (n := 8) (by omega) (by omega) ?_
  refine va_putF (D := D) (ci := 1) (v := .ref q1) (ty := .array .int) (C := RX1) (T := TX1) (N := 3) hx hb hts (am_uin (ci := 1) rfl) tyX1 tyX1_ok nmX1 hown hK hQ.1 hQ.2 hS 1 rfl rfl 0 (by decide) (hts _ (am_ig (i := 334) (by decide +kernel) rfl)) (fun _ h9 => h9) rfl hin rfl (by decide +kernel) rfl rfl (Nat.le_of_ble_eq_true rfl) dX1_init_9 (fun H locs hP hD hS => ?_)
  have hQ : vQ D A ([(q1, .inl (cA 0, 8, .inl (fun _ => 0))), (h, .inr (1, [.ref q1, .null, .int 0]))]) H := ⟨hP, hD⟩
  refine lv_aload_n hx hb dX1_init_12 rfl (lv_at hl 0 rfl) ?_
  refine lv_bipush (v := 8) hx hb dX1_init_13 (by decide) ?_
  refine vQ_newi hx hb (hts _ kw_arr) hK hQ hS hA 8 (by decide) (by decide) (by decide) (Nat.le_of_ble_eq_true rfl) (Nat.le_of_ble_eq_true rfl) dX1_init_15 (fun q2 H hQ hS => ?_)
  refine W.widen (k := 2) (n := 16) (by omega) (by omega) ?_
  refine va_putF (D := D) (ci := 1) (v := .ref q2) (ty := .array .int) (C := RX1) (T := TX1) (N := 3) hx hb hts (am_uin (ci := 1) rfl) tyX1 tyX1_ok nmX1 hown hK hQ.1 hQ.2 hS 2 rfl rfl 1 (by decide) (hts _ (am_ig (i := 335) (by decide +kernel) rfl)) (fun _ h9 => h9) rfl hin rfl (by decide +kernel) rfl rfl (Nat.le_of_ble_eq_true rfl) dX1_init_17 (fun H locs hP hD hS => ?_)
  have hQ : vQ D A ([(q2, .inl (cA 0, 8, .inl (fun _ => 0))), (q1, .inl (cA 0, 8, .inl (fun _ => 0))), (h, .inr (1, [.ref q1, .ref q2, .int 0]))]) H := ⟨hP, hD⟩
  exact W.vret hx hb hr (fun t ht hW => ⟨⟨fun k => ([q2, q1] : List Nat).getD k 0, rfl, trivial, by rw [ht]; exact hQ.1, hQ.2⟩, hS.F ht⟩) hS.2.2 dX1_init_20
theorem dX2_init_0 : decode cX2_init 0 = .ok (.aload_n 0, 1) := by decide +kernel
theorem dX2_init_1 : decode cX2_init 1 = .ok (.invokespecial 3, 3) := by decide +kernel
theorem dX2_init_4 : decode cX2_init 4 = .ok (.aload_n 0, 1) := by decide +kernel
theorem dX2_init_5 : decode cX2_init 5 = .ok (.bipush 40, 2) := by decide +kernel
theorem dX2_init_7 : decode cX2_init 7 = .ok (.newarray .int, 2) := by decide +kernel
theorem dX2_init_9 : decode cX2_init 9 = .ok (.putfield 9, 3) := by decide +kernel
theorem dX2_init_12 : decode cX2_init 12 = .ok (.return_, 1) := by decide +kernel
set_option maxHeartbeats 4000000 in
set_option maxRecDepth 100000 in
theorem kk_X2 (l : Launch) (D : va_G) (cA : Nat → ClassId) : kC l D cA yX2_init cX2_init 1 1 1 40 2 [.null, .int 0] [] (fun _ => True) (fun u h => [(u 0, .inl (cA 0, 40, .inl (fun _ => 0))), (h, .inr (2, [.ref (u 0), .int 0]))]) := by
  intro h sz
  refine Met.ofW (cc := cX2_init) (maxL := 1) (ret := none) (by decide +kernel) rfl ?_
  intro p e s m args below meth c s₁ Bd hml hv0
  obtain ⟨rfl, hsz, hP, hK, hX⟩ := hv0
  have hx := Bd.exec
  have hb := Bd.bytes
  have hr := Bd.returns
  have hts0 := atoms_spec (ws := .code yX2_init cX2_init 1 none :: am_GT) Bd.pre
  have hts : ∀ w ∈ am_GT, w.before _ s = true := fun w hw => hts0 w (List.mem_cons_of_mem _ hw)
  have hown : s.vm.findClass RX2 = some m.cls := findClass_of_methodNamed Bd.named
  have hlocks := Bd.notSynchronized
  have hin : meth.name = "<init>" := (name_of_methodNamed Bd.named Bd.method).1
  subst hsz
  have hQ : vQ D (va_A [(h, .inr (2, [.null, .int 0]))] s.heap.size) [(h, .inr (2, [.null, .int 0]))] s.heap := ⟨hP, vD_one⟩
  clear hP
  generalize hAe : va_A [(h, .inr (2, [.null, .int 0]))] s.heap.size = A at hQ ⊢
  have hA : ∀ q : Nat, s.heap.size ≤ q → A q := fun q hq => by rw [← hAe]; exact Or.inr hq
  have hS : va_S A s.heap s.heap [] := va_S.rf
  have hl := lv_entry ([.ref h]) (n := 1) (Nat.le_of_ble_eq_true rfl)
  rw [lg_entry_eq]
  generalize (lg_sl ([.ref h]) ++ List.replicate (1 - (lg_sl ([.ref h])).length) Slot.unset).toArray = ls at hl ⊢
  have hl : lv_has ls 1 [(0, .ref h)] := hl
  refine lv_aload_n hx hb dX2_init_0 rfl (lv_at hl 0 rfl) ?_
  refine W.objInit hx hb hown (hts _ (am_ig (i := 165) (by decide +kernel) rfl)) (hts _ kw_oi) (hts _ kw_oc) rfl (by rw [hml]; exact hl.1) rfl dX2_init_1 (Nat.le_of_ble_eq_true rfl) (Nat.le_of_ble_eq_true rfl) ?_
  refine W.eq (g2 := F0 m 4 ls []) rfl ?_
  refine lv_aload_n hx hb dX2_init_4 rfl (lv_at hl 0 rfl) ?_
  refine lv_bipush (v := 40) hx hb dX2_init_5 (by decide) ?_
  refine vQ_newi hx hb (hts _ kw_arr) hK hQ hS hA 40 (by decide) (by decide) (by decide) (Nat.le_of_ble_eq_true rfl) (Nat.le_of_ble_eq_true rfl) dX2_init_7 (fun q1 H hQ hS => ?_)
  refine W.widen (k := 1) (n := 40) (by omega) (by omega) ?_
  refine va_putF (D := D) (ci := 2) (v := .ref q1) (ty := .array .int) (C := RX2) (T := TX2) (N := 2) hx hb hts (am_uin (ci := 2) rfl) tyX2 tyX2_ok nmX2 hown hK hQ.1 hQ.2 hS 1 rfl rfl 0 (by decide) (hts _ (am_ig (i := 166) (by decide +kernel) rfl)) (fun _ h9 => h9) rfl hin rfl (by decide +kernel) rfl rfl (Nat.le_of_ble_eq_true rfl) dX2_init_9 (fun H locs hP hD hS => ?_)
  have hQ : vQ D A ([(q1, .inl (cA 0, 40, .inl (fun _ => 0))), (h, .inr (2, [.ref q1, .int 0]))]) H := ⟨hP, hD⟩
  exact W.vret hx hb hr (fun t ht hW => ⟨⟨fun k => ([q1] : List Nat).getD k 0, rfl, trivial, by rw [ht]; exact hQ.1, hQ.2⟩, hS.F ht⟩) hS.2.2 dX2_init_12
theorem dX3_init_0 : decode cX3_init 0 = .ok (.aload_n 0, 1) := by decide +kernel
theorem dX3_init_1 : decode cX3_init 1 = .ok (.invokespecial 3, 3) := by decide +kernel
theorem dX3_init_4 : decode cX3_init 4 = .ok (.aload_n 0, 1) := by decide +kernel
theorem dX3_init_5 : decode cX3_init 5 = .ok (.bipush 8, 2) := by decide +kernel
theorem dX3_init_7 : decode cX3_init 7 = .ok (.newarray .int, 2) := by decide +kernel
theorem dX3_init_9 : decode cX3_init 9 = .ok (.putfield 9, 3) := by decide +kernel
theorem dX3_init_12 : decode cX3_init 12 = .ok (.return_, 1) := by decide +kernel
set_option maxHeartbeats 4000000 in
set_option maxRecDepth 100000 in
theorem kk_X3 (l : Launch) (D : va_G) (cA : Nat → ClassId) : kC l D cA yX3_init cX3_init 1 1 1 8 3 [.null, .int 0] [] (fun _ => True) (fun u h => [(u 0, .inl (cA 0, 8, .inl (fun _ => 0))), (h, .inr (3, [.ref (u 0), .int 0]))]) := by
  intro h sz
  refine Met.ofW (cc := cX3_init) (maxL := 1) (ret := none) (by decide +kernel) rfl ?_
  intro p e s m args below meth c s₁ Bd hml hv0
  obtain ⟨rfl, hsz, hP, hK, hX⟩ := hv0
  have hx := Bd.exec
  have hb := Bd.bytes
  have hr := Bd.returns
  have hts0 := atoms_spec (ws := .code yX3_init cX3_init 1 none :: am_GT) Bd.pre
  have hts : ∀ w ∈ am_GT, w.before _ s = true := fun w hw => hts0 w (List.mem_cons_of_mem _ hw)
  have hown : s.vm.findClass RX3 = some m.cls := findClass_of_methodNamed Bd.named
  have hlocks := Bd.notSynchronized
  have hin : meth.name = "<init>" := (name_of_methodNamed Bd.named Bd.method).1
  subst hsz
  have hQ : vQ D (va_A [(h, .inr (3, [.null, .int 0]))] s.heap.size) [(h, .inr (3, [.null, .int 0]))] s.heap := ⟨hP, vD_one⟩
  clear hP
  generalize hAe : va_A [(h, .inr (3, [.null, .int 0]))] s.heap.size = A at hQ ⊢
  have hA : ∀ q : Nat, s.heap.size ≤ q → A q := fun q hq => by rw [← hAe]; exact Or.inr hq
  have hS : va_S A s.heap s.heap [] := va_S.rf
  have hl := lv_entry ([.ref h]) (n := 1) (Nat.le_of_ble_eq_true rfl)
  rw [lg_entry_eq]
  generalize (lg_sl ([.ref h]) ++ List.replicate (1 - (lg_sl ([.ref h])).length) Slot.unset).toArray = ls at hl ⊢
  have hl : lv_has ls 1 [(0, .ref h)] := hl
  refine lv_aload_n hx hb dX3_init_0 rfl (lv_at hl 0 rfl) ?_
  refine W.objInit hx hb hown (hts _ (am_ig (i := 179) (by decide +kernel) rfl)) (hts _ kw_oi) (hts _ kw_oc) rfl (by rw [hml]; exact hl.1) rfl dX3_init_1 (Nat.le_of_ble_eq_true rfl) (Nat.le_of_ble_eq_true rfl) ?_
  refine W.eq (g2 := F0 m 4 ls []) rfl ?_
  refine lv_aload_n hx hb dX3_init_4 rfl (lv_at hl 0 rfl) ?_
  refine lv_bipush (v := 8) hx hb dX3_init_5 (by decide) ?_
  refine vQ_newi hx hb (hts _ kw_arr) hK hQ hS hA 8 (by decide) (by decide) (by decide) (Nat.le_of_ble_eq_true rfl) (Nat.le_of_ble_eq_true rfl) dX3_init_7 (fun q1 H hQ hS => ?_)
  refine W.widen (k := 1) (n := 8) (by omega) (by omega) ?_
  refine va_putF (D := D) (ci := 3) (v := .ref q1) (ty := .array .int) (C := RX3) (T := TX3) (N := 2) hx hb hts (am_uin (ci := 3) rfl) tyX3 tyX3_ok nmX3 hown hK hQ.1 hQ.2 hS 1 rfl rfl 0 (by decide) (hts _ (am_ig (i := 180) (by decide +kernel) rfl)) (fun _ h9 => h9) rfl hin rfl (by decide +kernel) rfl rfl (Nat.le_of_ble_eq_true rfl) dX3_init_9 (fun H locs hP hD hS => ?_)
  have hQ : vQ D A ([(q1, .inl (cA 0, 8, .inl (fun _ => 0))), (h, .inr (3, [.ref q1, .int 0]))]) H := ⟨hP, hD⟩
  exact W.vret hx hb hr (fun t ht hW => ⟨⟨fun k => ([q1] : List Nat).getD k 0, rfl, trivial, by rw [ht]; exact hQ.1, hQ.2⟩, hS.F ht⟩) hS.2.2 dX3_init_12
theorem dX4_init_0 : decode cX4_init 0 = .ok (.aload_n 0, 1) := by decide +kernel
theorem dX4_init_1 : decode cX4_init 1 = .ok (.invokespecial 3, 3) := by decide +kernel
theorem dX4_init_4 : decode cX4_init 4 = .ok (.aload_n 0, 1) := by decide +kernel
theorem dX4_init_5 : decode cX4_init 5 = .ok (.bipush 60, 2) := by decide +kernel
theorem dX4_init_7 : decode cX4_init 7 = .ok (.newarray .int, 2) := by decide +kernel
theorem dX4_init_9 : decode cX4_init 9 = .ok (.putfield 9, 3) := by decide +kernel
theorem dX4_init_12 : decode cX4_init 12 = .ok (.aload_n 0, 1) := by decide +kernel
theorem dX4_init_13 : decode cX4_init 13 = .ok (.iconst (-1), 1) := by decide +kernel
theorem dX4_init_14 : decode cX4_init 14 = .ok (.putfield 15, 3) := by decide +kernel
theorem dX4_init_17 : decode cX4_init 17 = .ok (.return_, 1) := by decide +kernel
set_option maxHeartbeats 4000000 in
set_option maxRecDepth 100000 in
theorem kk_X4 (l : Launch) (D : va_G) (cA : Nat → ClassId) : kC l D cA yX4_init cX4_init 1 1 1 60 4 [.null, .int 0, .int 0] [] (fun _ => True) (fun u h => [(u 0, .inl (cA 0, 60, .inl (fun _ => 0))), (h, .inr (4, [.ref (u 0), .int 0, .int (-1)]))]) := by
  intro h sz
  refine Met.ofW (cc := cX4_init) (maxL := 1) (ret := none) (by decide +kernel) rfl ?_
  intro p e s m args below meth c s₁ Bd hml hv0
  obtain ⟨rfl, hsz, hP, hK, hX⟩ := hv0
  have hx := Bd.exec
  have hb := Bd.bytes
  have hr := Bd.returns
  have hts0 := atoms_spec (ws := .code yX4_init cX4_init 1 none :: am_GT) Bd.pre
  have hts : ∀ w ∈ am_GT, w.before _ s = true := fun w hw => hts0 w (List.mem_cons_of_mem _ hw)
  have hown : s.vm.findClass RX4 = some m.cls := findClass_of_methodNamed Bd.named
  have hlocks := Bd.notSynchronized
  have hin : meth.name = "<init>" := (name_of_methodNamed Bd.named Bd.method).1
  subst hsz
  have hQ : vQ D (va_A [(h, .inr (4, [.null, .int 0, .int 0]))] s.heap.size) [(h, .inr (4, [.null, .int 0, .int 0]))] s.heap := ⟨hP, vD_one⟩
  clear hP
  generalize hAe : va_A [(h, .inr (4, [.null, .int 0, .int 0]))] s.heap.size = A at hQ ⊢
  have hA : ∀ q : Nat, s.heap.size ≤ q → A q := fun q hq => by rw [← hAe]; exact Or.inr hq
  have hS : va_S A s.heap s.heap [] := va_S.rf
  have hl := lv_entry ([.ref h]) (n := 1) (Nat.le_of_ble_eq_true rfl)
  rw [lg_entry_eq]
  generalize (lg_sl ([.ref h]) ++ List.replicate (1 - (lg_sl ([.ref h])).length) Slot.unset).toArray = ls at hl ⊢
  have hl : lv_has ls 1 [(0, .ref h)] := hl
  refine lv_aload_n hx hb dX4_init_0 rfl (lv_at hl 0 rfl) ?_
  refine W.objInit hx hb hown (hts _ (am_ig (i := 214) (by decide +kernel) rfl)) (hts _ kw_oi) (hts _ kw_oc) rfl (by rw [hml]; exact hl.1) rfl dX4_init_1 (Nat.le_of_ble_eq_true rfl) (Nat.le_of_ble_eq_true rfl) ?_
  refine W.eq (g2 := F0 m 4 ls []) rfl ?_
  refine lv_aload_n hx hb dX4_init_4 rfl (lv_at hl 0 rfl) ?_
  refine lv_bipush (v := 60) hx hb dX4_init_5 (by decide) ?_
  refine vQ_newi hx hb (hts _ kw_arr) hK hQ hS hA 60 (by decide) (by decide) (by decide) (Nat.le_of_ble_eq_true rfl) (Nat.le_of_ble_eq_true rfl) dX4_init_7 (fun q1 H hQ hS => ?_)
  refine W.widen (k := 1) (n := 60) (by omega) (by omega) ?_
  refine va_putF (D := D) (ci := 4) (v := .ref q1) (ty := .array .int) (C := RX4) (T := TX4) (N := 3) hx hb hts (am_uin (ci := 4) rfl) tyX4 tyX4_ok nmX4 hown hK hQ.1 hQ.2 hS 1 rfl rfl 0 (by decide) (hts _ (am_ig (i := 215) (by decide +kernel) rfl)) (fun _ h9 => h9) rfl hin rfl (by decide +kernel) rfl rfl (Nat.le_of_ble_eq_true rfl) dX4_init_9 (fun H locs hP hD hS => ?_)
  have hQ : vQ D A ([(q1, .inl (cA 0, 60, .inl (fun _ => 0))), (h, .inr (4, [.ref q1, .int 0, .int 0]))]) H := ⟨hP, hD⟩
  refine lv_aload_n hx hb dX4_init_12 rfl (lv_at hl 0 rfl) ?_
  refine lv_iconst (v := (-1)) hx hb dX4_init_13 (by decide) ?_
  refine va_put (D := D) (ci := 4) (v := .int (-1)) (ty := .int) (C := RX4) (T := TX4) (N := 3) hx hb hts (am_uin (ci := 4) rfl) tyX4 tyX4_ok nmX4 hown hK hQ.1 hQ.2 hS 1 rfl rfl 2 (by decide) (hts _ (am_ig (i := 219) (by decide +kernel) rfl)) (fun _ h9 => h9) rfl (by decide +kernel) rfl rfl (Nat.le_of_ble_eq_true rfl) dX4_init_14 (fun H locs hP hD hS => ?_)
  have hQ : vQ D A ([(q1, .inl (cA 0, 60, .inl (fun _ => 0))), (h, .inr (4, [.ref q1, .int 0, .int (-1)]))]) H := ⟨hP, hD⟩
  exact W.vret hx hb hr (fun t ht hW => ⟨⟨fun k => ([q1] : List Nat).getD k 0, rfl, trivial, by rw [ht]; exact hQ.1, hQ.2⟩, hS.F ht⟩) hS.2.2 dX4_init_17
theorem dX5_init_0 : decode cX5_init 0 = .ok (.aload_n 0, 1) := by decide +kernel
theorem dX5_init_1 : decode cX5_init 1 = .ok (.invokespecial 3, 3) := by decide +kernel
theorem dX5_init_4 : decode cX5_init 4 = .ok (.aload_n 0, 1) := by decide +kernel
theorem dX5_init_5 : decode cX5_init 5 = .ok (.bipush 8, 2) := by decide +kernel
theorem dX5_init_7 : decode cX5_init 7 = .ok (.newarray .int, 2) := by decide +kernel
theorem dX5_init_9 : decode cX5_init 9 = .ok (.putfield 9, 3) := by decide +kernel
theorem dX5_init_12 : decode cX5_init 12 = .ok (.aload_n 0, 1) := by decide +kernel
theorem dX5_init_13 : decode cX5_init 13 = .ok (.bipush 8, 2) := by decide +kernel
theorem dX5_init_15 : decode cX5_init 15 = .ok (.newarray .int, 2) := by decide +kernel
theorem dX5_init_17 : decode cX5_init 17 = .ok (.putfield 15, 3) := by decide +kernel
theorem dX5_init_20 : decode cX5_init 20 = .ok (.aload_n 0, 1) := by decide +kernel
theorem dX5_init_21 : decode cX5_init 21 = .ok (.bipush 8, 2) := by decide +kernel
theorem dX5_init_23 : decode cX5_init 23 = .ok (.newarray .int, 2) := by decide +kernel
theorem dX5_init_25 : decode cX5_init 25 = .ok (.putfield 18, 3) := by decide +kernel
theorem dX5_init_28 : decode cX5_init 28 = .ok (.return_, 1) := by decide +kernel
set_option maxHeartbeats 4000000 in
set_option maxRecDepth 100000 in
theorem kk_X5 (l : Launch) (D : va_G) (cA : Nat → ClassId) : kC l D cA yX5_init cX5_init 1 1 3 24 5 [.null, .null, .null, .int 0] [] (fun _ => True) (fun u h => [(u 0, .inl (cA 0, 8, .inl (fun _ => 0))), (u 1, .inl (cA 0, 8, .inl (fun _ => 0))), (u 2, .inl (cA 0, 8, .inl (fun _ => 0))), (h, .inr (5, [.ref (u 2), .ref (u 1), .ref (u 0), .int 0]))]) := by
  intro h sz
  refine Met.ofW (cc := cX5_init) (maxL := 1) (ret := none) (by decide +kernel) rfl ?_
  intro p e s m args below meth c s₁ Bd hml hv0
  obtain ⟨rfl, hsz, hP, hK, hX⟩ := hv0
  have hx := Bd.exec
  have hb := Bd.bytes
  have hr := Bd.returns
  have hts0 := atoms_spec (ws := .code yX5_init cX5_init 1 none :: am_GT) Bd.pre
  have hts : ∀ w ∈ am_GT, w.before _ s = true := fun w hw => hts0 w (List.mem_cons_of_mem _ hw)
  have hown : s.vm.findClass RX5 = some m.cls := findClass_of_methodNamed Bd.named
  have hlocks := Bd.notSynchronized
  have hin : meth.name = "<init>" := (name_of_methodNamed Bd.named Bd.method).1
  subst hsz
  have hQ : vQ D (va_A [(h, .inr (5, [.null, .null, .null, .int 0]))] s.heap.size) [(h, .inr (5, [.null, .null, .null, .int 0]))] s.heap := ⟨hP, vD_one⟩
  clear hP
  generalize hAe : va_A [(h, .inr (5, [.null, .null, .null, .int 0]))] s.heap.size = A at hQ ⊢
  have hA : ∀ q : Nat, s.heap.size ≤ q → A q := fun q hq => by rw [← hAe]; exact Or.inr hq
  have hS : va_S A s.heap s.heap [] := va_S.rf
  have hl := lv_entry ([.ref h]) (n := 1) (Nat.le_of_ble_eq_true rfl)
  rw [lg_entry_eq]
  generalize (lg_sl ([.ref h]) ++ List.replicate (1 - (lg_sl ([.ref h])).length) Slot.unset).toArray = ls at hl ⊢
  have hl : lv_has ls 1 [(0, .ref h)] := hl
  refine lv_aload_n hx hb dX5_init_0 rfl (lv_at hl 0 rfl) ?_
  refine W.objInit hx hb hown (hts _ (am_ig (i := 193) (by decide +kernel) rfl)) (hts _ kw_oi) (hts _ kw_oc) rfl (by rw [hml]; exact hl.1) rfl dX5_init_1 (Nat.le_of_ble_eq_true rfl) (Nat.le_of_ble_eq_true rfl) ?_
  refine W.eq (g2 := F0 m 4 ls []) rfl ?_
  refine lv_aload_n hx hb dX5_init_4 rfl (lv_at hl 0 rfl) ?_
  refine lv_bipush (v := 8) hx hb dX5_init_5 (by decide) ?_
  refine vQ_newi hx hb (hts _ kw_arr) hK hQ hS hA 8 (by decide) (by decide) (by decide) (Nat.le_of_ble_eq_true rfl) (Nat.le_of_ble_eq_true rfl) dX5_init_7 (fun q1 H hQ hS => ?_)
  refine W.widen (k := 1) (n := 8) (by omega) (by omega) ?_
  refine va_putF (D := D) (ci := 5) (v := .ref q1) (ty := .array .int) (C := RX5) (T := TX5) (N := 4) hx hb hts (am_uin (ci := 5) rfl) tyX5 tyX5_ok nmX5 hown hK hQ.1 hQ.2 hS 1 rfl rfl 0 (by decide) (hts _ (am_ig (i := 194) (by decide +kernel) rfl)) (fun _ h9 => h9) rfl hin rfl (by decide +kernel) rfl rfl (Nat.le_of_ble_eq_true rfl) dX5_init_9 (fun H locs hP hD hS => ?_)
  have hQ : vQ D A ([(q1, .inl (cA 0, 8, .inl (fun _ => 0))), (h, .inr (5, [.ref q1, .null, .null, .int 0]))]) H := ⟨hP, hD⟩
  refine lv_aload_n hx hb dX5_init_12 rfl (lv_at hl 0 rfl) ?_
  refine lv_bipush (v := 8) hx hb dX5_init_13 (by decide) ?_
  refine vQ_newi hx hb (hts _ kw_arr) hK hQ hS hA 8 (by decide) (by decide) (by decide) (Nat.le_of_ble_eq_true rfl) (Nat.le_of_ble_eq_true rfl) dX5_init_15 (fun q2 H hQ hS => ?_)
  refine W.widen (k := 2) (n := 16) (by omega) (by omega) ?_
  refine va_putF (D := D) (ci := 5) (v := .ref q2) (ty := .array .int) (C := RX5) (T := TX5) (N := 4) hx hb hts (am_uin (ci := 5) rfl) tyX5 tyX5_ok nmX5 hown hK hQ.1 hQ.2 hS 2 rfl rfl 1 (by decide) (hts _ (am_ig (i := 195) (by decide +kernel) rfl)) (fun _ h9 => h9) rfl hin rfl (by decide +kernel) rfl rfl (Nat.le_of_ble_eq_true rfl) dX5_init_17 (fun H locs hP hD hS => ?_)
  have hQ : vQ D A ([(q2, .inl (cA 0, 8, .inl (fun _ => 0))), (q1, .inl (cA 0, 8, .inl (fun _ => 0))), (h, .inr (5, [.ref q1, .ref q2, .null, .int 0]))]) H := ⟨hP, hD⟩
  refine lv_aload_n hx hb dX5_init_20 rfl (lv_at hl 0 rfl) ?_
  refine lv_bipush (v := 8) hx hb dX5_init_21 (by decide) ?_
  refine vQ_newi hx hb (hts _ kw_arr) hK hQ hS hA 8 (by decide) (by decide) (by decide) (Nat.le_of_ble_eq_true rfl) (Nat.le_of_ble_eq_true rfl) dX5_init_23 (fun q3 H hQ hS => ?_)
  refine W.widen (k := 3) (n := 24) (by omega) (by omega) ?_
  refine va_putF (D := D) (ci := 5) (v := .ref q3) (ty := .array .int) (C := RX5) (T := TX5) (N := 4) hx hb hts (am_uin (ci := 5) rfl) tyX5 tyX5_ok nmX5 hown hK hQ.1 hQ.2 hS 3 rfl rfl 2 (by decide) (hts _ (am_ig (i := 196) (by decide +kernel) rfl)) (fun _ h9 => h9) rfl hin rfl (by decide +kernel) rfl rfl (Nat.le_of_ble_eq_true rfl) dX5_init_25 (fun H locs hP hD hS => ?_)
  have hQ : vQ D A ([(q3, .inl (cA 0, 8, .inl (fun _ => 0))), (q2, .inl (cA 0, 8, .inl (fun _ => 0))), (q1, .inl (cA 0, 8, .inl (fun _ => 0))), (h, .inr (5, [.ref q1, .ref q2, .ref q3, .int 0]))]) H := ⟨hP, hD⟩
  exact W.vret hx hb hr (fun t ht hW => ⟨⟨fun k => ([q3, q2, q1] : List Nat).getD k 0, rfl, trivial, by rw [ht]; exact hQ.1, hQ.2⟩, hS.F ht⟩) hS.2.2 dX5_init_28
theorem dX7_init_0 : decode cX7_init 0 = .ok (.aload_n 0, 1) := by decide +kernel
theorem dX7_init_1 : decode cX7_init 1 = .ok (.invokespecial 3, 3) := by decide +kernel
theorem dX7_init_4 : decode cX7_init 4 = .ok (.aload_n 0, 1) := by decide +kernel
theorem dX7_init_5 : decode cX7_init 5 = .ok (.bipush 55, 2) := by decide +kernel
theorem dX7_init_7 : decode cX7_init 7 = .ok (.newarray .int, 2) := by decide +kernel
theorem dX7_init_9 : decode cX7_init 9 = .ok (.putfield 9, 3) := by decide +kernel
theorem dX7_init_12 : decode cX7_init 12 = .ok (.aload_n 0, 1) := by decide +kernel
theorem dX7_init_13 : decode cX7_init 13 = .ok (.iload_n 1, 1) := by decide +kernel
theorem dX7_init_14 : decode cX7_init 14 = .ok (.bipush 55, 2) := by decide +kernel
theorem dX7_init_16 : decode cX7_init 16 = .ok (.invokestatic 15, 3) := by decide +kernel
theorem dX7_init_19 : decode cX7_init 19 = .ok (.putfield 21, 3) := by decide +kernel
theorem dX7_init_22 : decode cX7_init 22 = .ok (.aload_n 0, 1) := by decide +kernel
theorem dX7_init_23 : decode cX7_init 23 = .ok (.iconst 0, 1) := by decide +kernel
theorem dX7_init_24 : decode cX7_init 24 = .ok (.putfield 25, 3) := by decide +kernel
theorem dX7_init_27 : decode cX7_init 27 = .ok (.return_, 1) := by decide +kernel
set_option maxHeartbeats 4000000 in
set_option maxRecDepth 100000 in
theorem kk_X7 (l : Launch) (D : va_G) (cA : Nat → ClassId) {v : Int32} (hv : ¬ (55 : Int32) < v) : kC l D cA yX7_init cX7_init 2 1 1 55 7 [.null, .int 0, .int 0] [.int v] (fun _ => True) (fun u h => [(u 0, .inl (cA 0, 55, .inl (fun _ => 0))), (h, .inr (7, [.ref (u 0), .int v, .int 0]))]) := by
  intro h sz
  refine Met.ofW (cc := cX7_init) (maxL := 2) (ret := none) (by decide +kernel) rfl ?_
  intro p e s m args below meth c s₁ Bd hml hv0
  obtain ⟨rfl, hsz, hP, hK, hX⟩ := hv0
  have hx := Bd.exec
  have hb := Bd.bytes
  have hr := Bd.returns
  have hts0 := atoms_spec (ws := .code yX7_init cX7_init 2 none :: am_GT) Bd.pre
  have hts : ∀ w ∈ am_GT, w.before _ s = true := fun w hw => hts0 w (List.mem_cons_of_mem _ hw)
  have hown : s.vm.findClass RX7 = some m.cls := findClass_of_methodNamed Bd.named
  have hlocks := Bd.notSynchronized
  have hin : meth.name = "<init>" := (name_of_methodNamed Bd.named Bd.method).1
  subst hsz
  have hQ : vQ D (va_A [(h, .inr (7, [.null, .int 0, .int 0]))] s.heap.size) [(h, .inr (7, [.null, .int 0, .int 0]))] s.heap := ⟨hP, vD_one⟩
  clear hP
  generalize hAe : va_A [(h, .inr (7, [.null, .int 0, .int 0]))] s.heap.size = A at hQ ⊢
  have hA : ∀ q : Nat, s.heap.size ≤ q → A q := fun q hq => by rw [← hAe]; exact Or.inr hq
  have hS : va_S A s.heap s.heap [] := va_S.rf
  have hl := lv_entry ([.ref h, .int v]) (n := 2) (Nat.le_of_ble_eq_true rfl)
  rw [lg_entry_eq]
  generalize (lg_sl ([.ref h, .int v]) ++ List.replicate (2 - (lg_sl ([.ref h, .int v])).length) Slot.unset).toArray = ls at hl ⊢
  have hl : lv_has ls 2 [(0, .ref h), (1, .int v)] := hl
  refine lv_aload_n hx hb dX7_init_0 rfl (lv_at hl 0 rfl) ?_
  refine W.objInit hx hb hown (hts _ (am_ig (i := 100) (by decide +kernel) rfl)) (hts _ kw_oi) (hts _ kw_oc) rfl (by rw [hml]; exact hl.1) rfl dX7_init_1 (Nat.le_of_ble_eq_true rfl) (Nat.le_of_ble_eq_true rfl) ?_
  refine W.eq (g2 := F0 m 4 ls []) rfl ?_
  refine lv_aload_n hx hb dX7_init_4 rfl (lv_at hl 0 rfl) ?_
  refine lv_bipush (v := 55) hx hb dX7_init_5 (by decide) ?_
  refine vQ_newi hx hb (hts _ kw_arr) hK hQ hS hA 55 (by decide) (by decide) (by decide) (Nat.le_of_ble_eq_true rfl) (Nat.le_of_ble_eq_true rfl) dX7_init_7 (fun q1 H hQ hS => ?_)
  refine W.widen (k := 1) (n := 55) (by omega) (by omega) ?_
  refine va_putF (D := D) (ci := 7) (v := .ref q1) (ty := .array .int) (C := RX7) (T := TX7) (N := 3) hx hb hts (am_uin (ci := 7) rfl) tyX7 tyX7_ok nmX7 hown hK hQ.1 hQ.2 hS 1 rfl rfl 0 (by decide) (hts _ (am_ig (i := 104) (by decide +kernel) rfl)) (fun _ h9 => h9) rfl hin rfl (by decide +kernel) rfl rfl (Nat.le_of_ble_eq_true rfl) dX7_init_9 (fun H locs hP hD hS => ?_)
  have hQ : vQ D A ([(q1, .inl (cA 0, 55, .inl (fun _ => 0))), (h, .inr (7, [.ref q1, .int 0, .int 0]))]) H := ⟨hP, hD⟩
  refine lv_aload_n hx hb dX7_init_12 rfl (lv_at hl 0 rfl) ?_
  refine lv_iload_n hx hb dX7_init_13 rfl (lv_at hl 1 rfl) ?_
  refine lv_bipush (v := 55) hx hb dX7_init_14 (by decide) ?_
  refine va_mmin hx hb (by rw [hml]; exact hl.1.symm) hown (hts _ (am_ig (i := 101) (by decide +kernel) rfl)) (hts _ kw_ms) (hts _ kw_mi) (hts _ kw_mc) (Nat.le_of_ble_eq_true rfl) (Nat.le_of_ble_eq_true rfl) (Nat.le_of_ble_eq_true rfl) (Nat.le_of_ble_eq_true rfl) dX7_init_16 ?_
  rw [if_neg hv]
  refine va_putF (D := D) (ci := 7) (v := .int v) (ty := .int) (C := RX7) (T := TX7) (N := 3) hx hb hts (am_uin (ci := 7) rfl) tyX7 tyX7_ok nmX7 hown hK hQ.1 hQ.2 hS 1 rfl rfl 1 (by decide) (hts _ (am_ig (i := 105) (by decide +kernel) rfl)) (fun _ h9 => h9) rfl hin rfl (by decide +kernel) rfl rfl (Nat.le_of_ble_eq_true rfl) dX7_init_19 (fun H locs hP hD hS => ?_)
  have hQ : vQ D A ([(q1, .inl (cA 0, 55, .inl (fun _ => 0))), (h, .inr (7, [.ref q1, .int v, .int 0]))]) H := ⟨hP, hD⟩
  refine lv_aload_n hx hb dX7_init_22 rfl (lv_at hl 0 rfl) ?_
  refine lv_iconst (v := 0) hx hb dX7_init_23 (by decide) ?_
  refine va_put (D := D) (ci := 7) (v := .int 0) (ty := .int) (C := RX7) (T := TX7) (N := 3) hx hb hts (am_uin (ci := 7) rfl) tyX7 tyX7_ok nmX7 hown hK hQ.1 hQ.2 hS 1 rfl rfl 2 (by decide) (hts _ (am_ig (i := 106) (by decide +kernel) rfl)) (fun _ h9 => h9) rfl (by decide +kernel) rfl rfl (Nat.le_of_ble_eq_true rfl) dX7_init_24 (fun H locs hP hD hS => ?_)
  have hQ : vQ D A ([(q1, .inl (cA 0, 55, .inl (fun _ => 0))), (h, .inr (7, [.ref q1, .int v, .int 0]))]) H := ⟨hP, hD⟩
  exact W.vret hx hb hr (fun t ht hW => ⟨⟨fun k => ([q1] : List Nat).getD k 0, rfl, trivial, by rw [ht]; exact hQ.1, hQ.2⟩, hS.F ht⟩) hS.2.2 dX7_init_27
theorem dX8_init_0 : decode cX8_init 0 = .ok (.aload_n 0, 1) := by decide +kernel
theorem dX8_init_1 : decode cX8_init 1 = .ok (.invokespecial 3, 3) := by decide +kernel
theorem dX8_init_4 : decode cX8_init 4 = .ok (.aload_n 0, 1) := by decide +kernel
theorem dX8_init_5 : decode cX8_init 5 = .ok (.bipush 36, 2) := by decide +kernel
theorem dX8_init_7 : decode cX8_init 7 = .ok (.newarray .int, 2) := by decide +kernel
theorem dX8_init_9 : decode cX8_init 9 = .ok (.putfield 9, 3) := by decide +kernel
theorem dX8_init_12 : decode cX8_init 12 = .ok (.aload_n 0, 1) := by decide +kernel
theorem dX8_init_13 : decode cX8_init 13 = .ok (.sipush 144, 3) := by decide +kernel
theorem dX8_init_16 : decode cX8_init 16 = .ok (.newarray .int, 2) := by decide +kernel
theorem dX8_init_18 : decode cX8_init 18 = .ok (.putfield 15, 3) := by decide +kernel
theorem dX8_init_21 : decode cX8_init 21 = .ok (.return_, 1) := by decide +kernel
set_option maxHeartbeats 4000000 in
set_option maxRecDepth 100000 in
theorem kk_X8 (l : Launch) (D : va_G) (cA : Nat → ClassId) : kC l D cA yX8_init cX8_init 1 1 2 180 8 [.null, .null, .int 0, .int 0] [] (fun _ => True) (fun u h => [(u 0, .inl (cA 0, 144, .inl (fun _ => 0))), (u 1, .inl (cA 0, 36, .inl (fun _ => 0))), (h, .inr (8, [.ref (u 1), .ref (u 0), .int 0, .int 0]))]) := by
  intro h sz
  refine Met.ofW (cc := cX8_init) (maxL := 1) (ret := none) (by decide +kernel) rfl ?_
  intro p e s m args below meth c s₁ Bd hml hv0
  obtain ⟨rfl, hsz, hP, hK, hX⟩ := hv0
  have hx := Bd.exec
  have hb := Bd.bytes
  have hr := Bd.returns
  have hts0 := atoms_spec (ws := .code yX8_init cX8_init 1 none :: am_GT) Bd.pre
  have hts : ∀ w ∈ am_GT, w.before _ s = true := fun w hw => hts0 w (List.mem_cons_of_mem _ hw)
  have hown : s.vm.findClass RX8 = some m.cls := findClass_of_methodNamed Bd.named
  have hlocks := Bd.notSynchronized
  have hin : meth.name = "<init>" := (name_of_methodNamed Bd.named Bd.method).1
  subst hsz
  have hQ : vQ D (va_A [(h, .inr (8, [.null, .null, .int 0, .int 0]))] s.heap.size) [(h, .inr (8, [.null, .null, .int 0, .int 0]))] s.heap := ⟨hP, vD_one⟩
  clear hP
  generalize hAe : va_A [(h, .inr (8, [.null, .null, .int 0, .int 0]))] s.heap.size = A at hQ ⊢
  have hA : ∀ q : Nat, s.heap.size ≤ q → A q := fun q hq => by rw [← hAe]; exact Or.inr hq
  have hS : va_S A s.heap s.heap [] := va_S.rf
  have hl := lv_entry ([.ref h]) (n := 1) (Nat.le_of_ble_eq_true rfl)
  rw [lg_entry_eq]
  generalize (lg_sl ([.ref h]) ++ List.replicate (1 - (lg_sl ([.ref h])).length) Slot.unset).toArray = ls at hl ⊢
  have hl : lv_has ls 1 [(0, .ref h)] := hl
  refine lv_aload_n hx hb dX8_init_0 rfl (lv_at hl 0 rfl) ?_
  refine W.objInit hx hb hown (hts _ (am_ig (i := 124) (by decide +kernel) rfl)) (hts _ kw_oi) (hts _ kw_oc) rfl (by rw [hml]; exact hl.1) rfl dX8_init_1 (Nat.le_of_ble_eq_true rfl) (Nat.le_of_ble_eq_true rfl) ?_
  refine W.eq (g2 := F0 m 4 ls []) rfl ?_
  refine lv_aload_n hx hb dX8_init_4 rfl (lv_at hl 0 rfl) ?_
  refine lv_bipush (v := 36) hx hb dX8_init_5 (by decide) ?_
  refine vQ_newi hx hb (hts _ kw_arr) hK hQ hS hA 36 (by decide) (by decide) (by decide) (Nat.le_of_ble_eq_true rfl) (Nat.le_of_ble_eq_true rfl) dX8_init_7 (fun q1 H hQ hS => ?_)
  refine W.widen (k := 1) (n := 36) (by omega) (by omega) ?_
  refine va_putF (D := D) (ci := 8) (v := .ref q1) (ty := .array .int) (C := RX8) (T := TX8) (N := 4) hx hb hts (am_uin (ci := 8) rfl) tyX8 tyX8_ok nmX8 hown hK hQ.1 hQ.2 hS 1 rfl rfl 0 (by decide) (hts _ (am_ig (i := 125) (by decide +kernel) rfl)) (fun _ h9 => h9) rfl hin rfl (by decide +kernel) rfl rfl (Nat.le_of_ble_eq_true rfl) dX8_init_9 (fun H locs hP hD hS => ?_)
  have hQ : vQ D A ([(q1, .inl (cA 0, 36, .inl (fun _ => 0))), (h, .inr (8, [.ref q1, .null, .int 0, .int 0]))]) H := ⟨hP, hD⟩
  refine lv_aload_n hx hb dX8_init_12 rfl (lv_at hl 0 rfl) ?_
  refine lv_sipush (v := 144) hx hb dX8_init_13 (by decide) ?_
  refine vQ_newi hx hb (hts _ kw_arr) hK hQ hS hA 144 (by decide) (by decide) (by decide) (Nat.le_of_ble_eq_true rfl) (Nat.le_of_ble_eq_true rfl) dX8_init_16 (fun q2 H hQ hS => ?_)
  refine W.widen (k := 2) (n := 180) (by omega) (by omega) ?_
  refine va_putF (D := D) (ci := 8) (v := .ref q2) (ty := .array .int) (C := RX8) (T := TX8) (N := 4) hx hb hts (am_uin (ci := 8) rfl) tyX8 tyX8_ok nmX8 hown hK hQ.1 hQ.2 hS 2 rfl rfl 1 (by decide) (hts _ (am_ig (i := 126) (by decide +kernel) rfl)) (fun _ h9 => h9) rfl hin rfl (by decide +kernel) rfl rfl (Nat.le_of_ble_eq_true rfl) dX8_init_18 (fun H locs hP hD hS => ?_)
  have hQ : vQ D A ([(q2, .inl (cA 0, 144, .inl (fun _ => 0))), (q1, .inl (cA 0, 36, .inl (fun _ => 0))), (h, .inr (8, [.ref q1, .ref q2, .int 0, .int 0]))]) H := ⟨hP, hD⟩
  exact W.vret hx hb hr (fun t ht hW => ⟨⟨fun k => ([q2, q1] : List Nat).getD k 0, rfl, trivial, by rw [ht]; exact hQ.1, hQ.2⟩, hS.F ht⟩) hS.2.2 dX8_init_21
theorem dX9_init_0 : decode cX9_init 0 = .ok (.aload_n 0, 1) := by decide +kernel
theorem dX9_init_1 : decode cX9_init 1 = .ok (.invokespecial 3, 3) := by decide +kernel
theorem dX9_init_4 : decode cX9_init 4 = .ok (.aload_n 0, 1) := by decide +kernel
theorem dX9_init_5 : decode cX9_init 5 = .ok (.bipush 120, 2) := by decide +kernel
theorem dX9_init_7 : decode cX9_init 7 = .ok (.newarray .int, 2) := by decide +kernel
theorem dX9_init_9 : decode cX9_init 9 = .ok (.putfield 11, 3) := by decide +kernel
theorem dX9_init_12 : decode cX9_init 12 = .ok (.return_, 1) := by decide +kernel
set_option maxHeartbeats 4000000 in
set_option maxRecDepth 100000 in
theorem kk_X9 (l : Launch) (D : va_G) (cA : Nat → ClassId) : kC l D cA yX9_init cX9_init 1 1 1 120 9 [.null, .int 0, .int 0] [] (fun _ => True) (fun u h => [(u 0, .inl (cA 0, 120, .inl (fun _ => 0))), (h, .inr (9, [.ref (u 0), .int 0, .int 0]))]) := by
  intro h sz
  refine Met.ofW (cc := cX9_init) (maxL := 1) (ret := none) (by decide +kernel) rfl ?_
  intro p e s m args below meth c s₁ Bd hml hv0
  obtain ⟨rfl, hsz, hP, hK, hX⟩ := hv0
  have hx := Bd.exec
  have hb := Bd.bytes
  have hr := Bd.returns
  have hts0 := atoms_spec (ws := .code yX9_init cX9_init 1 none :: am_GT) Bd.pre
  have hts : ∀ w ∈ am_GT, w.before _ s = true := fun w hw => hts0 w (List.mem_cons_of_mem _ hw)
  have hown : s.vm.findClass RX9 = some m.cls := findClass_of_methodNamed Bd.named
  have hlocks := Bd.notSynchronized
  have hin : meth.name = "<init>" := (name_of_methodNamed Bd.named Bd.method).1
  subst hsz
  have hQ : vQ D (va_A [(h, .inr (9, [.null, .int 0, .int 0]))] s.heap.size) [(h, .inr (9, [.null, .int 0, .int 0]))] s.heap := ⟨hP, vD_one⟩
  clear hP
  generalize hAe : va_A [(h, .inr (9, [.null, .int 0, .int 0]))] s.heap.size = A at hQ ⊢
  have hA : ∀ q : Nat, s.heap.size ≤ q → A q := fun q hq => by rw [← hAe]; exact Or.inr hq
  have hS : va_S A s.heap s.heap [] := va_S.rf
  have hl := lv_entry ([.ref h]) (n := 1) (Nat.le_of_ble_eq_true rfl)
  rw [lg_entry_eq]
  generalize (lg_sl ([.ref h]) ++ List.replicate (1 - (lg_sl ([.ref h])).length) Slot.unset).toArray = ls at hl ⊢
  have hl : lv_has ls 1 [(0, .ref h)] := hl
  refine lv_aload_n hx hb dX9_init_0 rfl (lv_at hl 0 rfl) ?_
  refine W.objInit hx hb hown (hts _ (am_ig (i := 234) (by decide +kernel) rfl)) (hts _ kw_oi) (hts _ kw_oc) rfl (by rw [hml]; exact hl.1) rfl dX9_init_1 (Nat.le_of_ble_eq_true rfl) (Nat.le_of_ble_eq_true rfl) ?_
  refine W.eq (g2 := F0 m 4 ls []) rfl ?_
  refine lv_aload_n hx hb dX9_init_4 rfl (lv_at hl 0 rfl) ?_
  refine lv_bipush (v := 120) hx hb dX9_init_5 (by decide) ?_
  refine vQ_newi hx hb (hts _ kw_arr) hK hQ hS hA 120 (by decide) (by decide) (by decide) (Nat.le_of_ble_eq_true rfl) (Nat.le_of_ble_eq_true rfl) dX9_init_7 (fun q1 H hQ hS => ?_)
  refine W.widen (k := 1) (n := 120) (by omega) (by omega) ?_
  refine va_putF (D := D) (ci := 9) (v := .ref q1) (ty := .array .int) (C := RX9) (T := TX9) (N := 3) hx hb hts (am_uin (ci := 9) rfl) tyX9 tyX9_ok nmX9 hown hK hQ.1 hQ.2 hS 1 rfl rfl 0 (by decide) (hts _ (am_ig (i := 235) (by decide +kernel) rfl)) (fun _ h9 => h9) rfl hin rfl (by decide +kernel) rfl rfl (Nat.le_of_ble_eq_true rfl) dX9_init_9 (fun H locs hP hD hS => ?_)
  have hQ : vQ D A ([(q1, .inl (cA 0, 120, .inl (fun _ => 0))), (h, .inr (9, [.ref q1, .int 0, .int 0]))]) H := ⟨hP, hD⟩
  exact W.vret hx hb hr (fun t ht hW => ⟨⟨fun k => ([q1] : List Nat).getD k 0, rfl, trivial, by rw [ht]; exact hQ.1, hQ.2⟩, hS.F ht⟩) hS.2.2 dX9_init_12
theorem dX10_init_0 : decode cX10_init 0 = .ok (.aload_n 0, 1) := by decide +kernel
theorem dX10_init_1 : decode cX10_init 1 = .ok (.invokespecial 3, 3) := by decide +kernel
theorem dX10_init_4 : decode cX10_init 4 = .ok (.aload_n 0, 1) := by decide +kernel
theorem dX10_init_5 : decode cX10_init 5 = .ok (.aload_n 1, 1) := by decide +kernel
theorem dX10_init_6 : decode cX10_init 6 = .ok (.putfield 9, 3) := by decide +kernel
theorem dX10_init_9 : decode cX10_init 9 = .ok (.aload_n 0, 1) := by decide +kernel
theorem dX10_init_10 : decode cX10_init 10 = .ok (.aload_n 2, 1) := by decide +kernel
theorem dX10_init_11 : decode cX10_init 11 = .ok (.putfield 15, 3) := by decide +kernel
theorem dX10_init_14 : decode cX10_init 14 = .ok (.return_, 1) := by decide +kernel
set_option maxHeartbeats 4000000 in
set_option maxRecDepth 100000 in
theorem kk_X10 (l : Launch) (D : va_G) (cA : Nat → ClassId) {g1 g2 : Nat} : kC l D cA yX10_init cX10_init 3 1 0 0 10 [.null, .null, .int 0, .int 0, .int 0, .int 0, .int 0, .int 0, .int 0, .int 0, .int 0, .int 0, .int 0] [.ref g1, .ref g2] (fun _ => True) (fun u h => [(h, .inr (10, [.ref g1, .ref g2, .int 0, .int 0, .int 0, .int 0, .int 0, .int 0, .int 0, .int 0, .int 0, .int 0, .int 0]))]) := by
  intro h sz
  refine Met.ofW (cc := cX10_init) (maxL := 3) (ret := none) (by decide +kernel) rfl ?_
  intro p e s m args below meth c s₁ Bd hml hv0
  obtain ⟨rfl, hsz, hP, hK, hX⟩ := hv0
  have hx := Bd.exec
  have hb := Bd.bytes
  have hr := Bd.returns
  have hts0 := atoms_spec (ws := .code yX10_init cX10_init 3 none :: am_GT) Bd.pre
  have hts : ∀ w ∈ am_GT, w.before _ s = true := fun w hw => hts0 w (List.mem_cons_of_mem _ hw)
  have hown : s.vm.findClass RX10 = some m.cls := findClass_of_methodNamed Bd.named
  have hlocks := Bd.notSynchronized
  have hin : meth.name = "<init>" := (name_of_methodNamed Bd.named Bd.method).1
  subst hsz
  have hQ : vQ D (va_A [(h, .inr (10, [.null, .null, .int 0, .int 0, .int 0, .int 0, .int 0, .int 0, .int 0, .int 0, .int 0, .int 0, .int 0]))] s.heap.size) [(h, .inr (10, [.null, .null, .int 0, .int 0, .int 0, .int 0, .int 0, .int 0, .int 0, .int 0, .int 0, .int 0, .int 0]))] s.heap := ⟨hP, vD_one⟩
  clear hP
  generalize hAe : va_A [(h, .inr (10, [.null, .null, .int 0, .int 0, .int 0, .int 0, .int 0, .int 0, .int 0, .int 0, .int 0, .int 0, .int 0]))] s.heap.size = A at hQ ⊢
  have hA : ∀ q : Nat, s.heap.size ≤ q → A q := fun q hq => by rw [← hAe]; exact Or.inr hq
  have hS : va_S A s.heap s.heap [] := va_S.rf
  have hl := lv_entry ([.ref h, .ref g1, .ref g2]) (n := 3) (Nat.le_of_ble_eq_true rfl)
  rw [lg_entry_eq]
  generalize (lg_sl ([.ref h, .ref g1, .ref g2]) ++ List.replicate (3 - (lg_sl ([.ref h, .ref g1, .ref g2])).length) Slot.unset).toArray = ls at hl ⊢
  have hl : lv_has ls 3 [(0, .ref h), (1, .ref g1), (2, .ref g2)] := hl
  refine lv_aload_n hx hb dX10_init_0 rfl (lv_at hl 0 rfl) ?_
  refine W.objInit hx hb hown (hts _ (am_ig (i := 252) (by decide +kernel) rfl)) (hts _ kw_oi) (hts _ kw_oc) rfl (by rw [hml]; exact hl.1) rfl dX10_init_1 (Nat.le_of_ble_eq_true rfl) (Nat.le_of_ble_eq_true rfl) ?_
  refine W.eq (g2 := F0 m 4 ls []) rfl ?_
  refine lv_aload_n hx hb dX10_init_4 rfl (lv_at hl 0 rfl) ?_
  refine lv_aload_n hx hb dX10_init_5 rfl (lv_at hl 1 rfl) ?_
  refine va_putF (D := D) (ci := 10) (v := .ref g1) (ty := .object "DeadLasts$Town") (C := RX10) (T := TX10) (N := 13) hx hb hts (am_uin (ci := 10) rfl) tyX10 tyX10_ok nmX10 hown hK hQ.1 hQ.2 hS 0 rfl rfl 0 (by decide) (hts _ (am_ig (i := 253) (by decide +kernel) rfl)) (fun _ h9 => h9) rfl hin rfl (by decide +kernel) rfl rfl (Nat.le_of_ble_eq_true rfl) dX10_init_6 (fun H locs hP hD hS => ?_)
  have hQ : vQ D A ([(h, .inr (10, [.ref g1, .null, .int 0, .int 0, .int 0, .int 0, .int 0, .int 0, .int 0, .int 0, .int 0, .int 0, .int 0]))]) H := ⟨hP, hD⟩
  refine lv_aload_n hx hb dX10_init_9 rfl (lv_at hl 0 rfl) ?_
  refine lv_aload_n hx hb dX10_init_10 rfl (lv_at hl 2 rfl) ?_
  refine va_putF (D := D) (ci := 10) (v := .ref g2) (ty := .object "DeadLasts$Lasts") (C := RX10) (T := TX10) (N := 13) hx hb hts (am_uin (ci := 10) rfl) tyX10 tyX10_ok nmX10 hown hK hQ.1 hQ.2 hS 0 rfl rfl 1 (by decide) (hts _ (am_ig (i := 254) (by decide +kernel) rfl)) (fun _ h9 => h9) rfl hin rfl (by decide +kernel) rfl rfl (Nat.le_of_ble_eq_true rfl) dX10_init_11 (fun H locs hP hD hS => ?_)
  have hQ : vQ D A ([(h, .inr (10, [.ref g1, .ref g2, .int 0, .int 0, .int 0, .int 0, .int 0, .int 0, .int 0, .int 0, .int 0, .int 0, .int 0]))]) H := ⟨hP, hD⟩
  exact W.vret hx hb hr (fun t ht hW => ⟨⟨fun k => ([] : List Nat).getD k 0, rfl, trivial, by rw [ht]; exact hQ.1, hQ.2⟩, hS.F ht⟩) hS.2.2 dX10_init_14
theorem dX6_init_0 : decode cX6_init 0 = .ok (.aload_n 0, 1) := by decide +kernel
theorem dX6_init_1 : decode cX6_init 1 = .ok (.invokespecial 3, 3) := by decide +kernel
theorem dX6_init_4 : decode cX6_init 4 = .ok (.aload_n 0, 1) := by decide +kernel
theorem dX6_init_5 : decode cX6_init 5 = .ok (.bipush 11, 2) := by decide +kernel
theorem dX6_init_7 : decode cX6_init 7 = .ok (.anewarray 9, 3) := by decide +kernel
theorem dX6_init_10 : decode cX6_init 10 = .ok (.putfield 11, 3) := by decide +kernel
theorem dX6_init_13 : decode cX6_init 13 = .ok (.aload_n 0, 1) := by decide +kernel
theorem dX6_init_14 : decode cX6_init 14 = .ok (.iconst (-1), 1) := by decide +kernel
theorem dX6_init_15 : decode cX6_init 15 = .ok (.putfield 17, 3) := by decide +kernel
theorem dX6_init_18 : decode cX6_init 18 = .ok (.iconst 0, 1) := by decide +kernel
theorem dX6_init_19 : decode cX6_init 19 = .ok (.istore_n 3, 1) := by decide +kernel
theorem dX6_init_20 : decode cX6_init 20 = .ok (.iload_n 3, 1) := by decide +kernel
theorem dX6_init_21 : decode cX6_init 21 = .ok (.aload_n 0, 1) := by decide +kernel
theorem dX6_init_22 : decode cX6_init 22 = .ok (.getfield 11, 3) := by decide +kernel
theorem dX6_init_25 : decode cX6_init 25 = .ok (.arraylength, 1) := by decide +kernel
theorem dX6_init_26 : decode cX6_init 26 = .ok (.if_icmp .ge 24, 3) := by decide +kernel
theorem dX6_init_29 : decode cX6_init 29 = .ok (.aload_n 0, 1) := by decide +kernel
theorem dX6_init_30 : decode cX6_init 30 = .ok (.getfield 11, 3) := by decide +kernel
theorem dX6_init_33 : decode cX6_init 33 = .ok (.iload_n 3, 1) := by decide +kernel
theorem dX6_init_34 : decode cX6_init 34 = .ok (.new 9, 3) := by decide +kernel
theorem dX6_init_37 : decode cX6_init 37 = .ok (.dup, 1) := by decide +kernel
theorem dX6_init_38 : decode cX6_init 38 = .ok (.aload_n 1, 1) := by decide +kernel
theorem dX6_init_39 : decode cX6_init 39 = .ok (.aload_n 2, 1) := by decide +kernel
theorem dX6_init_40 : decode cX6_init 40 = .ok (.invokespecial 21, 3) := by decide +kernel
theorem dX6_init_43 : decode cX6_init 43 = .ok (.aastore, 1) := by decide +kernel
theorem dX6_init_44 : decode cX6_init 44 = .ok (.iinc 3 1, 3) := by decide +kernel
theorem dX6_init_47 : decode cX6_init 47 = .ok (.goto (-27), 3) := by decide +kernel
theorem dX6_init_50 : decode cX6_init 50 = .ok (.return_, 1) := by decide +kernel
set_option maxHeartbeats 4000000 in
set_option maxRecDepth 100000 in
theorem kk_X6 (l : Launch) (D : va_G) (cA : Nat → ClassId) {g1 g2 : Nat} : kC l D cA yX6_init cX6_init 4 2 12 154 6 [.null, .int 0, .int 0, .int 0, .long 0] [.ref g1, .ref g2] (va_AO "DeadLasts$Walker") (fun u h => [(u 0, .inr (10, [.ref g1, .ref g2, .int 0, .int 0, .int 0, .int 0, .int 0, .int 0, .int 0, .int 0, .int 0, .int 0, .int 0])), (u 1, .inr (10, [.ref g1, .ref g2, .int 0, .int 0, .int 0, .int 0, .int 0, .int 0, .int 0, .int 0, .int 0, .int 0, .int 0])), (u 2, .inr (10, [.ref g1, .ref g2, .int 0, .int 0, .int 0, .int 0, .int 0, .int 0, .int 0, .int 0, .int 0, .int 0, .int 0])), (u 3, .inr (10, [.ref g1, .ref g2, .int 0, .int 0, .int 0, .int 0, .int 0, .int 0, .int 0, .int 0, .int 0, .int 0, .int 0])), (u 4, .inr (10, [.ref g1, .ref g2, .int 0, .int 0, .int 0, .int 0, .int 0, .int 0, .int 0, .int 0, .int 0, .int 0, .int 0])), (u 5, .inr (10, [.ref g1, .ref g2, .int 0, .int 0, .int 0, .int 0, .int 0, .int 0, .int 0, .int 0, .int 0, .int 0, .int 0])), (u 6, .inr (10, [.ref g1, .ref g2, .int 0, .int 0, .int 0, .int 0, .int 0, .int 0, .int 0, .int 0, .int 0, .int 0, .int 0])), (u 7, .inr (10, [.ref g1, .ref g2, .int 0, .int 0, .int 0, .int 0, .int 0, .int 0, .int 0, .int 0, .int 0, .int 0, .int 0])), (u 8, .inr (10, [.ref g1, .ref g2, .int 0, .int 0, .int 0, .int 0, .int 0, .int 0, .int 0, .int 0, .int 0, .int 0, .int 0])), (u 9, .inr (10, [.ref g1, .ref g2, .int 0, .int 0, .int 0, .int 0, .int 0, .int 0, .int 0, .int 0, .int 0, .int 0, .int 0])), (u 10, .inr (10, [.ref g1, .ref g2, .int 0, .int 0, .int 0, .int 0, .int 0, .int 0, .int 0, .int 0, .int 0, .int 0, .int 0])), (u 11, .inl (cA 4, 11, .inr (.inr (.inr (.inr (va_up (va_up (va_up (va_up (va_up (va_up (va_up (va_up (va_up (va_up (va_up (fun _ => none) 0 (some (u 10))) 1 (some (u 9))) 2 (some (u 8))) 3 (some (u 7))) 4 (some (u 6))) 5 (some (u 5))) 6 (some (u 4))) 7 (some (u 3))) 8 (some (u 2))) 9 (some (u 1))) 10 (some (u 0)))))))), (h, .inr (6, [.ref (u 11), .int 0, .int 0, .int (-1), .long 0]))]) := by
  intro h sz
  refine Met.ofW (cc := cX6_init) (maxL := 4) (ret := none) (by decide +kernel) rfl ?_
  intro p e s m args below meth c s₁ Bd hml hv0
  obtain ⟨rfl, hsz, hP, hK, hX⟩ := hv0
  have hx := Bd.exec
  have hb := Bd.bytes
  have hr := Bd.returns
  have hts0 := atoms_spec (ws := .code yX6_init cX6_init 4 none :: am_GT) Bd.pre
  have hts : ∀ w ∈ am_GT, w.before _ s = true := fun w hw => hts0 w (List.mem_cons_of_mem _ hw)
  have hown : s.vm.findClass RX6 = some m.cls := findClass_of_methodNamed Bd.named
  have hlocks := Bd.notSynchronized
  have hin : meth.name = "<init>" := (name_of_methodNamed Bd.named Bd.method).1
  subst hsz
  have hQ : vQ D (va_A [(h, .inr (6, [.null, .int 0, .int 0, .int 0, .long 0]))] s.heap.size) [(h, .inr (6, [.null, .int 0, .int 0, .int 0, .long 0]))] s.heap := ⟨hP, vD_one⟩
  clear hP
  generalize hAe : va_A [(h, .inr (6, [.null, .int 0, .int 0, .int 0, .long 0]))] s.heap.size = A at hQ ⊢
  have hA : ∀ q : Nat, s.heap.size ≤ q → A q := fun q hq => by rw [← hAe]; exact Or.inr hq
  have hS : va_S A s.heap s.heap [] := va_S.rf
  have hl := lv_entry ([.ref h, .ref g1, .ref g2]) (n := 4) (Nat.le_of_ble_eq_true rfl)
  rw [lg_entry_eq]
  generalize (lg_sl ([.ref h, .ref g1, .ref g2]) ++ List.replicate (4 - (lg_sl ([.ref h, .ref g1, .ref g2])).length) Slot.unset).toArray = ls at hl ⊢
  have hl : lv_has ls 4 [(0, .ref h), (1, .ref g1), (2, .ref g2)] := hl
  refine lv_aload_n hx hb dX6_init_0 rfl (lv_at hl 0 rfl) ?_
  refine W.objInit hx hb hown (hts _ (am_ig (i := 307) (by decide +kernel) rfl)) (hts _ kw_oi) (hts _ kw_oc) rfl (by rw [hml]; exact hl.1) rfl dX6_init_1 (Nat.le_of_ble_eq_true rfl) (Nat.le_of_ble_eq_true rfl) ?_
  refine W.eq (g2 := F0 m 4 ls []) rfl ?_
  refine lv_aload_n hx hb dX6_init_4 rfl (lv_at hl 0 rfl) ?_
  refine lv_bipush (v := 11) hx hb dX6_init_5 (by decide) ?_
  refine vQ_newq (C := "DeadLasts$Walker") hx hb 4 rfl hown (hts _ (am_ig (i := 308) (by decide +kernel) rfl)) hX hK hQ hS hA 11 (by decide) (by decide) (by decide) (Nat.le_of_ble_eq_true rfl) (Nat.le_of_ble_eq_true rfl) dX6_init_7 (fun q1 H hQ hS => ?_)
  refine W.widen (k := 1) (n := 11) (by omega) (by omega) ?_
  refine va_putF (D := D) (ci := 6) (v := .ref q1) (ty := .array (.object "DeadLasts$Walker")) (C := RX6) (T := TX6) (N := 5) hx hb hts (am_uin (ci := 6) rfl) tyX6 tyX6_ok nmX6 hown hK hQ.1 hQ.2 hS 1 rfl rfl 0 (by decide) (hts _ (am_ig (i := 311) (by decide +kernel) rfl)) (fun _ h9 => h9) rfl hin rfl (by decide +kernel) rfl rfl (Nat.le_of_ble_eq_true rfl) dX6_init_10 (fun H locs hP hD hS => ?_)
  have hQ : vQ D A ([(q1, .inl (cA 4, 11, .inr (.inr (.inr (.inr (fun _ => none)))))), (h, .inr (6, [.ref q1, .int 0, .int 0, .int 0, .long 0]))]) H := ⟨hP, hD⟩
  refine lv_aload_n hx hb dX6_init_13 rfl (lv_at hl 0 rfl) ?_
  refine lv_iconst (v := (-1)) hx hb dX6_init_14 (by decide) ?_
  refine va_put (D := D) (ci := 6) (v := .int (-1)) (ty := .int) (C := RX6) (T := TX6) (N := 5) hx hb hts (am_uin (ci := 6) rfl) tyX6 tyX6_ok nmX6 hown hK hQ.1 hQ.2 hS 1 rfl rfl 3 (by decide) (hts _ (am_ig (i := 314) (by decide +kernel) rfl)) (fun _ h9 => h9) rfl (by decide +kernel) rfl rfl (Nat.le_of_ble_eq_true rfl) dX6_init_15 (fun H locs hP hD hS => ?_)
  have hQ : vQ D A ([(q1, .inl (cA 4, 11, .inr (.inr (.inr (.inr (fun _ => none)))))), (h, .inr (6, [.ref q1, .int 0, .int 0, .int (-1), .long 0]))]) H := ⟨hP, hD⟩
  refine lv_iconst (v := 0) hx hb dX6_init_18 (by decide) ?_
  refine lv_istore_n (lv' := [(3, .int 0), (0, .ref h), (1, .ref g1), (2, .ref g2)]) hx hb dX6_init_19 rfl hl (by decide) rfl (fun ls hl => ?_)
  refine lv_iload_n hx hb dX6_init_20 rfl (lv_at hl 0 rfl) ?_
  refine lv_aload_n hx hb dX6_init_21 rfl (lv_at hl 1 rfl) ?_
  refine va_get (ci := 6) (C := RX6) (T := TX6) (N := 5) hx hb hts (am_uin (ci := 6) rfl) hown hK hQ.1 1 rfl rfl 0 (by decide) (hts _ (am_ig (i := 311) (by decide +kernel) rfl)) (fun _ h9 => h9) rfl dX6_init_22 ?_
  refine va_alen (v := 11) hx hb hK hQ.1 0 4 rfl rfl rfl dX6_init_25 ?_
  refine lv_icmp_ge (tgt := 50) hx hb dX6_init_26 (by decide) (fun z => absurd z (by decide)) (fun _ => ?_)
  refine lv_aload_n hx hb dX6_init_29 rfl (lv_at hl 1 rfl) ?_
  refine va_get (ci := 6) (C := RX6) (T := TX6) (N := 5) hx hb hts (am_uin (ci := 6) rfl) hown hK hQ.1 1 rfl rfl 0 (by decide) (hts _ (am_ig (i := 311) (by decide +kernel) rfl)) (fun _ h9 => h9) rfl dX6_init_30 ?_
  refine lv_iload_n hx hb dX6_init_33 rfl (lv_at hl 0 rfl) ?_
  refine vQ_new hx hb 10 rfl hts tyX10 tyX10_ok hown (am_ig (i := 308) (by decide +kernel) rfl) (am_ig (i := 248) (by decide +kernel) rfl) hK hQ hS hA (fs := [.null, .null, .int 0, .int 0, .int 0, .int 0, .int 0, .int 0, .int 0, .int 0, .int 0, .int 0, .int 0]) (kz_10) (Nat.le_of_ble_eq_true rfl) (Nat.le_of_ble_eq_true rfl) dX6_init_34 (fun q2 H hQ hS => ?_)
  refine W.widen (k := 2) (n := 24) (by omega) (by omega) ?_
  refine lv_dup hx hb dX6_init_37 rfl ?_
  refine lv_aload_n hx hb dX6_init_38 rfl (lv_at hl 2 rfl) ?_
  refine lv_aload_n hx hb dX6_init_39 rfl (lv_at hl 3 rfl) ?_
  refine kC_call (rest := [.ref q2, .int 0, .ref q1]) (kk_X10 l D cA (g1 := g1) (g2 := g2)) kX_t trivial hx hb hml hown hts hK kc_10 ki_10 (am_ig (i := 310) (by decide +kernel) rfl) kn_10 rfl ke_10 ⟨Nat.le_of_ble_eq_true rfl, Nat.le_of_ble_eq_true rfl⟩ hQ hS hA hl.1 (Nat.le_of_ble_eq_true rfl) dX6_init_40 ⟨Nat.le_of_ble_eq_true rfl, Nat.le_of_ble_eq_true rfl⟩ (fun u3 H locs hQ hS => ?_)
  have hQ : vQ D A ([(q2, .inr (10, [.ref g1, .ref g2, .int 0, .int 0, .int 0, .int 0, .int 0, .int 0, .int 0, .int 0, .int 0, .int 0, .int 0])), (q1, .inl (cA 4, 11, .inr (.inr (.inr (.inr (fun _ => none)))))), (h, .inr (6, [.ref q1, .int 0, .int 0, .int (-1), .long 0]))]) H := hQ
  refine W.widen (k := 2) (n := 24) (by omega) (by omega) ?_
  refine va_astq hx hb hK hQ.1 hQ.2 hS 1 4 0 10 rfl rfl rfl rfl (by unfold vp_in; decide) dX6_init_43 (fun H locs hP hD hS => ?_)
  have hQ : vQ D A ([(q2, .inr (10, [.ref g1, .ref g2, .int 0, .int 0, .int 0, .int 0, .int 0, .int 0, .int 0, .int 0, .int 0, .int 0, .int 0])), (q1, .inl (cA 4, 11, .inr (.inr (.inr (.inr (va_up (fun _ => none) 0 (some q2))))))), (h, .inr (6, [.ref q1, .int 0, .int 0, .int (-1), .long 0]))]) H := ⟨hP, hD⟩
  refine lv_iinc (v := 1) (lv' := [(3, .int 1), (0, .ref h), (1, .ref g1), (2, .ref g2)]) hx hb dX6_init_44 hl (k := 0) rfl (by decide) (by decide) rfl (fun ls hl => ?_)
  refine lv_goto (tgt := 20) hx hb dX6_init_47 (by decide) ?_
  refine lv_iload_n hx hb dX6_init_20 rfl (lv_at hl 0 rfl) ?_
  refine lv_aload_n hx hb dX6_init_21 rfl (lv_at hl 1 rfl) ?_
  refine va_get (ci := 6) (C := RX6) (T := TX6) (N := 5) hx hb hts (am_uin (ci := 6) rfl) hown hK hQ.1 2 rfl rfl 0 (by decide) (hts _ (am_ig (i := 311) (by decide +kernel) rfl)) (fun _ h9 => h9) rfl dX6_init_22 ?_
  refine va_alen (v := 11) hx hb hK hQ.1 1 4 rfl rfl rfl dX6_init_25 ?_
  refine lv_icmp_ge (tgt := 50) hx hb dX6_init_26 (by decide) (fun z => absurd z (by decide)) (fun _ => ?_)
  refine lv_aload_n hx hb dX6_init_29 rfl (lv_at hl 1 rfl) ?_
  refine va_get (ci := 6) (C := RX6) (T := TX6) (N := 5) hx hb hts (am_uin (ci := 6) rfl) hown hK hQ.1 2 rfl rfl 0 (by decide) (hts _ (am_ig (i := 311) (by decide +kernel) rfl)) (fun _ h9 => h9) rfl dX6_init_30 ?_
  refine lv_iload_n hx hb dX6_init_33 rfl (lv_at hl 0 rfl) ?_
  refine vQ_new hx hb 10 rfl hts tyX10 tyX10_ok hown (am_ig (i := 308) (by decide +kernel) rfl) (am_ig (i := 248) (by decide +kernel) rfl) hK hQ hS hA (fs := [.null, .null, .int 0, .int 0, .int 0, .int 0, .int 0, .int 0, .int 0, .int 0, .int 0, .int 0, .int 0]) (kz_10) (Nat.le_of_ble_eq_true rfl) (Nat.le_of_ble_eq_true rfl) dX6_init_34 (fun q4 H hQ hS => ?_)
  refine W.widen (k := 3) (n := 37) (by omega) (by omega) ?_
  refine lv_dup hx hb dX6_init_37 rfl ?_
  refine lv_aload_n hx hb dX6_init_38 rfl (lv_at hl 2 rfl) ?_
  refine lv_aload_n hx hb dX6_init_39 rfl (lv_at hl 3 rfl) ?_
  refine kC_call (rest := [.ref q4, .int 1, .ref q1]) (kk_X10 l D cA (g1 := g1) (g2 := g2)) kX_t trivial hx hb hml hown hts hK kc_10 ki_10 (am_ig (i := 310) (by decide +kernel) rfl) kn_10 rfl ke_10 ⟨Nat.le_of_ble_eq_true rfl, Nat.le_of_ble_eq_true rfl⟩ hQ hS hA hl.1 (Nat.le_of_ble_eq_true rfl) dX6_init_40 ⟨Nat.le_of_ble_eq_true rfl, Nat.le_of_ble_eq_true rfl⟩ (fun u5 H locs hQ hS => ?_)
  have hQ : vQ D A ([(q4, .inr (10, [.ref g1, .ref g2, .int 0, .int 0, .int 0, .int 0, .int 0, .int 0, .int 0, .int 0, .int 0, .int 0, .int 0])), (q2, .inr (10, [.ref g1, .ref g2, .int 0, .int 0, .int 0, .int 0, .int 0, .int 0, .int 0, .int 0, .int 0, .int 0, .int 0])), (q1, .inl (cA 4, 11, .inr (.inr (.inr (.inr (va_up (fun _ => none) 0 (some q2))))))), (h, .inr (6, [.ref q1, .int 0, .int 0, .int (-1), .long 0]))]) H := hQ
  refine W.widen (k := 3) (n := 37) (by omega) (by omega) ?_
  refine va_astq hx hb hK hQ.1 hQ.2 hS 2 4 0 10 rfl rfl rfl rfl (by unfold vp_in; decide) dX6_init_43 (fun H locs hP hD hS => ?_)
  have hQ : vQ D A ([(q4, .inr (10, [.ref g1, .ref g2, .int 0, .int 0, .int 0, .int 0, .int 0, .int 0, .int 0, .int 0, .int 0, .int 0, .int 0])), (q2, .inr (10, [.ref g1, .ref g2, .int 0, .int 0, .int 0, .int 0, .int 0, .int 0, .int 0, .int 0, .int 0, .int 0, .int 0])), (q1, .inl (cA 4, 11, .inr (.inr (.inr (.inr (va_up (va_up (fun _ => none) 0 (some q2)) 1 (some q4))))))), (h, .inr (6, [.ref q1, .int 0, .int 0, .int (-1), .long 0]))]) H := ⟨hP, hD⟩
  refine lv_iinc (v := 2) (lv' := [(3, .int 2), (0, .ref h), (1, .ref g1), (2, .ref g2)]) hx hb dX6_init_44 hl (k := 0) rfl (by decide) (by decide) rfl (fun ls hl => ?_)
  refine lv_goto (tgt := 20) hx hb dX6_init_47 (by decide) ?_
  refine lv_iload_n hx hb dX6_init_20 rfl (lv_at hl 0 rfl) ?_
  refine lv_aload_n hx hb dX6_init_21 rfl (lv_at hl 1 rfl) ?_
  refine va_get (ci := 6) (C := RX6) (T := TX6) (N := 5) hx hb hts (am_uin (ci := 6) rfl) hown hK hQ.1 3 rfl rfl 0 (by decide) (hts _ (am_ig (i := 311) (by decide +kernel) rfl)) (fun _ h9 => h9) rfl dX6_init_22 ?_
  refine va_alen (v := 11) hx hb hK hQ.1 2 4 rfl rfl rfl dX6_init_25 ?_
  refine lv_icmp_ge (tgt := 50) hx hb dX6_init_26 (by decide) (fun z => absurd z (by decide)) (fun _ => ?_)
  refine lv_aload_n hx hb dX6_init_29 rfl (lv_at hl 1 rfl) ?_
  refine va_get (ci := 6) (C := RX6) (T := TX6) (N := 5) hx hb hts (am_uin (ci := 6) rfl) hown hK hQ.1 3 rfl rfl 0 (by decide) (hts _ (am_ig (i := 311) (by decide +kernel) rfl)) (fun _ h9 => h9) rfl dX6_init_30 ?_
  refine lv_iload_n hx hb dX6_init_33 rfl (lv_at hl 0 rfl) ?_
  refine vQ_new hx hb 10 rfl hts tyX10 tyX10_ok hown (am_ig (i := 308) (by decide +kernel) rfl) (am_ig (i := 248) (by decide +kernel) rfl) hK hQ hS hA (fs := [.null, .null, .int 0, .int 0, .int 0, .int 0, .int 0, .int 0, .int 0, .int 0, .int 0, .int 0, .int 0]) (kz_10) (Nat.le_of_ble_eq_true rfl) (Nat.le_of_ble_eq_true rfl) dX6_init_34 (fun q6 H hQ hS => ?_)
  refine W.widen (k := 4) (n := 50) (by omega) (by omega) ?_
  refine lv_dup hx hb dX6_init_37 rfl ?_
  refine lv_aload_n hx hb dX6_init_38 rfl (lv_at hl 2 rfl) ?_
  refine lv_aload_n hx hb dX6_init_39 rfl (lv_at hl 3 rfl) ?_
  refine kC_call (rest := [.ref q6, .int 2, .ref q1]) (kk_X10 l D cA (g1 := g1) (g2 := g2)) kX_t trivial hx hb hml hown hts hK kc_10 ki_10 (am_ig (i := 310) (by decide +kernel) rfl) kn_10 rfl ke_10 ⟨Nat.le_of_ble_eq_true rfl, Nat.le_of_ble_eq_true rfl⟩ hQ hS hA hl.1 (Nat.le_of_ble_eq_true rfl) dX6_init_40 ⟨Nat.le_of_ble_eq_true rfl, Nat.le_of_ble_eq_true rfl⟩ (fun u7 H locs hQ hS => ?_)
  have hQ : vQ D A ([(q6, .inr (10, [.ref g1, .ref g2, .int 0, .int 0, .int 0, .int 0, .int 0, .int 0, .int 0, .int 0, .int 0, .int 0, .int 0])), (q4, .inr (10, [.ref g1, .ref g2, .int 0, .int 0, .int 0, .int 0, .int 0, .int 0, .int 0, .int 0, .int 0, .int 0, .int 0])), (q2, .inr (10, [.ref g1, .ref g2, .int 0, .int 0, .int 0, .int 0, .int 0, .int 0, .int 0, .int 0, .int 0, .int 0, .int 0])), (q1, .inl (cA 4, 11, .inr (.inr (.inr (.inr (va_up (va_up (fun _ => none) 0 (some q2)) 1 (some q4))))))), (h, .inr (6, [.ref q1, .int 0, .int 0, .int (-1), .long 0]))]) H := hQ
  refine W.widen (k := 4) (n := 50) (by omega) (by omega) ?_
  refine va_astq hx hb hK hQ.1 hQ.2 hS 3 4 0 10 rfl rfl rfl rfl (by unfold vp_in; decide) dX6_init_43 (fun H locs hP hD hS => ?_)
  have hQ : vQ D A ([(q6, .inr (10, [.ref g1, .ref g2, .int 0, .int 0, .int 0, .int 0, .int 0, .int 0, .int 0, .int 0, .int 0, .int 0, .int 0])), (q4, .inr (10, [.ref g1, .ref g2, .int 0, .int 0, .int 0, .int 0, .int 0, .int 0, .int 0, .int 0, .int 0, .int 0, .int 0])), (q2, .inr (10, [.ref g1, .ref g2, .int 0, .int 0, .int 0, .int 0, .int 0, .int 0, .int 0, .int 0, .int 0, .int 0, .int 0])), (q1, .inl (cA 4, 11, .inr (.inr (.inr (.inr (va_up (va_up (va_up (fun _ => none) 0 (some q2)) 1 (some q4)) 2 (some q6))))))), (h, .inr (6, [.ref q1, .int 0, .int 0, .int (-1), .long 0]))]) H := ⟨hP, hD⟩
  refine lv_iinc (v := 3) (lv' := [(3, .int 3), (0, .ref h), (1, .ref g1), (2, .ref g2)]) hx hb dX6_init_44 hl (k := 0) rfl (by decide) (by decide) rfl (fun ls hl => ?_)
  refine lv_goto (tgt := 20) hx hb dX6_init_47 (by decide) ?_
  refine lv_iload_n hx hb dX6_init_20 rfl (lv_at hl 0 rfl) ?_
  refine lv_aload_n hx hb dX6_init_21 rfl (lv_at hl 1 rfl) ?_
  refine va_get (ci := 6) (C := RX6) (T := TX6) (N := 5) hx hb hts (am_uin (ci := 6) rfl) hown hK hQ.1 4 rfl rfl 0 (by decide) (hts _ (am_ig (i := 311) (by decide +kernel) rfl)) (fun _ h9 => h9) rfl dX6_init_22 ?_
  refine va_alen (v := 11) hx hb hK hQ.1 3 4 rfl rfl rfl dX6_init_25 ?_
  refine lv_icmp_ge (tgt := 50) hx hb dX6_init_26 (by decide) (fun z => absurd z (by decide)) (fun _ => ?_)
  refine lv_aload_n hx hb dX6_init_29 rfl (lv_at hl 1 rfl) ?_
  refine va_get (ci := 6) (C := RX6) (T := TX6) (N := 5) hx hb hts (am_uin (ci := 6) rfl) hown hK hQ.1 4 rfl rfl 0 (by decide) (hts _ (am_ig (i := 311) (by decide +kernel) rfl)) (fun _ h9 => h9) rfl dX6_init_30 ?_
  refine lv_iload_n hx hb dX6_init_33 rfl (lv_at hl 0 rfl) ?_
  refine vQ_new hx hb 10 rfl hts tyX10 tyX10_ok hown (am_ig (i := 308) (by decide +kernel) rfl) (am_ig (i := 248) (by decide +kernel) rfl) hK hQ hS hA (fs := [.null, .null, .int 0, .int 0, .int 0, .int 0, .int 0, .int 0, .int 0, .int 0, .int 0, .int 0, .int 0]) (kz_10) (Nat.le_of_ble_eq_true rfl) (Nat.le_of_ble_eq_true rfl) dX6_init_34 (fun q8 H hQ hS => ?_)
  refine W.widen (k := 5) (n := 63) (by omega) (by omega) ?_
  refine lv_dup hx hb dX6_init_37 rfl ?_
  refine lv_aload_n hx hb dX6_init_38 rfl (lv_at hl 2 rfl) ?_
  refine lv_aload_n hx hb dX6_init_39 rfl (lv_at hl 3 rfl) ?_
  refine kC_call (rest := [.ref q8, .int 3, .ref q1]) (kk_X10 l D cA (g1 := g1) (g2 := g2)) kX_t trivial hx hb hml hown hts hK kc_10 ki_10 (am_ig (i := 310) (by decide +kernel) rfl) kn_10 rfl ke_10 ⟨Nat.le_of_ble_eq_true rfl, Nat.le_of_ble_eq_true rfl⟩ hQ hS hA hl.1 (Nat.le_of_ble_eq_true rfl) dX6_init_40 ⟨Nat.le_of_ble_eq_true rfl, Nat.le_of_ble_eq_true rfl⟩ (fun u9 H locs hQ hS => ?_)
  have hQ : vQ D A ([(q8, .inr (10, [.ref g1, .ref g2, .int 0, .int 0, .int 0, .int 0, .int 0, .int 0, .int 0, .int 0, .int 0, .int 0, .int 0])), (q6, .inr (10, [.ref g1, .ref g2, .int 0, .int 0, .int 0, .int 0, .int 0, .int 0, .int 0, .int 0, .int 0, .int 0, .int 0])), (q4, .inr (10, [.ref g1, .ref g2, .int 0, .int 0, .int 0, .int 0, .int 0, .int 0, .int 0, .int 0, .int 0, .int 0, .int 0])), (q2, .inr (10, [.ref g1, .ref g2, .int 0, .int 0, .int 0, .int 0, .int 0, .int 0, .int 0, .int 0, .int 0, .int 0, .int 0])), (q1, .inl (cA 4, 11, .inr (.inr (.inr (.inr (va_up (va_up (va_up (fun _ => none) 0 (some q2)) 1 (some q4)) 2 (some q6))))))), (h, .inr (6, [.ref q1, .int 0, .int 0, .int (-1), .long 0]))]) H := hQ
  refine W.widen (k := 5) (n := 63) (by omega) (by omega) ?_
  refine va_astq hx hb hK hQ.1 hQ.2 hS 4 4 0 10 rfl rfl rfl rfl (by unfold vp_in; decide) dX6_init_43 (fun H locs hP hD hS => ?_)
  have hQ : vQ D A ([(q8, .inr (10, [.ref g1, .ref g2, .int 0, .int 0, .int 0, .int 0, .int 0, .int 0, .int 0, .int 0, .int 0, .int 0, .int 0])), (q6, .inr (10, [.ref g1, .ref g2, .int 0, .int 0, .int 0, .int 0, .int 0, .int 0, .int 0, .int 0, .int 0, .int 0, .int 0])), (q4, .inr (10, [.ref g1, .ref g2, .int 0, .int 0, .int 0, .int 0, .int 0, .int 0, .int 0, .int 0, .int 0, .int 0, .int 0])), (q2, .inr (10, [.ref g1, .ref g2, .int 0, .int 0, .int 0, .int 0, .int 0, .int 0, .int 0, .int 0, .int 0, .int 0, .int 0])), (q1, .inl (cA 4, 11, .inr (.inr (.inr (.inr (va_up (va_up (va_up (va_up (fun _ => none) 0 (some q2)) 1 (some q4)) 2 (some q6)) 3 (some q8))))))), (h, .inr (6, [.ref q1, .int 0, .int 0, .int (-1), .long 0]))]) H := ⟨hP, hD⟩
  refine lv_iinc (v := 4) (lv' := [(3, .int 4), (0, .ref h), (1, .ref g1), (2, .ref g2)]) hx hb dX6_init_44 hl (k := 0) rfl (by decide) (by decide) rfl (fun ls hl => ?_)
  refine lv_goto (tgt := 20) hx hb dX6_init_47 (by decide) ?_
  refine lv_iload_n hx hb dX6_init_20 rfl (lv_at hl 0 rfl) ?_
  refine lv_aload_n hx hb dX6_init_21 rfl (lv_at hl 1 rfl) ?_
  refine va_get (ci := 6) (C := RX6) (T := TX6) (N := 5) hx hb hts (am_uin (ci := 6) rfl) hown hK hQ.1 5 rfl rfl 0 (by decide) (hts _ (am_ig (i := 311) (by decide +kernel) rfl)) (fun _ h9 => h9) rfl dX6_init_22 ?_
  refine va_alen (v := 11) hx hb hK hQ.1 4 4 rfl rfl rfl dX6_init_25 ?_
  refine lv_icmp_ge (tgt := 50) hx hb dX6_init_26 (by decide) (fun z => absurd z (by decide)) (fun _ => ?_)
  refine lv_aload_n hx hb dX6_init_29 rfl (lv_at hl 1 rfl) ?_
  refine va_get (ci := 6) (C := RX6) (T := TX6) (N := 5) hx hb hts (am_uin (ci := 6) rfl) hown hK hQ.1 5 rfl rfl 0 (by decide) (hts _ (am_ig (i := 311) (by decide +kernel) rfl)) (fun _ h9 => h9) rfl dX6_init_30 ?_
  refine lv_iload_n hx hb dX6_init_33 rfl (lv_at hl 0 rfl) ?_
  refine vQ_new hx hb 10 rfl hts tyX10 tyX10_ok hown (am_ig (i := 308) (by decide +kernel) rfl) (am_ig (i := 248) (by decide +kernel) rfl) hK hQ hS hA (fs := [.null, .null, .int 0, .int 0, .int 0, .int 0, .int 0, .int 0, .int 0, .int 0, .int 0, .int 0, .int 0]) (kz_10) (Nat.le_of_ble_eq_true rfl) (Nat.le_of_ble_eq_true rfl) dX6_init_34 (fun q10 H hQ hS => ?_)
  refine W.widen (k := 6) (n := 76) (by omega) (by omega) ?_
  refine lv_dup hx hb dX6_init_37 rfl ?_
  refine lv_aload_n hx hb dX6_init_38 rfl (lv_at hl 2 rfl) ?_
  refine lv_aload_n hx hb dX6_init_39 rfl (lv_at hl 3 rfl) ?_
  refine kC_call (rest := [.ref q10, .int 4, .ref q1]) (kk_X10 l D cA (g1 := g1) (g2 := g2)) kX_t trivial hx hb hml hown hts hK kc_10 ki_10 (am_ig (i := 310) (by decide +kernel) rfl) kn_10 rfl ke_10 ⟨Nat.le_of_ble_eq_true rfl, Nat.le_of_ble_eq_true rfl⟩ hQ hS hA hl.1 (Nat.le_of_ble_eq_true rfl) dX6_init_40 ⟨Nat.le_of_ble_eq_true rfl, Nat.le_of_ble_eq_true rfl⟩ (fun u11 H locs hQ hS => ?_)
  have hQ : vQ D A ([(q10, .inr (10, [.ref g1, .ref g2, .int 0, .int 0, .int 0, .int 0, .int 0, .int 0, .int 0, .int 0, .int 0, .int 0, .int 0])), (q8, .inr (10, [.ref g1, .ref g2, .int 0, .int 0, .int 0, .int 0, .int 0, .int 0, .int 0, .int 0, .int 0, .int 0, .int 0])), (q6, .inr (10, [.ref g1, .ref g2, .int 0, .int 0, .int 0, .int 0, .int 0, .int 0, .int 0, .int 0, .int 0, .int 0, .int 0])), (q4, .inr (10, [.ref g1, .ref g2, .int 0, .int 0, .int 0, .int 0, .int 0, .int 0, .int 0, .int 0, .int 0, .int 0, .int 0])), (q2, .inr (10, [.ref g1, .ref g2, .int 0, .int 0, .int 0, .int 0, .int 0, .int 0, .int 0, .int 0, .int 0, .int 0, .int 0])), (q1, .inl (cA 4, 11, .inr (.inr (.inr (.inr (va_up (va_up (va_up (va_up (fun _ => none) 0 (some q2)) 1 (some q4)) 2 (some q6)) 3 (some q8))))))), (h, .inr (6, [.ref q1, .int 0, .int 0, .int (-1), .long 0]))]) H := hQ
  refine W.widen (k := 6) (n := 76) (by omega) (by omega) ?_
  refine va_astq hx hb hK hQ.1 hQ.2 hS 5 4 0 10 rfl rfl rfl rfl (by unfold vp_in; decide) dX6_init_43 (fun H locs hP hD hS => ?_)
  have hQ : vQ D A ([(q10, .inr (10, [.ref g1, .ref g2, .int 0, .int 0, .int 0, .int 0, .int 0, .int 0, .int 0, .int 0, .int 0, .int 0, .int 0])), (q8, .inr (10, [.ref g1, .ref g2, .int 0, .int 0, .int 0, .int 0, .int 0, .int 0, .int 0, .int 0, .int 0, .int 0, .int 0])), (q6, .inr (10, [.ref g1, .ref g2, .int 0, .int 0, .int 0, .int 0, .int 0, .int 0, .int 0, .int 0, .int 0, .int 0, .int 0])), (q4, .inr (10, [.ref g1, .ref g2, .int 0, .int 0, .int 0, .int 0, .int 0, .int 0, .int 0, .int 0, .int 0, .int 0, .int 0])), (q2, .inr (10, [.ref g1, .ref g2, .int 0, .int 0, .int 0, .int 0, .int 0, .int 0, .int 0, .int 0, .int 0, .int 0, .int 0])), (q1, .inl (cA 4, 11, .inr (.inr (.inr (.inr (va_up (va_up (va_up (va_up (va_up (fun _ => none) 0 (some q2)) 1 (some q4)) 2 (some q6)) 3 (some q8)) 4 (some q10))))))), (h, .inr (6, [.ref q1, .int 0, .int 0, .int (-1), .long 0]))]) H := ⟨hP, hD⟩
  refine lv_iinc (v := 5) (lv' := [(3, .int 5), (0, .ref h), (1, .ref g1), (2, .ref g2)]) hx hb dX6_init_44 hl (k := 0) rfl (by decide) (by decide) rfl (fun ls hl => ?_)
  refine lv_goto (tgt := 20) hx hb dX6_init_47 (by decide) ?_
  refine lv_iload_n hx hb dX6_init_20 rfl (lv_at hl 0 rfl) ?_
  refine lv_aload_n hx hb dX6_init_21 rfl (lv_at hl 1 rfl) ?_
  refine va_get (ci := 6) (C := RX6) (T := TX6) (N := 5) hx hb hts (am_uin (ci := 6) rfl) hown hK hQ.1 6 rfl rfl 0 (by decide) (hts _ (am_ig (i := 311) (by decide +kernel) rfl)) (fun _ h9 => h9) rfl dX6_init_22 ?_
  refine va_alen (v := 11) hx hb hK hQ.1 5 4 rfl rfl rfl dX6_init_25 ?_
  refine lv_icmp_ge (tgt := 50) hx hb dX6_init_26 (by decide) (fun z => absurd z (by decide)) (fun _ => ?_)
  refine lv_aload_n hx hb dX6_init_29 rfl (lv_at hl 1 rfl) ?_
  refine va_get (ci := 6) (C := RX6) (T := TX6) (N := 5) hx hb hts (am_uin (ci := 6) rfl) hown hK hQ.1 6 rfl rfl 0 (by decide) (hts _ (am_ig (i := 311) (by decide +kernel) rfl)) (fun _ h9 => h9) rfl dX6_init_30 ?_
  refine lv_iload_n hx hb dX6_init_33 rfl (lv_at hl 0 rfl) ?_
  refine vQ_new hx hb 10 rfl hts tyX10 tyX10_ok hown (am_ig (i := 308) (by decide +kernel) rfl) (am_ig (i := 248) (by decide +kernel) rfl) hK hQ hS hA (fs := [.null, .null, .int 0, .int 0, .int 0, .int 0, .int 0, .int 0, .int 0, .int 0, .int 0, .int 0, .int 0]) (kz_10) (Nat.le_of_ble_eq_true rfl) (Nat.le_of_ble_eq_true rfl) dX6_init_34 (fun q12 H hQ hS => ?_)
  refine W.widen (k := 7) (n := 89) (by omega) (by omega) ?_
  refine lv_dup hx hb dX6_init_37 rfl ?_
  refine lv_aload_n hx hb dX6_init_38 rfl (lv_at hl 2 rfl) ?_
  refine lv_aload_n hx hb dX6_init_39 rfl (lv_at hl 3 rfl) ?_
  refine kC_call (rest := [.ref q12, .int 5, .ref q1]) (kk_X10 l D cA (g1 := g1) (g2 := g2)) kX_t trivial hx hb hml hown hts hK kc_10 ki_10 (am_ig (i := 310) (by decide +kernel) rfl) kn_10 rfl ke_10 ⟨Nat.le_of_ble_eq_true rfl, Nat.le_of_ble_eq_true rfl⟩ hQ hS hA hl.1 (Nat.le_of_ble_eq_true rfl) dX6_init_40 ⟨Nat.le_of_ble_eq_true rfl, Nat.le_of_ble_eq_true rfl⟩ (fun u13 H locs hQ hS => ?_)
  have hQ : vQ D A ([(q12, .inr (10, [.ref g1, .ref g2, .int 0, .int 0, .int 0, .int 0, .int 0, .int 0, .int 0, .int 0, .int 0, .int 0, .int 0])), (q10, .inr (10, [.ref g1, .ref g2, .int 0, .int 0, .int 0, .int 0, .int 0, .int 0, .int 0, .int 0, .int 0, .int 0, .int 0])), (q8, .inr (10, [.ref g1, .ref g2, .int 0, .int 0, .int 0, .int 0, .int 0, .int 0, .int 0, .int 0, .int 0, .int 0, .int 0])), (q6, .inr (10, [.ref g1, .ref g2, .int 0, .int 0, .int 0, .int 0, .int 0, .int 0, .int 0, .int 0, .int 0, .int 0, .int 0])), (q4, .inr (10, [.ref g1, .ref g2, .int 0, .int 0, .int 0, .int 0, .int 0, .int 0, .int 0, .int 0, .int 0, .int 0, .int 0])), (q2, .inr (10, [.ref g1, .ref g2, .int 0, .int 0, .int 0, .int 0, .int 0, .int 0, .int 0, .int 0, .int 0, .int 0, .int 0])), (q1, .inl (cA 4, 11, .inr (.inr (.inr (.inr (va_up (va_up (va_up (va_up (va_up (fun _ => none) 0 (some q2)) 1 (some q4)) 2 (some q6)) 3 (some q8)) 4 (some q10))))))), (h, .inr (6, [.ref q1, .int 0, .int 0, .int (-1), .long 0]))]) H := hQ
  refine W.widen (k := 7) (n := 89) (by omega) (by omega) ?_
  refine va_astq hx hb hK hQ.1 hQ.2 hS 6 4 0 10 rfl rfl rfl rfl (by unfold vp_in; decide) dX6_init_43 (fun H locs hP hD hS => ?_)
  have hQ : vQ D A ([(q12, .inr (10, [.ref g1, .ref g2, .int 0, .int 0, .int 0, .int 0, .int 0, .int 0, .int 0, .int 0, .int 0, .int 0, .int 0])), (q10, .inr (10, [.ref g1, .ref g2, .int 0, .int 0, .int 0, .int 0, .int 0, .int 0, .int 0, .int 0, .int 0, .int 0, .int 0])), (q8, .inr (10, [.ref g1, .ref g2, .int 0, .int 0, .int 0, .int 0, .int 0, .int 0, .int 0, .int 0, .int 0, .int 0, .int 0])), (q6, .inr (10, [.ref g1, .ref g2, .int 0, .int 0, .int 0, .int 0, .int 0, .int 0, .int 0, .int 0, .int 0, .int 0, .int 0])), (q4, .inr (10, [.ref g1, .ref g2, .int 0, .int 0, .int 0, .int 0, .int 0, .int 0, .int 0, .int 0, .int 0, .int 0, .int 0])), (q2, .inr (10, [.ref g1, .ref g2, .int 0, .int 0, .int 0, .int 0, .int 0, .int 0, .int 0, .int 0, .int 0, .int 0, .int 0])), (q1, .inl (cA 4, 11, .inr (.inr (.inr (.inr (va_up (va_up (va_up (va_up (va_up (va_up (fun _ => none) 0 (some q2)) 1 (some q4)) 2 (some q6)) 3 (some q8)) 4 (some q10)) 5 (some q12))))))), (h, .inr (6, [.ref q1, .int 0, .int 0, .int (-1), .long 0]))]) H := ⟨hP, hD⟩
  refine lv_iinc (v := 6) (lv' := [(3, .int 6), (0, .ref h), (1, .ref g1), (2, .ref g2)]) hx hb dX6_init_44 hl (k := 0) rfl (by decide) (by decide) rfl (fun ls hl => ?_)
  refine lv_goto (tgt := 20) hx hb dX6_init_47 (by decide) ?_
  refine lv_iload_n hx hb dX6_init_20 rfl (lv_at hl 0 rfl) ?_
  refine lv_aload_n hx hb dX6_init_21 rfl (lv_at hl 1 rfl) ?_
  refine va_get (ci := 6) (C := RX6) (T := TX6) (N := 5) hx hb hts (am_uin (ci := 6) rfl) hown hK hQ.1 7 rfl rfl 0 (by decide) (hts _ (am_ig (i := 311) (by decide +kernel) rfl)) (fun _ h9 => h9) rfl dX6_init_22 ?_
  refine va_alen (v := 11) hx hb hK hQ.1 6 4 rfl rfl rfl dX6_init_25 ?_
  refine lv_icmp_ge (tgt := 50) hx hb dX6_init_26 (by decide) (fun z => absurd z (by decide)) (fun _ => ?_)
  refine lv_aload_n hx hb dX6_init_29 rfl (lv_at hl 1 rfl) ?_
  refine va_get (ci := 6) (C := RX6) (T := TX6) (N := 5) hx hb hts (am_uin (ci := 6) rfl) hown hK hQ.1 7 rfl rfl 0 (by decide) (hts _ (am_ig (i := 311) (by decide +kernel) rfl)) (fun _ h9 => h9) rfl dX6_init_30 ?_
  refine lv_iload_n hx hb dX6_init_33 rfl (lv_at hl 0 rfl) ?_
  refine vQ_new hx hb 10 rfl hts tyX10 tyX10_ok hown (am_ig (i := 308) (by decide +kernel) rfl) (am_ig (i := 248) (by decide +kernel) rfl) hK hQ hS hA (fs := [.null, .null, .int 0, .int 0, .int 0, .int 0, .int 0, .int 0, .int 0, .int 0, .int 0, .int 0, .int 0]) (kz_10) (Nat.le_of_ble_eq_true rfl) (Nat.le_of_ble_eq_true rfl) dX6_init_34 (fun q14 H hQ hS => ?_)
  refine W.widen (k := 8) (n := 102) (by omega) (by omega) ?_
  refine lv_dup hx hb dX6_init_37 rfl ?_
  refine lv_aload_n hx hb dX6_init_38 rfl (lv_at hl 2 rfl) ?_
  refine lv_aload_n hx hb dX6_init_39 rfl (lv_at hl 3 rfl) ?_
  refine kC_call (rest := [.ref q14, .int 6, .ref q1]) (kk_X10 l D cA (g1 := g1) (g2 := g2)) kX_t trivial hx hb hml hown hts hK kc_10 ki_10 (am_ig (i := 310) (by decide +kernel) rfl) kn_10 rfl ke_10 ⟨Nat.le_of_ble_eq_true rfl, Nat.le_of_ble_eq_true rfl⟩ hQ hS hA hl.1 (Nat.le_of_ble_eq_true rfl) dX6_init_40 ⟨Nat.le_of_ble_eq_true rfl, Nat.le_of_ble_eq_true rfl⟩ (fun u15 H locs hQ hS => ?_)
  have hQ : vQ D A ([(q14, .inr (10, [.ref g1, .ref g2, .int 0, .int 0, .int 0, .int 0, .int 0, .int 0, .int 0, .int 0, .int 0, .int 0, .int 0])), (q12, .inr (10, [.ref g1, .ref g2, .int 0, .int 0, .int 0, .int 0, .int 0, .int 0, .int 0, .int 0, .int 0, .int 0, .int 0])), (q10, .inr (10, [.ref g1, .ref g2, .int 0, .int 0, .int 0, .int 0, .int 0, .int 0, .int 0, .int 0, .int 0, .int 0, .int 0])), (q8, .inr (10, [.ref g1, .ref g2, .int 0, .int 0, .int 0, .int 0, .int 0, .int 0, .int 0, .int 0, .int 0, .int 0, .int 0])), (q6, .inr (10, [.ref g1, .ref g2, .int 0, .int 0, .int 0, .int 0, .int 0, .int 0, .int 0, .int 0, .int 0, .int 0, .int 0])), (q4, .inr (10, [.ref g1, .ref g2, .int 0, .int 0, .int 0, .int 0, .int 0, .int 0, .int 0, .int 0, .int 0, .int 0, .int 0])), (q2, .inr (10, [.ref g1, .ref g2, .int 0, .int 0, .int 0, .int 0, .int 0, .int 0, .int 0, .int 0, .int 0, .int 0, .int 0])), (q1, .inl (cA 4, 11, .inr (.inr (.inr (.inr (va_up (va_up (va_up (va_up (va_up (va_up (fun _ => none) 0 (some q2)) 1 (some q4)) 2 (some q6)) 3 (some q8)) 4 (some q10)) 5 (some q12))))))), (h, .inr (6, [.ref q1, .int 0, .int 0, .int (-1), .long 0]))]) H := hQ
  refine W.widen (k := 8) (n := 102) (by omega) (by omega) ?_
  refine va_astq hx hb hK hQ.1 hQ.2 hS 7 4 0 10 rfl rfl rfl rfl (by unfold vp_in; decide) dX6_init_43 (fun H locs hP hD hS => ?_)
  have hQ : vQ D A ([(q14, .inr (10, [.ref g1, .ref g2, .int 0, .int 0, .int 0, .int 0, .int 0, .int 0, .int 0, .int 0, .int 0, .int 0, .int 0])), (q12, .inr (10, [.ref g1, .ref g2, .int 0, .int 0, .int 0, .int 0, .int 0, .int 0, .int 0, .int 0, .int 0, .int 0, .int 0])), (q10, .inr (10, [.ref g1, .ref g2, .int 0, .int 0, .int 0, .int 0, .int 0, .int 0, .int 0, .int 0, .int 0, .int 0, .int 0])), (q8, .inr (10, [.ref g1, .ref g2, .int 0, .int 0, .int 0, .int 0, .int 0, .int 0, .int 0, .int 0, .int 0, .int 0, .int 0])), (q6, .inr (10, [.ref g1, .ref g2, .int 0, .int 0, .int 0, .int 0, .int 0, .int 0, .int 0, .int 0, .int 0, .int 0, .int 0])), (q4, .inr (10, [.ref g1, .ref g2, .int 0, .int 0, .int 0, .int 0, .int 0, .int 0, .int 0, .int 0, .int 0, .int 0, .int 0])), (q2, .inr (10, [.ref g1, .ref g2, .int 0, .int 0, .int 0, .int 0, .int 0, .int 0, .int 0, .int 0, .int 0, .int 0, .int 0])), (q1, .inl (cA 4, 11, .inr (.inr (.inr (.inr (va_up (va_up (va_up (va_up (va_up (va_up (va_up (fun _ => none) 0 (some q2)) 1 (some q4)) 2 (some q6)) 3 (some q8)) 4 (some q10)) 5 (some q12)) 6 (some q14))))))), (h, .inr (6, [.ref q1, .int 0, .int 0, .int (-1), .long 0]))]) H := ⟨hP, hD⟩
  refine lv_iinc (v := 7) (lv' := [(3, .int 7), (0, .ref h), (1, .ref g1), (2, .ref g2)]) hx hb dX6_init_44 hl (k := 0) rfl (by decide) (by decide) rfl (fun ls hl => ?_)
  refine lv_goto (tgt := 20) hx hb dX6_init_47 (by decide) ?_
  refine lv_iload_n hx hb dX6_init_20 rfl (lv_at hl 0 rfl) ?_
  refine lv_aload_n hx hb dX6_init_21 rfl (lv_at hl 1 rfl) ?_
  refine va_get (ci := 6) (C := RX6) (T := TX6) (N := 5) hx hb hts (am_uin (ci := 6) rfl) hown hK hQ.1 8 rfl rfl 0 (by decide) (hts _ (am_ig (i := 311) (by decide +kernel) rfl)) (fun _ h9 => h9) rfl dX6_init_22 ?_
  refine va_alen (v := 11) hx hb hK hQ.1 7 4 rfl rfl rfl dX6_init_25 ?_
  refine lv_icmp_ge (tgt := 50) hx hb dX6_init_26 (by decide) (fun z => absurd z (by decide)) (fun _ => ?_)
  refine lv_aload_n hx hb dX6_init_29 rfl (lv_at hl 1 rfl) ?_
  refine va_get (ci := 6) (C := RX6) (T := TX6) (N := 5) hx hb hts (am_uin (ci := 6) rfl) hown hK hQ.1 8 rfl rfl 0 (by decide) (hts _ (am_ig (i := 311) (by decide +kernel) rfl)) (fun _ h9 => h9) rfl dX6_init_30 ?_
  refine lv_iload_n hx hb dX6_init_33 rfl (lv_at hl 0 rfl) ?_
  refine vQ_new hx hb 10 rfl hts tyX10 tyX10_ok hown (am_ig (i := 308) (by decide +kernel) rfl) (am_ig (i := 248) (by decide +kernel) rfl) hK hQ hS hA (fs := [.null, .null, .int 0, .int 0, .int 0, .int 0, .int 0, .int 0, .int 0, .int 0, .int 0, .int 0, .int 0]) (kz_10) (Nat.le_of_ble_eq_true rfl) (Nat.le_of_ble_eq_true rfl) dX6_init_34 (fun q16 H hQ hS => ?_)
  refine W.widen (k := 9) (n := 115) (by omega) (by omega) ?_
  refine lv_dup hx hb dX6_init_37 rfl ?_
  refine lv_aload_n hx hb dX6_init_38 rfl (lv_at hl 2 rfl) ?_
  refine lv_aload_n hx hb dX6_init_39 rfl (lv_at hl 3 rfl) ?_
  refine kC_call (rest := [.ref q16, .int 7, .ref q1]) (kk_X10 l D cA (g1 := g1) (g2 := g2)) kX_t trivial hx hb hml hown hts hK kc_10 ki_10 (am_ig (i := 310) (by decide +kernel) rfl) kn_10 rfl ke_10 ⟨Nat.le_of_ble_eq_true rfl, Nat.le_of_ble_eq_true rfl⟩ hQ hS hA hl.1 (Nat.le_of_ble_eq_true rfl) dX6_init_40 ⟨Nat.le_of_ble_eq_true rfl, Nat.le_of_ble_eq_true rfl⟩ (fun u17 H locs hQ hS => ?_)
  have hQ : vQ D A ([(q16, .inr (10, [.ref g1, .ref g2, .int 0, .int 0, .int 0, .int 0, .int 0, .int 0, .int 0, .int 0, .int 0, .int 0, .int 0])), (q14, .inr (10, [.ref g1, .ref g2, .int 0, .int 0, .int 0, .int 0, .int 0, .int 0, .int 0, .int 0, .int 0, .int 0, .int 0])), (q12, .inr (10, [.ref g1, .ref g2, .int 0, .int 0, .int 0, .int 0, .int 0, .int 0, .int 0, .int 0, .int 0, .int 0, .int 0])), (q10, .inr (10, [.ref g1, .ref g2, .int 0, .int 0, .int 0, .int 0, .int 0, .int 0, .int 0, .int 0, .int 0, .int 0, .int 0])), (q8, .inr (10, [.ref g1, .ref g2, .int 0, .int 0, .int 0, .int 0, .int 0, .int 0, .int 0, .int 0, .int 0, .int 0, .int 0])), (q6, .inr (10, [.ref g1, .ref g2, .int 0, .int 0, .int 0, .int 0, .int 0, .int 0, .int 0, .int 0, .int 0, .int 0, .int 0])), (q4, .inr (10, [.ref g1, .ref g2, .int 0, .int 0, .int 0, .int 0, .int 0, .int 0, .int 0, .int 0, .int 0, .int 0, .int 0])), (q2, .inr (10, [.ref g1, .ref g2, .int 0, .int 0, .int 0, .int 0, .int 0, .int 0, .int 0, .int 0, .int 0, .int 0, .int 0])), (q1, .inl (cA 4, 11, .inr (.inr (.inr (.inr (va_up (va_up (va_up (va_up (va_up (va_up (va_up (fun _ => none) 0 (some q2)) 1 (some q4)) 2 (some q6)) 3 (some q8)) 4 (some q10)) 5 (some q12)) 6 (some q14))))))), (h, .inr (6, [.ref q1, .int 0, .int 0, .int (-1), .long 0]))]) H := hQ
  refine W.widen (k := 9) (n := 115) (by omega) (by omega) ?_
  refine va_astq hx hb hK hQ.1 hQ.2 hS 8 4 0 10 rfl rfl rfl rfl (by unfold vp_in; decide) dX6_init_43 (fun H locs hP hD hS => ?_)
  have hQ : vQ D A ([(q16, .inr (10, [.ref g1, .ref g2, .int 0, .int 0, .int 0, .int 0, .int 0, .int 0, .int 0, .int 0, .int 0, .int 0, .int 0])), (q14, .inr (10, [.ref g1, .ref g2, .int 0, .int 0, .int 0, .int 0, .int 0, .int 0, .int 0, .int 0, .int 0, .int 0, .int 0])), (q12, .inr (10, [.ref g1, .ref g2, .int 0, .int 0, .int 0, .int 0, .int 0, .int 0, .int 0, .int 0, .int 0, .int 0, .int 0])), (q10, .inr (10, [.ref g1, .ref g2, .int 0, .int 0, .int 0, .int 0, .int 0, .int 0, .int 0, .int 0, .int 0, .int 0, .int 0])), (q8, .inr (10, [.ref g1, .ref g2, .int 0, .int 0, .int 0, .int 0, .int 0, .int 0, .int 0, .int 0, .int 0, .int 0, .int 0])), (q6, .inr (10, [.ref g1, .ref g2, .int 0, .int 0, .int 0, .int 0, .int 0, .int 0, .int 0, .int 0, .int 0, .int 0, .int 0])), (q4, .inr (10, [.ref g1, .ref g2, .int 0, .int 0, .int 0, .int 0, .int 0, .int 0, .int 0, .int 0, .int 0, .int 0, .int 0])), (q2, .inr (10, [.ref g1, .ref g2, .int 0, .int 0, .int 0, .int 0, .int 0, .int 0, .int 0, .int 0, .int 0, .int 0, .int 0])), (q1, .inl (cA 4, 11, .inr (.inr (.inr (.inr (va_up (va_up (va_up (va_up (va_up (va_up (va_up (va_up (fun _ => none) 0 (some q2)) 1 (some q4)) 2 (some q6)) 3 (some q8)) 4 (some q10)) 5 (some q12)) 6 (some q14)) 7 (some q16))))))), (h, .inr (6, [.ref q1, .int 0, .int 0, .int (-1), .long 0]))]) H := ⟨hP, hD⟩
  refine lv_iinc (v := 8) (lv' := [(3, .int 8), (0, .ref h), (1, .ref g1), (2, .ref g2)]) hx hb dX6_init_44 hl (k := 0) rfl (by decide) (by decide) rfl (fun ls hl => ?_)
  refine lv_goto (tgt := 20) hx hb dX6_init_47 (by decide) ?_
  refine lv_iload_n hx hb dX6_init_20 rfl (lv_at hl 0 rfl) ?_
  refine lv_aload_n hx hb dX6_init_21 rfl (lv_at hl 1 rfl) ?_
  refine va_get (ci := 6) (C := RX6) (T := TX6) (N := 5) hx hb hts (am_uin (ci := 6) rfl) hown hK hQ.1 9 rfl rfl 0 (by decide) (hts _ (am_ig (i := 311) (by decide +kernel) rfl)) (fun _ h9 => h9) rfl dX6_init_22 ?_
  refine va_alen (v := 11) hx hb hK hQ.1 8 4 rfl rfl rfl dX6_init_25 ?_
  refine lv_icmp_ge (tgt := 50) hx hb dX6_init_26 (by decide) (fun z => absurd z (by decide)) (fun _ => ?_)
  refine lv_aload_n hx hb dX6_init_29 rfl (lv_at hl 1 rfl) ?_
  refine va_get (ci := 6) (C := RX6) (T := TX6) (N := 5) hx hb hts (am_uin (ci := 6) rfl) hown hK hQ.1 9 rfl rfl 0 (by decide) (hts _ (am_ig (i := 311) (by decide +kernel) rfl)) (fun _ h9 => h9) rfl dX6_init_30 ?_
  refine lv_iload_n hx hb dX6_init_33 rfl (lv_at hl 0 rfl) ?_
  refine vQ_new hx hb 10 rfl hts tyX10 tyX10_ok hown (am_ig (i := 308) (by decide +kernel) rfl) (am_ig (i := 248) (by decide +kernel) rfl) hK hQ hS hA (fs := [.null, .null, .int 0, .int 0, .int 0, .int 0, .int 0, .int 0, .int 0, .int 0, .int 0, .int 0, .int 0]) (kz_10) (Nat.le_of_ble_eq_true rfl) (Nat.le_of_ble_eq_true rfl) dX6_init_34 (fun q18 H hQ hS => ?_)
  refine W.widen (k := 10) (n := 128) (by omega) (by omega) ?_
  refine lv_dup hx hb dX6_init_37 rfl ?_
  refine lv_aload_n hx hb dX6_init_38 rfl (lv_at hl 2 rfl) ?_
  refine lv_aload_n hx hb dX6_init_39 rfl (lv_at hl 3 rfl) ?_
  refine kC_call (rest := [.ref q18, .int 8, .ref q1]) (kk_X10 l D cA (g1 := g1) (g2 := g2)) kX_t trivial hx hb hml hown hts hK kc_10 ki_10 (am_ig (i := 310) (by decide +kernel) rfl) kn_10 rfl ke_10 ⟨Nat.le_of_ble_eq_true rfl, Nat.le_of_ble_eq_true rfl⟩ hQ hS hA hl.1 (Nat.le_of_ble_eq_true rfl) dX6_init_40 ⟨Nat.le_of_ble_eq_true rfl, Nat.le_of_ble_eq_true rfl⟩ (fun u19 H locs hQ hS => ?_)
  have hQ : vQ D A ([(q18, .inr (10, [.ref g1, .ref g2, .int 0, .int 0, .int 0, .int 0, .int 0, .int 0, .int 0, .int 0, .int 0, .int 0, .int 0])), (q16, .inr (10, [.ref g1, .ref g2, .int 0, .int 0, .int 0, .int 0, .int 0, .int 0, .int 0, .int 0, .int 0, .int 0, .int 0])), (q14, .inr (10, [.ref g1, .ref g2, .int 0, .int 0, .int 0, .int 0, .int 0, .int 0, .int 0, .int 0, .int 0, .int 0, .int 0])), (q12, .inr (10, [.ref g1, .ref g2, .int 0, .int 0, .int 0, .int 0, .int 0, .int 0, .int 0, .int 0, .int 0, .int 0, .int 0])), (q10, .inr (10, [.ref g1, .ref g2, .int 0, .int 0, .int 0, .int 0, .int 0, .int 0, .int 0, .int 0, .int 0, .int 0, .int 0])), (q8, .inr (10, [.ref g1, .ref g2, .int 0, .int 0, .int 0, .int 0, .int 0, .int 0, .int 0, .int 0, .int 0, .int 0, .int 0])), (q6, .inr (10, [.ref g1, .ref g2, .int 0, .int 0, .int 0, .int 0, .int 0, .int 0, .int 0, .int 0, .int 0, .int 0, .int 0])), (q4, .inr (10, [.ref g1, .ref g2, .int 0, .int 0, .int 0, .int 0, .int 0, .int 0, .int 0, .int 0, .int 0, .int 0, .int 0])), (q2, .inr (10, [.ref g1, .ref g2, .int 0, .int 0, .int 0, .int 0, .int 0, .int 0, .int 0, .int 0, .int 0, .int 0, .int 0])), (q1, .inl (cA 4, 11, .inr (.inr (.inr (.inr (va_up (va_up (va_up (va_up (va_up (va_up (va_up (va_up (fun _ => none) 0 (some q2)) 1 (some q4)) 2 (some q6)) 3 (some q8)) 4 (some q10)) 5 (some q12)) 6 (some q14)) 7 (some q16))))))), (h, .inr (6, [.ref q1, .int 0, .int 0, .int (-1), .long 0]))]) H := hQ
  refine W.widen (k := 10) (n := 128) (by omega) (by omega) ?_
  refine va_astq hx hb hK hQ.1 hQ.2 hS 9 4 0 10 rfl rfl rfl rfl (by unfold vp_in; decide) dX6_init_43 (fun H locs hP hD hS => ?_)
  have hQ : vQ D A ([(q18, .inr (10, [.ref g1, .ref g2, .int 0, .int 0, .int 0, .int 0, .int 0, .int 0, .int 0, .int 0, .int 0, .int 0, .int 0])), (q16, .inr (10, [.ref g1, .ref g2, .int 0, .int 0, .int 0, .int 0, .int 0, .int 0, .int 0, .int 0, .int 0, .int 0, .int 0])), (q14, .inr (10, [.ref g1, .ref g2, .int 0, .int 0, .int 0, .int 0, .int 0, .int 0, .int 0, .int 0, .int 0, .int 0, .int 0])), (q12, .inr (10, [.ref g1, .ref g2, .int 0, .int 0, .int 0, .int 0, .int 0, .int 0, .int 0, .int 0, .int 0, .int 0, .int 0])), (q10, .inr (10, [.ref g1, .ref g2, .int 0, .int 0, .int 0, .int 0, .int 0, .int 0, .int 0, .int 0, .int 0, .int 0, .int 0])), (q8, .inr (10, [.ref g1, .ref g2, .int 0, .int 0, .int 0, .int 0, .int 0, .int 0, .int 0, .int 0, .int 0, .int 0, .int 0])), (q6, .inr (10, [.ref g1, .ref g2, .int 0, .int 0, .int 0, .int 0, .int 0, .int 0, .int 0, .int 0, .int 0, .int 0, .int 0])), (q4, .inr (10, [.ref g1, .ref g2, .int 0, .int 0, .int 0, .int 0, .int 0, .int 0, .int 0, .int 0, .int 0, .int 0, .int 0])), (q2, .inr (10, [.ref g1, .ref g2, .int 0, .int 0, .int 0, .int 0, .int 0, .int 0, .int 0, .int 0, .int 0, .int 0, .int 0])), (q1, .inl (cA 4, 11, .inr (.inr (.inr (.inr (va_up (va_up (va_up (va_up (va_up (va_up (va_up (va_up (va_up (fun _ => none) 0 (some q2)) 1 (some q4)) 2 (some q6)) 3 (some q8)) 4 (some q10)) 5 (some q12)) 6 (some q14)) 7 (some q16)) 8 (some q18))))))), (h, .inr (6, [.ref q1, .int 0, .int 0, .int (-1), .long 0]))]) H := ⟨hP, hD⟩
  refine lv_iinc (v := 9) (lv' := [(3, .int 9), (0, .ref h), (1, .ref g1), (2, .ref g2)]) hx hb dX6_init_44 hl (k := 0) rfl (by decide) (by decide) rfl (fun ls hl => ?_)
  refine lv_goto (tgt := 20) hx hb dX6_init_47 (by decide) ?_
  refine lv_iload_n hx hb dX6_init_20 rfl (lv_at hl 0 rfl) ?_
  refine lv_aload_n hx hb dX6_init_21 rfl (lv_at hl 1 rfl) ?_
  refine va_get (ci := 6) (C := RX6) (T := TX6) (N := 5) hx hb hts (am_uin (ci := 6) rfl) hown hK hQ.1 10 rfl rfl 0 (by decide) (hts _ (am_ig (i := 311) (by decide +kernel) rfl)) (fun _ h9 => h9) rfl dX6_init_22 ?_
  refine va_alen (v := 11) hx hb hK hQ.1 9 4 rfl rfl rfl dX6_init_25 ?_
  refine lv_icmp_ge (tgt := 50) hx hb dX6_init_26 (by decide) (fun z => absurd z (by decide)) (fun _ => ?_)
  refine lv_aload_n hx hb dX6_init_29 rfl (lv_at hl 1 rfl) ?_
  refine va_get (ci := 6) (C := RX6) (T := TX6) (N := 5) hx hb hts (am_uin (ci := 6) rfl) hown hK hQ.1 10 rfl rfl 0 (by decide) (hts _ (am_ig (i := 311) (by decide +kernel) rfl)) (fun _ h9 => h9) rfl dX6_init_30 ?_
  refine lv_iload_n hx hb dX6_init_33 rfl (lv_at hl 0 rfl) ?_
  refine vQ_new hx hb 10 rfl hts tyX10 tyX10_ok hown (am_ig (i := 308) (by decide +kernel) rfl) (am_ig (i := 248) (by decide +kernel) rfl) hK hQ hS hA (fs := [.null, .null, .int 0, .int 0, .int 0, .int 0, .int 0, .int 0, .int 0, .int 0, .int 0, .int 0, .int 0]) (kz_10) (Nat.le_of_ble_eq_true rfl) (Nat.le_of_ble_eq_true rfl) dX6_init_34 (fun q20 H hQ hS => ?_)
  refine W.widen (k := 11) (n := 141) (by omega) (by omega) ?_
  refine lv_dup hx hb dX6_init_37 rfl ?_
  refine lv_aload_n hx hb dX6_init_38 rfl (lv_at hl 2 rfl) ?_
  refine lv_aload_n hx hb dX6_init_39 rfl (lv_at hl 3 rfl) ?_
  refine kC_call (rest := [.ref q20, .int 9, .ref q1]) (kk_X10 l D cA (g1 := g1) (g2 := g2)) kX_t trivial hx hb hml hown hts hK kc_10 ki_10 (am_ig (i := 310) (by decide +kernel) rfl) kn_10 rfl ke_10 ⟨Nat.le_of_ble_eq_true rfl, Nat.le_of_ble_eq_true rfl⟩ hQ hS hA hl.1 (Nat.le_of_ble_eq_true rfl) dX6_init_40 ⟨Nat.le_of_ble_eq_true rfl, Nat.le_of_ble_eq_true rfl⟩ (fun u21 H locs hQ hS => ?_)
  have hQ : vQ D A ([(q20, .inr (10, [.ref g1, .ref g2, .int 0, .int 0, .int 0, .int 0, .int 0, .int 0, .int 0, .int 0, .int 0, .int 0, .int 0])), (q18, .inr (10, [.ref g1, .ref g2, .int 0, .int 0, .int 0, .int 0, .int 0, .int 0, .int 0, .int 0, .int 0, .int 0, .int 0])), (q16, .inr (10, [.ref g1, .ref g2, .int 0, .int 0, .int 0, .int 0, .int 0, .int 0, .int 0, .int 0, .int 0, .int 0, .int 0])), (q14, .inr (10, [.ref g1, .ref g2, .int 0, .int 0, .int 0, .int 0, .int 0, .int 0, .int 0, .int 0, .int 0, .int 0, .int 0])), (q12, .inr (10, [.ref g1, .ref g2, .int 0, .int 0, .int 0, .int 0, .int 0, .int 0, .int 0, .int 0, .int 0, .int 0, .int 0])), (q10, .inr (10, [.ref g1, .ref g2, .int 0, .int 0, .int 0, .int 0, .int 0, .int 0, .int 0, .int 0, .int 0, .int 0, .int 0])), (q8, .inr (10, [.ref g1, .ref g2, .int 0, .int 0, .int 0, .int 0, .int 0, .int 0, .int 0, .int 0, .int 0, .int 0, .int 0])), (q6, .inr (10, [.ref g1, .ref g2, .int 0, .int 0, .int 0, .int 0, .int 0, .int 0, .int 0, .int 0, .int 0, .int 0, .int 0])), (q4, .inr (10, [.ref g1, .ref g2, .int 0, .int 0, .int 0, .int 0, .int 0, .int 0, .int 0, .int 0, .int 0, .int 0, .int 0])), (q2, .inr (10, [.ref g1, .ref g2, .int 0, .int 0, .int 0, .int 0, .int 0, .int 0, .int 0, .int 0, .int 0, .int 0, .int 0])), (q1, .inl (cA 4, 11, .inr (.inr (.inr (.inr (va_up (va_up (va_up (va_up (va_up (va_up (va_up (va_up (va_up (fun _ => none) 0 (some q2)) 1 (some q4)) 2 (some q6)) 3 (some q8)) 4 (some q10)) 5 (some q12)) 6 (some q14)) 7 (some q16)) 8 (some q18))))))), (h, .inr (6, [.ref q1, .int 0, .int 0, .int (-1), .long 0]))]) H := hQ
  refine W.widen (k := 11) (n := 141) (by omega) (by omega) ?_
  refine va_astq hx hb hK hQ.1 hQ.2 hS 10 4 0 10 rfl rfl rfl rfl (by unfold vp_in; decide) dX6_init_43 (fun H locs hP hD hS => ?_)
  have hQ : vQ D A ([(q20, .inr (10, [.ref g1, .ref g2, .int 0, .int 0, .int 0, .int 0, .int 0, .int 0, .int 0, .int 0, .int 0, .int 0, .int 0])), (q18, .inr (10, [.ref g1, .ref g2, .int 0, .int 0, .int 0, .int 0, .int 0, .int 0, .int 0, .int 0, .int 0, .int 0, .int 0])), (q16, .inr (10, [.ref g1, .ref g2, .int 0, .int 0, .int 0, .int 0, .int 0, .int 0, .int 0, .int 0, .int 0, .int 0, .int 0])), (q14, .inr (10, [.ref g1, .ref g2, .int 0, .int 0, .int 0, .int 0, .int 0, .int 0, .int 0, .int 0, .int 0, .int 0, .int 0])), (q12, .inr (10, [.ref g1, .ref g2, .int 0, .int 0, .int 0, .int 0, .int 0, .int 0, .int 0, .int 0, .int 0, .int 0, .int 0])), (q10, .inr (10, [.ref g1, .ref g2, .int 0, .int 0, .int 0, .int 0, .int 0, .int 0, .int 0, .int 0, .int 0, .int 0, .int 0])), (q8, .inr (10, [.ref g1, .ref g2, .int 0, .int 0, .int 0, .int 0, .int 0, .int 0, .int 0, .int 0, .int 0, .int 0, .int 0])), (q6, .inr (10, [.ref g1, .ref g2, .int 0, .int 0, .int 0, .int 0, .int 0, .int 0, .int 0, .int 0, .int 0, .int 0, .int 0])), (q4, .inr (10, [.ref g1, .ref g2, .int 0, .int 0, .int 0, .int 0, .int 0, .int 0, .int 0, .int 0, .int 0, .int 0, .int 0])), (q2, .inr (10, [.ref g1, .ref g2, .int 0, .int 0, .int 0, .int 0, .int 0, .int 0, .int 0, .int 0, .int 0, .int 0, .int 0])), (q1, .inl (cA 4, 11, .inr (.inr (.inr (.inr (va_up (va_up (va_up (va_up (va_up (va_up (va_up (va_up (va_up (va_up (fun _ => none) 0 (some q2)) 1 (some q4)) 2 (some q6)) 3 (some q8)) 4 (some q10)) 5 (some q12)) 6 (some q14)) 7 (some q16)) 8 (some q18)) 9 (some q20))))))), (h, .inr (6, [.ref q1, .int 0, .int 0, .int (-1), .long 0]))]) H := ⟨hP, hD⟩
  refine lv_iinc (v := 10) (lv' := [(3, .int 10), (0, .ref h), (1, .ref g1), (2, .ref g2)]) hx hb dX6_init_44 hl (k := 0) rfl (by decide) (by decide) rfl (fun ls hl => ?_)
  refine lv_goto (tgt := 20) hx hb dX6_init_47 (by decide) ?_
  refine lv_iload_n hx hb dX6_init_20 rfl (lv_at hl 0 rfl) ?_
  refine lv_aload_n hx hb dX6_init_21 rfl (lv_at hl 1 rfl) ?_
  refine va_get (ci := 6) (C := RX6) (T := TX6) (N := 5) hx hb hts (am_uin (ci := 6) rfl) hown hK hQ.1 11 rfl rfl 0 (by decide) (hts _ (am_ig (i := 311) (by decide +kernel) rfl)) (fun _ h9 => h9) rfl dX6_init_22 ?_
  refine va_alen (v := 11) hx hb hK hQ.1 10 4 rfl rfl rfl dX6_init_25 ?_
  refine lv_icmp_ge (tgt := 50) hx hb dX6_init_26 (by decide) (fun z => absurd z (by decide)) (fun _ => ?_)
  refine lv_aload_n hx hb dX6_init_29 rfl (lv_at hl 1 rfl) ?_
  refine va_get (ci := 6) (C := RX6) (T := TX6) (N := 5) hx hb hts (am_uin (ci := 6) rfl) hown hK hQ.1 11 rfl rfl 0 (by decide) (hts _ (am_ig (i := 311) (by decide +kernel) rfl)) (fun _ h9 => h9) rfl dX6_init_30 ?_
  refine lv_iload_n hx hb dX6_init_33 rfl (lv_at hl 0 rfl) ?_
  refine vQ_new hx hb 10 rfl hts tyX10 tyX10_ok hown (am_ig (i := 308) (by decide +kernel) rfl) (am_ig (i := 248) (by decide +kernel) rfl) hK hQ hS hA (fs := [.null, .null, .int 0, .int 0, .int 0, .int 0, .int 0, .int 0, .int 0, .int 0, .int 0, .int 0, .int 0]) (kz_10) (Nat.le_of_ble_eq_true rfl) (Nat.le_of_ble_eq_true rfl) dX6_init_34 (fun q22 H hQ hS => ?_)
  refine W.widen (k := 12) (n := 154) (by omega) (by omega) ?_
  refine lv_dup hx hb dX6_init_37 rfl ?_
  refine lv_aload_n hx hb dX6_init_38 rfl (lv_at hl 2 rfl) ?_
  refine lv_aload_n hx hb dX6_init_39 rfl (lv_at hl 3 rfl) ?_
  refine kC_call (rest := [.ref q22, .int 10, .ref q1]) (kk_X10 l D cA (g1 := g1) (g2 := g2)) kX_t trivial hx hb hml hown hts hK kc_10 ki_10 (am_ig (i := 310) (by decide +kernel) rfl) kn_10 rfl ke_10 ⟨Nat.le_of_ble_eq_true rfl, Nat.le_of_ble_eq_true rfl⟩ hQ hS hA hl.1 (Nat.le_of_ble_eq_true rfl) dX6_init_40 ⟨Nat.le_of_ble_eq_true rfl, Nat.le_of_ble_eq_true rfl⟩ (fun u23 H locs hQ hS => ?_)
  have hQ : vQ D A ([(q22, .inr (10, [.ref g1, .ref g2, .int 0, .int 0, .int 0, .int 0, .int 0, .int 0, .int 0, .int 0, .int 0, .int 0, .int 0])), (q20, .inr (10, [.ref g1, .ref g2, .int 0, .int 0, .int 0, .int 0, .int 0, .int 0, .int 0, .int 0, .int 0, .int 0, .int 0])), (q18, .inr (10, [.ref g1, .ref g2, .int 0, .int 0, .int 0, .int 0, .int 0, .int 0, .int 0, .int 0, .int 0, .int 0, .int 0])), (q16, .inr (10, [.ref g1, .ref g2, .int 0, .int 0, .int 0, .int 0, .int 0, .int 0, .int 0, .int 0, .int 0, .int 0, .int 0])), (q14, .inr (10, [.ref g1, .ref g2, .int 0, .int 0, .int 0, .int 0, .int 0, .int 0, .int 0, .int 0, .int 0, .int 0, .int 0])), (q12, .inr (10, [.ref g1, .ref g2, .int 0, .int 0, .int 0, .int 0, .int 0, .int 0, .int 0, .int 0, .int 0, .int 0, .int 0])), (q10, .inr (10, [.ref g1, .ref g2, .int 0, .int 0, .int 0, .int 0, .int 0, .int 0, .int 0, .int 0, .int 0, .int 0, .int 0])), (q8, .inr (10, [.ref g1, .ref g2, .int 0, .int 0, .int 0, .int 0, .int 0, .int 0, .int 0, .int 0, .int 0, .int 0, .int 0])), (q6, .inr (10, [.ref g1, .ref g2, .int 0, .int 0, .int 0, .int 0, .int 0, .int 0, .int 0, .int 0, .int 0, .int 0, .int 0])), (q4, .inr (10, [.ref g1, .ref g2, .int 0, .int 0, .int 0, .int 0, .int 0, .int 0, .int 0, .int 0, .int 0, .int 0, .int 0])), (q2, .inr (10, [.ref g1, .ref g2, .int 0, .int 0, .int 0, .int 0, .int 0, .int 0, .int 0, .int 0, .int 0, .int 0, .int 0])), (q1, .inl (cA 4, 11, .inr (.inr (.inr (.inr (va_up (va_up (va_up (va_up (va_up (va_up (va_up (va_up (va_up (va_up (fun _ => none) 0 (some q2)) 1 (some q4)) 2 (some q6)) 3 (some q8)) 4 (some q10)) 5 (some q12)) 6 (some q14)) 7 (some q16)) 8 (some q18)) 9 (some q20))))))), (h, .inr (6, [.ref q1, .int 0, .int 0, .int (-1), .long 0]))]) H := hQ
  refine W.widen (k := 12) (n := 154) (by omega) (by omega) ?_
  refine va_astq hx hb hK hQ.1 hQ.2 hS 11 4 0 10 rfl rfl rfl rfl (by unfold vp_in; decide) dX6_init_43 (fun H locs hP hD hS => ?_)
  have hQ : vQ D A ([(q22, .inr (10, [.ref g1, .ref g2, .int 0, .int 0, .int 0, .int 0, .int 0, .int 0, .int 0, .int 0, .int 0, .int 0, .int 0])), (q20, .inr (10, [.ref g1, .ref g2, .int 0, .int 0, .int 0, .int 0, .int 0, .int 0, .int 0, .int 0, .int 0, .int 0, .int 0])), (q18, .inr (10, [.ref g1, .ref g2, .int 0, .int 0, .int 0, .int 0, .int 0, .int 0, .int 0, .int 0, .int 0, .int 0, .int 0])), (q16, .inr (10, [.ref g1, .ref g2, .int 0, .int 0, .int 0, .int 0, .int 0, .int 0, .int 0, .int 0, .int 0, .int 0, .int 0])), (q14, .inr (10, [.ref g1, .ref g2, .int 0, .int 0, .int 0, .int 0, .int 0, .int 0, .int 0, .int 0, .int 0, .int 0, .int 0])), (q12, .inr (10, [.ref g1, .ref g2, .int 0, .int 0, .int 0, .int 0, .int 0, .int 0, .int 0, .int 0, .int 0, .int 0, .int 0])), (q10, .inr (10, [.ref g1, .ref g2, .int 0, .int 0, .int 0, .int 0, .int 0, .int 0, .int 0, .int 0, .int 0, .int 0, .int 0])), (q8, .inr (10, [.ref g1, .ref g2, .int 0, .int 0, .int 0, .int 0, .int 0, .int 0, .int 0, .int 0, .int 0, .int 0, .int 0])), (q6, .inr (10, [.ref g1, .ref g2, .int 0, .int 0, .int 0, .int 0, .int 0, .int 0, .int 0, .int 0, .int 0, .int 0, .int 0])), (q4, .inr (10, [.ref g1, .ref g2, .int 0, .int 0, .int 0, .int 0, .int 0, .int 0, .int 0, .int 0, .int 0, .int 0, .int 0])), (q2, .inr (10, [.ref g1, .ref g2, .int 0, .int 0, .int 0, .int 0, .int 0, .int 0, .int 0, .int 0, .int 0, .int 0, .int 0])), (q1, .inl (cA 4, 11, .inr (.inr (.inr (.inr (va_up (va_up (va_up (va_up (va_up (va_up (va_up (va_up (va_up (va_up (va_up (fun _ => none) 0 (some q2)) 1 (some q4)) 2 (some q6)) 3 (some q8)) 4 (some q10)) 5 (some q12)) 6 (some q14)) 7 (some q16)) 8 (some q18)) 9 (some q20)) 10 (some q22))))))), (h, .inr (6, [.ref q1, .int 0, .int 0, .int (-1), .long 0]))]) H := ⟨hP, hD⟩
  refine lv_iinc (v := 11) (lv' := [(3, .int 11), (0, .ref h), (1, .ref g1), (2, .ref g2)]) hx hb dX6_init_44 hl (k := 0) rfl (by decide) (by decide) rfl (fun ls hl => ?_)
  refine lv_goto (tgt := 20) hx hb dX6_init_47 (by decide) ?_
  refine lv_iload_n hx hb dX6_init_20 rfl (lv_at hl 0 rfl) ?_
  refine lv_aload_n hx hb dX6_init_21 rfl (lv_at hl 1 rfl) ?_
  refine va_get (ci := 6) (C := RX6) (T := TX6) (N := 5) hx hb hts (am_uin (ci := 6) rfl) hown hK hQ.1 12 rfl rfl 0 (by decide) (hts _ (am_ig (i := 311) (by decide +kernel) rfl)) (fun _ h9 => h9) rfl dX6_init_22 ?_
  refine va_alen (v := 11) hx hb hK hQ.1 11 4 rfl rfl rfl dX6_init_25 ?_
  refine lv_icmp_ge (tgt := 50) hx hb dX6_init_26 (by decide) (fun _ => ?_) (fun z => absurd (by decide) z)
  exact W.vret hx hb hr (fun t ht hW => ⟨⟨fun k => ([q22, q20, q18, q16, q14, q12, q10, q8, q6, q4, q2, q1] : List Nat).getD k 0, rfl, trivial, by rw [ht]; exact hQ.1, hQ.2⟩, hS.F ht⟩) hS.2.2 dX6_init_50
