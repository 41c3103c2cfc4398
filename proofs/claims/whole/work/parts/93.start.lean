/-! THE LAW, from its entry -/
theorem lw_d0 : decode code 0 = .ok (.new 7, 3) := by decide +kernel
theorem lw_d3 : decode code 3 = .ok (.dup, 1) := by decide +kernel
theorem lw_d4 : decode code 4 = .ok (.invokespecial 9, 3) := by decide +kernel
theorem lw_d7 : decode code 7 = .ok (.astore_n 1, 1) := by decide +kernel
theorem lw_d8 : decode code 8 = .ok (.new 10, 3) := by decide +kernel
theorem lw_d11 : decode code 11 = .ok (.dup, 1) := by decide +kernel
theorem lw_d12 : decode code 12 = .ok (.invokespecial 12, 3) := by decide +kernel
theorem lw_d15 : decode code 15 = .ok (.astore_n 2, 1) := by decide +kernel
theorem lw_d16 : decode code 16 = .ok (.iconst 0, 1) := by decide +kernel
theorem lw_d17 : decode code 17 = .ok (.istore_n 3, 1) := by decide +kernel
theorem lw_kc7 : Cond.classLink R_law 7 RX11 ∈ am_GT := am_ig (i := 86) (by decide +kernel) rfl
theorem lw_kc10 : Cond.classLink R_law 10 RX12 ∈ am_GT := am_ig (i := 947) (by decide +kernel) rfl
theorem lw_km9 : Cond.methodLink R_law 9 yX11_init ∈ am_GT := am_ig (i := 88) (by decide +kernel) rfl
theorem lw_km12 : Cond.methodLink R_law 12 yX12_init ∈ am_GT := am_ig (i := 949) (by decide +kernel) rfl
set_option maxHeartbeats 4000000 in
set_option maxRecDepth 100000 in
theorem whole_start {p : Program} {e : Env} {s : State} {m : MethodId} {below : List Frame} {meth : Method} {c : Code} (l : Launch) {b L : Nat} {xs : Nat → Int32} (hL : L ≤ 384) (C0 : lw_At p s m meth c b L xs) : W p l e room_1 s m #[Value.ref b] below meth c s.heap [] 0 0 (lw_Z below #[Value.ref b] s) (entryFrame m ([Value.ref b] : List Value).toArray 4) := by
  obtain ⟨hx, hb, hr, hml, hown, hts, hX, hbl, hlocks, hgv⟩ := id C0
  obtain ⟨sa, hsa⟩ := lw_stat hts hgv
  have htg : ∀ w ∈ am_GT, w.before #[Value.ref b] s = true := fun w hw => hts w (List.mem_filter.mp hw).1
  obtain ⟨D, hDK⟩ := lw_D htg
  obtain ⟨cA, hK⟩ := lw_K hts hDK
  have hkX := lw_kX hts
  have hA : ∀ q : Nat, s.heap.size ≤ q → lwA s q := fun _ h => h
  have hS : va_S (lwA s) s.heap s.heap [] := va_S.rf
  have hQ : vQ D (lwA s) [] s.heap := ⟨fun k q h => by simp at h, fun i j p q h => by simp at h, fun k q h => by simp at h⟩
  have hl := lv_entry ([.ref b]) (n := 4) (Nat.le_of_ble_eq_true rfl)
  rw [lg_entry_eq]
  generalize (lg_sl ([.ref b]) ++ List.replicate (4 - (lg_sl ([.ref b])).length) Slot.unset).toArray = ls at hl ⊢
  have hl : lv_has ls 4 [(0, .ref b)] := hl
  refine vQ_new hx hb 11 rfl htg tyX11 tyX11_ok hown lw_kc7 (lw_inst 11 _ rfl) hK hQ hS hA (fs := [.null, .null, .null, .null, .null, .null, .null, .null, .null, .null, .null, .null, .null, .null, .null, .null, .int 0, .int 0, .int 0, .int 0]) kz_11 (Nat.le_of_ble_eq_true rfl) (Nat.le_of_ble_eq_true rfl) lw_d0 (fun h H hQ hS => ?_)
  refine W.widen (k := 1) (n := 20) (by omega) (by omega) ?_
  refine lv_dup hx hb lw_d3 rfl ?_
  refine kC_call (rest := [.ref h]) (kk_X11 l D cA sa) kX_11 hkX hx hb hml hown htg hK kc_11 ki_11 lw_km9 kn_11 rfl ke_11 ⟨Nat.le_of_ble_eq_true rfl, Nat.le_of_ble_eq_true rfl⟩ hQ hS hA hl.1 (Nat.le_of_ble_eq_true rfl) lw_d4 ⟨Nat.le_of_ble_eq_true rfl, Nat.le_of_ble_eq_true rfl⟩ (fun u H locs hQ hS => ?_)
  refine W.widen (k := 72) (n := 2323) (by omega) (by omega) ?_
  refine lv_astore_n (lv' := [(1, .ref h), (0, .ref b)]) hx hb lw_d7 rfl hl (by decide) rfl (fun ls hl => ?_)
  try dsimp only at hQ
  generalize hWC : am_w shC cA (kAd sa h u) w0C = WC at hQ
  refine vQ_new hx hb 12 rfl htg tyX12 tyX12_ok hown lw_kc10 (lw_inst 12 _ rfl) hK hQ hS hA (fs := [.null, .null, .null, .null, .int 0, .null, .null, .int 0, .int 0, .null, .int 0, .null, .null, .null, .int 0, .null, .int 0, .null, .int 0, .int 0, .null, .null, .null, .null, .null, .null, .null, .null, .int 0, .int 0, .int 0, .null, .int 0, .null, .null, .int 0]) kz_12 (Nat.le_of_ble_eq_true rfl) (Nat.le_of_ble_eq_true rfl) lw_d8 (fun h2 H hQ hS => ?_)
  refine W.widen (k := 73) (n := 2359) (by omega) (by omega) ?_
  refine lv_dup hx hb lw_d11 rfl ?_
  refine kC_call (rest := [.ref h2]) (kk_X12 l D cA sa) kX_t trivial hx hb hml hown htg hK kc_12 ki_12 lw_km12 kn_12 rfl ke_12 ⟨Nat.le_of_ble_eq_true rfl, Nat.le_of_ble_eq_true rfl⟩ hQ hS hA hl.1 (Nat.le_of_ble_eq_true rfl) lw_d12 ⟨Nat.le_of_ble_eq_true rfl, Nat.le_of_ble_eq_true rfl⟩ (fun u2 H locs hQ hS => ?_)
  refine W.widen (k := 600000) (n := 7302250) (by omega) (by omega) ?_
  refine lv_astore_n (lv' := [(2, .ref h2), (1, .ref h), (0, .ref b)]) hx hb lw_d15 rfl hl (by decide) rfl (fun ls hl => ?_)
  refine lv_iconst (v := 0) hx hb lw_d16 (by decide) ?_
  refine lv_istore_n (lv' := [(3, .int 0), (2, .ref h2), (1, .ref h), (0, .ref b)]) hx hb lw_d17 rfl hl (by decide) rfl (fun ls hl => ?_)
  try dsimp only at hQ
  rw [← hWC] at hQ
  have hl : lv_has ls 4 [(0, .ref b), (1, .ref (kAd sa h u 0)), (2, .ref (kAd sa h2 u2 0)), (3, .int (nI 0))] := lv_sub hl [3, 2, 1, 0] rfl
  obtain ⟨a1, a2, a3, a4, a5⟩ := lw_apart hQ.2
  have hX2 : lwX p s m meth c b L xs D cA (kAd sa h u) (kAd sa h2 u2) := by
    refine ⟨hx, hb, hml, hr, hlocks, hown, htg, hX, hbl, hK, ⟨a1, fun i hi => ⟨i, hi, rfl⟩⟩, ⟨a2, fun i hi => ⟨i, hi, rfl⟩⟩, ?_, ?_, a4, a5, a3⟩
    · exact hsa _ _ (fun q hq => by obtain ⟨i, hi, rfl⟩ := hq; exact a4 i hi) (fun j _ => kAd_st)
    · exact hsa _ _ (fun q hq => by obtain ⟨i, hi, rfl⟩ := hq; exact a5 i hi) (fun j _ => kAd_st)
  have hH : lwH s D cA (kAd sa h u) (kAd sa h2 u2) w0C w0M H locs := ⟨va_P_l (va_P_r hQ.1), va_P_l hQ.1, hS⟩
  exact lw_loop hX2 hL (L + 6) 0 (by omega) (by omega) S0 w0C w0M H locs ls hH RC_0 RM_0 hl
