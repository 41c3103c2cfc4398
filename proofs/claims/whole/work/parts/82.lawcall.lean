/-! the law's calls: what stands while it runs -/
def lwA (s : State) : Nat → Prop := fun q => s.heap.size ≤ q
def adS (n : Nat) (ad : Nat → Nat) : Nat → Prop := fun q => ∃ i, i < n ∧ q = ad i
def lwX (p : Program) (s : State) (m : MethodId) (meth : Method) (c : Code) (b L : Nat) (xs : Nat → Int32) (D : va_G) (cA : Nat → ClassId) (adC adM : Nat → Nat) : Prop :=
  p.tables.exec = Jvm.exec ∧ c.code = code ∧ c.maxLocals = 4 ∧ meth.sig.returnType = ret ∧ meth.locks = false ∧ s.vm.findClass R_law = some m.cls ∧ (∀ w ∈ am_GT, w.before #[Value.ref b] s = true) ∧ va_X b L xs s s.heap ∧ b < s.heap.size ∧ va_K D vwCl (am_ty cA) s ∧ am_AD shC adC (adS 72 adC) ∧ am_AD shM adM (adS 24 adM) ∧ am_St adC (adS 72 adC) s s.heap ∧ am_St adM (adS 24 adM) s s.heap ∧ (∀ i, i < 72 → s.heap.size ≤ adC i) ∧ (∀ i, i < 24 → s.heap.size ≤ adM i) ∧ ∀ i j, i < 72 → j < 24 → adC i ≠ adM j
def lwH (s : State) (D : va_G) (cA : Nat → ClassId) (adC adM : Nat → Nat) (wC wM : am_M) (H : Heap) (locs : List Loc) : Prop := va_P D vwCl (am_w shC cA adC wC) H ∧ va_P D vwCl (am_w shM cA adM wM) H ∧ va_S (lwA s) s.heap H locs
theorem am_w_s {sh : List am_S} {cA : Nat → ClassId} {ad : Nat → Nat} {w : am_M} {k : Nat} {q : Nat × va_E} (h : (am_w sh cA ad w)[k]? = some q) : k < sh.length ∧ q.1 = ad k := by
  by_cases hk : k < sh.length
  · obtain ⟨S, hS⟩ : ∃ S, sh[k]? = some S := ⟨_, List.getElem?_eq_getElem hk⟩
    rw [am_w_at hS] at h
    cases h
    exact ⟨hk, rfl⟩
  · rw [am_w_no (by omega)] at h
    cases h
section LWC
variable {p : Program} {l : Launch} {e : Env} {s : State} {m : MethodId} {below : List Frame} {meth : Method} {c : Code} {b L : Nat} {xs : Nat → Int32} {D : va_G} {cA : Nat → ClassId} {adC adM : Nat → Nat} {wC wM : am_M} {H : Heap} {locs : List Loc} {cells slots : Nat} {Q : State → Prop} {ls : Array Slot} {pc : Nat} {rest : List Value}
/-- a call of one of the two systems -/
theorem lw_call {sh : List am_S} {ad : Nat → Nat} {A : Nat → Prop} {w : am_M} {as : List Value} {o : am_O} {y idx ci : Nat} {fl : List (Option (Option Nat))}
    (hx : p.tables.exec = Jvm.exec) (hb : c.code = code) (hml : c.maxLocals = 4) (hown : s.vm.findClass R_law = some m.cls) (hts : ∀ w ∈ am_GT, w.before #[Value.ref b] s = true) (hK : va_K D vwCl (am_ty cA) s) (hAD : am_AD sh ad A) (hSt : am_St ad A s s.heap) (hAs : ∀ q, A q → s.heap.size ≤ q) (hok : am_okS sh = true)
    (hP : va_P D vwCl (am_w sh cA ad w) H) (hS : va_S (lwA s) s.heap H locs) (hD : am_D sh 30 y (.ref 0 :: as) w o) (hfl : sh[0]? = some (.inr (ci, fl))) (hci : am_o y = ci)
    (hl1 : Cond.methodLink R_law idx (am_y y) ∈ am_GT) (hl2 : Cond.instanceMethod (am_y y) ∈ am_GT) (hl3 : Cond.selects (am_y y).cls (am_y y) (am_y y) ∈ am_GT) (hl4 : (parseMethodDescriptor (am_y y).desc).map (fun d => d.parameters.length) = some as.length)
    (hdg : decode code pc = .ok (.invokevirtual idx, 3)) (hcat : (rest.map fun v => v.category).sum ≤ 8) (hls : ls.size = 4) (hce : cells ≤ 600000) (hsl : slots ≤ 7302250)
    (kk : ∀ (H1 : Heap) (locs1 : List Loc), va_P D vwCl (am_w sh cA ad o.2) H1 → va_S (lwA s) s.heap H1 locs1 → (∀ q, q < H.size → ¬ A q → H1[q]? = H[q]?) → W p l e room_1 s m #[Value.ref b] below meth c H1 locs1 cells slots Q (F0 m (pc + 3) ls (o.1.toList ++ rest))) :
    W p l e room_1 s m #[Value.ref b] below meth c H locs cells slots Q (F0 m pc ls ((as.map (am_c ad)).reverse ++ .ref (ad 0) :: rest)) := by
  obtain ⟨hm, hC⟩ := am_sound l sh cA ad D A hok hAD 30 30 (Nat.le_refl _) y (.ref 0 :: as) w o hD
  obtain ⟨hm1, hm2, hm3, hm4, hm5, hm6⟩ := am_mth hm
  have hrec : ∃ cell : Cell, H[ad 0]? = some cell ∧ cell.vm.isStatics = false ∧ s.vm.findClass (am_y y).cls = some cell.cls := by
    rw [show (am_y y).cls = am_cn (am_o y) from hm3, hci]
    have hoc := am_okc_at hok hfl
    simp only [am_okc, Bool.and_eq_true] at hoc
    obtain ⟨ho1, -, -⟩ := hoc
    split at ho1
    case h_2 => cases ho1
    rename_i C hCC
    have hcl := am_cls hCC
    simp only [am_clok, Bool.and_eq_true, decide_eq_true_eq] at hcl
    rw [← hcl.2.2.1]
    exact va_recv hK hP hCC (am_w_at hfl)
  have hpre : ∀ U : State, U.heap = H → s.WarmedH U.vm → am_Pre sh cA ad D A (.ref 0 :: as) w (Value.ref (ad 0) :: as.map (am_c ad)).toArray U := fun U hU hW => ⟨rfl, by rw [hU]; exact hP, va_K.moved hW.alike hK, by rw [hU]; exact (hSt.kept (fun a h1 _ => hS.2.1 a h1 (Nat.not_le.mpr h1))).warm hW⟩
  have hgood : GoodIn am_GT (Cond.code (am_y y) (am_b y) (am_ml y) (am_rt y) :: am_GT) := am_goodL fun w hw => (List.mem_cons.mp hw).elim (fun z => by rw [z]; exact hm1) id
  have hRR : (am_RM 30).frames + 1 ≤ room_1.frames ∧ 8 + (am_ml y + 11) + (am_RM 30).locals ≤ room_1.locals := by
    have : am_ml y ≤ 20 := hm6
    refine ⟨by decide, ?_⟩
    show 8 + (am_ml y + 11) + 1200 ≤ 84000
    omega
  have hrun := va_runV (l := l) (e := e) (R := room_1) (below := below) (meth := meth) (H := H) (locs := locs) (cells := cells) (slots := slots) (g := F0 m pc ls ((as.map (am_c ad)).reverse ++ .ref (ad 0) :: rest)) (rest := rest) (As := as.map (am_c ad)) (b := ad 0) ⟨hx, hb, hml, hown, hts⟩ hC (cwV as.length hts (fun w hw => by
      unfold wsV at hw
      rcases List.mem_append.mp hw with hw | hw
      · refine am_good w ?_
        simp only [List.mem_cons, List.not_mem_nil, or_false] at hw
        rcases hw with rfl | rfl | rfl | rfl
        · exact hl1
        · exact hl2
        · exact hl3
        · exact hm5
      · exact hgood w hw) rfl rfl rfl ⟨rfl, hm4.1, hm4.2, hl4⟩ hRR) ⟨am_blind, hrec, hpre⟩ rfl (List.length_map _) hls rfl (lv_room hcat) hdg ⟨hce, hsl⟩
  intro T hT X
  obtain ⟨v, st₀, t, T', L', h0, X', hL, e1, e2, ⟨hv, hp, hz, hk⟩, st⟩ := hrun T hT X
  cases hv
  rw [h0] at hz hk
  have hk' : ∀ q, q < H.size → ¬ A q → T'.heap[q]? = H[q]? := fun q h1 h2 => by rw [e1]; exact hk q h1 h2
  obtain ⟨t2, a1, b1⟩ := kk T'.heap (locs ++ L') (by rw [e1]; exact hp)
    ⟨Nat.le_trans hS.1 (by rw [e1]; exact hz), fun q h1 h2 => by rw [hk' q (Nat.lt_of_lt_of_le h1 hS.1) (fun z => h2 (hAs q z))]; exact hS.2.1 q h1 h2, fun q hq => by
      rcases List.mem_append.mp hq with h | h
      · exact hS.2.2 q h
      · exact hAs _ (hL q h)⟩ hk' T' rfl X'
  exact ⟨t2, st t2 a1, b1⟩
theorem lw_callC {as : List Value} {o : am_O} {y idx : Nat} (X : lwX p s m meth c b L xs D cA adC adM) (hH : lwH s D cA adC adM wC wM H locs) (hD : am_D shC 30 y (.ref 0 :: as) wC o) (hci : am_o y = 11)
    (hl1 : Cond.methodLink R_law idx (am_y y) ∈ am_GT) (hl2 : Cond.instanceMethod (am_y y) ∈ am_GT) (hl3 : Cond.selects (am_y y).cls (am_y y) (am_y y) ∈ am_GT) (hl4 : (parseMethodDescriptor (am_y y).desc).map (fun d => d.parameters.length) = some as.length)
    (hdg : decode code pc = .ok (.invokevirtual idx, 3)) (hcat : (rest.map fun v => v.category).sum ≤ 8) (hls : ls.size = 4) (hce : cells ≤ 600000) (hsl : slots ≤ 7302250)
    (kk : ∀ (H1 : Heap) (locs1 : List Loc), lwH s D cA adC adM o.2 wM H1 locs1 → W p l e room_1 s m #[Value.ref b] below meth c H1 locs1 cells slots Q (F0 m (pc + 3) ls (o.1.toList ++ rest))) :
    W p l e room_1 s m #[Value.ref b] below meth c H locs cells slots Q (F0 m pc ls ((as.map (am_c adC)).reverse ++ .ref (adC 0) :: rest)) := by
  obtain ⟨hx, hb, hml, hr, hlk, hown, hts, hX, hbl, hK, hAC, hAM, hSC, hSM, hNC, hNM, hNE⟩ := X
  obtain ⟨hP1, hP2, hS⟩ := hH
  refine lw_call hx hb hml hown hts hK hAC hSC (fun q hq => by obtain ⟨i, hi, rfl⟩ := hq; exact hNC i hi) (by decide +kernel) hP1 hS hD rfl hci hl1 hl2 hl3 hl4 hdg hcat hls hce hsl (fun H1 locs1 h1 h2 h3 => kk H1 locs1 ⟨h1, hP2.kept (fun k q hk => ?_), h2⟩)
  obtain ⟨hk1, hk2⟩ := am_w_s hk
  refine h3 q.1 (hP2 k q hk).lt (fun z => ?_)
  obtain ⟨i, hi, hz⟩ := z
  exact hNE i k hi hk1 (by rw [← hz, hk2])
theorem lw_callM {as : List Value} {o : am_O} {y idx : Nat} (X : lwX p s m meth c b L xs D cA adC adM) (hH : lwH s D cA adC adM wC wM H locs) (hD : am_D shM 30 y (.ref 0 :: as) wM o) (hci : am_o y = 12)
    (hl1 : Cond.methodLink R_law idx (am_y y) ∈ am_GT) (hl2 : Cond.instanceMethod (am_y y) ∈ am_GT) (hl3 : Cond.selects (am_y y).cls (am_y y) (am_y y) ∈ am_GT) (hl4 : (parseMethodDescriptor (am_y y).desc).map (fun d => d.parameters.length) = some as.length)
    (hdg : decode code pc = .ok (.invokevirtual idx, 3)) (hcat : (rest.map fun v => v.category).sum ≤ 8) (hls : ls.size = 4) (hce : cells ≤ 600000) (hsl : slots ≤ 7302250)
    (kk : ∀ (H1 : Heap) (locs1 : List Loc), lwH s D cA adC adM wC o.2 H1 locs1 → W p l e room_1 s m #[Value.ref b] below meth c H1 locs1 cells slots Q (F0 m (pc + 3) ls (o.1.toList ++ rest))) :
    W p l e room_1 s m #[Value.ref b] below meth c H locs cells slots Q (F0 m pc ls ((as.map (am_c adM)).reverse ++ .ref (adM 0) :: rest)) := by
  obtain ⟨hx, hb, hml, hr, hlk, hown, hts, hX, hbl, hK, hAC, hAM, hSC, hSM, hNC, hNM, hNE⟩ := X
  obtain ⟨hP1, hP2, hS⟩ := hH
  refine lw_call hx hb hml hown hts hK hAM hSM (fun q hq => by obtain ⟨i, hi, rfl⟩ := hq; exact hNM i hi) (by decide +kernel) hP2 hS hD rfl hci hl1 hl2 hl3 hl4 hdg hcat hls hce hsl (fun H1 locs1 h1 h2 h3 => kk H1 locs1 ⟨hP1.kept (fun k q hk => ?_), h1, h2⟩)
  obtain ⟨hk1, hk2⟩ := am_w_s hk
  refine h3 q.1 (hP1 k q hk).lt (fun z => ?_)
  obtain ⟨j, hj, hz⟩ := z
  exact hNE k j hk1 hj (by rw [← hz, hk2])
/-! the arguments -/
def lwBlk (pc n : Nat) : Bool := (List.range n).all fun j => decide (decode code (pc + 5 * j) = .ok (.aload_n 0, 1)) && (decide (decode code (pc + 5 * j + 1) = .ok (.iload_n 3, 1)) && (decide (decode code (pc + 5 * j + 2) = .ok (.iconst (j + 1 : Nat), 1)) && (decide (decode code (pc + 5 * j + 3) = .ok (.iadd, 1)) && decide (decode code (pc + 5 * j + 4) = .ok (.iaload, 1)))))
def lwAs (xs : Nat → Int32) (i n : Nat) : List Value := (List.range n).map fun j => .int (xs (i + 1 + j))
theorem lwAs_s (xs : Nat → Int32) (i n : Nat) : (lwAs xs i (n + 1)).reverse = .int (xs (i + 1 + n)) :: (lwAs xs i n).reverse := by
  unfold lwAs
  rw [List.range_succ, List.map_append, List.reverse_append]
  rfl
theorem lwAs_c (xs : Nat → Int32) (ad : Nat → Nat) (i n : Nat) : (lwAs xs i n).map (am_c ad) = lwAs xs i n := by
  unfold lwAs
  rw [List.map_map]
  rfl
theorem lwAs_l (xs : Nat → Int32) (i n : Nat) : (lwAs xs i n).length = n := by unfold lwAs; rw [List.length_map, List.length_range]
theorem lw_args {i : Nat} {q r : Nat} (X : lwX p s m meth c b L xs D cA adC adM) (hS : va_S (lwA s) s.heap H locs) (hL : L ≤ 384) (hi : i + 6 ≤ L) (hl : lv_has ls 4 [(0, .ref b), (1, .ref q), (2, .ref r), (3, .int (nI i))]) : ∀ n, n ≤ 5 → lwBlk pc n = true →
    W p l e room_1 s m #[Value.ref b] below meth c H locs cells slots Q (F0 m (pc + 5 * n) ls ((lwAs xs i n).reverse ++ rest)) → W p l e room_1 s m #[Value.ref b] below meth c H locs cells slots Q (F0 m pc ls rest)
  | 0, _, _, k => k
  | n + 1, hn, hd, k => by
    obtain ⟨hx, hb, hml, hr, hlk, hown, hts, hX, hbl, -⟩ := id X
    have hbl' : lwBlk pc n = true := List.all_eq_true.mpr (fun j hj => List.all_eq_true.mp hd j (List.mem_range.mpr (by have := List.mem_range.mp hj; omega)))
    have hd1 := List.all_eq_true.mp hd n (List.mem_range.mpr (by omega))
    simp only [Bool.and_eq_true, decide_eq_true_eq] at hd1
    obtain ⟨d0, d1, d2, d3, d4⟩ := hd1
    refine lw_args X hS hL hi hl n (by omega) hbl' ?_
    refine lv_aload_n hx hb d0 rfl (lv_at hl 0 rfl) ?_
    refine lv_iload_n hx hb d1 rfl (lv_at hl 3 rfl) ?_
    refine lv_iconst (v := nI (n + 1)) hx hb d2 (Int32.ofInt_eq_ofNat) ?_
    refine lv_iadd hx hb d3 ?_
    rw [nI_add]
    refine va_sld (A := lwA s) hx hb hX hbl (Nat.not_le.mpr hbl) hS (vp_in_nI (by omega) (by omega)) d4 ?_
    rw [nI_clamp (by omega), show i + (n + 1) = i + 1 + n by omega, show pc + 5 * n + 1 + 1 + 1 + 1 + 1 = pc + 5 * (n + 1) by omega]
    rw [lwAs_s] at k
    exact k
end LWC
