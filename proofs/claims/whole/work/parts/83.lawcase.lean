/-! a case of the law -/
def lwW (idx y ci n : Nat) : Prop := am_o y = ci ∧ Cond.methodLink R_law idx (am_y y) ∈ am_GT ∧ Cond.instanceMethod (am_y y) ∈ am_GT ∧ Cond.selects (am_y y).cls (am_y y) (am_y y) ∈ am_GT ∧ (parseMethodDescriptor (am_y y).desc).map (fun d => d.parameters.length) = some n
def lwLay (pc n idC idM : Nat) : Bool := decide (decode code pc = .ok (.aload_n 1, 1)) && (lwBlk (pc + 1) n && (decide (decode code (pc + 1 + 5 * n) = .ok (.invokevirtual idC, 3)) && (decide (decode code (pc + 1 + 5 * n + 3) = .ok (.aload_n 2, 1)) && (lwBlk (pc + 1 + 5 * n + 3 + 1) n && decide (decode code (pc + 1 + 5 * n + 3 + 1 + 5 * n) = .ok (.invokevirtual idM, 3))))))
section LWK
variable {p : Program} {l : Launch} {e : Env} {s : State} {m : MethodId} {below : List Frame} {meth : Method} {c : Code} {b L : Nat} {xs : Nat → Int32} {D : va_G} {cA : Nat → ClassId} {adC adM : Nat → Nat} {wC wM : am_M} {H : Heap} {locs : List Loc} {cells slots : Nat} {Q : State → Prop} {ls : Array Slot} {pc : Nat} {rest : List Value}
theorem lw_two {n idC idM yC yM i : Nat} {v v' : Value} {uC uM : am_M} (hnv : v.category ≤ 2) (X : lwX p s m meth c b L xs D cA adC adM) (hH : lwH s D cA adC adM wC wM H locs) (hL : L ≤ 384) (hi : i + 6 ≤ L) (hl : lv_has ls 4 [(0, .ref b), (1, .ref (adC 0)), (2, .ref (adM 0)), (3, .int (nI i))]) (hn : n ≤ 5) (hlay : lwLay pc n idC idM = true) (hwC : lwW idC yC 11 n) (hwM : lwW idM yM 12 n)
    (hDC : am_D shC 30 yC (.ref 0 :: lwAs xs i n) wC (some v, uC)) (hDM : am_D shM 30 yM (.ref 0 :: lwAs xs i n) wM (some v', uM)) (hce : cells ≤ 600000) (hsl : slots ≤ 7302250)
    (kk : ∀ (H1 : Heap) (locs1 : List Loc), lwH s D cA adC adM uC uM H1 locs1 → W p l e room_1 s m #[Value.ref b] below meth c H1 locs1 cells slots Q (F0 m (pc + 1 + 5 * n + 3 + 1 + 5 * n + 3) ls [v', v])) :
    W p l e room_1 s m #[Value.ref b] below meth c H locs cells slots Q (F0 m pc ls []) := by
  obtain ⟨hx, hb, -⟩ := id X
  unfold lwLay at hlay
  simp only [Bool.and_eq_true, decide_eq_true_eq] at hlay
  obtain ⟨q0, q1, q2, q3, q4, q5⟩ := hlay
  obtain ⟨c1, c2, c3, c4, c5⟩ := hwC
  obtain ⟨m1, m2, m3, m4, m5⟩ := hwM
  refine lv_aload_n hx hb q0 rfl (lv_at hl 1 rfl) ?_
  refine lw_args X hH.2.2 hL hi hl n hn q1 ?_
  have hcall := lw_callC (l := l) (e := e) (below := below) (cells := cells) (slots := slots) (Q := Q) (ls := ls) (pc := pc + 1 + 5 * n) (rest := []) X hH hDC c1 c2 c3 c4 (by rw [lwAs_l]; exact c5) q2 (by decide) hl.1 hce hsl
  rw [lwAs_c] at hcall
  refine hcall (fun H1 locs1 hH1 => ?_)
  show W p l e room_1 s m #[Value.ref b] below meth c H1 locs1 cells slots Q (F0 m (pc + 1 + 5 * n + 3) ls [v])
  refine lv_aload_n hx hb q3 rfl (lv_at hl 2 rfl) ?_
  refine lw_args X hH1.2.2 hL hi hl n hn q4 ?_
  have hcall2 := lw_callM (l := l) (e := e) (below := below) (cells := cells) (slots := slots) (Q := Q) (ls := ls) (pc := pc + 1 + 5 * n + 3 + 1 + 5 * n) (rest := [v]) X hH1 hDM m1 m2 m3 m4 (by rw [lwAs_l]; exact m5) q5 (by simp only [List.map_cons, List.map_nil, List.sum_cons, List.sum_nil]; omega) hl.1 hce hsl
  rw [lwAs_c] at hcall2
  exact hcall2 kk
theorem lw_caseI {n idC idM yC yM i : Nat} {off : Int} {S : Sp} (X : lwX p s m meth c b L xs D cA adC adM) (hH : lwH s D cA adC adM wC wM H locs) (rc : RC wC S) (rm : RM wM S) (hL : L ≤ 384) (hi : i + 6 ≤ L) (hl : lv_has ls 4 [(0, .ref b), (1, .ref (adC 0)), (2, .ref (adM 0)), (3, .int (nI i))]) (hn : n ≤ 5) (hlay : lwLay pc n idC idM = true) (hwC : lwW idC yC 11 n) (hwM : lwW idM yM 12 n)
    (hd : decode code (pc + 1 + 5 * n + 3 + 1 + 5 * n + 3) = .ok (.if_icmp .eq off, 3)) (ht : ((pc + 1 + 5 * n + 3 + 1 + 5 * n + 3 : Nat) : Int) + off = (1195 : Nat)) (hop : OpI yC yM (lwAs xs i n)) (hce : cells ≤ 600000) (hsl : slots ≤ 7302250)
    (kk : ∀ (wC' wM' : am_M) (S' : Sp) (H1 : Heap) (locs1 : List Loc), RC wC' S' → RM wM' S' → lwH s D cA adC adM wC' wM' H1 locs1 → W p l e room_1 s m #[Value.ref b] below meth c H1 locs1 cells slots Q (F0 m 1195 ls [])) :
    W p l e room_1 s m #[Value.ref b] below meth c H locs cells slots Q (F0 m pc ls []) := by
  obtain ⟨r, S', uC, uM, rc', rm', hDC, hDM⟩ := hop S wC wM rc rm
  refine lw_two (by show 1 ≤ 2; omega) X hH hL hi hl hn hlay hwC hwM hDC hDM hce hsl (fun H1 locs1 hH1 => ?_)
  obtain ⟨hx, hb, -⟩ := id X
  exact lv_icmp_eq hx hb hd ht (fun _ => kk uC uM S' H1 locs1 rc' rm' hH1) (fun z => absurd rfl z)
theorem lw_caseJ {n idC idM yC yM i : Nat} {off : Int} {S : Sp} (X : lwX p s m meth c b L xs D cA adC adM) (hH : lwH s D cA adC adM wC wM H locs) (rc : RC wC S) (rm : RM wM S) (hL : L ≤ 384) (hi : i + 6 ≤ L) (hl : lv_has ls 4 [(0, .ref b), (1, .ref (adC 0)), (2, .ref (adM 0)), (3, .int (nI i))]) (hn : n ≤ 5) (hlay : lwLay pc n idC idM = true) (hwC : lwW idC yC 11 n) (hwM : lwW idM yM 12 n)
    (hd0 : decode code (pc + 1 + 5 * n + 3 + 1 + 5 * n + 3) = .ok (.lcmp, 1)) (hd : decode code (pc + 1 + 5 * n + 3 + 1 + 5 * n + 3 + 1) = .ok (.ifCond .eq off, 3)) (ht : ((pc + 1 + 5 * n + 3 + 1 + 5 * n + 3 + 1 : Nat) : Int) + off = (1195 : Nat)) (hop : OpJ yC yM (lwAs xs i n)) (hce : cells ≤ 600000) (hsl : slots ≤ 7302250)
    (kk : ∀ (wC' wM' : am_M) (S' : Sp) (H1 : Heap) (locs1 : List Loc), RC wC' S' → RM wM' S' → lwH s D cA adC adM wC' wM' H1 locs1 → W p l e room_1 s m #[Value.ref b] below meth c H1 locs1 cells slots Q (F0 m 1195 ls [])) :
    W p l e room_1 s m #[Value.ref b] below meth c H locs cells slots Q (F0 m pc ls []) := by
  obtain ⟨r, S', uC, uM, rc', rm', hDC, hDM⟩ := hop S wC wM rc rm
  refine lw_two (by show 2 ≤ 2; omega) X hH hL hi hl hn hlay hwC hwM hDC hDM hce hsl (fun H1 locs1 hH1 => ?_)
  obtain ⟨hx, hb, -⟩ := id X
  refine W.lcmp hx hb hd0 ?_
  exact lv_if_eq hx hb hd ht (fun _ => kk uC uM S' H1 locs1 rc' rm' hH1) (fun z => absurd (show lg_cmp r r = 0 by rw [lg_cmp_eq]) z)
end LWK
