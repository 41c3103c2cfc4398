/-! the people are taken from their text -/
theorem am_glE {sh : List am_S} {mid : Nat} {call : Nat → List Value → am_M → am_O → Prop} {post : am_O → Prop} {pc : Nat} {lv : am_L} {st : List Value} {w : am_M} {v : Int32} {nx tg : Nat} {b n k : Nat} {i : Int32} (he : am_at mid pc = some (.iaload, v, nx, tg)) (hn : am_ln sh b = some n) (hi : i = nI k) (hk : k < n) (hn2 : n < 2 ^ 31) (h : am_R sh mid call post nx (am_kill mid pc lv) (.int (w.1 b k) :: st) w) : am_R sh mid call post pc lv (.int i :: .ref b :: st) w := by
  subst hi
  exact am_glN he hn hk hn2 h
theorem am_topL {sh : List am_S} {mid : Nat} {call : Nat → List Value → am_M → am_O → Prop} {post : am_O → Prop} {pc : Nat} {lv : am_L} {st : List Value} {w : am_M} {x y : Int64} (h : x = y) (k : am_R sh mid call post pc lv (.long y :: st) w) : am_R sh mid call post pc lv (.long x :: st) w := by rw [h]; exact k
theorem nne {a b : Nat} (h : a ≠ b) (ha : a < 2 ^ 31) (hb : b < 2 ^ 31) : ¬ nI a = nI b := fun z => h ((nI_eq ha hb).mp z)
theorem am_f3.rf {a b c : Nat} {w : am_M} : am_f3 a b c w w := ⟨fun _ _ _ _ => rfl, rfl⟩
theorem am_f3.tr {a b c : Nat} {w w' w'' : am_M} (h : am_f3 a b c w w') (h' : am_f3 a b c w' w'') : am_f3 a b c w w'' := ⟨fun k h1 h2 h3 => (h'.1 k h1 h2 h3).trans (h.1 k h1 h2 h3), h'.2.trans h.2⟩
theorem am_f3.pi {a b c k j : Nat} {w w' : am_M} {x : Int32} (h : am_f3 a b c w w') (hk : k = a ∨ k = b ∨ k = c) : am_f3 a b c w (am_pi w' k j x) := ⟨fun e h1 h2 h3 => (am_pi_row (by omega)).trans (h.1 e h1 h2 h3), h.2⟩
/-- the highest figure at a place -/
def hiF (k : Nat) : Nat := if k = 0 then 3 else if k = 1 then 9 else if k = 2 then 7 else if k = 3 then 7 else 5
/-- a person's sign at a place, as a number -/
def figN (k v : Nat) : Option Nat := if k = 6 then (if v = 59 then some 0 else none) else if k = 5 then wayN v else if 48 ≤ v ∧ v ≤ 48 + hiF k then some (v - 48) else none
theorem hiF_at (k : Nat) (h : k < 5) : ([3, 9, 7, 7, 5] : List Int32)[k]? = some (nI (hiF k)) := by
  match k, h with
  | 0, _ => rfl
  | 1, _ => rfl
  | 2, _ => rfl
  | 3, _ => rfl
  | 4, _ => rfl
theorem hiF_le (k : Nat) : hiF k ≤ 9 := by unfold hiF; split; omega; split; omega; split; omega; split; omega; omega
theorem opt_or {α : Type} (o : Option α) : o = none ∨ ∃ a, o = some a := by
  cases o with
  | none => exact Or.inl rfl
  | some a => exact Or.inr ⟨a, rfl⟩
theorem opI_neg {o : Option Nat} (h : ∀ k, o = some k → k < 2 ^ 31) : opI o < 0 ↔ o = none := by
  cases o with
  | none => exact ⟨fun _ => rfl, fun _ => by decide⟩
  | some k => exact ⟨fun z => absurd z (nI_pos (h k rfl)), fun z => by cases z⟩
theorem d_fits {d k v : Nat} {w : am_M} (hd : 5 ≤ d) (hk : k < 7) (hv : v < 256) : am_D shC d mi_X2_fits [.int (nI k), .int (nI v)] w (some (.int (b01 (figN k v).isSome)), w) := by
  refine am_def (by omega) rfl rfl ?_
  iterate 3 refine am_g0 rfl rfl ?_
  by_cases h6 : k = 6
  · refine am_tt (show (nI k : Int32) = 6 from by rw [h6]; rfl) ?_
    iterate 3 refine am_g0 rfl rfl ?_
    by_cases h : v = 59
    · refine am_tt (show (nI v : Int32) = 59 from by rw [h]; rfl) ?_
      iterate 2 refine am_g0 rfl rfl ?_
      refine am_go rfl ?_
      exact ⟨rfl, by unfold figN; rw [if_pos h6, if_pos h]; rfl⟩
    · refine am_ff (show ¬ (nI v : Int32) = 59 from nne (b := 59) h (by omega) (by omega)) ?_
      refine am_go rfl ?_
      refine am_go rfl ?_
      exact ⟨rfl, by unfold figN; rw [if_pos h6, if_neg h]; rfl⟩
  · refine am_ff (show ¬ (nI k : Int32) = 6 from nne (b := 6) h6 (by omega) (by omega)) ?_
    refine am_go rfl ?_
    iterate 2 refine am_g0 rfl rfl ?_
    by_cases h5 : k = 5
    · refine am_tt (show (nI k : Int32) = 5 from by rw [h5]; rfl) ?_
      iterate 3 refine am_g0 rfl rfl ?_
      refine ⟨(some (.int (opI (wayN v))), w), by rw [← idx_way v hv]; exact d_indexOf (S := 1007) (v0 := 11) (l := [110, 101, 115, 119]) (by omega) rfl rfl (by decide) (by decide) hv, ?_⟩
      refine am_to (lv' := [(0, .int (nI k)), (1, .int (nI v))]) (st' := [.int (opI (wayN v))]) (w' := w) rfl rfl rfl ?_
      refine am_g0 rfl rfl ?_
      rcases opt_or (wayN v) with hw | ⟨a, hw⟩
      · refine am_tt (show (opI (wayN v) : Int32) < 0 from by rw [hw]; decide) ?_
        refine am_go rfl ?_
        refine am_go rfl ?_
        exact ⟨rfl, by unfold figN; rw [if_neg h6, if_pos h5, hw]; rfl⟩
      · refine am_ff (show ¬ (opI (wayN v) : Int32) < 0 from by rw [hw]; exact nI_pos (by have := wayN_lt hw; omega)) ?_
        iterate 2 refine am_g0 rfl rfl ?_
        refine am_go rfl ?_
        exact ⟨rfl, by unfold figN; rw [if_neg h6, if_pos h5, hw]; rfl⟩
    · refine am_ff (show ¬ (nI k : Int32) = 5 from nne (b := 5) h5 (by omega) (by omega)) ?_
      refine am_go rfl ?_
      iterate 2 refine am_g0 rfl rfl ?_
      by_cases h : v < 48
      · refine am_tt (show (nI v : Int32) < 48 from nI_lt (b := 48) h (by omega)) ?_
        refine am_go rfl ?_
        refine am_go rfl ?_
        exact ⟨rfl, by unfold figN; rw [if_neg h6, if_neg h5, if_neg (by omega)]; rfl⟩
      · refine am_ff (show ¬ (nI v : Int32) < 48 from nI_nlt (b := 48) (by omega) (by omega)) ?_
        iterate 4 refine am_g0 rfl rfl ?_
        refine am_glS (l := [3, 9, 7, 7, 5]) (x := nI (hiF k)) rfl rfl rfl (hiF_at k (by omega)) (by decide) ?_
        refine am_g0 rfl rfl ?_
        refine am_top (y := nI (48 + hiF k)) (nI_add 48 _) ?_
        refine am_g0 rfl rfl ?_
        have := hiF_le k
        by_cases h2 : 48 + hiF k < v
        · refine am_tt (show (nI (48 + hiF k) : Int32) < (nI v) from nI_lt h2 (by omega)) ?_
          refine am_go rfl ?_
          refine am_go rfl ?_
          exact ⟨rfl, by unfold figN; rw [if_neg h6, if_neg h5, if_neg (by omega)]; rfl⟩
        · refine am_ff (show ¬ (nI (48 + hiF k) : Int32) < (nI v) from nI_nlt (by omega) (by omega)) ?_
          iterate 2 refine am_g0 rfl rfl ?_
          refine am_go rfl ?_
          exact ⟨rfl, by unfold figN; rw [if_neg h6, if_neg h5, if_pos (by omega)]; rfl⟩
/-- the first sign that doesn't fit, of the first n -/
def ppF (b : Nat → Nat) : Nat → Option Nat
  | 0 => none
  | i + 1 => match ppF b i with
    | some f => some f
    | none => match figN (i % 7) (b i) with
      | none => some i
      | some _ => none
theorem ppF_lt {b : Nat → Nat} : ∀ {n f : Nat}, ppF b n = some f → f < n
  | 0, f, h => by cases h
  | n + 1, f, h => by
    rw [ppF] at h
    cases hz : ppF b n with
    | some g => rw [hz] at h; have := ppF_lt hz; cases h; omega
    | none =>
      rw [hz] at h
      dsimp only at h
      cases hf : figN (n % 7) (b n) with
      | none => rw [hf] at h; cases h; omega
      | some x => rw [hf] at h; cases h
theorem ppF_none {b : Nat → Nat} : ∀ {n : Nat}, ppF b n = none → ∀ i, i < n → ∃ x, figN (i % 7) (b i) = some x
  | 0, _, i, hi => absurd hi (Nat.not_lt_zero i)
  | n + 1, h, i, hi => by
    rw [ppF] at h
    cases hz : ppF b n with
    | some g => rw [hz] at h; cases h
    | none =>
      rw [hz] at h
      dsimp only at h
      by_cases e : i = n
      · subst e
        cases hf : figN (i % 7) (b i) with
        | none => rw [hf] at h; cases h
        | some x => exact ⟨x, rfl⟩
      · exact ppF_none hz i (by omega)
theorem ppF_at {b : Nat → Nat} {i : Nat} (h : ppF b i = none) (h2 : figN (i % 7) (b i) = none) : ∀ k, ppF b (i + 1 + k) = some i
  | 0 => by show ppF b (i + 1) = some i; rw [ppF, h]; dsimp only; rw [h2]
  | k + 1 => by rw [show i + 1 + (k + 1) = (i + 1 + k) + 1 by omega, ppF, ppF_at h h2 k]
/-- the fields of a person -/
def pfB (b : Nat → Nat) (p j : Nat) : Nat := if j = 0 then 10 * (b (7 * p) - 48) + (b (7 * p + 1) - 48) else if j = 4 then (match wayN (b (7 * p + 5)) with | some a => a | none => 0) else b (7 * p + 1 + j) - 48
/-- fault, how many, their fields -/
def peopleR (b : Nat → Nat) (n : Nat) : Option Nat × Nat × (Nat → Nat → Nat) := match ppF b n with
  | some f => (some f, 0, fun _ _ => 0)
  | none => if n = 0 then (none, 0, fun _ _ => 0) else if n % 7 = 6 then (none, (n + 1) / 7, pfB b) else (some n, 0, fun _ _ => 0)
theorem fig_b {b : Nat → Nat} {n i k : Nat} (h : ppF b n = none) (hi : i < n) (hk : i % 7 = k) (hk5 : k < 5) : 48 ≤ b i ∧ b i ≤ 48 + hiF k := by
  obtain ⟨x, hx⟩ := ppF_none h i hi
  rw [hk] at hx
  unfold figN at hx
  rw [if_neg (by omega), if_neg (by omega)] at hx
  by_cases z : 48 ≤ b i ∧ b i ≤ 48 + hiF k
  · exact z
  · rw [if_neg z] at hx; cases hx
theorem fig_w {b : Nat → Nat} {n i : Nat} (h : ppF b n = none) (hi : i < n) (hk : i % 7 = 5) : ∃ a, wayN (b i) = some a := by
  obtain ⟨x, hx⟩ := ppF_none h i hi
  rw [hk] at hx
  exact ⟨x, hx⟩
theorem pfB_ok {b : Nat → Nat} {n p : Nat} (h : ppF b n = none) (hp : 7 * p + 6 ≤ n) : pfB b p 0 < 40 ∧ pfB b p 1 < 8 ∧ pfB b p 2 < 8 ∧ pfB b p 3 < 6 ∧ pfB b p 4 < 4 := by
  have h0 := fig_b h (show 7 * p < n by omega) (show (7 * p) % 7 = 0 by omega) (by omega)
  have h1 := fig_b h (show 7 * p + 1 < n by omega) (show (7 * p + 1) % 7 = 1 by omega) (by omega)
  have h2 := fig_b h (show 7 * p + 1 + 1 < n by omega) (show (7 * p + 1 + 1) % 7 = 2 by omega) (by omega)
  have h3 := fig_b h (show 7 * p + 1 + 2 < n by omega) (show (7 * p + 1 + 2) % 7 = 3 by omega) (by omega)
  have h4 := fig_b h (show 7 * p + 1 + 3 < n by omega) (show (7 * p + 1 + 3) % 7 = 4 by omega) (by omega)
  obtain ⟨a, ha⟩ := fig_w h (show 7 * p + 5 < n by omega) (by omega)
  have q0 : hiF 0 = 3 := rfl
  have q1 : hiF 1 = 9 := rfl
  have q2 : hiF 2 = 7 := rfl
  have q3 : hiF 3 = 7 := rfl
  have q4 : hiF 4 = 5 := rfl
  refine ⟨?_, ?_, ?_, ?_, ?_⟩
  · show 10 * (b (7 * p) - 48) + (b (7 * p + 1) - 48) < 40; omega
  · show b (7 * p + 1 + 1) - 48 < 8; omega
  · show b (7 * p + 1 + 2) - 48 < 8; omega
  · show b (7 * p + 1 + 3) - 48 < 6; omega
  · show (match wayN (b (7 * p + 5)) with | some a => a | none => 0) < 4
    rw [ha]
    exact wayN_lt ha
theorem sub48 {v : Nat} (h : 48 ≤ v) : nI v - 48 = nI (v - 48) := pk_sub (b := 48) h
set_option maxHeartbeats 4000000 in
theorem d_take {d n p : Nat} {b : Nat → Nat} {w : am_M} (hd : 5 ≤ d) (hT : cText w 2 n b) (hF : ppF b n = none) (hp : 7 * p + 6 ≤ n) : ∃ o : am_O, (o.1 = none ∧ am_fr 17 w o.2 ∧ (∀ j, j < 5 → o.2.1 17 (5 * p + j) = nI (pfB b p j)) ∧ ∀ i, i < 5 * p → o.2.1 17 i = w.1 17 i) ∧ am_D shC d mi_X2_take [.ref 16, .ref 4, .int (nI p), .int (nI (7 * p))] w o := by
  have hn := hT.2.1
  have h0 := fig_b hF (show 7 * p < n by omega) (show (7 * p) % 7 = 0 by omega) (by omega)
  have h1 := fig_b hF (show 7 * p + 1 < n by omega) (show (7 * p + 1) % 7 = 1 by omega) (by omega)
  have h2 := fig_b hF (show 7 * p + 1 + 1 < n by omega) (show (7 * p + 1 + 1) % 7 = 2 by omega) (by omega)
  have h3 := fig_b hF (show 7 * p + 1 + 2 < n by omega) (show (7 * p + 1 + 2) % 7 = 3 by omega) (by omega)
  have h4 := fig_b hF (show 7 * p + 1 + 3 < n by omega) (show (7 * p + 1 + 3) % 7 = 4 by omega) (by omega)
  obtain ⟨a, ha⟩ := fig_w hF (show 7 * p + 5 < n by omega) (by omega)
  have sg : ∀ m : am_M, cText m 2 n b → ∀ i, i < n → am_D shC (d - 1) mi_X7_signAt [.ref 4, .int (nI i)] m (some (.int (nI (b i))), m) := fun m hm i hi => d_signAt (t := 2) (d := d - 1) (n := n) (by omega) (by omega) hm.1 hi hn (hm.2.2 i hi).1 (hm.2.2 i hi).2
  have fr : ∀ (m : am_M) (k : Nat) (x : Int32), cText m 2 n b → cText (am_pi m 17 k x) 2 n b := fun m k x hm => hm.fr (am_pi_row (by omega)) (am_pi_row (by omega))
  refine am_dex (by omega) rfl rfl ?_
  iterate 3 refine am_g0 rfl rfl ?_
  refine am_top (y := nI (5 * p)) (by rw [show (5 : Int32) = nI 5 from rfl, pk_mul, Nat.mul_comm]) ?_
  iterate 7 refine am_g0 rfl rfl ?_
  refine ⟨(some (.int (nI (b (7 * p)))), w), sg w hT _ (by omega), ?_⟩
  refine am_to (lv' := [(0, .ref 16), (1, .ref 4), (2, .int (nI p)), (3, .int (nI (7 * p))), (4, .int (nI (5 * p)))]) (st' := [.int (nI (b (7 * p))), .int (nI (5 * p)), .ref 17]) (w' := w) rfl rfl rfl ?_
  iterate 2 refine am_g0 rfl rfl ?_
  refine am_top (y := nI (b (7 * p) - 48)) (sub48 h0.1) ?_
  iterate 2 refine am_g0 rfl rfl ?_
  refine am_top (y := nI ((b (7 * p) - 48) * 10)) (pk_mul _ 10) ?_
  iterate 4 refine am_g0 rfl rfl ?_
  refine am_top (y := nI (7 * p + 1)) (nI_1 _) ?_
  refine am_g0 rfl rfl ?_
  refine ⟨(some (.int (nI (b (7 * p + 1)))), w), sg w hT _ (by omega), ?_⟩
  refine am_to (lv' := [(0, .ref 16), (1, .ref 4), (2, .int (nI p)), (3, .int (nI (7 * p))), (4, .int (nI (5 * p)))]) (st' := [.int (nI (b (7 * p + 1))), .int (nI ((b (7 * p) - 48) * 10)), .int (nI (5 * p)), .ref 17]) (w' := w) rfl rfl rfl ?_
  iterate 3 refine am_g0 rfl rfl ?_
  refine am_top (y := nI (pfB b p 0)) (by rw [nI_add]; exact (pk_sub (b := 48) (by omega)).trans (congrArg nI (by show _ = 10 * (b (7 * p) - 48) + (b (7 * p + 1) - 48); omega))) ?_
  refine am_gsN (n := 40) (k := (5 * p)) rfl rfl (by omega) (by decide) ?_
  refine am_to (lv' := [(0, .ref 16), (1, .ref 4), (2, .int (nI p)), (3, .int (nI (7 * p))), (4, .int (nI (5 * p)))]) (st' := []) (w' := am_pi w 17 (5 * p) (nI (pfB b p 0))) rfl rfl rfl ?_
  generalize hA : am_pi w 17 (5 * p) (nI (pfB b p 0)) = m1
  have T1 : cText m1 2 n b := by rw [← hA]; exact fr _ _ _ hT
  iterate 2 refine am_g0 rfl rfl ?_
  refine am_go rfl ?_
  iterate 7 refine am_g0 rfl rfl ?_
  refine am_top (y := nI (5 * p + 1)) (nI_add _ 1) ?_
  iterate 6 refine am_g0 rfl rfl ?_
  refine am_top (y := nI (7 * p + 1 + 1)) (by rw [nI_1, nI_1]) ?_
  refine am_g0 rfl rfl ?_
  refine ⟨(some (.int (nI (b (7 * p + 1 + 1)))), m1), sg m1 T1 _ (by omega), ?_⟩
  refine am_to (lv' := [(0, .ref 16), (1, .ref 4), (3, .int (nI (7 * p))), (4, .int (nI (5 * p))), (5, .int 1)]) (st' := [.int (nI (b (7 * p + 1 + 1))), .int (nI (5 * p + 1)), .ref 17]) (w' := m1) rfl rfl rfl ?_
  iterate 2 refine am_g0 rfl rfl ?_
  refine am_top (y := nI (pfB b p 1)) (sub48 h2.1) ?_
  refine am_gsN (n := 40) (k := (5 * p + 1)) rfl rfl (by omega) (by decide) ?_
  refine am_to (lv' := [(0, .ref 16), (1, .ref 4), (3, .int (nI (7 * p))), (4, .int (nI (5 * p))), (5, .int 1)]) (st' := []) (w' := am_pi m1 17 (5 * p + 1) (nI (pfB b p 1))) rfl rfl rfl ?_
  generalize hB : am_pi m1 17 (5 * p + 1) (nI (pfB b p 1)) = m2
  have T2 : cText m2 2 n b := by rw [← hB]; exact fr _ _ _ T1
  iterate 2 refine am_g0 rfl rfl ?_
  refine am_go rfl ?_
  iterate 7 refine am_g0 rfl rfl ?_
  refine am_top (y := nI (5 * p + 2)) (nI_add _ 2) ?_
  iterate 6 refine am_g0 rfl rfl ?_
  refine am_top (y := nI (7 * p + 1 + 2)) (by rw [nI_1]; exact nI_add _ 2) ?_
  refine am_g0 rfl rfl ?_
  refine ⟨(some (.int (nI (b (7 * p + 1 + 2)))), m2), sg m2 T2 _ (by omega), ?_⟩
  refine am_to (lv' := [(0, .ref 16), (1, .ref 4), (3, .int (nI (7 * p))), (4, .int (nI (5 * p))), (5, .int 2)]) (st' := [.int (nI (b (7 * p + 1 + 2))), .int (nI (5 * p + 2)), .ref 17]) (w' := m2) rfl rfl rfl ?_
  iterate 2 refine am_g0 rfl rfl ?_
  refine am_top (y := nI (pfB b p 2)) (sub48 h3.1) ?_
  refine am_gsN (n := 40) (k := (5 * p + 2)) rfl rfl (by omega) (by decide) ?_
  refine am_to (lv' := [(0, .ref 16), (1, .ref 4), (3, .int (nI (7 * p))), (4, .int (nI (5 * p))), (5, .int 2)]) (st' := []) (w' := am_pi m2 17 (5 * p + 2) (nI (pfB b p 2))) rfl rfl rfl ?_
  generalize hC : am_pi m2 17 (5 * p + 2) (nI (pfB b p 2)) = m3
  have T3 : cText m3 2 n b := by rw [← hC]; exact fr _ _ _ T2
  iterate 2 refine am_g0 rfl rfl ?_
  refine am_go rfl ?_
  iterate 7 refine am_g0 rfl rfl ?_
  refine am_top (y := nI (5 * p + 3)) (nI_add _ 3) ?_
  iterate 6 refine am_g0 rfl rfl ?_
  refine am_top (y := nI (7 * p + 1 + 3)) (by rw [nI_1]; exact nI_add _ 3) ?_
  refine am_g0 rfl rfl ?_
  refine ⟨(some (.int (nI (b (7 * p + 1 + 3)))), m3), sg m3 T3 _ (by omega), ?_⟩
  refine am_to (lv' := [(0, .ref 16), (1, .ref 4), (3, .int (nI (7 * p))), (4, .int (nI (5 * p))), (5, .int 3)]) (st' := [.int (nI (b (7 * p + 1 + 3))), .int (nI (5 * p + 3)), .ref 17]) (w' := m3) rfl rfl rfl ?_
  iterate 2 refine am_g0 rfl rfl ?_
  refine am_top (y := nI (pfB b p 3)) (sub48 h4.1) ?_
  refine am_gsN (n := 40) (k := (5 * p + 3)) rfl rfl (by omega) (by decide) ?_
  refine am_to (lv' := [(0, .ref 16), (1, .ref 4), (3, .int (nI (7 * p))), (4, .int (nI (5 * p))), (5, .int 3)]) (st' := []) (w' := am_pi m3 17 (5 * p + 3) (nI (pfB b p 3))) rfl rfl rfl ?_
  generalize hE : am_pi m3 17 (5 * p + 3) (nI (pfB b p 3)) = m4
  have T4 : cText m4 2 n b := by rw [← hE]; exact fr _ _ _ T3
  iterate 2 refine am_g0 rfl rfl ?_
  refine am_go rfl ?_
  iterate 2 refine am_g0 rfl rfl ?_
  refine am_go rfl ?_
  iterate 6 refine am_g0 rfl rfl ?_
  refine am_top (y := nI (5 * p + 4)) (by rw [show (5 : Int32) = nI 5 from rfl, nI_add]; exact pk_sub (b := 1) (by omega)) ?_
  iterate 5 refine am_g0 rfl rfl ?_
  refine am_top (y := nI (7 * p + 5)) (nI_add _ 5) ?_
  refine am_g0 rfl rfl ?_
  refine ⟨(some (.int (nI (b (7 * p + 5)))), m4), sg m4 T4 _ (by omega), ?_⟩
  refine am_to (lv' := [(0, .ref 16), (1, .ref 4), (3, .int (nI (7 * p))), (4, .int (nI (5 * p)))]) (st' := [.int (nI (b (7 * p + 5))), .ref 1007, .int (nI (5 * p + 4)), .ref 17]) (w' := m4) rfl rfl rfl ?_
  refine am_g0 rfl rfl ?_
  refine ⟨(some (.int (nI (pfB b p 4))), m4), by have := d_indexOf (sh := shC) (w := m4) (d := d - 1) (S := 1007) (v0 := 11) (l := [110, 101, 115, 119]) (by omega) rfl rfl (by decide) (by decide) (T4.2.2 _ (show 7 * p + 5 < n by omega)).2; rw [show ([110, 101, 115, 119] : List Int32).length = 4 from rfl, idx_way _ (T4.2.2 _ (show 7 * p + 5 < n by omega)).2, ha] at this; rw [show pfB b p 4 = a by show (match wayN (b (7 * p + 5)) with | some a => a | none => 0) = a; rw [ha]]; exact this, ?_⟩
  refine am_to (lv' := [(0, .ref 16), (1, .ref 4), (3, .int (nI (7 * p))), (4, .int (nI (5 * p)))]) (st' := [.int (nI (pfB b p 4)), .int (nI (5 * p + 4)), .ref 17]) (w' := m4) rfl rfl rfl ?_
  refine am_gsN (n := 40) (k := (5 * p + 4)) rfl rfl (by omega) (by decide) ?_
  refine am_to (lv' := [(0, .ref 16), (1, .ref 4), (3, .int (nI (7 * p))), (4, .int (nI (5 * p)))]) (st' := []) (w' := am_pi m4 17 (5 * p + 4) (nI (pfB b p 4))) rfl rfl rfl ?_
  refine am_g0 rfl rfl ?_
  refine ⟨rfl, rfl, ?_, fun j hj => ?_, fun i hi => ?_⟩
  · rw [← hE, ← hC, ← hB, ← hA]; exact ((((am_fr.rf.pi).pi).pi).pi).pi
  · rw [← hE, ← hC, ← hB, ← hA]
    rcases (show j = 0 ∨ j = 1 ∨ j = 2 ∨ j = 3 ∨ j = 4 by omega) with e | e | e | e | e <;> subst e
    · rw [am_pi_ne (Or.inr (by omega)), am_pi_ne (Or.inr (by omega)), am_pi_ne (Or.inr (by omega)), am_pi_ne (Or.inr (by omega))]; exact am_pi_at _ _ _ _
    · rw [am_pi_ne (Or.inr (by omega)), am_pi_ne (Or.inr (by omega)), am_pi_ne (Or.inr (by omega)), am_pi_at]
    · rw [am_pi_ne (Or.inr (by omega)), am_pi_ne (Or.inr (by omega)), am_pi_at]
    · rw [am_pi_ne (Or.inr (by omega)), am_pi_at]
    · rw [am_pi_at]
  · rw [← hE, ← hC, ← hB, ← hA]
    rw [am_pi_ne (Or.inr (by omega)), am_pi_ne (Or.inr (by omega)), am_pi_ne (Or.inr (by omega)), am_pi_ne (Or.inr (by omega)), am_pi_ne (Or.inr (by omega))]
set_option maxHeartbeats 4000000 in
theorem d_pload {d n : Nat} {b : Nat → Nat} {w : am_M} (hd : 6 ≤ d) (hT : cText w 2 n b) : ∃ o : am_O, (o.1 = some (.int (opI (peopleR b n).1)) ∧ am_f3 16 17 17 w o.2 ∧ cPeople o.2 (peopleR b n).2.1 (peopleR b n).2.2) ∧ am_D shC d mi_X2_load [.ref 16, .ref 4] w o := by
  have hn := hT.2.1
  refine am_dex (by omega) rfl rfl ?_
  iterate 5 refine am_g0 rfl rfl ?_
  refine am_to (lv' := [(0, .ref 16), (1, .ref 4), (2, .int 7)]) (st' := []) (w' := am_pi w 16 1 0) rfl rfl rfl ?_
  generalize hw0 : am_pi w 16 1 0 = w0
  have f0 : am_f3 16 17 17 w w0 := by rw [← hw0]; exact am_f3.rf.pi (Or.inl rfl)
  have T0 : cText w0 2 n b := hT.fr (f0.1 _ (by omega) (by omega) (by omega)) (f0.1 _ (by omega) (by omega) (by omega))
  have s0 : w0.1 16 1 = nI 0 := by rw [← hw0]; rfl
  have P0 : ∀ f, cPeople w0 0 f := fun f => ⟨s0, by omega, fun p hp => absurd hp (Nat.not_lt_zero p)⟩
  iterate 2 refine am_g0 rfl rfl ?_
  have key : ∀ j i : Nat, i + j = n → ppF b i = none → am_R shC mi_X2_load (am_D shC (d - 1)) (fun o => o.1 = some (.int (opI (peopleR b n).1)) ∧ am_f3 16 17 17 w o.2 ∧ cPeople o.2 (peopleR b n).2.1 (peopleR b n).2.2) 10 [(0, .ref 16), (1, .ref 4), (2, .int 7), (3, .int (nI i))] [] w0 := by
    intro j
    induction j with
    | zero =>
      intro i hi hF
      have e : i = n := by omega
      subst e
      refine am_go rfl ?_
      iterate 3 refine am_g0 rfl rfl ?_
      refine am_tt (show (w0.1 4 2 : Int32) ≤ (nI i) from by rw [show w0.1 4 2 = nI i from T0.1]; exact nI_le (Nat.le_refl _) (by omega)) ?_
      refine am_go rfl ?_
      iterate 2 refine am_g0 rfl rfl ?_
      by_cases hz : i = 0
      · refine am_tt (show (w0.1 4 2 : Int32) = 0 from by rw [show w0.1 4 2 = nI i from T0.1, hz]; rfl) ?_
        iterate 2 refine am_g0 rfl rfl ?_
        have hR : peopleR b i = (none, 0, fun _ _ => 0) := by unfold peopleR; rw [hF]; dsimp only; rw [if_pos hz]
        rw [hR]
        exact ⟨rfl, rfl, f0, P0 _⟩
      · refine am_ff (show ¬ (w0.1 4 2 : Int32) = 0 from by rw [show w0.1 4 2 = nI i from T0.1]; exact nI_ne0 (by omega) (by omega)) ?_
        refine am_go rfl ?_
        iterate 4 refine am_g0 rfl rfl ?_
        refine am_top2 (y := nI (i % 7)) (by rw [show w0.1 4 2 = nI i from T0.1]; exact pk_rem (d := 7) (by omega) (by omega) (by omega)) ?_
        refine am_g0 rfl rfl ?_
        by_cases h6 : i % 7 = 6
        · refine am_tt (show (nI (i % 7) : Int32) = 6 from by rw [h6]; rfl) ?_
          refine am_go rfl ?_
          iterate 6 refine am_g0 rfl rfl ?_
          refine am_top (y := nI ((i + 1) / 7)) (by rw [show w0.1 4 2 = nI i from T0.1, nI_1]; exact pk_div (d := 7) (by omega) (by omega) (by omega)) ?_
          iterate 2 refine am_g0 rfl rfl ?_
          refine am_top (y := nI ((i + 1) / 7)) (by rw [if_neg]; exact nI_nlt (b := (i + 1) / 7) (a := 8) (by omega) (by omega)) ?_
          refine am_g0 rfl rfl ?_
          refine am_to (lv' := [(0, .ref 16), (1, .ref 4), (2, .int 7)]) (st' := []) (w' := am_pi w0 16 1 (nI ((i + 1) / 7))) rfl rfl rfl ?_
          generalize hw1 : am_pi w0 16 1 (nI ((i + 1) / 7)) = w1
          have f1 : am_f3 16 17 17 w w1 := by rw [← hw1]; exact f0.pi (Or.inl rfl)
          have s1 : w1.1 16 1 = nI ((i + 1) / 7) := by rw [← hw1]; exact am_pi_at _ _ _ _
          iterate 2 refine am_g0 rfl rfl ?_
          have hR : peopleR b i = (none, (i + 1) / 7, pfB b) := by unfold peopleR; rw [hF]; dsimp only; rw [if_neg hz, if_pos h6]
          rw [hR]
          have key2 : ∀ j p : Nat, p + j = (i + 1) / 7 → ∀ m : am_M, am_f3 16 17 17 w m → m.1 16 1 = nI ((i + 1) / 7) → (∀ k, k < p → ∀ j, j < 5 → m.1 17 (5 * k + j) = nI (pfB b k j)) → am_R shC mi_X2_load (am_D shC (d - 1)) (fun o => o.1 = some (.int (opI (none, (i + 1) / 7, pfB b).1)) ∧ am_f3 16 17 17 w o.2 ∧ cPeople o.2 ((none : Option Nat), (i + 1) / 7, pfB b).2.1 ((none : Option Nat), (i + 1) / 7, pfB b).2.2) 84 [(0, .ref 16), (1, .ref 4), (2, .int 7), (3, .int (nI p))] [] m := by
            intro j
            induction j with
            | zero =>
              intro p hp m fm sm hm
              refine am_go rfl ?_
              iterate 3 refine am_g0 rfl rfl ?_
              refine am_tt (show (m.1 16 1 : Int32) ≤ (nI p) from by rw [sm]; exact nI_le (by omega) (by omega)) ?_
              refine am_go rfl ?_
              refine am_g0 rfl rfl ?_
              refine ⟨rfl, rfl, fm, sm, by show (i + 1) / 7 ≤ 8; omega, fun k (hk : k < (i + 1) / 7) => ⟨hm k (by omega), pfB_ok hF (by omega)⟩⟩
            | succ j ih =>
              intro p hp m fm sm hm
              refine am_go rfl ?_
              iterate 3 refine am_g0 rfl rfl ?_
              refine am_ff (show ¬ (m.1 16 1 : Int32) ≤ (nI p) from by rw [sm]; exact nI_ge (by omega) (by omega)) ?_
              iterate 6 refine am_g0 rfl rfl ?_
              refine am_top (y := nI (7 * p)) (by rw [show (7 : Int32) = nI 7 from rfl, pk_mul, Nat.mul_comm]) ?_
              refine am_g0 rfl rfl ?_
              obtain ⟨⟨r2, w2⟩, ⟨e2, g1, g2, g3⟩, hD2⟩ := d_take (d := d - 1) (n := i) (b := b) (p := p) (by omega) (hT.fr (fm.1 _ (by omega) (by omega) (by omega)) (fm.1 _ (by omega) (by omega) (by omega))) hF (by omega)
              dsimp only at e2 g1 g2 g3
              subst e2
              refine ⟨(none, w2), hD2, ?_⟩
              refine am_to (lv' := [(0, .ref 16), (1, .ref 4), (2, .int 7), (3, .int (nI p))]) (st' := []) (w' := w2) rfl rfl rfl ?_
              iterate 2 refine am_g0 rfl rfl ?_
              have this := ih (p + 1) (by omega) w2 (fm.tr ⟨fun k h1 h2 h3 => g1.1 k h2, g1.2⟩) (by rw [g1.1 16 (by omega)]; exact sm) (fun k hk j hj => if e : k = p then by rw [e]; exact g2 j hj else by rw [g3 _ (by omega)]; exact hm k (by omega) j hj)
              rw [← nI_1] at this
              exact am_kl this rfl
          exact am_kl (key2 ((i + 1) / 7) 0 (by omega) w1 f1 s1 (fun k hk => absurd hk (Nat.not_lt_zero k))) rfl
        · refine am_ff (show ¬ (nI (i % 7) : Int32) = 6 from nne (b := 6) h6 (by omega) (by omega)) ?_
          iterate 3 refine am_g0 rfl rfl ?_
          have hR : peopleR b i = (some i, 0, fun _ _ => 0) := by unfold peopleR; rw [hF]; dsimp only; rw [if_neg hz, if_neg h6]
          rw [hR, show w0.1 4 2 = nI i from T0.1]
          exact ⟨rfl, rfl, f0, P0 _⟩
    | succ j ih =>
      intro i hi hF
      have hb := T0.2.2 i (by omega)
      refine am_go rfl ?_
      iterate 3 refine am_g0 rfl rfl ?_
      refine am_ff (show ¬ (w0.1 4 2 : Int32) ≤ (nI i) from by rw [show w0.1 4 2 = nI n from T0.1]; exact nI_ge (by omega) (by omega)) ?_
      iterate 3 refine am_g0 rfl rfl ?_
      refine am_top (y := nI (i % 7)) (pk_rem (d := 7) (by omega) (by omega) (by omega)) ?_
      iterate 3 refine am_g0 rfl rfl ?_
      refine ⟨(some (.int (nI (b i))), w0), d_signAt (t := 2) (d := d - 1) (n := n) (by omega) (by omega) T0.1 (by omega) hn hb.1 hb.2, ?_⟩
      refine am_to (lv' := [(0, .ref 16), (1, .ref 4), (2, .int 7), (3, .int (nI i))]) (st' := [.int (nI (b i)), .int (nI (i % 7))]) (w' := w0) rfl rfl rfl ?_
      refine am_g0 rfl rfl ?_
      refine ⟨(some (.int (b01 (figN (i % 7) (b i)).isSome)), w0), d_fits (by omega) (Nat.mod_lt _ (by omega)) hb.2, ?_⟩
      refine am_to (lv' := [(0, .ref 16), (1, .ref 4), (2, .int 7), (3, .int (nI i))]) (st' := [.int (b01 (figN (i % 7) (b i)).isSome)]) (w' := w0) rfl rfl rfl ?_
      refine am_g0 rfl rfl ?_
      rcases opt_or (figN (i % 7) (b i)) with hf | ⟨x, hf⟩
      · refine am_tt (show (b01 (figN (i % 7) (b i)).isSome : Int32) = 0 from by rw [hf]; rfl) ?_
        iterate 2 refine am_g0 rfl rfl ?_
        have hR : peopleR b n = (some i, 0, fun _ _ => 0) := by unfold peopleR; rw [← hi, show i + (j + 1) = i + 1 + j by omega, ppF_at hF hf j]
        rw [hR]
        exact ⟨rfl, rfl, f0, P0 _⟩
      · refine am_ff (show ¬ (b01 (figN (i % 7) (b i)).isSome : Int32) = 0 from by rw [hf]; exact i10) ?_
        refine am_go rfl ?_
        refine am_g0 rfl rfl ?_
        have this := ih (i + 1) (by omega) (by rw [ppF, hF]; dsimp only; rw [hf])
        rw [← nI_1] at this
        exact am_kl this rfl
  exact am_kl (key n 0 (by omega) rfl) rfl
