/-! the town is taken from its text -/
abbrev TS : Type := Nat × Nat × Nat × Nat × (Nat → Nat)
/-- a sign: row, column, width, size, kinds -/
def twStep (v : Nat) (t : TS) : Option TS :=
  if t.1 = 6 then none else
  if v = 59 then (if 0 < t.2.1 ∧ t.2.1 = t.2.2.1 then some (t.1 + 1, 0, t.2.2.1, t.2.2.2.1, t.2.2.2.2) else none)
  else match cellN v with
    | none => none
    | some k => if t.2.1 < (if t.1 = 0 then 6 else t.2.2.1) ∧ t.2.2.2.1 < 36 then some (t.1, t.2.1 + 1, (if t.1 = 0 then t.2.1 + 1 else t.2.2.1), t.2.2.2.1 + 1, fun i => if i = t.2.2.2.1 then k else t.2.2.2.2 i) else none
def tw (b : Nat → Nat) : Nat → Option TS
  | 0 => some (0, 0, 0, 0, fun _ => 0)
  | i + 1 => (tw b i).bind (twStep (b i))
def twF (b : Nat → Nat) : Nat → Option Nat
  | 0 => none
  | i + 1 => match twF b i with
    | some f => some f
    | none => match tw b (i + 1) with
      | none => some i
      | some _ => none
/-- fault, size, width, kinds -/
def townR (b : Nat → Nat) (n : Nat) : Option Nat × Nat × Nat × (Nat → Nat) := match tw b n with
  | none => (twF b n, 0, 0, fun _ => 0)
  | some t => if n = 0 ∨ (0 < t.2.1 ∧ t.2.1 = t.2.2.1) then (none, t.2.2.2.1, t.2.2.1, t.2.2.2.2) else (some n, 0, 0, fun _ => 0)
theorem tw_none {b : Nat → Nat} {i : Nat} (h : tw b i = none) : ∀ k, tw b (i + k) = none
  | 0 => h
  | k + 1 => by rw [show i + (k + 1) = (i + k) + 1 by omega, tw, tw_none h k]; rfl
theorem twF_none {b : Nat → Nat} : ∀ {i : Nat} {t : TS}, tw b i = some t → twF b i = none
  | 0, _, _ => rfl
  | i + 1, t, h => by
    rw [twF]
    cases hz : tw b i with
    | none => rw [tw, hz] at h; cases h
    | some t0 => rw [twF_none hz, h]
theorem twF_at {b : Nat → Nat} {i : Nat} {t : TS} (h : tw b i = some t) (h2 : tw b (i + 1) = none) : ∀ k, twF b (i + 1 + k) = some i
  | 0 => by show twF b (i + 1) = some i; rw [twF, twF_none h, h2]
  | k + 1 => by rw [show i + 1 + (k + 1) = (i + 1 + k) + 1 by omega, twF, twF_at h h2 k]
def twok (t : TS) : Prop := t.1 ≤ 6 ∧ t.2.1 ≤ t.2.2.1 ∧ t.2.2.1 ≤ 6 ∧ t.2.2.2.1 ≤ 36 ∧ t.2.2.2.1 = t.1 * t.2.2.1 + t.2.1 ∧ (t.1 = 0 → t.2.2.1 = t.2.1) ∧ (t.1 ≠ 0 → 1 ≤ t.2.2.1) ∧ ∀ i, i < t.2.2.2.1 → t.2.2.2.2 i < 4
theorem cellN_lt {v k : Nat} (h : cellN v = some k) : k < 4 := by
  unfold cellN at h
  split at h
  · cases h; omega
  · split at h
    · cases h; omega
    · split at h
      · cases h; omega
      · split at h
        · cases h; omega
        · cases h
theorem twok_step {v : Nat} {t t' : TS} (h : twok t) (e : twStep v t = some t') : twok t' := by
  obtain ⟨h1, h2, h3, h4, h5, h6, h7, h8⟩ := h
  obtain ⟨r, c, W, n, K⟩ := t
  dsimp only at h1 h2 h3 h4 h5 h6 h7 h8
  unfold twStep at e
  dsimp only at e
  split at e
  · cases e
  · split at e
    · split at e
      · rename_i hc
        cases e
        have hsz : n = (r + 1) * W + 0 := by rw [h5, hc.2, Nat.succ_mul]; omega
        exact ⟨by show r + 1 ≤ 6; omega, Nat.zero_le _, h3, h4, hsz, fun z => absurd z (by omega), fun _ => by show 1 ≤ W; omega, h8⟩
      · cases e
    · split at e
      · cases e
      · rename_i k hk
        by_cases hc : c < (if r = 0 then 6 else W) ∧ n < 36
        · rw [if_pos hc] at e
          cases e
          have hk4 := cellN_lt hk
          by_cases hr : r = 0
          · subst hr
            have hW := h6 rfl
            rw [if_pos rfl] at hc
            refine ⟨h1, ?_, ?_, by show n + 1 ≤ 36; omega, ?_, fun _ => ?_, fun z => absurd rfl z, fun i hi => ?_⟩
            · show c + 1 ≤ if (0 : Nat) = 0 then c + 1 else W
              rw [if_pos rfl]; omega
            · show (if (0 : Nat) = 0 then c + 1 else W) ≤ 6
              rw [if_pos rfl]; omega
            · show n + 1 = 0 * _ + (c + 1)
              omega
            · show (if (0 : Nat) = 0 then c + 1 else W) = c + 1
              rw [if_pos rfl]
            · show (if i = n then k else K i) < 4
              split
              · exact hk4
              · exact h8 i (by have : i < n + 1 := hi; omega)
          · rw [if_neg hr] at hc
            refine ⟨h1, ?_, ?_, by show n + 1 ≤ 36; omega, ?_, fun z => absurd z hr, fun _ => ?_, fun i hi => ?_⟩
            · show c + 1 ≤ if r = 0 then c + 1 else W
              rw [if_neg hr]; omega
            · show (if r = 0 then c + 1 else W) ≤ 6
              rw [if_neg hr]; exact h3
            · show n + 1 = r * (if r = 0 then c + 1 else W) + (c + 1)
              rw [if_neg hr]; omega
            · show 1 ≤ (if r = 0 then c + 1 else W)
              rw [if_neg hr]; exact h7 hr
            · show (if i = n then k else K i) < 4
              split
              · exact hk4
              · exact h8 i (by have : i < n + 1 := hi; omega)
        · rw [if_neg hc] at e
          cases e
theorem twok_tw {b : Nat → Nat} : ∀ {i : Nat} {t : TS}, tw b i = some t → twok t
  | 0, t, h => by
    cases h
    exact ⟨Nat.zero_le _, Nat.le_refl _, Nat.zero_le _, Nat.zero_le _, rfl, fun _ => rfl, fun z => absurd rfl z, fun i hi => absurd hi (Nat.not_lt_zero i)⟩
  | i + 1, t, h => by
    rw [tw] at h
    cases hz : tw b i with
    | none => rw [hz] at h; cases h
    | some t0 => rw [hz] at h; exact twok_step (twok_tw hz) h
theorem d_isWhole {d c W : Nat} {w : am_M} (hd : 1 ≤ d) (hW : w.1 9 3 = nI W) (hc : c < 100) (hW1 : W < 100) : am_D shC d mi_X8_isWhole [.ref 9, .int (nI c)] w (some (.int (b01 (decide (0 < c ∧ c = W)))), w) := by
  refine am_def hd rfl rfl ?_
  iterate 2 refine am_g0 rfl rfl ?_
  by_cases h : 0 < c
  · refine am_ff (show ¬ nI c ≤ 0 from nI_nle h (by omega)) ?_
    iterate 4 refine am_g0 rfl rfl ?_
    by_cases h2 : c = W
    · refine am_tt (show nI c = w.1 9 3 by rw [hW, h2]) ?_
      iterate 2 refine am_g0 rfl rfl ?_
      refine am_go rfl ?_
      rw [decide_eq_true ⟨h, h2⟩]
      exact ⟨rfl, rfl⟩
    · refine am_ff (show ¬ nI c = w.1 9 3 by rw [hW]; exact fun z => h2 ((nI_eq (by omega) (by omega)).mp z)) ?_
      refine am_go rfl ?_
      refine am_go rfl ?_
      rw [decide_eq_false (fun z => h2 z.2)]
      exact ⟨rfl, rfl⟩
  · refine am_tt (show nI c ≤ 0 from nI_le (b := 0) (by omega) (by omega)) ?_
    refine am_go rfl ?_
    refine am_go rfl ?_
    rw [decide_eq_false (fun z => h z.1)]
    exact ⟨rfl, rfl⟩
theorem d_temptied {d : Nat} {x : Int32} {w : am_M} (hd : 1 ≤ d) : am_D shC d mi_X8_emptied [.ref 9, .int x] w (some (.int x), am_pi (am_pi w 9 2 0) 9 3 0) := by
  refine am_def hd rfl rfl ?_
  iterate 8 refine am_g0 rfl rfl ?_
  exact ⟨rfl, rfl⟩
theorem d_goesOn {d v : Nat} {t : TS} {w : am_M} (hd : 5 ≤ d) (hW : w.1 9 3 = nI t.2.2.1) (hn : w.1 9 2 = nI t.2.2.2.1) (ht : twok t) (hv : v < 256) (h6 : t.1 ≠ 6) : am_D shC d mi_X8_goesOn [.ref 9, .int (nI v), .int (nI t.1), .int (nI t.2.1)] w (some (.int (b01 (twStep v t).isSome)), w) := by
  obtain ⟨r, c, W, n, K⟩ := t
  obtain ⟨h1, h2, h3, h4, -⟩ := ht
  dsimp only at hW hn h1 h2 h3 h4 h6 ⊢
  refine am_def (by omega) rfl rfl ?_
  iterate 3 refine am_g0 rfl rfl ?_
  by_cases h : v = 59
  · refine am_tt (show nI v = 59 by rw [h]; rfl) ?_
    iterate 3 refine am_g0 rfl rfl ?_
    refine ⟨(some (.int (b01 (decide (0 < c ∧ c = W)))), w), d_isWhole (by omega) hW (by omega) (by omega), ?_⟩
    refine am_g0 rfl rfl ?_
    have e : (twStep v (r, c, W, n, K)).isSome = decide (0 < c ∧ c = W) := by
      unfold twStep
      dsimp only
      rw [if_neg h6, if_pos h]
      by_cases hc : 0 < c ∧ c = W
      · rw [if_pos hc, decide_eq_true hc]; rfl
      · rw [if_neg hc, decide_eq_false hc]; rfl
    rw [e]
    refine ⟨?_, rfl⟩
    cases decide (0 < c ∧ c = W) <;> decide
  · refine am_ff (show ¬ nI v = 59 from fun z => h ((nI_eq (b := 59) (by omega) (by omega)).mp z)) ?_
    refine am_go rfl ?_
    iterate 2 refine am_g0 rfl rfl ?_
    have hi := d_indexOf (sh := shC) (w := w) (d := d - 1) (S := 1004) (v0 := 8) (l := [46, 35, 99, 114]) (by omega) rfl rfl (by decide) (by decide) hv
    rw [show ([46, 35, 99, 114] : List Int32).length = 4 from rfl, idx_cell v hv] at hi
    refine ⟨(some (.int (opI (cellN v))), w), hi, ?_⟩
    refine am_to (lv' := [(0, .ref 9), (1, .int (nI v)), (2, .int (nI r)), (3, .int (nI c))]) (st' := [.int (opI (cellN v))]) (w' := w) rfl rfl rfl ?_
    refine am_g0 rfl rfl ?_
    have fin : ∀ lv st, st = [] → (twStep v (r, c, W, n, K)).isSome = false → am_R shC mi_X8_goesOn (am_D shC (d - 1)) (fun x => x = (some (.int (b01 (twStep v (r, c, W, n, K)).isSome)), w)) 51 lv st w := by
      intro lv st hst e
      subst hst
      refine am_go rfl ?_
      refine am_go rfl ?_
      rw [e]
      exact ⟨rfl, rfl⟩
    cases hk : cellN v with
    | none =>
      refine fin _ _ rfl ?_
      unfold twStep
      dsimp only
      rw [if_neg h6, if_neg h, hk]
      rfl
    | some k =>
      have hk4 := cellN_lt hk
      refine am_ff (show ¬ opI (some k) < 0 from nI_pos (by omega)) ?_
      have e : (twStep v (r, c, W, n, K)).isSome = decide (c < (if r = 0 then 6 else W) ∧ n < 36) := by
        unfold twStep
        dsimp only
        rw [if_neg h6, if_neg h, hk]
        dsimp only
        by_cases hc : c < (if r = 0 then 6 else W) ∧ n < 36
        · rw [if_pos hc, decide_eq_true hc]; rfl
        · rw [if_neg hc, decide_eq_false hc]; rfl
      have lim : ∀ L : Nat, L = (if r = 0 then 6 else W) → am_R shC mi_X8_goesOn (am_D shC (d - 1)) (fun x => x = (some (.int (b01 (twStep v (r, c, W, n, K)).isSome)), w)) 35 [(0, .ref 9)] [.int (nI L), .int (nI c)] w := by
        intro L hL
        have hL6 : L ≤ 6 := by rw [hL]; split <;> omega
        rw [← hL] at e
        refine am_go rfl ?_
        by_cases hc : c < L
        · refine am_ff (show ¬ nI L ≤ nI c from nI_ge hc (by omega)) ?_
          iterate 4 refine am_g0 rfl rfl ?_
          by_cases hn2 : n < 36
          · refine am_ff (show ¬ nI 36 ≤ w.1 9 2 by rw [hn]; exact nI_ge hn2 (by omega)) ?_
            iterate 2 refine am_g0 rfl rfl ?_
            refine am_go rfl ?_
            rw [e, decide_eq_true ⟨hc, hn2⟩]
            exact ⟨rfl, rfl⟩
          · refine am_tt (show nI 36 ≤ w.1 9 2 by rw [hn]; exact nI_le (by omega) (by omega)) ?_
            exact fin _ _ rfl (by rw [e, decide_eq_false (fun z => hn2 z.2)])
        · refine am_tt (show nI L ≤ nI c from nI_le (by omega) (by omega)) ?_
          exact fin _ _ rfl (by rw [e, decide_eq_false (fun z => hc z.1)])
      iterate 3 refine am_g0 rfl rfl ?_
      by_cases hr : r = 0
      · refine am_tt (show nI r = 0 by rw [hr]; rfl) ?_
        iterate 2 refine am_g0 rfl rfl ?_
        exact am_kl (lim 6 (by rw [if_pos hr])) rfl
      · refine am_ff (show ¬ nI r = 0 from nI_ne0 (by omega) (by omega)) ?_
        refine am_go rfl ?_
        refine am_g0 rfl rfl ?_
        refine am_top hW ?_
        exact am_kl (lim W (by rw [if_neg hr])) rfl
/-- a text: cell 2+t, bytes 5+t -/
def cText (w : am_M) (t n : Nat) (b : Nat → Nat) : Prop := w.1 (2 + t) 2 = nI n ∧ n ≤ 55 ∧ ∀ i, i < n → w.1 (5 + t) i = nI (b i) ∧ b i < 256
theorem cText.fr {w w' : am_M} {t n : Nat} {b : Nat → Nat} (h : cText w t n b) (e1 : w'.1 (2 + t) = w.1 (2 + t)) (e2 : w'.1 (5 + t) = w.1 (5 + t)) : cText w' t n b := ⟨by rw [e1]; exact h.1, h.2.1, fun i hi => by rw [e2]; exact h.2.2 i hi⟩
set_option maxHeartbeats 4000000 in
theorem d_tload {d n : Nat} {b : Nat → Nat} {w : am_M} (hd : 6 ≤ d) (hT : cText w 0 n b) : ∃ o : am_O, (o.1 = some (.int (opI (townR b n).1)) ∧ am_f3 9 10 11 w o.2 ∧ o.2.1 9 3 = nI (townR b n).2.2.1 ∧ cTown o.2 (townR b n).2.1 (townR b n).2.2.2 (nxS (townR b n).2.1 (townR b n).2.2.1 (townR b n).2.2.2)) ∧ am_D shC d mi_X8_load [.ref 9, .ref 2] w o := by
  obtain ⟨h1, h2, h3⟩ := hT
  refine am_dex (by omega) rfl rfl ?_
  iterate 12 refine am_g0 rfl rfl ?_
  -- a fault: all is taken away
  have bad : ∀ (f : Nat) (m : am_M), am_f3 9 10 11 w m → (townR b n).1 = some f → (townR b n).2.1 = 0 → (townR b n).2.2.1 = 0 → (fun o : am_O => o.1 = some (.int (opI (townR b n).1)) ∧ am_f3 9 10 11 w o.2 ∧ o.2.1 9 3 = nI (townR b n).2.2.1 ∧ cTown o.2 (townR b n).2.1 (townR b n).2.2.2 (nxS (townR b n).2.1 (townR b n).2.2.1 (townR b n).2.2.2)) (some (.int (nI f)), am_pi (am_pi m 9 2 0) 9 3 0) := by
    intro f m hf e1 e2 e3
    refine ⟨by rw [e1]; rfl, ⟨fun k k1 k2 k3 => ?_, hf.2⟩, by rw [e3]; rfl, ?_⟩
    · show (am_pi (am_pi m 9 2 0) 9 3 0).1 k = _
      rw [am_pi_row k1, am_pi_row k1]
      exact hf.1 k k1 k2 k3
    · rw [e2]
      exact ⟨rfl, Nat.zero_le _, fun c hc => absurd hc (Nat.not_lt_zero c), fun c hc => absurd hc (Nat.not_lt_zero c)⟩
  have key : ∀ j i : Nat, i + j = n → ∀ (t : TS) (m : am_M), tw b i = some t → am_f3 9 10 11 w m → m.1 9 2 = nI t.2.2.2.1 → m.1 9 3 = nI t.2.2.1 → (∀ k, k < t.2.2.2.1 → m.1 10 k = nI (t.2.2.2.2 k)) → am_R shC mi_X8_load (am_D shC (d - 1)) (fun o => o.1 = some (.int (opI (townR b n).1)) ∧ am_f3 9 10 11 w o.2 ∧ o.2.1 9 3 = nI (townR b n).2.2.1 ∧ cTown o.2 (townR b n).2.1 (townR b n).2.2.2 (nxS (townR b n).2.1 (townR b n).2.2.1 (townR b n).2.2.2)) 17 [(0, .ref 9), (1, .ref 2), (2, .int (nI t.1)), (3, .int (nI t.2.1)), (4, .int (nI i))] [] m := by
    intro j
    induction j with
    | zero =>
      intro i hi t m ht hf hn hW hk
      have hok := twok_tw ht
      have e9 : i = n := by omega
      subst e9
      have hlen : m.1 2 2 = nI i := by rw [hf.1 2 (by omega) (by omega) (by omega)]; exact h1
      refine am_go rfl ?_
      iterate 3 refine am_g0 rfl rfl ?_
      refine am_tt (show m.1 2 2 ≤ nI i by rw [hlen]; exact nI_le (Nat.le_refl _) (by omega)) ?_
      refine am_to (lv' := [(0, .ref 9), (1, .ref 2), (2, .int (nI t.1)), (3, .int (nI t.2.1)), (4, .int (nI i))]) (st' := []) (w' := m) rfl rfl rfl ?_
      -- the town stands
      have good : (i = 0 ∨ (0 < t.2.1 ∧ t.2.1 = t.2.2.1)) → am_R shC mi_X8_load (am_D shC (d - 1)) (fun o => o.1 = some (.int (opI (townR b i).1)) ∧ am_f3 9 10 11 w o.2 ∧ o.2.1 9 3 = nI (townR b i).2.2.1 ∧ cTown o.2 (townR b i).2.1 (townR b i).2.2.2 (nxS (townR b i).2.1 (townR b i).2.2.1 (townR b i).2.2.2)) 148 [(0, .ref 9)] [] m := by
        intro hg
        have hR : townR b i = (none, t.2.2.2.1, t.2.2.1, t.2.2.2.2) := by unfold townR; rw [ht]; dsimp only; rw [if_pos hg]
        rw [hR]
        obtain ⟨r, c, W, s, K⟩ := t
        obtain ⟨k1, k2, k3, k4, k5, k6, k7, k8⟩ := hok
        dsimp only at hn hW hk k1 k2 k3 k4 k5 k6 k7 k8 hg ⊢
        have hKm : cKinds m s K := ⟨hn, k4, fun c hc => ⟨hk c hc, k8 c hc⟩⟩
        have hrs : ∃ r', s = r' * W := by
          rcases hg with z | z
          · subst z
            have : (0, 0, 0, 0, fun _ => 0) = (r, c, W, s, K) := Option.some.inj ht
            cases this
            exact ⟨0, rfl⟩
          · exact ⟨r + 1, by rw [k5, z.2, Nat.succ_mul]⟩
        obtain ⟨r', hr'⟩ := hrs
        have hWp : s ≠ 0 → 1 ≤ W := by
          intro z
          rcases Nat.eq_zero_or_pos W with y | y
          · rw [y, Nat.mul_zero] at hr'; exact absurd hr' z
          · exact y
        obtain ⟨⟨r1, w1⟩, ⟨e1, f1, g1⟩, hD⟩ := d_layWays (d := d - 1) (by omega) hKm hW hWp k3 hr'
        dsimp only at e1 f1 g1
        subst e1
        refine am_go rfl ?_
        refine am_g0 rfl rfl ?_
        refine ⟨(none, w1), hD, ?_⟩
        iterate 2 refine am_g0 rfl rfl ?_
        refine ⟨rfl, rfl, ⟨fun k q1 q2 q3 => (f1.1 k q3).trans (hf.1 k q1 q2 q3), f1.2.trans hf.2⟩, ?_, ?_, k4, fun c hc => ?_, fun c hc a ha => ?_⟩
        · show w1.1 9 3 = nI W
          rw [f1.1 9 (by omega)]; exact hW
        · show w1.1 9 2 = nI s
          rw [f1.1 9 (by omega)]; exact hn
        · show w1.1 10 c = nI (K c) ∧ K c < 4
          rw [f1.1 10 (by omega)]; exact ⟨hk c hc, k8 c hc⟩
        · have hWc := hWp (by omega)
          have hto : toS s W c a < s := by
            unfold toS
            split
            · split <;> omega
            · split
              · split
                · rename_i hm
                  rcases Nat.lt_or_ge (c + 1) s with z | z
                  · exact z
                  · have e : c + 1 = r' * W := by omega
                    have e2 : (c + 1) % W = 0 := by rw [e]; exact Nat.mul_mod_left _ _
                    rw [modS hWc, if_pos hm] at e2
                    omega
                · exact hc
              · split
                · split
                  · assumption
                  · exact hc
                · split <;> omega
          refine ⟨g1 c hc a ha, ?_, fun hz => ?_⟩
          · unfold nxS; split
            · exact hc
            · exact hto
          · unfold nxS; split
            · exact hz
            · assumption
      refine am_go rfl ?_
      iterate 2 refine am_g0 rfl rfl ?_
      by_cases hi0 : i = 0
      · refine am_tt (show m.1 2 2 ≤ 0 by rw [hlen, hi0]; decide) ?_
        exact am_kl (good (Or.inl hi0)) rfl
      · refine am_ff (show ¬ m.1 2 2 ≤ 0 by rw [hlen]; exact nI_nle (by omega) (by omega)) ?_
        iterate 3 refine am_g0 rfl rfl ?_
        have hwh := d_isWhole (d := d - 1) (c := t.2.1) (W := t.2.2.1) (w := m) (by omega) hW (by have := hok.2.1; have := hok.2.2.1; omega) (by have := hok.2.2.1; omega)
        by_cases hc : 0 < t.2.1 ∧ t.2.1 = t.2.2.1
        · rw [decide_eq_true hc] at hwh
          refine ⟨(some (.int 1), m), hwh, ?_⟩
          refine am_g0 rfl rfl ?_
          exact am_kl (good (Or.inr hc)) rfl
        · rw [decide_eq_false hc] at hwh
          refine ⟨(some (.int 0), m), hwh, ?_⟩
          refine am_to (lv' := [(0, .ref 9), (1, .ref 2), (3, .int (nI t.2.1))]) (st' := [.int 0]) (w' := m) rfl rfl rfl ?_
          iterate 5 refine am_g0 rfl rfl ?_
          rw [hlen]
          refine ⟨(some (.int (nI i)), am_pi (am_pi m 9 2 0) 9 3 0), d_temptied (by omega), ?_⟩
          refine am_g0 rfl rfl ?_
          have hR : townR b i = (some i, 0, 0, fun _ => 0) := by unfold townR; rw [ht]; dsimp only; rw [if_neg (fun z => z.elim hi0 hc)]
          exact ⟨rfl, bad i m hf (by rw [hR]) (by rw [hR]) (by rw [hR])⟩
    | succ j ih =>
      intro i hi t m ht hf hn hW hk
      have hok := twok_tw ht
      have hlen : m.1 2 2 = nI n := by rw [hf.1 2 (by omega) (by omega) (by omega)]; exact h1
      obtain ⟨b1, b2⟩ := h3 i (by omega)
      have b1' : m.1 5 i = nI (b i) := by rw [hf.1 5 (by omega) (by omega) (by omega)]; exact b1
      refine am_go rfl ?_
      iterate 3 refine am_g0 rfl rfl ?_
      refine am_ff (show ¬ m.1 2 2 ≤ nI i by rw [hlen]; exact nI_ge (by omega) (by omega)) ?_
      refine am_to (lv' := [(0, .ref 9), (1, .ref 2), (2, .int (nI t.1)), (3, .int (nI t.2.1)), (4, .int (nI i))]) (st' := []) (w' := m) rfl rfl rfl ?_
      iterate 3 refine am_g0 rfl rfl ?_
      refine ⟨(some (.int (nI (b i))), m), d_signAt (t := 0) (d := d - 1) (n := n) (by omega) (by omega) hlen (by omega) h2 b1' b2, ?_⟩
      refine am_to (lv' := [(0, .ref 9), (1, .ref 2), (2, .int (nI t.1)), (3, .int (nI t.2.1)), (4, .int (nI i))]) (st' := [.int (nI (b i))]) (w' := m) rfl rfl rfl ?_
      iterate 4 refine am_g0 rfl rfl ?_
      -- a fault here
      have fault : twStep (b i) t = none → ∀ lv, am_kill mi_X8_load 51 lv = [(0, .ref 9), (4, .int (nI i))] → am_R shC mi_X8_load (am_D shC (d - 1)) (fun o => o.1 = some (.int (opI (townR b n).1)) ∧ am_f3 9 10 11 w o.2 ∧ o.2.1 9 3 = nI (townR b n).2.2.1 ∧ cTown o.2 (townR b n).2.1 (townR b n).2.2.2 (nxS (townR b n).2.1 (townR b n).2.2.1 (townR b n).2.2.2)) 51 lv [] m := by
        intro hst lv hlv
        refine am_kl (lv' := [(0, .ref 9), (4, .int (nI i))]) ?_ hlv
        have hn1 : tw b (i + 1) = none := by rw [tw, ht]; exact hst
        have hnn : tw b n = none := by rw [← hi, show i + (j + 1) = i + 1 + j by omega]; exact tw_none hn1 j
        have hFF : twF b n = some i := by rw [← hi, show i + (j + 1) = i + 1 + j by omega]; exact twF_at ht hn1 j
        have hR : townR b n = (some i, 0, 0, fun _ => 0) := by unfold townR; rw [hnn]; dsimp only; rw [hFF]
        refine am_go rfl ?_
        iterate 2 refine am_g0 rfl rfl ?_
        refine ⟨(some (.int (nI i)), am_pi (am_pi m 9 2 0) 9 3 0), d_temptied (by omega), ?_⟩
        refine am_g0 rfl rfl ?_
        exact ⟨rfl, bad i m hf (by rw [hR]) (by rw [hR]) (by rw [hR])⟩
      by_cases h6 : t.1 = 6
      · refine am_tt (show nI t.1 = 6 by rw [h6]; rfl) ?_
        exact fault (by unfold twStep; rw [if_pos h6]) _ rfl
      · refine am_ff (show ¬ nI t.1 = 6 from fun z => h6 ((nI_eq (b := 6) (by have := hok.1; omega) (by omega)).mp z)) ?_
        iterate 5 refine am_g0 rfl rfl ?_
        have hgo := d_goesOn (d := d - 1) (by omega) hW hn hok b2 h6
        cases hst : twStep (b i) t with
        | none =>
          rw [hst] at hgo
          refine ⟨(some (.int 0), m), hgo, ?_⟩
          refine am_to (lv' := [(0, .ref 9), (1, .ref 2), (2, .int (nI t.1)), (3, .int (nI t.2.1)), (4, .int (nI i)), (5, .int (nI (b i)))]) (st' := [.int 0]) (w' := m) rfl rfl rfl ?_
          refine am_g0 rfl rfl ?_
          exact fault hst _ rfl
        | some t' =>
          rw [hst] at hgo
          refine ⟨(some (.int 1), m), hgo, ?_⟩
          refine am_to (lv' := [(0, .ref 9), (1, .ref 2), (2, .int (nI t.1)), (3, .int (nI t.2.1)), (4, .int (nI i)), (5, .int (nI (b i)))]) (st' := [.int 1]) (w' := m) rfl rfl rfl ?_
          have ht' : tw b (i + 1) = some t' := by rw [tw, ht]; exact hst
          obtain ⟨r, c, W, s, K⟩ := t
          obtain ⟨k1, k2, k3, k4, k5, k6, k7, k8⟩ := hok
          dsimp only at hn hW hk k1 k2 k3 k4 k5 k6 k7 k8 h6 ⊢
          unfold twStep at hst
          dsimp only at hst
          rw [if_neg h6] at hst
          refine am_g0 rfl rfl ?_
          refine am_go rfl ?_
          iterate 2 refine am_g0 rfl rfl ?_
          by_cases h59 : b i = 59
          · rw [if_pos h59] at hst
            refine am_tt (show nI (b i) = 59 by rw [h59]; rfl) ?_
            iterate 4 refine am_g0 rfl rfl ?_
            refine am_go rfl ?_
            refine am_g0 rfl rfl ?_
            split at hst
            · cases hst
              have := ih (i + 1) (by omega) _ m ht' hf hn hW hk
              dsimp only at this
              rw [← nI_1, ← nI_1] at this
              exact am_kl this rfl
            · cases hst
          · rw [if_neg h59] at hst
            refine am_ff (show ¬ nI (b i) = 59 from fun z => h59 ((nI_eq (b := 59) (by omega) (by omega)).mp z)) ?_
            refine am_to (lv' := [(0, .ref 9), (1, .ref 2), (2, .int (nI r)), (3, .int (nI c)), (4, .int (nI i)), (5, .int (nI (b i)))]) (st' := []) (w' := m) rfl rfl rfl ?_
            refine am_go rfl ?_
            iterate 6 refine am_g0 rfl rfl ?_
            have hidx := d_indexOf (sh := shC) (w := m) (d := d - 1) (S := 1004) (v0 := 8) (l := [46, 35, 99, 114]) (by omega) rfl rfl (by decide) (by decide) b2
            rw [show ([46, 35, 99, 114] : List Int32).length = 4 from rfl, idx_cell (b i) b2] at hidx
            cases hk2 : cellN (b i) with
            | none => rw [hk2] at hst; cases hst
            | some k =>
              rw [hk2] at hst hidx
              dsimp only at hst
              by_cases hc : c < (if r = 0 then 6 else W) ∧ s < 36
              · rw [if_pos hc] at hst
                cases hst
                refine ⟨(some (.int (nI k)), m), hidx, ?_⟩
                refine am_to (lv' := [(0, .ref 9), (1, .ref 2), (2, .int (nI r)), (3, .int (nI c)), (4, .int (nI i)), (5, .int (nI (b i)))]) (st' := [.int (nI k), .int (nI s), .ref 10]) (w' := m) rfl (by show [_, Value.int (m.1 9 2), _] = _; rw [hn]) rfl ?_
                refine am_gsN (n := 36) rfl rfl hc.2 (by decide) ?_
                refine am_to (lv' := [(0, .ref 9), (1, .ref 2), (2, .int (nI r)), (3, .int (nI c)), (4, .int (nI i)), (5, .int (nI (b i)))]) (st' := []) (w' := am_pi m 10 s (nI k)) rfl rfl rfl ?_
                iterate 5 refine am_g0 rfl rfl ?_
                refine am_top (y := nI (s + 1)) (show m.1 9 2 + 1 = nI (s + 1) by rw [hn, nI_1]) ?_
                iterate 3 refine am_g0 rfl rfl ?_
                refine am_to (lv' := [(0, .ref 9), (1, .ref 2), (2, .int (nI r)), (3, .int (nI c + 1)), (4, .int (nI i)), (5, .int (nI (b i)))]) (st' := [.ref 9]) (w' := am_pi (am_pi m 10 s (nI k)) 9 2 (nI (s + 1))) rfl rfl rfl ?_
                have wid : ∀ x : Int32, x = nI (if r = 0 then c + 1 else W) → am_R shC mi_X8_load (am_D shC (d - 1)) (fun o => o.1 = some (.int (opI (townR b n).1)) ∧ am_f3 9 10 11 w o.2 ∧ o.2.1 9 3 = nI (townR b n).2.2.1 ∧ cTown o.2 (townR b n).2.1 (townR b n).2.2.2 (nxS (townR b n).2.1 (townR b n).2.2.1 (townR b n).2.2.2)) 115 [(0, .ref 9), (1, .ref 2), (2, .int (nI r)), (3, .int (nI c + 1)), (4, .int (nI i))] [.int x, .ref 9] (am_pi (am_pi m 10 s (nI k)) 9 2 (nI (s + 1))) := by
                  intro x hx
                  subst hx
                  refine am_go rfl ?_
                  refine am_go rfl ?_
                  refine am_g0 rfl rfl ?_
                  have := ih (i + 1) (by omega) _ (am_pi (am_pi (am_pi m 10 s (nI k)) 9 2 (nI (s + 1))) 9 3 (nI (if r = 0 then c + 1 else W))) ht' ⟨fun a q1 q2 q3 => ?_, hf.2⟩ rfl rfl (fun q hq => ?_)
                  · dsimp only at this
                    rw [← nI_1, ← nI_1] at this
                    exact am_kl this rfl
                  · rw [am_pi_row q1, am_pi_row q1, am_pi_row q2]
                    exact hf.1 a q1 q2 q3
                  · rw [am_pi_row (show 10 ≠ 9 by omega), am_pi_row (show 10 ≠ 9 by omega)]
                    show (am_pi m 10 s (nI k)).1 10 q = nI (if q = s then k else K q)
                    by_cases hqs : q = s
                    · subst hqs; rw [am_pi_at, if_pos rfl]
                    · rw [am_pi_ne (Or.inr hqs), if_neg hqs]
                      exact hk q (by have : q < s + 1 := hq; omega)
                iterate 2 refine am_g0 rfl rfl ?_
                by_cases hr : r = 0
                · refine am_tt (show nI r = 0 by rw [hr]; rfl) ?_
                  iterate 2 refine am_g0 rfl rfl ?_
                  exact am_kl (wid _ (by rw [if_pos hr, nI_1])) rfl
                · refine am_ff (show ¬ nI r = 0 from nI_ne0 (by omega) (by omega)) ?_
                  refine am_go rfl ?_
                  refine am_g0 rfl rfl ?_
                  exact am_kl (wid (m.1 9 3) (by rw [if_neg hr]; exact hW)) rfl
              · rw [if_neg hc] at hst
                cases hst
  exact am_kl (key n 0 (by omega) (0, 0, 0, 0, fun _ => 0) (am_pi (am_pi w 9 2 0) 9 3 0) rfl ⟨fun k q1 q2 q3 => by rw [am_pi_row q1, am_pi_row q1], rfl⟩ rfl rfl (fun k hk => absurd hk (Nat.not_lt_zero k))) rfl
