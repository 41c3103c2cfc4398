/-! the lasts are taken from their text -/
/-- opens, how many before, kinds, lengths, letters -/
abbrev LaS : Type := Bool × Nat × (Nat → Nat) × (Nat → Nat) × (Nat → Nat → Nat)
def up1 (f : Nat → Nat) (k v : Nat) : Nat → Nat := fun i => if i = k then v else f i
def up2 (f : Nat → Nat → Nat) (k j v : Nat) : Nat → Nat → Nat := fun a b => if a = k ∧ b = j then v else f a b
def lsStep (v : Nat) (t : LaS) : Option LaS :=
  if t.1 = true then (match kindN v with
    | none => none
    | some k => if t.2.1 < 8 then some (false, t.2.1, up1 t.2.2.1 t.2.1 k, up1 t.2.2.2.1 t.2.1 0, t.2.2.2.2) else none)
  else if v = 59 then (if t.2.2.2.1 t.2.1 = 0 then none else some (true, t.2.1 + 1, t.2.2.1, t.2.2.2.1, t.2.2.2.2))
  else match wayN v with
    | none => none
    | some a => if t.2.2.2.1 t.2.1 < 4 then some (false, t.2.1, t.2.2.1, up1 t.2.2.2.1 t.2.1 (t.2.2.2.1 t.2.1 + 1), up2 t.2.2.2.2 t.2.1 (t.2.2.2.1 t.2.1) a) else none
def lsB (b : Nat → Nat) : Nat → Option LaS
  | 0 => some (true, 0, fun _ => 0, fun _ => 0, fun _ _ => 0)
  | i + 1 => (lsB b i).bind (lsStep (b i))
def lsF (b : Nat → Nat) : Nat → Option Nat
  | 0 => none
  | i + 1 => match lsF b i with
    | some f => some f
    | none => match lsB b (i + 1) with
      | none => some i
      | some _ => none
/-- fault, how many, kinds, lengths, letters -/
def lastsR (b : Nat → Nat) (n : Nat) : Option Nat × Nat × (Nat → Nat) × (Nat → Nat) × (Nat → Nat → Nat) := match lsB b n with
  | none => (lsF b n, 0, fun _ => 0, fun _ => 0, fun _ _ => 0)
  | some t => if n = 0 then (none, 0, fun _ => 0, fun _ => 0, fun _ _ => 0) else if t.1 = true ∨ t.2.2.2.1 t.2.1 = 0 then (some n, 0, fun _ => 0, fun _ => 0, fun _ _ => 0) else (none, t.2.1 + 1, t.2.2.1, t.2.2.2.1, t.2.2.2.2)
theorem ls_none {b : Nat → Nat} {i : Nat} (h : lsB b i = none) : ∀ k, lsB b (i + k) = none
  | 0 => h
  | k + 1 => by rw [show i + (k + 1) = (i + k) + 1 by omega, lsB, ls_none h k]; rfl
theorem lsF_none {b : Nat → Nat} : ∀ {i : Nat} {t : LaS}, lsB b i = some t → lsF b i = none
  | 0, _, _ => rfl
  | i + 1, t, h => by
    rw [lsF]
    cases hz : lsB b i with
    | none => rw [lsB, hz] at h; cases h
    | some t0 => rw [lsF_none hz, h]
theorem lsF_at {b : Nat → Nat} {i : Nat} {t : LaS} (h : lsB b i = some t) (h2 : lsB b (i + 1) = none) : ∀ k, lsF b (i + 1 + k) = some i
  | 0 => by show lsF b (i + 1) = some i; rw [lsF, lsF_none h, h2]
  | k + 1 => by rw [show i + 1 + (k + 1) = (i + 1 + k) + 1 by omega, lsF, lsF_at h h2 k]
/-- how many are begun -/
def lsM (t : LaS) : Nat := if t.1 = true then t.2.1 else t.2.1 + 1
def lsok (t : LaS) : Prop := lsM t ≤ 8 ∧ (∀ l, l < lsM t → t.2.2.1 l < 3 ∧ t.2.2.2.1 l ≤ 4 ∧ ∀ j, j < t.2.2.2.1 l → t.2.2.2.2 l j < 4) ∧ ∀ l, l < t.2.1 → 1 ≤ t.2.2.2.1 l
theorem kindN_lt {v k : Nat} (h : kindN v = some k) : k < 3 := by
  unfold kindN at h
  split at h
  · cases h; omega
  · split at h
    · cases h; omega
    · split at h
      · cases h; omega
      · cases h
theorem wayN_lt {v k : Nat} (h : wayN v = some k) : k < 4 := by
  unfold wayN at h
  split at h
  · cases h; omega
  · split at h
    · cases h; omega
    · split at h
      · cases h; omega
      · split at h
        · cases h; omega
        · cases h
theorem lsok_step {v : Nat} {t t' : LaS} (h : lsok t) (e : lsStep v t = some t') : lsok t' := by
  obtain ⟨op, m, kd, ln, lt⟩ := t
  obtain ⟨h1, h2, h3⟩ := h
  dsimp only at h1 h2 h3
  unfold lsStep at e
  dsimp only at e
  cases op with
  | true =>
    rw [if_pos rfl] at e
    have hM : lsM (true, m, kd, ln, lt) = m := rfl
    rw [hM] at h1 h2
    cases hk : kindN v with
    | none => rw [hk] at e; cases e
    | some k =>
      rw [hk] at e
      dsimp only at e
      by_cases hm : m < 8
      · rw [if_pos hm] at e
        cases e
        refine ⟨by show m + 1 ≤ 8; omega, fun l hl => ?_, fun l hl => ?_⟩
        · have hl : l < m + 1 := hl
          show up1 kd m k l < 3 ∧ up1 ln m 0 l ≤ 4 ∧ ∀ j, j < up1 ln m 0 l → lt l j < 4
          unfold up1
          by_cases he : l = m
          · rw [if_pos he, if_pos he]
            exact ⟨kindN_lt hk, by omega, fun j hj => absurd hj (Nat.not_lt_zero j)⟩
          · rw [if_neg he, if_neg he]
            exact h2 l (by omega)
        · have hl : l < m := hl
          show 1 ≤ up1 ln m 0 l
          unfold up1
          rw [if_neg (by omega)]
          exact h3 l hl
      · rw [if_neg hm] at e; cases e
  | false =>
    rw [if_neg (by decide)] at e
    have hM : lsM (false, m, kd, ln, lt) = m + 1 := rfl
    rw [hM] at h1 h2
    by_cases h59 : v = 59
    · rw [if_pos h59] at e
      by_cases hz : ln m = 0
      · rw [if_pos hz] at e; cases e
      · rw [if_neg hz] at e
        cases e
        refine ⟨h1, h2, fun l hl => ?_⟩
        have hl : l < m + 1 := hl
        by_cases he : l = m
        · subst he; show 1 ≤ ln l; omega
        · exact h3 l (by omega)
    · rw [if_neg h59] at e
      cases hk : wayN v with
      | none => rw [hk] at e; cases e
      | some a =>
        rw [hk] at e
        dsimp only at e
        by_cases hm : ln m < 4
        · rw [if_pos hm] at e
          cases e
          refine ⟨h1, fun l hl => ?_, fun l hl => ?_⟩
          · have hl : l < m + 1 := hl
            obtain ⟨g1, g2, g3⟩ := h2 l hl
            show kd l < 3 ∧ up1 ln m (ln m + 1) l ≤ 4 ∧ ∀ j, j < up1 ln m (ln m + 1) l → up2 lt m (ln m) a l j < 4
            unfold up1 up2
            by_cases he : l = m
            · subst he
              rw [if_pos rfl]
              refine ⟨g1, by omega, fun j hj => ?_⟩
              by_cases hj2 : j = ln l
              · rw [if_pos ⟨rfl, hj2⟩]; exact wayN_lt hk
              · rw [if_neg (fun z => hj2 z.2)]; exact g3 j (by omega)
            · rw [if_neg he]
              refine ⟨g1, g2, fun j hj => ?_⟩
              rw [if_neg (fun z => he z.1)]
              exact g3 j hj
          · have hl : l < m := hl
            show 1 ≤ up1 ln m (ln m + 1) l
            unfold up1
            rw [if_neg (by omega)]
            exact h3 l hl
        · rw [if_neg hm] at e; cases e
theorem lsok_ls {b : Nat → Nat} : ∀ {i : Nat} {t : LaS}, lsB b i = some t → lsok t
  | 0, t, h => by
    cases h
    exact ⟨Nat.zero_le _, fun l hl => absurd hl (Nat.not_lt_zero l), fun l hl => absurd hl (Nat.not_lt_zero l)⟩
  | i + 1, t, h => by
    rw [lsB] at h
    cases hz : lsB b i with
    | none => rw [hz] at h; cases h
    | some t0 => rw [hz] at h; exact lsok_step (lsok_ls hz) h
/-- the cells hold what is begun -/
def cLs (w : am_M) (t : LaS) : Prop := w.1 12 3 = nI t.2.1 ∧ ∀ l, l < lsM t → w.1 13 l = nI (t.2.2.1 l) ∧ w.1 14 l = nI (t.2.2.2.1 l) ∧ ∀ j, j < t.2.2.2.1 l → w.1 15 (4 * l + j) = nI (t.2.2.2.2 l j)
def am_fl (w w' : am_M) : Prop := (∀ k, k < 12 ∨ 16 ≤ k → w'.1 k = w.1 k) ∧ w'.2 = w.2
theorem am_fl.pi {w w' : am_M} {k j : Nat} {x : Int32} (h : am_fl w w') (hk : 12 ≤ k) (hk2 : k < 16) : am_fl w (am_pi w' k j x) := ⟨fun a ha => (am_pi_row (by omega)).trans (h.1 a ha), h.2⟩
theorem d_lemptied {d : Nat} {x : Int32} {w : am_M} (hd : 1 ≤ d) : am_D shC d mi_X0_emptied [.ref 12, .int x] w (some (.int x), am_pi w 12 3 0) := by
  refine am_def hd rfl rfl ?_
  iterate 5 refine am_g0 rfl rfl ?_
  exact ⟨rfl, rfl⟩
theorem d_opensLast {d v : Nat} {t : LaS} {w : am_M} (hd : 5 ≤ d) (ht : t.1 = true) (hc : cLs w t) (hok : lsok t) (hv : v < 256) : ∃ o : am_O, (o.1 = some (.int (b01 (lsStep v t).isSome)) ∧ am_fl w o.2 ∧ ∀ t', lsStep v t = some t' → cLs o.2 t') ∧ am_D shC d mi_X0_opensLast [.ref 12, .int (nI v)] w o := by
  obtain ⟨op, m, kd, ln, lt⟩ := t
  dsimp only at ht
  subst ht
  obtain ⟨h1, h2, h3⟩ := hok
  obtain ⟨c1, c2⟩ := hc
  have hM : lsM (true, m, kd, ln, lt) = m := rfl
  rw [hM] at h1 h2 c2
  dsimp only at c1 c2
  refine am_dex (by omega) rfl rfl ?_
  iterate 3 refine am_g0 rfl rfl ?_
  have hi := d_indexOf (sh := shC) (w := w) (d := d - 1) (S := 1005) (v0 := 9) (l := [112, 100, 116]) (by omega) rfl rfl (by decide) (by decide) hv
  rw [show ([112, 100, 116] : List Int32).length = 3 from rfl, idx_kind v hv] at hi
  refine ⟨(some (.int (opI (kindN v))), w), hi, ?_⟩
  refine am_to (lv' := [(0, .ref 12), (1, .int (nI v))]) (st' := [.int (opI (kindN v))]) (w' := w) rfl rfl rfl ?_
  iterate 3 refine am_g0 rfl rfl ?_
  cases hk : kindN v with
  | none =>
    have e : lsStep v (true, m, kd, ln, lt) = none := by unfold lsStep; dsimp only; rw [if_pos rfl, hk]
    rw [e]
    refine am_go rfl ?_
    refine am_g0 rfl rfl ?_
    exact ⟨rfl, rfl, ⟨fun _ _ => rfl, rfl⟩, fun t' z => by cases z⟩
  | some k =>
    refine am_ff (show ¬ opI (some k) < 0 from nI_pos (by have := kindN_lt hk; omega)) ?_
    iterate 4 refine am_g0 rfl rfl ?_
    by_cases hm : m < 8
    · have e : lsStep v (true, m, kd, ln, lt) = some (false, m, up1 kd m k, up1 ln m 0, lt) := by unfold lsStep; dsimp only; rw [if_pos rfl, hk]; dsimp only; rw [if_pos hm]
      rw [e]
      refine am_tt (show w.1 12 3 < 8 by rw [c1]; exact nI_lt (b := 8) hm (by omega)) ?_
      refine am_to (lv' := [(0, .ref 12), (1, .int (nI v)), (2, .int (nI k))]) (st' := []) (w' := w) rfl rfl rfl ?_
      refine am_go rfl ?_
      iterate 4 refine am_g0 rfl rfl ?_
      rw [c1]
      refine am_gsN (n := 8) rfl rfl hm (by decide) ?_
      refine am_to (lv' := [(0, .ref 12), (2, .int (nI k))]) (st' := []) (w' := am_pi w 13 m (nI k)) rfl rfl rfl ?_
      iterate 5 refine am_g0 rfl rfl ?_
      refine am_to (lv' := [(0, .ref 12), (2, .int (nI k))]) (st' := [.int 0, .int (nI m), .ref 14]) (w' := am_pi w 13 m (nI k)) rfl (by show [_, Value.int (w.1 12 3), _] = _; rw [c1]) rfl ?_
      refine am_gsN (n := 8) rfl rfl hm (by decide) ?_
      iterate 2 refine am_g0 rfl rfl ?_
      refine ⟨rfl, rfl, ⟨fun a ha => ?_, rfl⟩, fun t' z => ?_⟩
      · show (am_pi (am_pi w 13 m (nI k)) 14 m 0).1 a = w.1 a
        rw [am_pi_row (by omega), am_pi_row (by omega)]
      · cases z
        refine ⟨c1, fun l hl => ?_⟩
        have hl : l < m + 1 := hl
        show (am_pi (am_pi w 13 m (nI k)) 14 m 0).1 13 l = nI (up1 kd m k l) ∧ (am_pi (am_pi w 13 m (nI k)) 14 m 0).1 14 l = nI (up1 ln m 0 l) ∧ ∀ j, j < up1 ln m 0 l → (am_pi (am_pi w 13 m (nI k)) 14 m 0).1 15 (4 * l + j) = nI (lt l j)
        rw [am_pi_row (show 13 ≠ 14 by omega), am_pi_row (show 15 ≠ 14 by omega), am_pi_row (show 15 ≠ 13 by omega)]
        unfold up1
        by_cases he : l = m
        · subst he
          rw [am_pi_at, am_pi_at, if_pos rfl, if_pos rfl]
          exact ⟨rfl, rfl, fun j hj => absurd hj (Nat.not_lt_zero j)⟩
        · rw [am_pi_ne (Or.inr he), am_pi_ne (Or.inr he), am_pi_ne (Or.inr he), if_neg he, if_neg he]
          exact c2 l (by omega)
    · have e : lsStep v (true, m, kd, ln, lt) = none := by unfold lsStep; dsimp only; rw [if_pos rfl, hk]; dsimp only; rw [if_neg hm]
      rw [e]
      refine am_ff (show ¬ w.1 12 3 < 8 by rw [c1]; exact nI_nlt (b := 8) (by omega) (by omega)) ?_
      refine am_go rfl ?_
      refine am_g0 rfl rfl ?_
      exact ⟨rfl, rfl, ⟨fun _ _ => rfl, rfl⟩, fun t' z => by cases z⟩
theorem d_addLetter {d v : Nat} {t : LaS} {w : am_M} (hd : 5 ≤ d) (ht : t.1 = false) (h59 : v ≠ 59) (hc : cLs w t) (hok : lsok t) (hv : v < 256) : ∃ o : am_O, (o.1 = some (.int (b01 (lsStep v t).isSome)) ∧ am_fl w o.2 ∧ ∀ t', lsStep v t = some t' → cLs o.2 t') ∧ am_D shC d mi_X0_addLetter [.ref 12, .int (nI v)] w o := by
  obtain ⟨op, m, kd, ln, lt⟩ := t
  dsimp only at ht
  subst ht
  obtain ⟨h1, h2, h3⟩ := hok
  obtain ⟨c1, c2⟩ := hc
  have hM : lsM (false, m, kd, ln, lt) = m + 1 := rfl
  rw [hM] at h1 h2 c2
  dsimp only at c1 c2 h2
  obtain ⟨d1, d2, d3⟩ := c2 m (by omega)
  have hln := (h2 m (by omega)).2.1
  refine am_dex (by omega) rfl rfl ?_
  iterate 3 refine am_g0 rfl rfl ?_
  have hi := d_indexOf (sh := shC) (w := w) (d := d - 1) (S := 1006) (v0 := 10) (l := [110, 101, 115, 119]) (by omega) rfl rfl (by decide) (by decide) hv
  rw [show ([110, 101, 115, 119] : List Int32).length = 4 from rfl, idx_way v hv] at hi
  refine ⟨(some (.int (opI (wayN v))), w), hi, ?_⟩
  refine am_to (lv' := [(0, .ref 12), (1, .int (nI v))]) (st' := [.int (opI (wayN v))]) (w' := w) rfl rfl rfl ?_
  iterate 3 refine am_g0 rfl rfl ?_
  cases hk : wayN v with
  | none =>
    have e : lsStep v (false, m, kd, ln, lt) = none := by unfold lsStep; dsimp only; rw [if_neg (by decide), if_neg h59, hk]
    rw [e]
    refine am_go rfl ?_
    refine am_g0 rfl rfl ?_
    exact ⟨rfl, rfl, ⟨fun _ _ => rfl, rfl⟩, fun t' z => by cases z⟩
  | some a =>
    refine am_ff (show ¬ opI (some a) < 0 from nI_pos (by have := wayN_lt hk; omega)) ?_
    iterate 4 refine am_g0 rfl rfl ?_
    refine am_top c1 ?_
    refine am_glN (n := 8) rfl rfl (by omega) (by decide) ?_
    rw [d2]
    iterate 2 refine am_g0 rfl rfl ?_
    by_cases hm : ln m < 4
    · have e : lsStep v (false, m, kd, ln, lt) = some (false, m, kd, up1 ln m (ln m + 1), up2 lt m (ln m) a) := by unfold lsStep; dsimp only; rw [if_neg (by decide), if_neg h59, hk]; dsimp only; rw [if_pos hm]
      rw [e]
      refine am_tt (show nI (ln m) < 4 from nI_lt (b := 4) hm (by omega)) ?_
      refine am_to (lv' := [(0, .ref 12), (1, .int (nI v)), (2, .int (nI a))]) (st' := []) (w' := w) rfl rfl rfl ?_
      refine am_go rfl ?_
      iterate 9 refine am_g0 rfl rfl ?_
      refine am_top c1 ?_
      refine am_glN (n := 8) rfl rfl (by omega) (by decide) ?_
      rw [d2]
      refine am_g0 rfl rfl ?_
      refine am_top (y := nI (4 * m + ln m)) (by rw [c1, show (4 : Int32) = nI 4 from rfl, pk_mul, nI_add, Nat.mul_comm]) ?_
      refine am_g0 rfl rfl ?_
      refine am_gsN (n := 32) rfl rfl (by omega) (by decide) ?_
      refine am_to (lv' := [(0, .ref 12), (2, .int (nI a))]) (st' := []) (w' := am_pi w 15 (4 * m + ln m) (nI a)) rfl rfl rfl ?_
      iterate 4 refine am_g0 rfl rfl ?_
      refine am_to (lv' := [(0, .ref 12), (2, .int (nI a))]) (st' := [.int (nI m), .ref 14]) (w' := am_pi w 15 (4 * m + ln m) (nI a)) rfl (by show [Value.int (w.1 12 3), _] = _; rw [c1]) rfl ?_
      refine am_g0 rfl rfl ?_
      refine am_glN (n := 8) rfl rfl (by omega) (by decide) ?_
      iterate 2 refine am_g0 rfl rfl ?_
      refine am_top (y := nI (ln m + 1)) (show w.1 14 m + 1 = nI (ln m + 1) by rw [d2, nI_1]) ?_
      refine am_gsN (n := 8) rfl rfl (by omega) (by decide) ?_
      iterate 2 refine am_g0 rfl rfl ?_
      refine ⟨rfl, rfl, ⟨fun q hq => ?_, rfl⟩, fun t' z => ?_⟩
      · show (am_pi (am_pi w 15 (4 * m + ln m) (nI a)) 14 m (nI (ln m + 1))).1 q = w.1 q
        rw [am_pi_row (by omega), am_pi_row (by omega)]
      · cases z
        refine ⟨c1, fun l hl => ?_⟩
        have hl : l < m + 1 := hl
        show (am_pi (am_pi w 15 (4 * m + ln m) (nI a)) 14 m (nI (ln m + 1))).1 13 l = nI (kd l) ∧ (am_pi (am_pi w 15 (4 * m + ln m) (nI a)) 14 m (nI (ln m + 1))).1 14 l = nI (up1 ln m (ln m + 1) l) ∧ ∀ j, j < up1 ln m (ln m + 1) l → (am_pi (am_pi w 15 (4 * m + ln m) (nI a)) 14 m (nI (ln m + 1))).1 15 (4 * l + j) = nI (up2 lt m (ln m) a l j)
        obtain ⟨x1, x2, x3⟩ := c2 l hl
        have hl4 := (h2 l hl).2.1
        rw [am_pi_row (show 13 ≠ 14 by omega), am_pi_row (show 13 ≠ 15 by omega), am_pi_row (show 15 ≠ 14 by omega)]
        unfold up1 up2
        by_cases he : l = m
        · subst he
          rw [am_pi_at, if_pos rfl]
          refine ⟨x1, rfl, fun j hj => ?_⟩
          by_cases hj2 : j = ln l
          · subst hj2; rw [am_pi_at, if_pos ⟨rfl, rfl⟩]
          · rw [am_pi_ne (Or.inr (by omega)), if_neg (fun z => hj2 z.2)]
            exact x3 j (by omega)
        · rw [am_pi_ne (Or.inr he), am_pi_row (show 14 ≠ 15 by omega), if_neg he]
          refine ⟨x1, x2, fun j hj => ?_⟩
          rw [am_pi_ne (Or.inr (by omega)), if_neg (fun z => he z.1)]
          exact x3 j hj
    · have e : lsStep v (false, m, kd, ln, lt) = none := by unfold lsStep; dsimp only; rw [if_neg (by decide), if_neg h59, hk]; dsimp only; rw [if_neg hm]
      rw [e]
      refine am_ff (show ¬ nI (ln m) < 4 from nI_nlt (b := 4) (by omega) (by omega)) ?_
      refine am_go rfl ?_
      refine am_g0 rfl rfl ?_
      exact ⟨rfl, rfl, ⟨fun _ _ => rfl, rfl⟩, fun t' z => by cases z⟩
set_option maxHeartbeats 4000000 in
theorem d_lload {d n : Nat} {b : Nat → Nat} {w : am_M} (hd : 6 ≤ d) (hT : cText w 1 n b) : ∃ o : am_O, (o.1 = some (.int (opI (lastsR b n).1)) ∧ am_fl w o.2 ∧ cLasts o.2 (lastsR b n).2.1 (lastsR b n).2.2.1 (lastsR b n).2.2.2.1 (lastsR b n).2.2.2.2) ∧ am_D shC d mi_X0_load [.ref 12, .ref 3] w o := by
  obtain ⟨h1, h2, h3⟩ := hT
  refine am_dex (by omega) rfl rfl ?_
  iterate 7 refine am_g0 rfl rfl ?_
  have bad : ∀ (f : Nat) (m : am_M), am_fl w m → (lastsR b n).1 = some f → (lastsR b n).2.1 = 0 → (fun o : am_O => o.1 = some (.int (opI (lastsR b n).1)) ∧ am_fl w o.2 ∧ cLasts o.2 (lastsR b n).2.1 (lastsR b n).2.2.1 (lastsR b n).2.2.2.1 (lastsR b n).2.2.2.2) (some (.int (nI f)), am_pi m 12 3 0) := by
    intro f m hf e1 e2
    refine ⟨by rw [e1]; rfl, hf.pi (by omega) (by omega), ?_⟩
    rw [e2]
    exact ⟨rfl, Nat.zero_le _, fun l hl => absurd hl (Nat.not_lt_zero l)⟩
  have key : ∀ j i : Nat, i + j = n → ∀ (t : LaS) (m : am_M), lsB b i = some t → am_fl w m → cLs m t → am_R shC mi_X0_load (am_D shC (d - 1)) (fun o => o.1 = some (.int (opI (lastsR b n).1)) ∧ am_fl w o.2 ∧ cLasts o.2 (lastsR b n).2.1 (lastsR b n).2.2.1 (lastsR b n).2.2.2.1 (lastsR b n).2.2.2.2) 9 [(0, .ref 12), (1, .ref 3), (2, .int (b01 t.1)), (3, .int (nI i))] [] m := by
    intro j
    induction j with
    | zero =>
      intro i hi t m ht hf hc
      have hok := lsok_ls ht
      have e9 : i = n := by omega
      subst e9
      have hlen : m.1 3 2 = nI i := by rw [hf.1 3 (by omega)]; exact h1
      refine am_go rfl ?_
      iterate 3 refine am_g0 rfl rfl ?_
      refine am_tt (show m.1 3 2 ≤ nI i by rw [hlen]; exact nI_le (Nat.le_refl _) (by omega)) ?_
      refine am_to (lv' := [(0, .ref 12), (1, .ref 3), (2, .int (b01 t.1)), (3, .int (nI i))]) (st' := []) (w' := m) rfl rfl rfl ?_
      refine am_go rfl ?_
      iterate 2 refine am_g0 rfl rfl ?_
      by_cases hi0 : i = 0
      · refine am_tt (show m.1 3 2 = 0 by rw [hlen, hi0]; rfl) ?_
        iterate 2 refine am_g0 rfl rfl ?_
        subst hi0
        cases ht
        refine ⟨rfl, rfl, hf, hc.1, Nat.zero_le _, fun l hl => absurd hl (Nat.not_lt_zero l)⟩
      · refine am_ff (show ¬ m.1 3 2 = 0 by rw [hlen]; exact nI_ne0 (by omega) (by omega)) ?_
        -- it ends too early
        have early : (t.1 = true ∨ t.2.2.2.1 t.2.1 = 0) → ∀ lv, am_kill mi_X0_load 135 lv = [(0, .ref 12), (1, .ref 3)] → am_R shC mi_X0_load (am_D shC (d - 1)) (fun o => o.1 = some (.int (opI (lastsR b i).1)) ∧ am_fl w o.2 ∧ cLasts o.2 (lastsR b i).2.1 (lastsR b i).2.2.1 (lastsR b i).2.2.2.1 (lastsR b i).2.2.2.2) 135 lv [] m := by
          intro hz lv hlv
          refine am_kl (lv' := [(0, .ref 12), (1, .ref 3)]) ?_ hlv
          have hR : lastsR b i = (some i, 0, fun _ => 0, fun _ => 0, fun _ _ => 0) := by unfold lastsR; rw [ht]; dsimp only; rw [if_neg hi0, if_pos hz]
          refine am_go rfl ?_
          iterate 3 refine am_g0 rfl rfl ?_
          rw [hlen]
          refine ⟨(some (.int (nI i)), am_pi m 12 3 0), d_lemptied (by omega), ?_⟩
          refine am_g0 rfl rfl ?_
          exact ⟨rfl, bad i m hf (by rw [hR]) (by rw [hR])⟩
        refine am_go rfl ?_
        obtain ⟨op, mm, kd, ln, lt⟩ := t
        cases op with
        | true =>
          refine am_to (lv' := [(0, .ref 12), (1, .ref 3), (2, .int 1)]) (st' := [.int 1]) (w' := m) rfl rfl rfl ?_
          refine am_g0 rfl rfl ?_
          exact early (Or.inl rfl) _ rfl
        | false =>
          refine am_to (lv' := [(0, .ref 12), (1, .ref 3), (2, .int 0)]) (st' := [.int 0]) (w' := m) rfl rfl rfl ?_
          obtain ⟨k1, k2, k3⟩ := hok
          obtain ⟨c1, c2⟩ := hc
          have hM : lsM (false, mm, kd, ln, lt) = mm + 1 := rfl
          rw [hM] at k1 k2 c2
          dsimp only at c1 c2 k2 k3
          obtain ⟨d1, d2, d3⟩ := c2 mm (by omega)
          iterate 5 refine am_g0 rfl rfl ?_
          refine am_top c1 ?_
          refine am_glN (n := 8) rfl rfl (by omega) (by decide) ?_
          rw [d2]
          refine am_g0 rfl rfl ?_
          by_cases hz : ln mm = 0
          · refine am_tt (show nI (ln mm) = 0 by rw [hz]; rfl) ?_
            exact early (Or.inr hz) _ rfl
          · refine am_ff (show ¬ nI (ln mm) = 0 from nI_ne0 (by omega) (by have := (k2 mm (by omega)).2.1; omega)) ?_
            have hR : lastsR b i = (none, mm + 1, kd, ln, lt) := by unfold lastsR; rw [ht]; dsimp only; rw [if_neg hi0, if_neg (fun z => z.elim (fun y => by cases y) hz)]
            rw [hR]
            refine am_go rfl ?_
            iterate 4 refine am_g0 rfl rfl ?_
            refine am_top (y := nI (mm + 1)) (show m.1 12 3 + 1 = nI (mm + 1) by rw [c1, nI_1]) ?_
            iterate 3 refine am_g0 rfl rfl ?_
            refine ⟨rfl, rfl, hf.pi (by omega) (by omega), rfl, k1, fun l hl => ?_⟩
            have hl : l < mm + 1 := hl
            obtain ⟨x1, x2, x3⟩ := c2 l hl
            obtain ⟨y1, y2, y3⟩ := k2 l hl
            refine ⟨x1, y1, x2, ?_, y2, fun j hj => ⟨x3 j hj, y3 j hj⟩⟩
            by_cases he : l = mm
            · subst he; show 1 ≤ ln l; omega
            · exact k3 l (by omega)
    | succ j ih =>
      intro i hi t m ht hf hc
      have hok := lsok_ls ht
      have hlen : m.1 3 2 = nI n := by rw [hf.1 3 (by omega)]; exact h1
      obtain ⟨b1, b2⟩ := h3 i (by omega)
      have b1' : m.1 6 i = nI (b i) := by rw [hf.1 6 (by omega)]; exact b1
      refine am_go rfl ?_
      iterate 3 refine am_g0 rfl rfl ?_
      refine am_ff (show ¬ m.1 3 2 ≤ nI i by rw [hlen]; exact nI_ge (by omega) (by omega)) ?_
      refine am_to (lv' := [(0, .ref 12), (1, .ref 3), (2, .int (b01 t.1)), (3, .int (nI i))]) (st' := []) (w' := m) rfl rfl rfl ?_
      iterate 3 refine am_g0 rfl rfl ?_
      refine ⟨(some (.int (nI (b i))), m), d_signAt (t := 1) (d := d - 1) (n := n) (by omega) (by omega) hlen (by omega) h2 b1' b2, ?_⟩
      refine am_to (lv' := [(0, .ref 12), (1, .ref 3), (2, .int (b01 t.1)), (3, .int (nI i))]) (st' := [.int (nI (b i))]) (w' := m) rfl rfl rfl ?_
      have fault : lsStep (b i) t = none → ∀ m1, am_fl w m1 → ∀ lv, am_kill mi_X0_load 71 lv = [(0, .ref 12), (3, .int (nI i))] → am_R shC mi_X0_load (am_D shC (d - 1)) (fun o => o.1 = some (.int (opI (lastsR b n).1)) ∧ am_fl w o.2 ∧ cLasts o.2 (lastsR b n).2.1 (lastsR b n).2.2.1 (lastsR b n).2.2.2.1 (lastsR b n).2.2.2.2) 71 lv [] m1 := by
        intro hst m1 hf1 lv hlv
        refine am_kl (lv' := [(0, .ref 12), (3, .int (nI i))]) ?_ hlv
        have hn1 : lsB b (i + 1) = none := by rw [lsB, ht]; exact hst
        have hnn : lsB b n = none := by rw [← hi, show i + (j + 1) = i + 1 + j by omega]; exact ls_none hn1 j
        have hFF : lsF b n = some i := by rw [← hi, show i + (j + 1) = i + 1 + j by omega]; exact lsF_at ht hn1 j
        have hR : lastsR b n = (some i, 0, fun _ => 0, fun _ => 0, fun _ _ => 0) := by unfold lastsR; rw [hnn]; dsimp only; rw [hFF]
        refine am_go rfl ?_
        iterate 2 refine am_g0 rfl rfl ?_
        refine ⟨(some (.int (nI i)), am_pi m1 12 3 0), d_lemptied (by omega), ?_⟩
        refine am_g0 rfl rfl ?_
        exact ⟨rfl, bad i m1 hf1 (by rw [hR]) (by rw [hR])⟩
      -- the sign is taken
      have taken : ∀ t', lsStep (b i) t = some t' → (b i = 59 ↔ t'.1 = true) → ∀ m1, am_fl w m1 → m1.1 12 3 = nI t.2.1 → (∀ l, l < lsM t' → m1.1 13 l = nI (t'.2.2.1 l) ∧ m1.1 14 l = nI (t'.2.2.2.1 l) ∧ ∀ j, j < t'.2.2.2.1 l → m1.1 15 (4 * l + j) = nI (t'.2.2.2.2 l j)) → t'.2.1 = (if b i = 59 then t.2.1 + 1 else t.2.1) → ∀ lv, am_kill mi_X0_load 77 lv = [(0, .ref 12), (1, .ref 3), (3, .int (nI i)), (4, .int (nI (b i)))] → am_R shC mi_X0_load (am_D shC (d - 1)) (fun o => o.1 = some (.int (opI (lastsR b n).1)) ∧ am_fl w o.2 ∧ cLasts o.2 (lastsR b n).2.1 (lastsR b n).2.2.1 (lastsR b n).2.2.2.1 (lastsR b n).2.2.2.2) 77 lv [] m1 := by
        intro t' hst hop m1 hf1 hsz hcl hm' lv hlv
        refine am_kl (lv' := [(0, .ref 12), (1, .ref 3), (3, .int (nI i)), (4, .int (nI (b i)))]) ?_ hlv
        have ht' : lsB b (i + 1) = some t' := by rw [lsB, ht]; exact hst
        refine am_go rfl ?_
        iterate 2 refine am_g0 rfl rfl ?_
        by_cases h59 : b i = 59
        · rw [if_pos h59] at hm'
          refine am_tt (show nI (b i) = 59 by rw [h59]; rfl) ?_
          iterate 2 refine am_g0 rfl rfl ?_
          refine am_to (lv' := [(0, .ref 12), (1, .ref 3), (3, .int (nI i)), (4, .int (nI (b i)))]) (st' := [.int 1]) (w' := m1) rfl rfl rfl ?_
          refine am_go rfl ?_
          iterate 7 refine am_g0 rfl rfl ?_
          refine am_top (y := nI (t.2.1 + 1)) (show m1.1 12 3 + 1 = nI (t.2.1 + 1) by rw [hsz, nI_1]) ?_
          refine am_g0 rfl rfl ?_
          refine am_to (lv' := [(0, .ref 12), (1, .ref 3), (2, .int 1), (3, .int (nI i))]) (st' := []) (w' := am_pi m1 12 3 (nI (t.2.1 + 1))) rfl rfl rfl ?_
          refine am_go rfl ?_
          refine am_g0 rfl rfl ?_
          have := ih (i + 1) (by omega) t' (am_pi m1 12 3 (nI (t.2.1 + 1))) ht' (hf1.pi (by omega) (by omega)) ⟨by rw [am_pi_at, hm'], hcl⟩
          rw [hop.mp h59, ← nI_1] at this
          exact this
        · rw [if_neg h59] at hm'
          refine am_ff (show ¬ nI (b i) = 59 from fun z => h59 ((nI_eq (b := 59) (by omega) (by omega)).mp z)) ?_
          refine am_go rfl ?_
          refine am_to (lv' := [(0, .ref 12), (1, .ref 3), (3, .int (nI i))]) (st' := [.int 0]) (w' := m1) rfl rfl rfl ?_
          refine am_go rfl ?_
          iterate 2 refine am_g0 rfl rfl ?_
          refine am_go rfl ?_
          refine am_g0 rfl rfl ?_
          have hof : t'.1 = false := by
            cases hz : t'.1 with
            | false => rfl
            | true => exact absurd (hop.mpr hz) h59
          have := ih (i + 1) (by omega) t' m1 ht' hf1 ⟨by rw [hm']; exact hsz, hcl⟩
          rw [hof, ← nI_1] at this
          exact this
      refine am_g0 rfl rfl ?_
      refine am_g0 rfl rfl ?_
      obtain ⟨op, mm, kd, ln, lt⟩ := t
      cases op with
      | true =>
        refine am_to (lv' := [(0, .ref 12), (1, .ref 3), (2, .int 1), (3, .int (nI i)), (4, .int (nI (b i)))]) (st' := [.int 1]) (w' := m) rfl rfl rfl ?_
        iterate 4 refine am_g0 rfl rfl ?_
        obtain ⟨⟨r1, w1⟩, ⟨e1, f1, g1⟩, hD⟩ := d_opensLast (d := d - 1) (by omega) rfl hc hok b2
        dsimp only at e1 f1 g1
        subst e1
        have hf1 : am_fl w w1 := ⟨fun k hk => (f1.1 k hk).trans (hf.1 k hk), f1.2.trans hf.2⟩
        cases hst : lsStep (b i) (true, mm, kd, ln, lt) with
        | none =>
          rw [hst] at hD
          refine ⟨(some (.int 0), w1), hD, ?_⟩
          iterate 2 refine am_g0 rfl rfl ?_
          exact fault hst w1 hf1 _ rfl
        | some t' =>
          rw [hst] at hD
          refine ⟨(some (.int 1), w1), hD, ?_⟩
          refine am_g0 rfl rfl ?_
          obtain ⟨x1, x2⟩ := g1 t' hst
          have hn59 : b i ≠ 59 := fun z => by
            unfold lsStep at hst
            dsimp only at hst
            rw [if_pos rfl, z] at hst
            cases hst
          have hshape : t'.1 = false ∧ t'.2.1 = mm := by
            unfold lsStep at hst
            dsimp only at hst
            rw [if_pos rfl] at hst
            cases hk : kindN (b i) with
            | none => rw [hk] at hst; cases hst
            | some k =>
              rw [hk] at hst
              dsimp only at hst
              by_cases hm : mm < 8
              · rw [if_pos hm] at hst; cases hst; exact ⟨rfl, rfl⟩
              · rw [if_neg hm] at hst; cases hst
          exact taken t' hst ⟨fun z => absurd z hn59, fun z => by rw [hshape.1] at z; cases z⟩ w1 hf1 (by rw [x1, hshape.2]) x2 (by rw [if_neg hn59]; exact hshape.2) _ rfl
      | false =>
        refine am_to (lv' := [(0, .ref 12), (1, .ref 3), (2, .int 0), (3, .int (nI i)), (4, .int (nI (b i)))]) (st' := [.int 0]) (w' := m) rfl rfl rfl ?_
        refine am_g0 rfl rfl ?_
        refine am_go rfl ?_
        refine am_to (lv' := [(0, .ref 12), (1, .ref 3), (3, .int (nI i)), (4, .int (nI (b i)))]) (st' := [.int (nI (b i))]) (w' := m) rfl rfl rfl ?_
        iterate 2 refine am_g0 rfl rfl ?_
        by_cases h59 : b i = 59
        · refine am_tt (show nI (b i) = 59 by rw [h59]; rfl) ?_
          obtain ⟨k1, k2, k3⟩ := id hok
          obtain ⟨c1, c2⟩ := id hc
          have hM : lsM (false, mm, kd, ln, lt) = mm + 1 := rfl
          rw [hM] at k1 k2 c2
          dsimp only at c1 c2 k2 k3
          obtain ⟨d1, d2, d3⟩ := c2 mm (by omega)
          iterate 4 refine am_g0 rfl rfl ?_
          refine am_top c1 ?_
          refine am_glN (n := 8) rfl rfl (by omega) (by decide) ?_
          rw [d2]
          refine am_g0 rfl rfl ?_
          by_cases hz : ln mm = 0
          · refine am_tt (show nI (ln mm) = 0 by rw [hz]; rfl) ?_
            refine am_g0 rfl rfl ?_
            exact fault (by unfold lsStep; dsimp only; rw [if_neg (by decide), if_pos h59, if_pos hz]) m hf _ rfl
          · refine am_ff (show ¬ nI (ln mm) = 0 from nI_ne0 (by omega) (by have := (k2 mm (by omega)).2.1; omega)) ?_
            exact taken (true, mm + 1, kd, ln, lt) (by unfold lsStep; dsimp only; rw [if_neg (by decide), if_pos h59, if_neg hz]) ⟨fun _ => rfl, fun _ => h59⟩ m hf c1 c2 (by rw [if_pos h59]) _ rfl
        · refine am_ff (show ¬ nI (b i) = 59 from fun z => h59 ((nI_eq (b := 59) (by omega) (by omega)).mp z)) ?_
          refine am_go rfl ?_
          iterate 2 refine am_g0 rfl rfl ?_
          obtain ⟨⟨r1, w1⟩, ⟨e1, f1, g1⟩, hD⟩ := d_addLetter (d := d - 1) (by omega) rfl h59 hc hok b2
          dsimp only at e1 f1 g1
          subst e1
          have hf1 : am_fl w w1 := ⟨fun k hk => (f1.1 k hk).trans (hf.1 k hk), f1.2.trans hf.2⟩
          cases hst : lsStep (b i) (false, mm, kd, ln, lt) with
          | none =>
            rw [hst] at hD
            refine ⟨(some (.int 0), w1), hD, ?_⟩
            refine am_g0 rfl rfl ?_
            exact fault hst w1 hf1 _ rfl
          | some t' =>
            rw [hst] at hD
            refine ⟨(some (.int 1), w1), hD, ?_⟩
            refine am_g0 rfl rfl ?_
            obtain ⟨x1, x2⟩ := g1 t' hst
            have hshape : t'.1 = false ∧ t'.2.1 = mm := by
              unfold lsStep at hst
              dsimp only at hst
              rw [if_neg (by decide), if_neg h59] at hst
              cases hk : wayN (b i) with
              | none => rw [hk] at hst; cases hst
              | some k =>
                rw [hk] at hst
                dsimp only at hst
                by_cases hm : ln mm < 4
                · rw [if_pos hm] at hst; cases hst; exact ⟨rfl, rfl⟩
                · rw [if_neg hm] at hst; cases hst
            exact taken t' hst ⟨fun z => absurd z h59, fun z => by rw [hshape.1] at z; cases z⟩ w1 hf1 (by rw [x1, hshape.2]) x2 (by rw [if_neg h59]; exact hshape.2) _ rfl
  exact key n 0 (by omega) (true, 0, fun _ => 0, fun _ => 0, fun _ _ => 0) (am_pi w 12 3 0) rfl ⟨fun k hk => am_pi_row (by omega), rfl⟩ ⟨rfl, fun l hl => absurd hl (Nat.not_lt_zero l)⟩
