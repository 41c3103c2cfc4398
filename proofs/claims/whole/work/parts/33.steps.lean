/-! things seen, counts; where each is when: the class -/
def seenS (S : Sp) (x y z : Int32) : Int32 × Sp := match dI x 30, dI y 8, dI z 36 with
  | some a, some b, some c => if S.sn = 8 then (-4, S) else (nI (S.sn + 1), S.setS (S.sn + 1) (up1 S.st S.sn a) (up1 S.pe S.sn b) (up1 S.ce S.sn c))
  | _, _, _ => (-2, S)
def forgetS (S : Sp) : Int32 × Sp := (nI S.sn, S.setS 0 S.st S.pe S.ce)
theorem d_sadd_f {d n : Nat} {x y z : Int32} {w : am_M} (hd : 1 ≤ d) (hn : w.1 20 3 = nI n) (h : n = 8) : am_D shC d mi_X5_add [.ref 20, .int x, .int y, .int z] w (some (.int 0), w) := by
  refine am_def (by omega) rfl rfl ?_
  iterate 4 refine am_g0 rfl rfl ?_
  refine am_ff (show ¬ (w.1 20 3 : Int32) < 8 from by rw [hn, h]; decide) ?_
  iterate 2 refine am_g0 rfl rfl ?_
  exact ⟨rfl, rfl⟩
theorem d_sadd_t {d n a b c : Nat} {st pe ce : Nat → Nat} {w : am_M} (hd : 1 ≤ d) (hS : cSeen w n st pe ce) (h : n < 8) (ha : a < 30) (hb : b < 8) (hc : c < 36) : ∃ o : am_O, (o.1 = some (.int 1) ∧ (∀ a, a < 20 ∨ 24 ≤ a → o.2.1 a = w.1 a) ∧ o.2.2 = w.2 ∧ cSeen o.2 (n + 1) (up1 st n a) (up1 pe n b) (up1 ce n c)) ∧ am_D shC d mi_X5_add [.ref 20, .int (nI a), .int (nI b), .int (nI c)] w o := by
  obtain ⟨h1, h2, h3⟩ := hS
  refine am_dex (by omega) rfl rfl ?_
  iterate 4 refine am_g0 rfl rfl ?_
  refine am_tt (show (w.1 20 3 : Int32) < 8 from by rw [h1]; exact nI_lt (b := 8) h (by omega)) ?_
  refine am_go rfl ?_
  iterate 4 refine am_g0 rfl rfl ?_
  refine am_gsE (n := 8) (k := n) rfl rfl (h1) (by omega) (by decide) ?_
  refine am_to (lv' := [(0, .ref 20), (1, .int (nI a)), (2, .int (nI b)), (3, .int (nI c))]) (st' := []) (w' := am_pi w 21 n (nI a)) rfl rfl rfl ?_
  iterate 5 refine am_g0 rfl rfl ?_
  refine am_gsE (n := 8) (k := n) rfl rfl (h1) (by omega) (by decide) ?_
  refine am_to (lv' := [(0, .ref 20), (1, .int (nI a)), (2, .int (nI b)), (3, .int (nI c))]) (st' := []) (w' := am_pi (am_pi w 21 n (nI a)) 22 n (nI b)) rfl rfl rfl ?_
  iterate 5 refine am_g0 rfl rfl ?_
  refine am_gsE (n := 8) (k := n) rfl rfl (h1) (by omega) (by decide) ?_
  refine am_to (lv' := [(0, .ref 20), (1, .int (nI a)), (2, .int (nI b)), (3, .int (nI c))]) (st' := []) (w' := am_pi (am_pi (am_pi w 21 n (nI a)) 22 n (nI b)) 23 n (nI c)) rfl rfl rfl ?_
  iterate 5 refine am_g0 rfl rfl ?_
  refine am_top (y := nI (n + 1)) (by show w.1 20 3 + 1 = _; rw [h1, nI_1]) ?_
  iterate 3 refine am_g0 rfl rfl ?_
  refine ⟨rfl, rfl, fun k hk => ?_, rfl, am_pi_at _ _ _ _, by omega, fun i hi => ?_⟩
  · show (am_pi _ _ _ _).1 k = _
    rw [am_pi_row (by omega), am_pi_row (by omega), am_pi_row (by omega), am_pi_row (by omega)]
  · show (am_pi _ 20 3 _).1 21 i = _ ∧ _ ∧ (am_pi _ 20 3 _).1 22 i = _ ∧ _ ∧ (am_pi _ 20 3 _).1 23 i = _ ∧ _
    rw [am_pi_row (show 21 ≠ 20 by omega), am_pi_row (show 21 ≠ 23 by omega), am_pi_row (show 21 ≠ 22 by omega), am_pi_row (show 22 ≠ 20 by omega), am_pi_row (show 22 ≠ 23 by omega), am_pi_row (show 23 ≠ 20 by omega)]
    by_cases z : i = n
    · subst z
      rw [up1_at, up1_at, up1_at, am_pi_at, am_pi_at, am_pi_at]
      exact ⟨rfl, ha, rfl, hb, rfl, hc⟩
    · rw [up1_ne z, up1_ne z, up1_ne z]
      simp only [am_pi_ne (Or.inr z)]
      exact h3 i (by omega)
theorem d_seen {d : Nat} {x y z : Int32} {w : am_M} {S : Sp} (hd : 8 ≤ d) (h : RC w S) : ∃ o : am_O, (o.1 = some (.int (seenS S x y z).1) ∧ RC o.2 (seenS S x y z).2) ∧ am_D shC d mi_X11_seen [.ref 0, .int x, .int y, .int z] w o := by
  rcases dI_or x 30 (by decide) with hx | ⟨a, ha, rfl, hx⟩
  · refine am_dex (by omega) rfl rfl ?_
    iterate 3 refine am_g0 rfl rfl ?_
    refine ⟨(some (.int 0), w), d_isWn shC (n := 30) (by omega) hx, ?_⟩
    refine am_to (lv' := [(0, .ref 0), (1, .int x), (2, .int y), (3, .int z)]) (st' := [.int 0]) (w' := w) rfl rfl rfl ?_
    refine am_g0 rfl rfl ?_
    refine am_go rfl ?_
    refine am_g0 rfl rfl ?_
    exact ⟨rfl, by unfold seenS; rw [hx], by unfold seenS; rw [hx]; exact h⟩
  · rcases dI_or y 8 (by decide) with hy | ⟨b, hb, rfl, hy⟩
    · refine am_dex (by omega) rfl rfl ?_
      iterate 3 refine am_g0 rfl rfl ?_
      refine ⟨(some (.int 1), w), d_isWs shC (n := 30) (by omega) ha (by decide), ?_⟩
      refine am_to (lv' := [(0, .ref 0), (1, .int (nI a)), (2, .int y), (3, .int z)]) (st' := [.int 1]) (w' := w) rfl rfl rfl ?_
      iterate 4 refine am_g0 rfl rfl ?_
      refine ⟨(some (.int 0), w), d_isWn shC (n := 8) (by omega) hy, ?_⟩
      refine am_to (lv' := [(0, .ref 0), (1, .int (nI a)), (2, .int y), (3, .int z)]) (st' := [.int 0]) (w' := w) rfl rfl rfl ?_
      refine am_g0 rfl rfl ?_
      refine am_go rfl ?_
      refine am_g0 rfl rfl ?_
      exact ⟨rfl, by unfold seenS; rw [hx, hy], by unfold seenS; rw [hx, hy]; exact h⟩
    · rcases dI_or z 36 (by decide) with hz | ⟨c, hc, rfl, hz⟩
      · refine am_dex (by omega) rfl rfl ?_
        iterate 3 refine am_g0 rfl rfl ?_
        refine ⟨(some (.int 1), w), d_isWs shC (n := 30) (by omega) ha (by decide), ?_⟩
        refine am_to (lv' := [(0, .ref 0), (1, .int (nI a)), (2, .int (nI b)), (3, .int z)]) (st' := [.int 1]) (w' := w) rfl rfl rfl ?_
        iterate 4 refine am_g0 rfl rfl ?_
        refine ⟨(some (.int 1), w), d_isWs shC (n := 8) (by omega) hb (by decide), ?_⟩
        refine am_to (lv' := [(0, .ref 0), (1, .int (nI a)), (2, .int (nI b)), (3, .int z)]) (st' := [.int 1]) (w' := w) rfl rfl rfl ?_
        iterate 4 refine am_g0 rfl rfl ?_
        refine ⟨(some (.int 0), w), d_isWn shC (n := 36) (by omega) hz, ?_⟩
        refine am_to (lv' := [(0, .ref 0), (1, .int (nI a)), (2, .int (nI b)), (3, .int z)]) (st' := [.int 0]) (w' := w) rfl rfl rfl ?_
        refine am_g0 rfl rfl ?_
        refine am_go rfl ?_
        refine am_g0 rfl rfl ?_
        exact ⟨rfl, by unfold seenS; rw [hx, hy, hz], by unfold seenS; rw [hx, hy, hz]; exact h⟩
      · refine am_dex (by omega) rfl rfl ?_
        iterate 3 refine am_g0 rfl rfl ?_
        refine ⟨(some (.int 1), w), d_isWs shC (n := 30) (by omega) ha (by decide), ?_⟩
        refine am_to (lv' := [(0, .ref 0), (1, .int (nI a)), (2, .int (nI b)), (3, .int (nI c))]) (st' := [.int 1]) (w' := w) rfl rfl rfl ?_
        iterate 4 refine am_g0 rfl rfl ?_
        refine ⟨(some (.int 1), w), d_isWs shC (n := 8) (by omega) hb (by decide), ?_⟩
        refine am_to (lv' := [(0, .ref 0), (1, .int (nI a)), (2, .int (nI b)), (3, .int (nI c))]) (st' := [.int 1]) (w' := w) rfl rfl rfl ?_
        iterate 4 refine am_g0 rfl rfl ?_
        refine ⟨(some (.int 1), w), d_isWs shC (n := 36) (by omega) hc (by decide), ?_⟩
        refine am_to (lv' := [(0, .ref 0), (1, .int (nI a)), (2, .int (nI b)), (3, .int (nI c))]) (st' := [.int 1]) (w' := w) rfl rfl rfl ?_
        refine am_g0 rfl rfl ?_
        refine am_go rfl ?_
        iterate 5 refine am_g0 rfl rfl ?_
        have hs8 := h.1.1.2.2.1.1
        have hse := h.1.2.2.2.2.2.2.1
        by_cases h8 : S.sn = 8
        · refine ⟨(some (.int 0), w), d_sadd_f (by omega) hse.1 h8, ?_⟩
          refine am_to (lv' := [(0, .ref 0), (1, .int (nI a)), (2, .int (nI b)), (3, .int (nI c))]) (st' := [.int 0]) (w' := w) rfl rfl rfl ?_
          refine am_g0 rfl rfl ?_
          refine am_go rfl ?_
          refine am_go rfl ?_
          exact ⟨rfl, by unfold seenS; rw [hx, hy, hz]; dsimp only; rw [if_pos h8], by unfold seenS; rw [hx, hy, hz]; dsimp only; rw [if_pos h8]; exact h⟩
        · obtain ⟨⟨r1, w1⟩, ⟨e1, f1, f2, g1⟩, hD1⟩ := d_sadd_t (d := d - 1) (by omega) hse (by omega) ha hb hc
          dsimp only at e1 f1 f2 g1
          subst e1
          refine ⟨(some (.int 1), w1), hD1, ?_⟩
          refine am_to (lv' := [(0, .ref 0), (1, .int (nI a)), (2, .int (nI b)), (3, .int (nI c))]) (st' := [.int 1]) (w' := w1) rfl rfl rfl ?_
          iterate 5 refine am_g0 rfl rfl ?_
          refine am_go rfl ?_
          have hS : seenS S (nI a) (nI b) (nI c) = (nI (S.sn + 1), S.setS (S.sn + 1) (up1 S.st S.sn a) (up1 S.pe S.sn b) (up1 S.ce S.sn c)) := by unfold seenS; rw [hx, hy, hz]; dsimp only; rw [if_neg h8]
          rw [hS, g1.1]
          exact ⟨rfl, rfl, RC_setS h f1 f2 g1⟩
theorem d_forget {d : Nat} {w : am_M} {S : Sp} (hd : 8 ≤ d) (h : RC w S) : ∃ o : am_O, (o.1 = some (.int (forgetS S).1) ∧ RC o.2 (forgetS S).2) ∧ am_D shC d mi_X11_forget [.ref 0] w o := by
  have hse := h.1.2.2.2.2.2.2.1
  refine am_dex (by omega) rfl rfl ?_
  iterate 10 refine am_g0 rfl rfl ?_
  rw [hse.1]
  exact ⟨rfl, rfl, RC_setS h (fun a ha => am_pi_row (by omega)) rfl ⟨am_pi_at _ _ _ _, by omega, fun i hi => absurd hi (Nat.not_lt_zero i)⟩⟩
def countA (S : Sp) (k : Nat) : Int32 := if k = 0 then nI S.V.1 else if k = 1 then nI S.m else if k = 2 then nI S.q else if k < 6 then nI (S.tl (k - 3)) else if k = 6 then nI S.rn else if k = 7 then nI S.sn else S.fn
def countS (S : Sp) (x : Int32) : Int32 := match dI x 9 with
  | some k => countA S k
  | none => -2
theorem d_count {d : Nat} {x : Int32} {w : am_M} {S : Sp} (hd : 2 ≤ d) (h : RC w S) : am_D shC d mi_X11_count [.ref 0, .int x] w (some (.int (countS S x)), w) := by
  obtain ⟨h1, h2, h3, h4, h5, h6, h7, h8, h9⟩ := h.1
  rcases dI_or x 9 (by decide) with hx | ⟨k, hk, rfl, hx⟩
  · refine am_def (by omega) rfl rfl ?_
    iterate 2 refine am_g0 rfl rfl ?_
    refine ⟨109, Or.inl ⟨?_, rfl⟩, ?_⟩
    · rcases dI_fi hx with z | z
      · exact Or.inl (by rw [Int32.lt_iff_toInt_lt] at z; exact z)
      · right
        rw [Int32.le_iff_toInt_le, nI_toInt (by omega)] at z
        omega
    · refine am_go rfl ?_
      refine am_g0 rfl rfl ?_
      exact ⟨rfl, by unfold countS; rw [hx]⟩
  · have hS : countS S (nI k) = countA S k := by unfold countS; rw [hx]
    rw [hS]
    match k, hk with
    | 0, _ =>
      refine am_def (by omega) rfl rfl ?_
      iterate 2 refine am_g0 rfl rfl ?_
      refine ⟨52, Or.inr ⟨by decide, by decide, 51, rfl, rfl⟩, ?_⟩
      iterate 4 refine am_g0 rfl rfl ?_
      exact ⟨rfl, by rw [show w.1 9 2 = nI S.V.1 from h3.1.1]; rfl⟩
    | 1, _ =>
      refine am_def (by omega) rfl rfl ?_
      iterate 2 refine am_g0 rfl rfl ?_
      refine ⟨60, Or.inr ⟨by decide, by decide, 59, rfl, rfl⟩, ?_⟩
      refine am_go rfl ?_
      iterate 3 refine am_g0 rfl rfl ?_
      exact ⟨rfl, by rw [show w.1 12 3 = nI S.m from h4.1.1]; rfl⟩
    | 2, _ =>
      refine am_def (by omega) rfl rfl ?_
      iterate 2 refine am_g0 rfl rfl ?_
      refine ⟨68, Or.inr ⟨by decide, by decide, 67, rfl, rfl⟩, ?_⟩
      refine am_go rfl ?_
      iterate 3 refine am_g0 rfl rfl ?_
      exact ⟨rfl, by rw [show w.1 16 1 = nI S.q from h5.1.1]; rfl⟩
    | 3, _ =>
      refine am_def (by omega) rfl rfl ?_
      iterate 2 refine am_g0 rfl rfl ?_
      refine ⟨76, Or.inr ⟨by decide, by decide, 75, rfl, rfl⟩, ?_⟩
      refine am_go rfl ?_
      iterate 7 refine am_g0 rfl rfl ?_
      exact ⟨rfl, by rw [show w.1 2 2 = nI (S.tl 0) from (h2 0 (by omega)).1.1]; rfl⟩
    | 4, _ =>
      refine am_def (by omega) rfl rfl ?_
      iterate 2 refine am_g0 rfl rfl ?_
      refine ⟨76, Or.inr ⟨by decide, by decide, 75, rfl, rfl⟩, ?_⟩
      refine am_go rfl ?_
      iterate 7 refine am_g0 rfl rfl ?_
      exact ⟨rfl, by rw [show w.1 3 2 = nI (S.tl 1) from (h2 1 (by omega)).1.1]; rfl⟩
    | 5, _ =>
      refine am_def (by omega) rfl rfl ?_
      iterate 2 refine am_g0 rfl rfl ?_
      refine ⟨76, Or.inr ⟨by decide, by decide, 75, rfl, rfl⟩, ?_⟩
      refine am_go rfl ?_
      iterate 7 refine am_g0 rfl rfl ?_
      exact ⟨rfl, by rw [show w.1 4 2 = nI (S.tl 2) from (h2 2 (by omega)).1.1]; rfl⟩
    | 6, _ =>
      refine am_def (by omega) rfl rfl ?_
      iterate 2 refine am_g0 rfl rfl ?_
      refine ⟨88, Or.inr ⟨by decide, by decide, 87, rfl, rfl⟩, ?_⟩
      refine am_go rfl ?_
      iterate 3 refine am_g0 rfl rfl ?_
      exact ⟨rfl, by rw [h6.1]; rfl⟩
    | 7, _ =>
      refine am_def (by omega) rfl rfl ?_
      iterate 2 refine am_g0 rfl rfl ?_
      refine ⟨96, Or.inr ⟨by decide, by decide, 95, rfl, rfl⟩, ?_⟩
      refine am_go rfl ?_
      iterate 3 refine am_g0 rfl rfl ?_
      exact ⟨rfl, by rw [h7.1]; rfl⟩
    | 8, _ =>
      refine am_def (by omega) rfl rfl ?_
      iterate 2 refine am_g0 rfl rfl ?_
      refine ⟨104, Or.inr ⟨by decide, by decide, 103, rfl, rfl⟩, ?_⟩
      refine am_go rfl ?_
      iterate 2 refine am_g0 rfl rfl ?_
      exact ⟨rfl, by rw [h9]; rfl⟩
/-! the traces -/
theorem wetN_congr {rs : Nat → Nat} {e1 e2 : Nat → Bool} : ∀ {n : Nat}, (∀ i, i < n → e1 i = e2 i) → ∀ s, wetN rs e1 n s = wetN rs e2 n s
  | 0, _, _ => rfl
  | n + 1, h, s => by rw [wetN, wetN, wetN_congr (fun i hi => h i (by omega)) s, h n (by omega)]
theorem nI_m1 {i : Nat} (h : i < 2 ^ 31) : ¬ nI i = -1 := fun z => absurd (nI_pos' h) (by rw [z]; decide)
theorem RC.wetx {w : am_M} {S : Sp} (h : RC w S) (a b : Int32) : ∀ s, s < 30 → wetB (wetF (w.1 19) a b S.rn) s = wetN S.rs (exI a b) S.rn s := wet_eq a b (fun i hi => ⟨h.1.2.2.2.2.2.1.2 i hi, h.1.1.2.1.2 i hi⟩)
theorem RC.wet {w : am_M} {S : Sp} (h : RC w S) (s : Nat) (hs : s < 30) : wetB (wetF (w.1 19) (-1) (-1) S.rn) s = wet0 S s := by
  rw [h.wetx (-1) (-1) s hs]
  have := h.1.1.2.1.1
  exact wetN_congr (fun i hi => by unfold exI; rw [decide_eq_false (nI_m1 (by omega))]; rfl) s
theorem d_retr {d : Nat} {w : am_M} {S : Sp} (hd : 4 ≤ d) (h : RC w S) : ∃ o : am_O, (o.1 = none ∧ RC o.2 S ∧ (∀ p, p < S.q → trOK o.2 (34 + p) (42 + p) S.V (prS S.pf p) (wet0 S)) ∧ ∀ a, 0 < a → a < 34 → o.2.1 a = w.1 a) ∧ am_D shC d mi_X11_retrace [.ref 0] w o := by
  by_cases h0 : w.1 0 17 = 0
  · exact ⟨(none, w), ⟨rfl, h, h.2.1 h0, fun _ _ _ => rfl⟩, d_retrace_f (by omega) h0⟩
  · obtain ⟨⟨r1, w1⟩, ⟨e1, f1, f2, f3, g1⟩, hD⟩ := d_retrace_t (d := d) hd h0 h.1.V h.1.P h.1.2.2.2.2.2.1.1 h.1.1.2.1.1
    dsimp only at e1 f1 f2 f3 g1
    subst e1
    have g2 : ∀ p, p < S.q → trOK w1 (34 + p) (42 + p) S.V (prS S.pf p) (wet0 S) := fun p hp => (g1 p hp).congr h.wet
    have e : ∀ a, ¬ isWr a → a ≠ 0 → w1.1 a = w.1 a := fun a ha h0 => funext fun b => f1 a ha b (fun z => h0 z.1)
    have e0 : ∀ b, b ≠ 17 → w1.1 0 b = w.1 0 b := fun b hb => f1 0 (by unfold isWr; omega) b (fun z => hb z.2)
    refine ⟨(none, w1), ⟨rfl, ⟨h.1.fr (fun a h1 h2 => e a (by unfold isWr; omega) (by omega)) (e0 16 (by omega)), fun _ => g2, h.2.2.1.fr (e 69 (by unfold isWr; omega) (by omega)) (e0 18 (by omega)), h.2.2.2.1.fr (e 70 (by unfold isWr; omega) (by omega)) (e0 19 (by omega)), h.2.2.2.2.fr (e 53 (by unfold isWr; omega) (by omega)) (by rw [f3])⟩, g2, fun a h1 h2 => e a (by unfold isWr; omega) (by omega)⟩, hD⟩
theorem RC.q8 {w : am_M} {S : Sp} (h : RC w S) : S.q ≤ 8 := h.1.P.2.1
def atS (S : Sp) (x y z : Int32) : Int32 := match dI x 30, dI y S.q, dI z 4 with
  | some s, some p, some j => rowI S.V (prS S.pf p) (wet0 S) s j
  | _, _, _ => -2
theorem d_at {d : Nat} {x y z : Int32} {w : am_M} {S : Sp} (hd : 8 ≤ d) (h : RC w S) : ∃ o : am_O, (o.1 = some (.int (atS S x y z)) ∧ RC o.2 S) ∧ am_D shC d mi_X11_at [.ref 0, .int x, .int y, .int z] w o := by
  have hq := h.q8
  rcases dI_or x 30 (by decide) with hx | ⟨a, ha, rfl, hx⟩
  · refine am_dex (by omega) rfl rfl ?_
    iterate 3 refine am_g0 rfl rfl ?_
    refine ⟨(some (.int 0), w), d_isWn shC (n := 30) (by omega) hx, ?_⟩
    refine am_to (lv' := [(0, .ref 0), (1, .int x), (2, .int y), (3, .int z)]) (st' := [.int 0]) (w' := w) rfl rfl rfl ?_
    refine am_g0 rfl rfl ?_
    refine am_go rfl ?_
    refine am_g0 rfl rfl ?_
    exact ⟨rfl, by unfold atS; rw [hx], h⟩
  · rcases dI_or y S.q (by omega) with hy | ⟨p, hp, rfl, hy⟩
    · refine am_dex (by omega) rfl rfl ?_
      iterate 3 refine am_g0 rfl rfl ?_
      refine ⟨(some (.int 1), w), d_isWs shC (n := 30) (by omega) ha (by decide), ?_⟩
      refine am_to (lv' := [(0, .ref 0), (1, .int (nI a)), (2, .int y), (3, .int z)]) (st' := [.int 1]) (w' := w) rfl rfl rfl ?_
      iterate 5 refine am_g0 rfl rfl ?_
      refine am_top (y := nI S.q) (h.1.P.1) ?_
      refine am_g0 rfl rfl ?_
      refine ⟨(some (.int 0), w), d_isWn shC (by omega) hy, ?_⟩
      refine am_to (lv' := [(0, .ref 0), (1, .int (nI a)), (2, .int y), (3, .int z)]) (st' := [.int 0]) (w' := w) rfl rfl rfl ?_
      refine am_g0 rfl rfl ?_
      refine am_go rfl ?_
      refine am_g0 rfl rfl ?_
      exact ⟨rfl, by unfold atS; rw [hx, hy], h⟩
    · rcases dI_or z 4 (by decide) with hz | ⟨j, hj, rfl, hz⟩
      · refine am_dex (by omega) rfl rfl ?_
        iterate 3 refine am_g0 rfl rfl ?_
        refine ⟨(some (.int 1), w), d_isWs shC (n := 30) (by omega) ha (by decide), ?_⟩
        refine am_to (lv' := [(0, .ref 0), (1, .int (nI a)), (2, .int (nI p)), (3, .int z)]) (st' := [.int 1]) (w' := w) rfl rfl rfl ?_
        iterate 5 refine am_g0 rfl rfl ?_
        refine am_top (y := nI S.q) (h.1.P.1) ?_
        refine am_g0 rfl rfl ?_
        refine ⟨(some (.int 1), w), d_isWs shC (by omega) hp (by omega), ?_⟩
        refine am_to (lv' := [(0, .ref 0), (1, .int (nI a)), (2, .int (nI p)), (3, .int z)]) (st' := [.int 1]) (w' := w) rfl rfl rfl ?_
        iterate 4 refine am_g0 rfl rfl ?_
        refine ⟨(some (.int 0), w), d_isWn shC (n := 4) (by omega) hz, ?_⟩
        refine am_to (lv' := [(0, .ref 0), (1, .int (nI a)), (2, .int (nI p)), (3, .int z)]) (st' := [.int 0]) (w' := w) rfl rfl rfl ?_
        refine am_g0 rfl rfl ?_
        refine am_go rfl ?_
        refine am_g0 rfl rfl ?_
        exact ⟨rfl, by unfold atS; rw [hx, hy, hz], h⟩
      · obtain ⟨t1, t2, t3, t4⟩ := sh_Tr p (by omega)
        refine am_dex (by omega) rfl rfl ?_
        iterate 3 refine am_g0 rfl rfl ?_
        refine ⟨(some (.int 1), w), d_isWs shC (n := 30) (by omega) ha (by decide), ?_⟩
        refine am_to (lv' := [(0, .ref 0), (1, .int (nI a)), (2, .int (nI p)), (3, .int (nI j))]) (st' := [.int 1]) (w' := w) rfl rfl rfl ?_
        iterate 5 refine am_g0 rfl rfl ?_
        refine am_top (y := nI S.q) (h.1.P.1) ?_
        refine am_g0 rfl rfl ?_
        refine ⟨(some (.int 1), w), d_isWs shC (by omega) hp (by omega), ?_⟩
        refine am_to (lv' := [(0, .ref 0), (1, .int (nI a)), (2, .int (nI p)), (3, .int (nI j))]) (st' := [.int 1]) (w' := w) rfl rfl rfl ?_
        iterate 4 refine am_g0 rfl rfl ?_
        refine ⟨(some (.int 1), w), d_isWs shC (n := 4) (by omega) hj (by decide), ?_⟩
        refine am_to (lv' := [(0, .ref 0), (1, .int (nI a)), (2, .int (nI p)), (3, .int (nI j))]) (st' := [.int 1]) (w' := w) rfl rfl rfl ?_
        refine am_g0 rfl rfl ?_
        refine am_go rfl ?_
        refine am_g0 rfl rfl ?_
        obtain ⟨⟨r1, w1⟩, ⟨e1, g1, g2, g3⟩, hD1⟩ := d_retr (d := d - 1) (by omega) h
        dsimp only at e1 g1 g2 g3
        subst e1
        refine ⟨(none, w1), hD1, ?_⟩
        refine am_to (lv' := [(0, .ref 0), (1, .int (nI a)), (2, .int (nI p)), (3, .int (nI j))]) (st' := []) (w' := w1) rfl rfl rfl ?_
        iterate 4 refine am_g0 rfl rfl ?_
        refine am_ff (show ¬ nI p < 0 from nI_pos (by omega)) (am_oi (a := 34 + p) (by rw [nI_clamp (by omega)]; exact t4) ?_)
        iterate 3 refine am_g0 rfl rfl ?_
        refine am_ys (show (true && (true && am_isb shC (34 + p) 9)) = true by rw [t1]; rfl) ?_
        refine ⟨(some (.int (w1.1 (42 + p) (j * 30 + a))), w1), d_ttold (V := S.V) (P := prS S.pf p) (wet := wet0 S) (by omega) t1 t2 t3 ha hj, ?_⟩
        refine am_to (lv' := [(0, .ref 0), (1, .int (nI a)), (2, .int (nI p)), (3, .int (nI j))]) (st' := [.int (w1.1 (42 + p) (j * 30 + a))]) (w' := w1) rfl rfl rfl ?_
        refine am_g0 rfl rfl ?_
        exact ⟨rfl, by unfold atS; rw [hx, hy, hz, (g2 p hp).row ha hj], g1⟩
def endsA (S : Sp) (p k : Nat) : Int32 := if fin S.V (prS S.pf p) (wet0 S) = k + 1 then opI (endS S.V (prS S.pf p) (wet0 S) 30) else -1
def endsS (S : Sp) (x y : Int32) : Int32 := match dI x S.q, dI y 2 with
  | some p, some k => endsA S p k
  | _, _ => -2
theorem d_endK {d k : Nat} {w : am_M} (hd : 1 ≤ d) (hk : k < 2) : am_D shC d mi_X11_endState [.int (nI k)] w (some (.int (nI (k + 1))), w) := by
  have := d_endState (x := nI k) (w := w) hd
  match k, hk with
  | 0, _ => exact this
  | 1, _ => exact this
theorem qlt {w : am_M} {S : Sp} (h : RC w S) {p : Nat} (hp : p < S.q) (wet : Nat → Bool) (k : Nat) : (lifeQ S.V (prS S.pf p) wet k).2.1 < 4 := (qok_life wet h.1.V.good (h.1.P.ok hp) k).1
theorem d_ends {d : Nat} {x y : Int32} {w : am_M} {S : Sp} (hd : 8 ≤ d) (h : RC w S) : ∃ o : am_O, (o.1 = some (.int (endsS S x y)) ∧ RC o.2 S) ∧ am_D shC d mi_X11_ends [.ref 0, .int x, .int y] w o := by
  have hq := h.q8
  rcases dI_or x S.q (by omega) with hx | ⟨p, hp, rfl, hx⟩
  · refine am_dex (by omega) rfl rfl ?_
    iterate 4 refine am_g0 rfl rfl ?_
    refine am_top (y := nI S.q) (h.1.P.1) ?_
    refine am_g0 rfl rfl ?_
    refine ⟨(some (.int 0), w), d_isWn shC (by omega) hx, ?_⟩
    refine am_to (lv' := [(0, .ref 0), (1, .int x), (2, .int y)]) (st' := [.int 0]) (w' := w) rfl rfl rfl ?_
    refine am_g0 rfl rfl ?_
    refine am_go rfl ?_
    refine am_g0 rfl rfl ?_
    exact ⟨rfl, by unfold endsS; rw [hx], h⟩
  · rcases dI_or y 2 (by decide) with hy | ⟨k, hk, rfl, hy⟩
    · refine am_dex (by omega) rfl rfl ?_
      iterate 4 refine am_g0 rfl rfl ?_
      refine am_top (y := nI S.q) (h.1.P.1) ?_
      refine am_g0 rfl rfl ?_
      refine ⟨(some (.int 1), w), d_isWs shC (by omega) hp (by omega), ?_⟩
      refine am_to (lv' := [(0, .ref 0), (1, .int (nI p)), (2, .int y)]) (st' := [.int 1]) (w' := w) rfl rfl rfl ?_
      iterate 4 refine am_g0 rfl rfl ?_
      refine ⟨(some (.int 0), w), d_isWn shC (n := 2) (by omega) hy, ?_⟩
      refine am_to (lv' := [(0, .ref 0), (1, .int (nI p)), (2, .int y)]) (st' := [.int 0]) (w' := w) rfl rfl rfl ?_
      refine am_g0 rfl rfl ?_
      refine am_go rfl ?_
      refine am_g0 rfl rfl ?_
      exact ⟨rfl, by unfold endsS; rw [hx, hy], h⟩
    · obtain ⟨t1, t2, t3, t4⟩ := sh_Tr p (by omega)
      refine am_dex (by omega) rfl rfl ?_
      iterate 4 refine am_g0 rfl rfl ?_
      refine am_top (y := nI S.q) (h.1.P.1) ?_
      refine am_g0 rfl rfl ?_
      refine ⟨(some (.int 1), w), d_isWs shC (by omega) hp (by omega), ?_⟩
      refine am_to (lv' := [(0, .ref 0), (1, .int (nI p)), (2, .int (nI k))]) (st' := [.int 1]) (w' := w) rfl rfl rfl ?_
      iterate 4 refine am_g0 rfl rfl ?_
      refine ⟨(some (.int 1), w), d_isWs shC (n := 2) (by omega) hk (by decide), ?_⟩
      refine am_to (lv' := [(0, .ref 0), (1, .int (nI p)), (2, .int (nI k))]) (st' := [.int 1]) (w' := w) rfl rfl rfl ?_
      refine am_g0 rfl rfl ?_
      refine am_go rfl ?_
      refine am_g0 rfl rfl ?_
      obtain ⟨⟨r1, w1⟩, ⟨e1, g1, g2, g3⟩, hD1⟩ := d_retr (d := d - 1) (by omega) h
      dsimp only at e1 g1 g2 g3
      subst e1
      refine ⟨(none, w1), hD1, ?_⟩
      refine am_to (lv' := [(0, .ref 0), (1, .int (nI p)), (2, .int (nI k))]) (st' := []) (w' := w1) rfl rfl rfl ?_
      iterate 4 refine am_g0 rfl rfl ?_
      refine am_ff (show ¬ nI p < 0 from nI_pos (by omega)) (am_oi (a := 34 + p) (by rw [nI_clamp (by omega)]; exact t4) ?_)
      iterate 3 refine am_g0 rfl rfl ?_
      refine am_ys t1 ?_
      iterate 2 refine am_g0 rfl rfl ?_
      refine ⟨(some (.int (nI (k + 1))), w1), d_endK (by omega) hk, ?_⟩
      refine am_to (lv' := [(0, .ref 0), (1, .int (nI p)), (2, .int (nI k)), (3, .ref (34 + p))]) (st' := [.int (nI (k + 1)), .int (w1.1 (34 + p) 1)]) (w' := w1) rfl rfl rfl ?_
      refine am_g0 rfl rfl ?_
      have hst : w1.1 (34 + p) 1 = nI (fin S.V (prS S.pf p) (wet0 S)) := (g2 p hp).2.1
      have hlt : fin S.V (prS S.pf p) (wet0 S) < 4 := qlt h hp _ 30
      by_cases hf : fin S.V (prS S.pf p) (wet0 S) = k + 1
      · refine am_tt (show (w1.1 (34 + p) 1 : Int32) = (nI (k + 1)) from by rw [hst, hf]) ?_
        iterate 2 refine am_g0 rfl rfl ?_
        refine am_ys t1 ?_
        refine am_g0 rfl rfl ?_
        refine am_go rfl ?_
        exact ⟨rfl, by unfold endsS; rw [hx, hy]; dsimp only; unfold endsA; rw [if_pos hf, (g2 p hp).2.2], g1⟩
      · refine am_ff (show ¬ (w1.1 (34 + p) 1 : Int32) = (nI (k + 1)) from by rw [hst]; exact nne hf (by omega) (by omega)) ?_
        refine am_go rfl ?_
        refine am_go rfl ?_
        exact ⟨rfl, by unfold endsS; rw [hx, hy]; dsimp only; unfold endsA; rw [if_neg hf], g1⟩
def whoA (S : Sp) (wet : Nat → Bool) (k : Nat) : Int32 := bitsS (fun p => decide (fin S.V (prS S.pf p) wet = k + 1)) S.q
def whoS (S : Sp) (x : Int32) : Int32 := match dI x 2 with
  | some k => whoA S (wet0 S) k
  | none => -2
theorem d_who {d : Nat} {x : Int32} {w : am_M} {S : Sp} (hd : 8 ≤ d) (h : RC w S) : ∃ o : am_O, (o.1 = some (.int (whoS S x)) ∧ RC o.2 S) ∧ am_D shC d mi_X11_who [.ref 0, .int x] w o := by
  have hq := h.q8
  rcases dI_or x 2 (by decide) with hx | ⟨k, hk, rfl, hx⟩
  · refine am_dex (by omega) rfl rfl ?_
    iterate 3 refine am_g0 rfl rfl ?_
    refine ⟨(some (.int 0), w), d_isWn shC (n := 2) (by omega) hx, ?_⟩
    refine am_to (lv' := [(0, .ref 0), (1, .int x)]) (st' := [.int 0]) (w' := w) rfl rfl rfl ?_
    iterate 3 refine am_g0 rfl rfl ?_
    exact ⟨rfl, by unfold whoS; rw [hx], h⟩
  · refine am_dex (by omega) rfl rfl ?_
    iterate 3 refine am_g0 rfl rfl ?_
    refine ⟨(some (.int 1), w), d_isWs shC (n := 2) (by omega) hk (by decide), ?_⟩
    refine am_to (lv' := [(0, .ref 0), (1, .int (nI k))]) (st' := [.int 1]) (w' := w) rfl rfl rfl ?_
    refine am_g0 rfl rfl ?_
    refine am_go rfl ?_
    refine am_g0 rfl rfl ?_
    obtain ⟨⟨r1, w1⟩, ⟨e1, g1, g2, g3⟩, hD1⟩ := d_retr (d := d - 1) (by omega) h
    dsimp only at e1 g1 g2 g3
    subst e1
    refine ⟨(none, w1), hD1, ?_⟩
    refine am_to (lv' := [(0, .ref 0), (1, .int (nI k))]) (st' := []) (w' := w1) rfl rfl rfl ?_
    iterate 4 refine am_g0 rfl rfl ?_
    have hS : whoS S (nI k) = whoA S (wet0 S) k := by unfold whoS; rw [hx]
    rw [hS]
    have key : ∀ j i : Nat, i + j = S.q → am_R shC mi_X11_who (am_D shC (d - 1)) (fun o => o.1 = some (.int (whoA S (wet0 S) k)) ∧ RC o.2 S) 19 [(0, .ref 0), (1, .int (nI k)), (2, .int (bitsS (fun p => decide (fin S.V (prS S.pf p) (wet0 S) = k + 1)) i)), (3, .int (nI i))] [] w1 := by
      intro j
      induction j with
      | zero =>
        intro i hi
        refine am_go rfl ?_
        iterate 4 refine am_g0 rfl rfl ?_
        refine am_tt (show (w1.1 16 1 : Int32) ≤ (nI i) from by rw [g1.1.P.1]; exact nI_le (by omega) (by omega)) ?_
        refine am_go rfl ?_
        refine am_g0 rfl rfl ?_
        exact ⟨rfl, by unfold whoA; rw [show S.q = i by omega], g1⟩
      | succ j ih =>
        intro i hi
        obtain ⟨t1, t2, t3, t4⟩ := sh_Tr i (by omega)
        refine am_go rfl ?_
        iterate 4 refine am_g0 rfl rfl ?_
        refine am_ff (show ¬ (w1.1 16 1 : Int32) ≤ (nI i) from by rw [g1.1.P.1]; exact nI_ge (by omega) (by omega)) ?_
        iterate 4 refine am_g0 rfl rfl ?_
        refine am_ff (show ¬ nI i < 0 from nI_pos (by omega)) (am_oi (a := 34 + i) (by rw [nI_clamp (by omega)]; exact t4) ?_)
        refine am_g0 rfl rfl ?_
        refine am_ys t1 ?_
        iterate 2 refine am_g0 rfl rfl ?_
        refine ⟨(some (.int (nI (k + 1))), w1), d_endK (by omega) hk, ?_⟩
        refine am_to (lv' := [(0, .ref 0), (1, .int (nI k)), (2, .int (bitsS (fun p => decide (fin S.V (prS S.pf p) (wet0 S) = k + 1)) i)), (3, .int (nI i))]) (st' := [.int (nI (k + 1)), .int (w1.1 (34 + i) 1)]) (w' := w1) rfl rfl rfl ?_
        refine am_g0 rfl rfl ?_
        have hst : w1.1 (34 + i) 1 = nI (fin S.V (prS S.pf i) (wet0 S)) := (g2 i (by omega)).2.1
        have hlt : fin S.V (prS S.pf i) (wet0 S) < 4 := qlt h (by omega) _ 30
        by_cases hf : fin S.V (prS S.pf i) (wet0 S) = k + 1
        · refine am_tt (show (w1.1 (34 + i) 1 : Int32) = (nI (k + 1)) from by rw [hst, hf]) ?_
          iterate 6 refine am_g0 rfl rfl ?_
          refine am_go rfl ?_
          refine am_g0 rfl rfl ?_
          have this := ih (i + 1) (by omega)
          rw [bitsS, if_pos (decide_eq_true hf), ← nI_1] at this
          exact am_kl this rfl
        · refine am_ff (show ¬ (w1.1 (34 + i) 1 : Int32) = (nI (k + 1)) from by rw [hst]; exact nne hf (by omega) (by omega)) ?_
          refine am_go rfl ?_
          refine am_g0 rfl rfl ?_
          have this := ih (i + 1) (by omega)
          rw [bitsS, if_neg (by rw [decide_eq_false hf]; decide), ← nI_1] at this
          exact am_kl this rfl
    exact am_kl (key S.q 0 (by omega)) rfl
