/-! rains, copies, things seen, counts: the class -/
theorem RC_clr {m : am_M} {S : Sp} (hb : RCb m S) (h17 : m.1 0 17 = 1) (h18 : m.1 0 18 = -1) (h19 : m.1 0 19 = -2) (h53 : m.1 53 3 = -1) : RC m S := ⟨hb, fun z => absurd z (by rw [h17]; decide), Or.inl h18, Or.inl h19, Or.inl h53⟩
theorem cOut_low {w : am_M} {a : Nat} (h0 : a ≠ 0) (h53 : a ≠ 53) : (cOut w).1 a = w.1 a := by
  unfold cOut
  rw [am_pi_row (by omega), am_pi_row (by omega), am_pi_row (by omega), am_pi_row (by omega)]
theorem cOut_fn {w : am_M} {j : Nat} (h : j < 17) : (cOut w).1 0 j = w.1 0 j := by
  unfold cOut
  rw [am_pi_ne (by omega), am_pi_ne (by omega), am_pi_ne (by omega), am_pi_ne (by omega)]
def rainS (S : Sp) (x : Int32) : Int32 × Sp := match dI x 30 with
  | some s => if S.rn = 8 then (-4, S) else (nI (S.rn + 1), S.setR (S.rn + 1) (up1 S.rs S.rn s))
  | none => (-2, S)
def backS (S : Sp) : Int32 × Sp := if S.rn = 0 then (-3, S) else (nI (S.rn - 1), S.setR (S.rn - 1) S.rs)
theorem d_rain {d : Nat} {x : Int32} {w : am_M} {S : Sp} (hd : 8 ≤ d) (h : RC w S) : ∃ o : am_O, (o.1 = some (.int (rainS S x).1) ∧ RC o.2 (rainS S x).2) ∧ am_D shC d mi_X11_rain [.ref 0, .int x] w o := by
  obtain ⟨r1, r2⟩ := h.1.2.2.2.2.2.1
  have hr8 := h.1.1.2.1.1
  rcases dI_or x 30 (by decide) with hx | ⟨s, hs, rfl, hx⟩
  · refine am_dex (by omega) rfl rfl ?_
    iterate 3 refine am_g0 rfl rfl ?_
    refine ⟨(some (.int 0), w), d_isWn shC (n := 30) (by omega) hx, ?_⟩
    refine am_to (lv' := [(0, .ref 0), (1, .int x)]) (st' := [.int 0]) (w' := w) rfl rfl rfl ?_
    iterate 3 refine am_g0 rfl rfl ?_
    exact ⟨rfl, by unfold rainS; rw [hx], by unfold rainS; rw [hx]; exact h⟩
  · refine am_dex (by omega) rfl rfl ?_
    iterate 3 refine am_g0 rfl rfl ?_
    refine ⟨(some (.int 1), w), d_isWs shC (n := 30) (by omega) hs (by decide), ?_⟩
    refine am_to (lv' := [(0, .ref 0), (1, .int (nI s))]) (st' := [.int 1]) (w' := w) rfl rfl rfl ?_
    refine am_g0 rfl rfl ?_
    refine am_go rfl ?_
    iterate 3 refine am_g0 rfl rfl ?_
    by_cases h8 : S.rn = 8
    · refine ⟨(some (.int 0), w), d_radd_f (by omega) r1 h8, ?_⟩
      refine am_to (lv' := [(0, .ref 0), (1, .int (nI s))]) (st' := [.int 0]) (w' := w) rfl rfl rfl ?_
      iterate 3 refine am_g0 rfl rfl ?_
      exact ⟨rfl, by unfold rainS; rw [hx]; dsimp only; rw [if_pos h8], by unfold rainS; rw [hx]; dsimp only; rw [if_pos h8]; exact h⟩
    · refine ⟨(some (.int 1), am_pi (am_pi w 19 S.rn (nI s)) 18 1 (nI (S.rn + 1))), d_radd_t (by omega) r1 (by omega), ?_⟩
      refine am_to (lv' := [(0, .ref 0), (1, .int (nI s))]) (st' := [.int 1]) (w' := am_pi (am_pi w 19 S.rn (nI s)) 18 1 (nI (S.rn + 1))) rfl rfl rfl ?_
      generalize hm : am_pi (am_pi w 19 S.rn (nI s)) 18 1 (nI (S.rn + 1)) = m
      refine am_g0 rfl rfl ?_
      refine am_go rfl ?_
      refine am_g0 rfl rfl ?_
      refine ⟨(none, cOut m), d_outdate (by omega), ?_⟩
      refine am_to (lv' := [(0, .ref 0)]) (st' := []) (w' := cOut m) rfl rfl rfl ?_
      iterate 3 refine am_g0 rfl rfl ?_
      have hS : rainS S (nI s) = (nI (S.rn + 1), S.setR (S.rn + 1) (up1 S.rs S.rn s)) := by unfold rainS; rw [hx]; dsimp only; rw [if_neg h8]
      rw [hS]
      have h18 : m.1 18 1 = nI (S.rn + 1) := by rw [← hm, am_pi_at]
      refine am_top (y := nI (S.rn + 1)) (by rw [cOut_low (by omega) (by omega)]; exact h18) ?_
      refine am_g0 rfl rfl ?_
      refine ⟨rfl, rfl, RC.out (RCb_setR h (fun a h0 h34 h1 h2 => ?_) ?_ (by omega) h18 (fun i hi => ?_))⟩
      · rw [← hm, am_pi_row h1, am_pi_row h2]
      · rw [← hm, am_pi_row (by omega), am_pi_row (by omega)]
      · rw [← hm, am_pi_row (by omega)]
        by_cases z : i = S.rn
        · rw [z, am_pi_at, up1_at]; exact ⟨rfl, hs⟩
        · rw [am_pi_ne (Or.inr z), up1_ne z]; exact ⟨r2 i (by omega), h.1.1.2.1.2 i (by omega)⟩
theorem d_back {d : Nat} {w : am_M} {S : Sp} (hd : 8 ≤ d) (h : RC w S) : ∃ o : am_O, (o.1 = some (.int (backS S).1) ∧ RC o.2 (backS S).2) ∧ am_D shC d mi_X11_back [.ref 0] w o := by
  obtain ⟨r1, r2⟩ := h.1.2.2.2.2.2.1
  have hr8 := h.1.1.2.1.1
  refine am_dex (by omega) rfl rfl ?_
  iterate 4 refine am_g0 rfl rfl ?_
  by_cases h0 : S.rn = 0
  · refine am_tt (show (w.1 18 1 : Int32) = 0 from by rw [r1, h0]; rfl) ?_
    iterate 2 refine am_g0 rfl rfl ?_
    exact ⟨rfl, by unfold backS; rw [if_pos h0], by unfold backS; rw [if_pos h0]; exact h⟩
  · refine am_ff (show ¬ (w.1 18 1 : Int32) = 0 from by rw [r1]; exact nI_ne0 (by omega) (by omega)) ?_
    refine am_go rfl ?_
    iterate 5 refine am_g0 rfl rfl ?_
    refine am_top (y := nI (S.rn - 1)) (by rw [r1]; exact pk_sub (b := 1) (by omega)) ?_
    iterate 2 refine am_g0 rfl rfl ?_
    refine am_to (lv' := [(0, .ref 0)]) (st' := [.ref 0]) (w' := am_pi w 18 1 (nI (S.rn - 1))) rfl rfl rfl ?_
    generalize hm : am_pi w 18 1 (nI (S.rn - 1)) = m
    refine am_g0 rfl rfl ?_
    refine ⟨(none, cOut m), d_outdate (by omega), ?_⟩
    refine am_to (lv' := [(0, .ref 0)]) (st' := []) (w' := cOut m) rfl rfl rfl ?_
    iterate 3 refine am_g0 rfl rfl ?_
    have hS : backS S = (nI (S.rn - 1), S.setR (S.rn - 1) S.rs) := by unfold backS; rw [if_neg h0]
    rw [hS]
    have h18 : m.1 18 1 = nI (S.rn - 1) := by rw [← hm, am_pi_at]
    refine am_top (y := nI (S.rn - 1)) (by rw [cOut_low (by omega) (by omega)]; exact h18) ?_
    refine am_g0 rfl rfl ?_
    refine ⟨rfl, rfl, RC.out (RCb_setR h (fun a h0 h34 h1 h2 => ?_) ?_ (by omega) h18 (fun i hi => ?_))⟩
    · rw [← hm, am_pi_row h1]
    · rw [← hm, am_pi_row (by omega)]
    · rw [← hm, am_pi_row (by omega)]; exact ⟨r2 i (by omega), h.1.1.2.1.2 i (by omega)⟩
/-! a sheet is read as rains -/
def rdR (S : Sp) (s : Nat) : Nat → Nat := fun i => if i < S.rn then S.rs i else (match dI (S.it s (i - S.rn)) 30 with
  | some v => v
  | none => 0)
def rdF (S : Sp) (s : Nat) : Nat → Bool := fun k => (dI (S.it s k) 30).isNone || decide (S.rn + k = 8)
def rdK (S : Sp) (s n : Nat) : Nat := match firstN (rdF S s) n with
  | some k => k
  | none => n
def readS (S : Sp) (x : Int32) : Int32 × Sp := match dI x 4 with
  | some s => (match S.sz s with
    | none => (-11, S.setF 1)
    | some n => (nI (rdK S s n), S.setR (S.rn + rdK S s n) (rdR S s)))
  | none => (-2, S)
theorem rdK_at {S : Sp} {s n i : Nat} (hi : i < n) (hf : rdF S s i = true) (h : ∀ j, j < i → rdF S s j = false) : rdK S s n = i := by unfold rdK; rw [firstN_at hi hf h]
theorem rdK_n {S : Sp} {s n : Nat} (h : ∀ j, j < n → rdF S s j = false) : rdK S s n = n := by unfold rdK; rw [firstN_ex h]
theorem d_read {d : Nat} {x : Int32} {w : am_M} {S : Sp} (hd : 8 ≤ d) (h : RC w S) : ∃ o : am_O, (o.1 = some (.int (readS S x).1) ∧ RC o.2 (readS S x).2) ∧ am_D shC d mi_X11_read [.ref 0, .int x] w o := by
  obtain ⟨r1, r2⟩ := h.1.2.2.2.2.2.1
  have hr8 := h.1.1.2.1.1
  rcases dI_or x 4 (by decide) with hx | ⟨s, hs, rfl, hx⟩
  · refine am_dex (by omega) rfl rfl ?_
    iterate 3 refine am_g0 rfl rfl ?_
    refine ⟨(some (.int 0), w), d_isWn shC (n := 4) (by omega) hx, ?_⟩
    refine am_to (lv' := [(0, .ref 0), (1, .int x)]) (st' := [.int 0]) (w' := w) rfl rfl rfl ?_
    iterate 3 refine am_g0 rfl rfl ?_
    exact ⟨rfl, by unfold readS; rw [hx], by unfold readS; rw [hx]; exact h⟩
  · obtain ⟨s1, s2, s3⟩ := sh_S s hs
    refine am_dex (by omega) rfl rfl ?_
    iterate 3 refine am_g0 rfl rfl ?_
    refine ⟨(some (.int 1), w), d_isWs shC (n := 4) (by omega) hs (by decide), ?_⟩
    refine am_to (lv' := [(0, .ref 0), (1, .int (nI s))]) (st' := [.int 1]) (w' := w) rfl rfl rfl ?_
    refine am_g0 rfl rfl ?_
    refine am_go rfl ?_
    iterate 3 refine am_g0 rfl rfl ?_
    refine am_ff (show ¬ nI s < 0 from nI_pos (by omega)) (am_oi (a := 25 + s) (by rw [nI_clamp (by omega)]; exact sh_S4 s hs) ?_)
    iterate 3 refine am_g0 rfl rfl ?_
    refine am_ys (show (true && (true && am_isb shC (25 + s) 4)) = true by rw [s1]; rfl) ?_
    refine ⟨(some (.int (if w.1 (25 + s) 2 = -1 then 1 else 0)), w), d_isLost (by omega) hs, ?_⟩
    refine am_to (lv' := [(0, .ref 0), (1, .int (nI s)), (2, .ref (25 + s))]) (st' := [.int (if w.1 (25 + s) 2 = -1 then 1 else 0)]) (w' := w) rfl rfl rfl ?_
    refine am_g0 rfl rfl ?_
    rcases opt_or (S.sz s) with hz | ⟨n, hz⟩
    · refine am_ff (show ¬ (if w.1 (25 + s) 2 = -1 then 1 else 0 : Int32) = 0 from by rw [if_pos ((h.szn hs).mpr hz)]; exact i10) ?_
      iterate 3 refine am_g0 rfl rfl ?_
      refine ⟨(some (.int ((-10) - 1)), am_pi w 0 16 1), d_refusal (by omega), ?_⟩
      refine am_to (lv' := [(0, .ref 0), (1, .int (nI s)), (2, .ref (25 + s))]) (st' := [.int ((-10) - 1)]) (w' := am_pi w 0 16 1) rfl rfl rfl ?_
      refine am_g0 rfl rfl ?_
      exact ⟨rfl, by unfold readS; rw [hx]; dsimp only; rw [hz]; rfl, by unfold readS; rw [hx]; dsimp only; rw [hz]; exact RC_setF h⟩
    · refine am_tt (show (if w.1 (25 + s) 2 = -1 then 1 else 0 : Int32) = 0 from by rw [if_neg (fun z => by rw [(h.szn hs).mp z] at hz; cases hz)]) ?_
      have hS : readS S (nI s) = (nI (rdK S s n), S.setR (S.rn + rdK S s n) (rdR S s)) := by unfold readS; rw [hx]; dsimp only; rw [hz]
      have hn60 := (h.1.1.2.2.2 s hs).2 n hz
      obtain ⟨a1, a2⟩ := h.1.2.2.2.2.2.2.2.1 s hs
      rw [hz] at a1
      have a3 : w.1 (25 + s) 2 = nI n := a1
      have a4 := (a2 n hz).2
      rw [hS]
      refine am_go rfl ?_
      refine am_g0 rfl rfl ?_
      refine ⟨(none, cOut w), d_outdate (by omega), ?_⟩
      refine am_to (lv' := [(0, .ref 0), (2, .ref (25 + s))]) (st' := []) (w' := cOut w) rfl rfl rfl ?_
      iterate 2 refine am_g0 rfl rfl ?_
      have fin : ∀ i, S.rn + i ≤ 8 → ∀ m : am_M, (∀ a, a ≠ 18 → a ≠ 19 → m.1 a = (cOut w).1 a) → m.1 18 1 = nI (S.rn + i) → (∀ j, j < S.rn + i → m.1 19 j = nI (rdR S s j) ∧ rdR S s j < 30) → RC m (S.setR (S.rn + i) (rdR S s)) := by
        intro i hi m hm h18 h19
        refine RC_clr (RCb_setR h (fun a h0 h34 h1 h2 => ?_) ?_ hi h18 h19) ?_ ?_ ?_ ?_
        · rw [hm a h1 h2, cOut_low (by omega) (by omega)]
        · rw [hm 0 (by omega) (by omega)]; exact cOut_fn (by omega)
        · rw [hm 0 (by omega) (by omega)]; rfl
        · rw [hm 0 (by omega) (by omega)]; rfl
        · rw [hm 0 (by omega) (by omega)]; rfl
        · rw [hm 53 (by omega) (by omega)]; rfl
      have key : ∀ j i : Nat, i + j = n → S.rn + i ≤ 8 → ∀ m : am_M, (∀ a, a ≠ 18 → a ≠ 19 → m.1 a = (cOut w).1 a) → m.1 18 1 = nI (S.rn + i) → (∀ j, j < S.rn + i → m.1 19 j = nI (rdR S s j) ∧ rdR S s j < 30) → (∀ j, j < i → rdF S s j = false) → am_R shC mi_X11_read (am_D shC (d - 1)) (fun o => o.1 = some (.int (nI (rdK S s n), S.setR (S.rn + rdK S s n) (rdR S s)).1) ∧ RC o.2 (nI (rdK S s n), S.setR (S.rn + rdK S s n) (rdR S s)).2) 37 [(0, .ref 0), (2, .ref (25 + s)), (3, .int (nI i))] [] m := by
        intro j
        induction j with
        | zero =>
          intro i hi h8 m hm h18 h19 hf
          have sz : m.1 (25 + s) 2 = nI n := by rw [hm _ (by omega) (by omega), cOut_low (by omega) (by omega)]; exact a3
          refine am_go rfl ?_
          iterate 2 refine am_g0 rfl rfl ?_
          refine am_ys s1 ?_
          refine am_g0 rfl rfl ?_
          refine am_tt (show (m.1 (25 + s) 2 : Int32) ≤ (nI i) from by rw [sz]; exact nI_le (by omega) (by omega)) ?_
          refine am_go rfl ?_
          refine am_g0 rfl rfl ?_
          have e : rdK S s n = i := by rw [rdK_n (fun j hj => hf j (by omega))]; omega
          rw [e]
          exact ⟨rfl, rfl, fin i h8 m hm h18 h19⟩
        | succ j ih =>
          intro i hi h8 m hm h18 h19 hf
          have sz : m.1 (25 + s) 2 = nI n := by rw [hm _ (by omega) (by omega), cOut_low (by omega) (by omega)]; exact a3
          have ite : m.1 (29 + s) i = S.it s i := by rw [hm _ (by omega) (by omega), cOut_low (by omega) (by omega)]; exact a4 i (by omega)
          refine am_go rfl ?_
          iterate 2 refine am_g0 rfl rfl ?_
          refine am_ys s1 ?_
          refine am_g0 rfl rfl ?_
          refine am_ff (show ¬ (m.1 (25 + s) 2 : Int32) ≤ (nI i) from by rw [sz]; exact nI_ge (by omega) (by omega)) ?_
          iterate 2 refine am_g0 rfl rfl ?_
          refine am_ys s1 (am_oi s2 ?_)
          refine am_g0 rfl rfl ?_
          refine am_glN (k := i) rfl s3 (by omega) (by decide) ?_
          refine am_top (y := S.it s i) (ite) ?_
          iterate 2 refine am_g0 rfl rfl ?_
          rcases dI_or (S.it s i) 30 (by decide) with hv | ⟨v, hv30, ev, hv⟩
          · refine ⟨(some (.int 0), m), d_isWn shC (n := 30) (by omega) hv, ?_⟩
            refine am_to (lv' := [(0, .ref 0), (2, .ref (25 + s)), (3, .int (nI i))]) (st' := [.int 0]) (w' := m) rfl rfl rfl ?_
            refine am_g0 rfl rfl ?_
            refine am_go rfl ?_
            refine am_g0 rfl rfl ?_
            have e : rdK S s n = i := rdK_at (by omega) (by unfold rdF; rw [hv]; rfl) hf
            rw [e]
            exact ⟨rfl, rfl, fin i h8 m hm h18 h19⟩
          · refine ⟨(some (.int 1), m), by rw [ev]; exact d_isWs shC (n := 30) (by omega) hv30 (by decide), ?_⟩
            refine am_to (lv' := [(0, .ref 0), (2, .ref (25 + s)), (3, .int (nI i))]) (st' := [.int 1]) (w' := m) rfl rfl rfl ?_
            iterate 5 refine am_g0 rfl rfl ?_
            refine am_ys s1 (am_oi s2 ?_)
            refine am_g0 rfl rfl ?_
            refine am_glN (k := i) rfl s3 (by omega) (by decide) ?_
            refine am_top (y := S.it s i) (ite) ?_
            refine am_g0 rfl rfl ?_
            by_cases h88 : S.rn + i = 8
            · refine ⟨(some (.int 0), m), d_radd_f (by omega) h18 h88, ?_⟩
              refine am_to (lv' := [(0, .ref 0), (2, .ref (25 + s)), (3, .int (nI i))]) (st' := [.int 0]) (w' := m) rfl rfl rfl ?_
              refine am_g0 rfl rfl ?_
              refine am_go rfl ?_
              refine am_g0 rfl rfl ?_
              have e : rdK S s n = i := rdK_at (by omega) (by unfold rdF; rw [decide_eq_true h88]; exact Bool.or_true _) hf
              rw [e]
              exact ⟨rfl, rfl, fin i h8 m hm h18 h19⟩
            · refine ⟨(some (.int 1), am_pi (am_pi m 19 (S.rn + i) (S.it s i)) 18 1 (nI (S.rn + i + 1))), d_radd_t (by omega) h18 (by omega), ?_⟩
              refine am_to (lv' := [(0, .ref 0), (2, .ref (25 + s)), (3, .int (nI i))]) (st' := [.int 1]) (w' := am_pi (am_pi m 19 (S.rn + i) (S.it s i)) 18 1 (nI (S.rn + i + 1))) rfl rfl rfl ?_
              iterate 3 refine am_g0 rfl rfl ?_
              have this := ih (i + 1) (by omega) (by omega) (am_pi (am_pi m 19 (S.rn + i) (S.it s i)) 18 1 (nI (S.rn + i + 1))) (fun a h1 h2 => by rw [am_pi_row h1, am_pi_row h2]; exact hm a h1 h2) (am_pi_at _ _ _ _) (fun k hk => if z : k = S.rn + i then by rw [am_pi_row (by omega), z, am_pi_at]; unfold rdR; rw [if_neg (by omega), show S.rn + i - S.rn = i by omega, hv]; exact ⟨ev, hv30⟩ else by rw [am_pi_row (by omega), am_pi_ne (Or.inr z)]; exact h19 k (by omega)) (fun k hk => if z : k = i then by rw [z]; unfold rdF; rw [hv, decide_eq_false h88]; rfl else hf k (by omega))
              rw [← nI_1] at this
              exact am_kl this rfl
      exact am_kl (key n 0 (by omega) (by omega) (cOut w) (fun _ _ _ => rfl) (by rw [cOut_low (by omega) (by omega)]; exact r1) (fun k hk => by rw [cOut_low (by omega) (by omega)]; unfold rdR; rw [if_pos (by omega)]; exact ⟨r2 k (by omega), h.1.1.2.1.2 k (by omega)⟩) (fun k hk => absurd hk (Nat.not_lt_zero k))) rfl
/-! copies -/
def rng (i n : Int32) (a : Nat) : Prop := ¬ i < 0 ∧ ¬ n < 0 ∧ i.toInt + n.toInt ≤ (a : Int)
theorem d_hasRange_t {d s a : Nat} {i n : Int32} {w : am_M} (hd : 1 ≤ d) (hs : s < 4) (hz : w.1 (25 + s) 2 = nI a) (ha : a ≤ 60) (hr : rng i n a) : am_D shC d mi_X4_hasRange [.ref (25 + s), .int i, .int n] w (some (.int 1), w) := by
  obtain ⟨s1, s2, s3⟩ := sh_S s hs
  obtain ⟨h1, h2, h3⟩ := hr
  refine am_def (by omega) rfl rfl ?_
  iterate 2 refine am_g0 rfl rfl ?_
  refine am_ff (show ¬ (i : Int32) < 0 from h1) ?_
  iterate 2 refine am_g0 rfl rfl ?_
  refine am_ff (show ¬ (n : Int32) < 0 from h2) ?_
  iterate 3 refine am_g0 rfl rfl ?_
  refine am_ys s1 ?_
  iterate 3 refine am_g0 rfl rfl ?_
  obtain ⟨j, hj, rfl⟩ := nI_of h1
  obtain ⟨k, hk, rfl⟩ := nI_of h2
  rw [nI_toInt hj, nI_toInt hk] at h3
  refine am_ff (by rw [hz, pk_sub (by omega)]; exact nI_nlt (by omega) (by omega)) ?_
  iterate 2 refine am_g0 rfl rfl ?_
  refine am_go rfl ?_
  exact ⟨rfl, rfl⟩
theorem d_hasRange_f {d s a : Nat} {i n : Int32} {w : am_M} (hd : 1 ≤ d) (hs : s < 4) (hz : w.1 (25 + s) 2 = nI a) (ha : a ≤ 60) (hr : ¬ rng i n a) : am_D shC d mi_X4_hasRange [.ref (25 + s), .int i, .int n] w (some (.int 0), w) := by
  obtain ⟨s1, s2, s3⟩ := sh_S s hs
  refine am_def (by omega) rfl rfl ?_
  iterate 2 refine am_g0 rfl rfl ?_
  by_cases h1 : i < 0
  · refine am_tt (show (i : Int32) < 0 from h1) ?_
    refine am_go rfl ?_
    refine am_go rfl ?_
    exact ⟨rfl, rfl⟩
  · refine am_ff (show ¬ (i : Int32) < 0 from h1) ?_
    iterate 2 refine am_g0 rfl rfl ?_
    by_cases h2 : n < 0
    · refine am_tt (show (n : Int32) < 0 from h2) ?_
      refine am_go rfl ?_
      refine am_go rfl ?_
      exact ⟨rfl, rfl⟩
    · refine am_ff (show ¬ (n : Int32) < 0 from h2) ?_
      iterate 3 refine am_g0 rfl rfl ?_
      refine am_ys s1 ?_
      iterate 3 refine am_g0 rfl rfl ?_
      obtain ⟨j, hj, rfl⟩ := nI_of h1
      obtain ⟨k, hk, rfl⟩ := nI_of h2
      have h3 : a < j + k := by
        unfold rng at hr
        rw [nI_toInt hj, nI_toInt hk] at hr
        exact Decidable.byContradiction fun z => hr ⟨h1, h2, by omega⟩
      refine am_tt (by rw [hz, Int32.lt_iff_toInt_lt, Int32.toInt_sub, nI_toInt (by omega), nI_toInt hk, nI_toInt hj, Int.bmod_eq_of_le (by omega) (by omega)]; omega) ?_
      refine am_go rfl ?_
      refine am_go rfl ?_
      exact ⟨rfl, rfl⟩
def cpyI (it : Nat → Nat → Int32) (s i t j n : Nat) : Nat → Nat → Int32 := fun c e => if c = t ∧ j ≤ e ∧ e < j + n then it s (i + (e - j)) else it c e
def rngB (i n : Int32) (a : Nat) : Bool := decide (¬ i < 0) && decide (¬ n < 0) && decide (i.toInt + n.toInt ≤ (a : Int))
theorem rngB_t {i n : Int32} {a : Nat} : rngB i n a = true ↔ rng i n a := by unfold rngB rng; simp only [Bool.and_eq_true, decide_eq_true_eq]; exact and_assoc
def copyS (S : Sp) (x i y j n : Int32) : Int32 × Sp := match dI x 4, dI y 4 with
  | some s, some t => (match S.sz s, S.sz t with
    | some a, some b => if S.fm s = S.fm t then (if rngB i n a && rngB j n b then (1, S.setH S.fm S.sz (cpyI S.it s i.toNatClampNeg t j.toNatClampNeg n.toNatClampNeg)) else (-12, S.setF 2)) else (-14, S.setF 4)
    | _, _ => (-11, S.setF 1))
  | _, _ => (-2, S)
theorem d_copy {d : Nat} {x i y j n : Int32} {w : am_M} {S : Sp} (hd : 8 ≤ d) (h : RC w S) : ∃ o : am_O, (o.1 = some (.int (copyS S x i y j n).1) ∧ RC o.2 (copyS S x i y j n).2) ∧ am_D shC d mi_X11_copy [.ref 0, .int x, .int i, .int y, .int j, .int n] w o := by
  rcases dI_or x 4 (by decide) with hx | ⟨s, hs, rfl, hx⟩
  · refine am_dex (by omega) rfl rfl ?_
    iterate 3 refine am_g0 rfl rfl ?_
    refine ⟨(some (.int 0), w), d_isWn shC (n := 4) (by omega) hx, ?_⟩
    refine am_to (lv' := [(0, .ref 0), (1, .int x), (2, .int i), (3, .int y), (4, .int j), (5, .int n)]) (st' := [.int 0]) (w' := w) rfl rfl rfl ?_
    refine am_g0 rfl rfl ?_
    refine am_go rfl ?_
    refine am_g0 rfl rfl ?_
    exact ⟨rfl, by unfold copyS; rw [hx], by unfold copyS; rw [hx]; exact h⟩
  · rcases dI_or y 4 (by decide) with hy | ⟨t, ht, rfl, hy⟩
    · refine am_dex (by omega) rfl rfl ?_
      iterate 3 refine am_g0 rfl rfl ?_
      refine ⟨(some (.int 1), w), d_isWs shC (n := 4) (by omega) hs (by decide), ?_⟩
      refine am_to (lv' := [(0, .ref 0), (1, .int (nI s)), (2, .int i), (3, .int y), (4, .int j), (5, .int n)]) (st' := [.int 1]) (w' := w) rfl rfl rfl ?_
      iterate 4 refine am_g0 rfl rfl ?_
      refine ⟨(some (.int 0), w), d_isWn shC (n := 4) (by omega) hy, ?_⟩
      refine am_to (lv' := [(0, .ref 0), (1, .int (nI s)), (2, .int i), (3, .int y), (4, .int j), (5, .int n)]) (st' := [.int 0]) (w' := w) rfl rfl rfl ?_
      refine am_g0 rfl rfl ?_
      refine am_go rfl ?_
      refine am_g0 rfl rfl ?_
      exact ⟨rfl, by unfold copyS; rw [hx, hy], by unfold copyS; rw [hx, hy]; exact h⟩
    · obtain ⟨s1, s2, s3⟩ := sh_S s hs
      obtain ⟨t1, t2, t3⟩ := sh_S t ht
      refine am_dex (by omega) rfl rfl ?_
      iterate 3 refine am_g0 rfl rfl ?_
      refine ⟨(some (.int 1), w), d_isWs shC (n := 4) (by omega) hs (by decide), ?_⟩
      refine am_to (lv' := [(0, .ref 0), (1, .int (nI s)), (2, .int i), (3, .int (nI t)), (4, .int j), (5, .int n)]) (st' := [.int 1]) (w' := w) rfl rfl rfl ?_
      iterate 4 refine am_g0 rfl rfl ?_
      refine ⟨(some (.int 1), w), d_isWs shC (n := 4) (by omega) ht (by decide), ?_⟩
      refine am_to (lv' := [(0, .ref 0), (1, .int (nI s)), (2, .int i), (3, .int (nI t)), (4, .int j), (5, .int n)]) (st' := [.int 1]) (w' := w) rfl rfl rfl ?_
      refine am_g0 rfl rfl ?_
      refine am_go rfl ?_
      iterate 3 refine am_g0 rfl rfl ?_
      refine am_ff (show ¬ nI s < 0 from nI_pos (by omega)) (am_oi (a := 25 + s) (by rw [nI_clamp (by omega)]; exact sh_S4 s hs) ?_)
      iterate 5 refine am_g0 rfl rfl ?_
      refine am_ff (show ¬ nI t < 0 from nI_pos (by omega)) (am_oi (a := 25 + t) (by rw [nI_clamp (by omega)]; exact sh_S4 t ht) ?_)
      iterate 3 refine am_g0 rfl rfl ?_
      refine am_ys (show (true && (true && am_isb shC (25 + s) 4)) = true by rw [s1]; rfl) ?_
      refine ⟨(some (.int (if w.1 (25 + s) 2 = -1 then 1 else 0)), w), d_isLost (by omega) hs, ?_⟩
      refine am_to (lv' := [(0, .ref 0), (1, .int (nI s)), (2, .int i), (3, .int (nI t)), (4, .int j), (5, .int n), (6, .ref (25 + s)), (7, .ref (25 + t))]) (st' := [.int (if w.1 (25 + s) 2 = -1 then 1 else 0)]) (w' := w) rfl rfl rfl ?_
      refine am_g0 rfl rfl ?_
      rcases opt_or (S.sz s) with hz | ⟨a, hz⟩
      · refine am_ff (show ¬ (if w.1 (25 + s) 2 = -1 then 1 else 0 : Int32) = 0 from by rw [if_pos ((h.szn hs).mpr hz)]; exact i10) ?_
        refine am_go rfl ?_
        iterate 2 refine am_g0 rfl rfl ?_
        refine ⟨(some (.int ((-10) - 1)), am_pi w 0 16 1), d_refusal (by omega), ?_⟩
        refine am_to (lv' := [(0, .ref 0)]) (st' := [.int ((-10) - 1)]) (w' := am_pi w 0 16 1) rfl rfl rfl ?_
        refine am_g0 rfl rfl ?_
        exact ⟨rfl, by unfold copyS; rw [hx, hy]; dsimp only; rw [hz]; rfl, by unfold copyS; rw [hx, hy]; dsimp only; rw [hz]; exact RC_setF h⟩
      · refine am_tt (show (if w.1 (25 + s) 2 = -1 then 1 else 0 : Int32) = 0 from by rw [if_neg (fun z => by rw [(h.szn hs).mp z] at hz; cases hz)]) ?_
        iterate 2 refine am_g0 rfl rfl ?_
        refine am_ys (show (true && (true && am_isb shC (25 + t) 4)) = true by rw [t1]; rfl) ?_
        refine ⟨(some (.int (if w.1 (25 + t) 2 = -1 then 1 else 0)), w), d_isLost (by omega) ht, ?_⟩
        refine am_to (lv' := [(0, .ref 0), (1, .int (nI s)), (2, .int i), (3, .int (nI t)), (4, .int j), (5, .int n), (6, .ref (25 + s)), (7, .ref (25 + t))]) (st' := [.int (if w.1 (25 + t) 2 = -1 then 1 else 0)]) (w' := w) rfl rfl rfl ?_
        refine am_g0 rfl rfl ?_
        rcases opt_or (S.sz t) with hz2 | ⟨b, hz2⟩
        · refine am_ff (show ¬ (if w.1 (25 + t) 2 = -1 then 1 else 0 : Int32) = 0 from by rw [if_pos ((h.szn ht).mpr hz2)]; exact i10) ?_
          refine am_go rfl ?_
          iterate 2 refine am_g0 rfl rfl ?_
          refine ⟨(some (.int ((-10) - 1)), am_pi w 0 16 1), d_refusal (by omega), ?_⟩
          refine am_to (lv' := [(0, .ref 0)]) (st' := [.int ((-10) - 1)]) (w' := am_pi w 0 16 1) rfl rfl rfl ?_
          refine am_g0 rfl rfl ?_
          exact ⟨rfl, by unfold copyS; rw [hx, hy]; dsimp only; rw [hz, hz2]; rfl, by unfold copyS; rw [hx, hy]; dsimp only; rw [hz, hz2]; exact RC_setF h⟩
        · refine am_tt (show (if w.1 (25 + t) 2 = -1 then 1 else 0 : Int32) = 0 from by rw [if_neg (fun z => by rw [(h.szn ht).mp z] at hz2; cases hz2)]) ?_
          obtain ⟨a1, a2⟩ := h.1.2.2.2.2.2.2.2.1 s hs
          obtain ⟨b1, b2⟩ := h.1.2.2.2.2.2.2.2.1 t ht
          obtain ⟨a3, a4⟩ := a2 a hz
          obtain ⟨b3, b4⟩ := b2 b hz2
          obtain ⟨a5, a6⟩ := h.1.1.2.2.2 s hs
          obtain ⟨b5, b6⟩ := h.1.1.2.2.2 t ht
          have ha60 := a6 a hz
          have hb60 := b6 b hz2
          rw [hz] at a1
          rw [hz2] at b1
          refine am_go rfl ?_
          refine am_g0 rfl rfl ?_
          refine am_ys s1 ?_
          iterate 2 refine am_g0 rfl rfl ?_
          refine am_ys t1 ?_
          refine am_g0 rfl rfl ?_
          by_cases hf : S.fm s = S.fm t
          · refine am_tt (show (w.1 (25 + s) 1 : Int32) = (w.1 (25 + t) 1) from by rw [a3, b3, hf]) ?_
            refine am_go rfl ?_
            iterate 3 refine am_g0 rfl rfl ?_
            refine am_ys (show (true && (true && am_isb shC (25 + s) 4)) = true by rw [s1]; rfl) ?_
            have no : ¬ (rngB i n a && rngB j n b) = true → copyS S (nI s) i (nI t) j n = (-12, S.setF 2) := fun z => by unfold copyS; rw [hx, hy]; dsimp only; rw [hz, hz2]; dsimp only; rw [if_pos hf, if_neg z]
            by_cases q1 : rng i n a
            · refine ⟨(some (.int 1), w), d_hasRange_t (by omega) hs a1 ha60 q1, ?_⟩
              refine am_to (lv' := [(0, .ref 0), (2, .int i), (4, .int j), (5, .int n), (6, .ref (25 + s)), (7, .ref (25 + t))]) (st' := [.int 1]) (w' := w) rfl rfl rfl ?_
              iterate 5 refine am_g0 rfl rfl ?_
              refine am_ys (show (true && (true && am_isb shC (25 + t) 4)) = true by rw [t1]; rfl) ?_
              by_cases q2 : rng j n b
              · refine ⟨(some (.int 1), w), d_hasRange_t (by omega) ht b1 hb60 q2, ?_⟩
                refine am_to (lv' := [(0, .ref 0), (2, .int i), (4, .int j), (5, .int n), (6, .ref (25 + s)), (7, .ref (25 + t))]) (st' := [.int 1]) (w' := w) rfl rfl rfl ?_
                refine am_g0 rfl rfl ?_
                refine am_go rfl ?_
                refine am_g0 rfl rfl ?_
                refine am_ys s1 (am_oi s2 ?_)
                iterate 3 refine am_g0 rfl rfl ?_
                refine am_ys t1 (am_oi t2 ?_)
                iterate 3 refine am_g0 rfl rfl ?_
                have hS : copyS S (nI s) i (nI t) j n = (1, S.setH S.fm S.sz (cpyI S.it s i.toNatClampNeg t j.toNatClampNeg n.toNatClampNeg)) := by unfold copyS; rw [hx, hy]; dsimp only; rw [hz, hz2]; dsimp only; rw [if_pos hf, if_pos (by rw [rngB_t.mpr q1, rngB_t.mpr q2]; rfl)]
                rw [hS]
                obtain ⟨c1, c2, c3⟩ := q1
                obtain ⟨c4, c5, c6⟩ := q2
                obtain ⟨I, hI, rfl⟩ := nI_of c1
                obtain ⟨J, hJ, rfl⟩ := nI_of c4
                obtain ⟨N, hN, rfl⟩ := nI_of c2
                rw [nI_toInt hI, nI_toInt hN] at c3
                rw [nI_toInt hJ, nI_toInt hN] at c6
                rw [nI_clamp hI, nI_clamp hJ, nI_clamp hN]
                refine am_oi s3 (am_oi t3 ⟨c1, c4, c2, by rw [nI_clamp hI, nI_clamp hN]; omega, by rw [nI_clamp hJ, nI_clamp hN]; omega, ?_⟩)
                rw [nI_clamp hI, nI_clamp hJ, nI_clamp hN]
                iterate 2 refine am_g0 rfl rfl ?_
                refine ⟨rfl, rfl, RC_setH h (fun c hc => funext fun e => by show (if c = 29 + t then _ else w.1 c e) = w.1 c e; rw [if_neg (by omega)]) rfl (h.1.1.2.2.2) (fun c hc => ?_)⟩
                obtain ⟨k1, k2⟩ := h.1.2.2.2.2.2.2.2.1 c hc
                have e25 : ∀ e, (am_pa w (29 + t) (va_cpy (w.1 (29 + s)) (w.1 (29 + t)) I J N)).1 (25 + c) e = w.1 (25 + c) e := fun e => by show (if 25 + c = 29 + t then _ else w.1 (25 + c) e) = _; rw [if_neg (by omega)]
                show (am_pa w (29 + t) (va_cpy (w.1 (29 + s)) (w.1 (29 + t)) I J N)).1 (25 + c) 2 = opI (S.sz c) ∧ ∀ m, S.sz c = some m → (am_pa w (29 + t) (va_cpy (w.1 (29 + s)) (w.1 (29 + t)) I J N)).1 (25 + c) 1 = nI (S.fm c) ∧ ∀ i, i < m → (am_pa w (29 + t) (va_cpy (w.1 (29 + s)) (w.1 (29 + t)) I J N)).1 (29 + c) i = cpyI S.it s I t J N c i
                rw [e25, e25]
                refine ⟨k1, fun m hm => ⟨(k2 m hm).1, fun e he => ?_⟩⟩
                show (if 29 + c = 29 + t then va_cpy (w.1 (29 + s)) (w.1 (29 + t)) I J N e else w.1 (29 + c) e) = (if c = t ∧ J ≤ e ∧ e < J + N then S.it s (I + (e - J)) else S.it c e)
                by_cases z : c = t
                · subst z
                  rw [if_pos rfl]
                  by_cases z2 : J ≤ e ∧ e < J + N
                  · rw [if_pos ⟨rfl, z2⟩, pk_cpy_in z2.1 z2.2]
                    exact a4 _ (by omega)
                  · rw [if_neg (fun q => z2 q.2), pk_cpy_out (by omega)]
                    exact (k2 m hm).2 e he
                · rw [if_neg (by omega), if_neg (fun q => z q.1)]
                  exact (k2 m hm).2 e he
              · refine ⟨(some (.int 0), w), d_hasRange_f (by omega) ht b1 hb60 q2, ?_⟩
                refine am_to (lv' := [(0, .ref 0), (2, .int i), (4, .int j), (5, .int n), (6, .ref (25 + s)), (7, .ref (25 + t))]) (st' := [.int 0]) (w' := w) rfl rfl rfl ?_
                refine am_g0 rfl rfl ?_
                refine am_go rfl ?_
                iterate 2 refine am_g0 rfl rfl ?_
                refine ⟨(some (.int ((-10) - 2)), am_pi w 0 16 2), d_refusal (by omega), ?_⟩
                refine am_to (lv' := [(0, .ref 0)]) (st' := [.int ((-10) - 2)]) (w' := am_pi w 0 16 2) rfl rfl rfl ?_
                refine am_g0 rfl rfl ?_
                rw [no (fun z => q2 (rngB_t.mp (Bool.and_eq_true_iff.mp z).2))]
                exact ⟨rfl, rfl, RC_setF h⟩
            · refine ⟨(some (.int 0), w), d_hasRange_f (by omega) hs a1 ha60 q1, ?_⟩
              refine am_to (lv' := [(0, .ref 0), (2, .int i), (4, .int j), (5, .int n), (6, .ref (25 + s)), (7, .ref (25 + t))]) (st' := [.int 0]) (w' := w) rfl rfl rfl ?_
              refine am_g0 rfl rfl ?_
              refine am_go rfl ?_
              iterate 2 refine am_g0 rfl rfl ?_
              refine ⟨(some (.int ((-10) - 2)), am_pi w 0 16 2), d_refusal (by omega), ?_⟩
              refine am_to (lv' := [(0, .ref 0)]) (st' := [.int ((-10) - 2)]) (w' := am_pi w 0 16 2) rfl rfl rfl ?_
              refine am_g0 rfl rfl ?_
              rw [no (fun z => q1 (rngB_t.mp (Bool.and_eq_true_iff.mp z).1))]
              exact ⟨rfl, rfl, RC_setF h⟩
          · refine am_ff (show ¬ (w.1 (25 + s) 1 : Int32) = (w.1 (25 + t) 1) from by rw [a3, b3]; exact nne hf (by omega) (by omega)) ?_
            iterate 3 refine am_g0 rfl rfl ?_
            refine ⟨(some (.int ((-10) - 4)), am_pi w 0 16 4), d_refusal (by omega), ?_⟩
            refine am_to (lv' := [(0, .ref 0), (2, .int i), (4, .int j), (5, .int n), (6, .ref (25 + s)), (7, .ref (25 + t))]) (st' := [.int ((-10) - 4)]) (w' := am_pi w 0 16 4) rfl rfl rfl ?_
            refine am_g0 rfl rfl ?_
            exact ⟨rfl, by unfold copyS; rw [hx, hy]; dsimp only; rw [hz, hz2]; dsimp only; rw [if_neg hf]; rfl, by unfold copyS; rw [hx, hy]; dsimp only; rw [hz, hz2]; dsimp only; rw [if_neg hf]; exact RC_setF h⟩
