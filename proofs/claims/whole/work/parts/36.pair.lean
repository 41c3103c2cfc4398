/-! dry, never, pair: the class -/
theorem d_dry {d : Nat} {x : Int32} {w : am_M} {S : Sp} (hd : 8 ≤ d) (h : RC w S) : ∃ o : am_O, (o.1 = some (.int (dryQ S x)) ∧ RC o.2 S) ∧ am_D shC d mi_X11_dry [.ref 0, .int x] w o := by
  have tail : (x = -1 ∨ ∃ i, i < 2 ∧ x = nI i) → ∀ m : am_M, RC m S → m.1 0 19 = dryC S → (∀ l, dryS S = some l → ∀ i a, l[i]? = some a → m.1 70 i = nI a) → am_R shC mi_X11_dry (am_D shC (d - 1)) (fun o => (o.1 = some (.int (dryQ S x)) ∧ RC o.2 S)) 33 [(0, .ref 0), (1, .int x)] [] m := by
    intro hx m hm h19 h70
    refine am_go rfl ?_
    iterate 2 refine am_g0 rfl rfl ?_
    rcases hx with hx | ⟨i, hi, hx⟩
    · refine am_tt (show (x : Int32) = (-1) from hx) ?_
      iterate 3 refine am_g0 rfl rfl ?_
      rw [h19]
      exact ⟨rfl, by unfold dryQ; rw [if_pos hx], hm⟩
    · refine am_ff (show ¬ (x : Int32) = (-1) from by rw [hx]; exact nI_m1 (by omega)) ?_
      have hQ : dryQ S x = dryA S i := by unfold dryQ; rw [if_neg (by rw [hx]; exact nI_m1 (by omega)), hx, dI_t hi (by omega)]
      rw [hQ]
      refine am_go rfl ?_
      iterate 3 refine am_g0 rfl rfl ?_
      rcases opt_or (dryS S) with hz | ⟨l, hz⟩
      · refine am_tt (show (m.1 0 19 : Int32) ≤ x from by rw [h19, hx]; unfold dryC; rw [hz]; exact Int32.le_of_lt (Int32.lt_of_lt_of_le (b := 0) (by decide) (nI_pos' (by omega)))) ?_
        refine am_go rfl ?_
        refine am_go rfl ?_
        exact ⟨rfl, by unfold dryA; rw [hz], hm⟩
      · have hlen := dryS_len hz
        have h19' : m.1 0 19 = nI l.length := by rw [h19]; unfold dryC; rw [hz]
        by_cases hil : i < l.length
        · refine am_ff (show ¬ (m.1 0 19 : Int32) ≤ x from by rw [h19', hx]; exact nI_ge hil (by omega)) ?_
          iterate 3 refine am_g0 rfl rfl ?_
          refine am_glE (n := 2) (k := i) rfl rfl (hx) (by omega) (by decide) ?_
          refine am_g0 rfl rfl ?_
          refine am_go rfl ?_
          exact ⟨rfl, by unfold dryA; rw [hz]; dsimp only; rw [List.getElem?_eq_getElem hil, h70 l hz i l[i] (List.getElem?_eq_getElem hil)]; rfl, hm⟩
        · refine am_tt (show (m.1 0 19 : Int32) ≤ x from by rw [h19', hx]; exact nI_le (by omega) (by omega)) ?_
          refine am_go rfl ?_
          refine am_go rfl ?_
          exact ⟨rfl, by unfold dryA; rw [hz]; dsimp only; rw [List.getElem?_eq_none (by omega)]; rfl, hm⟩
  have mid : (x = -1 ∨ ∃ i, i < 2 ∧ x = nI i) → am_R shC mi_X11_dry (am_D shC (d - 1)) (fun o => (o.1 = some (.int (dryQ S x)) ∧ RC o.2 S)) 16 [(0, .ref 0), (1, .int x)] [] w := by
    intro hx
    refine am_go rfl ?_
    iterate 3 refine am_g0 rfl rfl ?_
    by_cases h2 : w.1 0 19 = -2
    · refine am_tt (show (w.1 0 19 : Int32) = (-2) from h2) ?_
      iterate 3 refine am_g0 rfl rfl ?_
      obtain ⟨⟨r1, w1⟩, ⟨e1, f1, g1⟩, hD1⟩ := d_findDry (d := d - 1) (by omega) h
      dsimp only at e1 f1 g1
      subst e1
      refine ⟨(some (.int (dryC S)), w1), hD1, ?_⟩
      refine am_to (lv' := [(0, .ref 0), (1, .int x)]) (st' := [.int (dryC S), .ref 0]) (w' := w1) rfl rfl rfl ?_
      refine am_g0 rfl rfl ?_
      have e : ∀ a, ¬ scr a → a ≠ 70 → a ≠ 0 → (am_pi w1 0 19 (dryC S)).1 a = w.1 a := fun a h1 h2 h3 => by rw [am_pi_row h3]; exact f1.1 a h1 h2
      have e0 : ∀ j, j ≠ 19 → (am_pi w1 0 19 (dryC S)).1 0 j = w.1 0 j := fun j hj => by rw [am_pi_ne (Or.inr hj), f1.1 0 (by unfold scr; omega) (by omega)]
      refine am_kl (tail hx (am_pi w1 0 19 (dryC S)) ⟨h.1.fr (fun a h1 h2 => e a (by unfold scr; omega) (by omega) (by omega)) (e0 16 (by omega)), h.2.1.fr h.q8 (fun a h1 h2 => e a (by unfold scr; omega) (by omega) (by omega)) (e0 17 (by omega)), h.2.2.1.fr (e 69 (by unfold scr; omega) (by omega) (by omega)) (e0 18 (by omega)), Or.inr ⟨am_pi_at _ _ _ _, fun l hl i a ha => ?_⟩, h.2.2.2.2.fr (e 53 (by unfold scr; omega) (by omega) (by omega)) (by show w1.2 53 = w.2 53; rw [f1.2])⟩ (am_pi_at _ _ _ _) (fun l hl i a ha => ?_)) rfl
      · rw [am_pi_row (by omega)]; exact g1 l hl i a ha
      · rw [am_pi_row (by omega)]; exact g1 l hl i a ha
    · refine am_ff (show ¬ (w.1 0 19 : Int32) = (-2) from h2) ?_
      rcases h.2.2.2.1 with z | ⟨z1, z2⟩
      · exact absurd z h2
      · exact am_kl (tail hx w h z1 z2) rfl
  by_cases hm1 : x = -1
  · refine am_dex (by omega) rfl rfl ?_
    iterate 3 refine am_g0 rfl rfl ?_
    refine am_tt (show (x : Int32) = (-1) from hm1) ?_
    exact am_kl (mid (Or.inl hm1)) rfl
  · rcases dI_or x 2 (by decide) with hx | ⟨i, hi, ex, hx⟩
    · refine am_dex (by omega) rfl rfl ?_
      iterate 3 refine am_g0 rfl rfl ?_
      refine am_ff (show ¬ (x : Int32) = (-1) from hm1) ?_
      iterate 3 refine am_g0 rfl rfl ?_
      refine ⟨(some (.int 0), w), d_isWn shC (n := 2) (by omega) hx, ?_⟩
      refine am_to (lv' := [(0, .ref 0), (1, .int x)]) (st' := [.int 0]) (w' := w) rfl rfl rfl ?_
      iterate 3 refine am_g0 rfl rfl ?_
      exact ⟨rfl, by unfold dryQ; rw [if_neg hm1, hx], h⟩
    · refine am_dex (by omega) rfl rfl ?_
      iterate 3 refine am_g0 rfl rfl ?_
      refine am_ff (show ¬ (x : Int32) = (-1) from hm1) ?_
      iterate 3 refine am_g0 rfl rfl ?_
      refine ⟨(some (.int 1), w), by rw [ex]; exact d_isWs shC (n := 2) (by omega) hi (by decide), ?_⟩
      refine am_to (lv' := [(0, .ref 0), (1, .int x)]) (st' := [.int 1]) (w' := w) rfl rfl rfl ?_
      refine am_g0 rfl rfl ?_
      exact am_kl (mid (Or.inr ⟨i, hi, ex⟩)) rfl
/-! never -/
/-- all that was seen comes out so, where each has its row of cells -/
def holdA (S : Sp) (F : Nat → Nat → Int32) : Bool := allB (fun i => decide (S.pe i < S.q)) S.sn && allB (fun p => holdS S.sn S.st S.pe S.ce p (F p)) S.q
def neverA (S : Sp) (i : Nat) : Bool := holdA S (fun p s => cellI S.V (prS S.pf p) (wetN S.rs (ex1 i) S.rn) s)
def neverS (S : Sp) : Int32 := bitsS (neverA S) S.rn
theorem hold_congr {n : Nat} {st pe ce : Nat → Nat} {p : Nat} {F G : Nat → Int32} (h : ∀ i, i < n → st i < 30) (e : ∀ s, s < 30 → F s = G s) : holdS n st pe ce p F = holdS n st pe ce p G := by
  unfold holdS
  exact allB_congr (fun i hi => by rw [e _ (h i hi)])
theorem RC.seen {w : am_M} {S : Sp} (h : RC w S) : cSeen w S.sn S.st S.pe S.ce := h.1.2.2.2.2.2.2.1
theorem RC.s30 {w : am_M} {S : Sp} (h : RC w S) : ∀ i, i < S.sn → S.st i < 30 := fun i hi => (h.seen.2.2 i hi).2.1
theorem d_trial {d : Nat} {P : Pr} {x : Int32} {w : am_M} {S : Sp} {wet : Nat → Bool} (hd : 3 ≤ d) (h : RC w S) (hP : wkP (w.1 52) P) (hPb : Pok P) (hw : ∀ s, s < 30 → wetB x s = wet s) : ∃ o : am_O, (o.1 = none ∧ am_sc w o.2 ∧ trOK o.2 50 51 S.V P wet) ∧ am_D shC d mi_X9_follow [.ref 50, .ref 52, .int x] w o := by
  obtain ⟨o, ⟨h1, h2, h3⟩, hD⟩ := d_follow (d := d) (T := 50) (R := 51) (x := x) hd rfl rfl rfl (by omega) (by omega) (by omega) (by omega) (by omega) h.1.V hP hPb
  exact ⟨o, ⟨h1, ⟨fun a ha => h2.1 a (fun z => ha (by unfold scr; omega)) (fun z => ha (by unfold scr; omega)) (fun z => ha (by unfold scr; omega)), h2.2⟩, h3.congr hw⟩, hD⟩
theorem d_allHold {d k : Nat} {w : am_M} {S : Sp} (hd : 5 ≤ d) (h : RC w S) (hk : k < 8) : ∃ o : am_O, (o.1 = some (.int (b01 (neverA S k))) ∧ am_sc w o.2) ∧ am_D shC d mi_X11_allHoldWithout [.ref 0, .int (nI k)] w o := by
  have hq := h.q8
  have h8 := h.1.1.2.1.1
  refine am_dex (by omega) rfl rfl ?_
  iterate 5 refine am_g0 rfl rfl ?_
  refine am_top (y := nI S.q) (h.1.P.1) ?_
  refine am_g0 rfl rfl ?_
  refine ⟨(some (.int (b01 (!allB (fun i => decide (S.pe i < S.q)) S.sn))), w), d_haveNobody (by omega) h.seen hq, ?_⟩
  refine am_to (lv' := [(0, .ref 0), (1, .int (nI k))]) (st' := [.int (b01 (!allB (fun i => decide (S.pe i < S.q)) S.sn))]) (w' := w) rfl rfl rfl ?_
  refine am_g0 rfl rfl ?_
  cases h0 : allB (fun i => decide (S.pe i < S.q)) S.sn with
  | false =>
    iterate 2 refine am_g0 rfl rfl ?_
    exact ⟨rfl, by unfold neverA holdA; rw [h0]; rfl, am_sc.rf⟩
  | true =>
    refine am_go rfl ?_
    iterate 4 refine am_g0 rfl rfl ?_
    refine ⟨(some (.int (wetF (w.1 19) (nI k) (-1) S.rn)), w), d_wetSteps (by omega) h8 h.1.2.2.2.2.2.1.1, ?_⟩
    refine am_to (lv' := [(0, .ref 0), (1, .int (nI k))]) (st' := [.int (wetF (w.1 19) (nI k) (-1) S.rn)]) (w' := w) rfl rfl rfl ?_
    have hwet : ∀ s, s < 30 → wetB (wetF (w.1 19) (nI k) (-1) S.rn) s = wetN S.rs (ex1 k) S.rn s := fun s hs => by rw [h.wetx (nI k) (-1) s hs]; exact wetN_congr (fun i hi => exI_1 (by omega) hk) s
    generalize wetF (w.1 19) (nI k) (-1) S.rn = x at hwet ⊢
    iterate 3 refine am_g0 rfl rfl ?_
    have key : ∀ j i : Nat, i + j = S.q → ∀ m : am_M, am_sc w m → (∀ p, p < i → holdS S.sn S.st S.pe S.ce p (fun s => cellI S.V (prS S.pf p) (wetN S.rs (ex1 k) S.rn) s) = true) → am_R shC mi_X11_allHoldWithout (am_D shC (d - 1)) (fun o => o.1 = some (.int (b01 (neverA S k))) ∧ am_sc w o.2) 31 [(0, .ref 0), (2, .int x), (3, .int (nI i))] [] m := by
      intro j
      induction j with
      | zero =>
        intro i hi m hm hf
        have r0 := h.sc hm
        refine am_go rfl ?_
        iterate 4 refine am_g0 rfl rfl ?_
        refine am_tt (show (m.1 16 1 : Int32) ≤ (nI i) from by rw [r0.1.P.1]; exact nI_le (by omega) (by omega)) ?_
        refine am_go rfl ?_
        refine am_g0 rfl rfl ?_
        exact ⟨rfl, by unfold neverA holdA; rw [h0, allB_t.mpr (fun p hp => hf p (by omega))]; rfl, hm⟩
      | succ j ih =>
        intro i hi m hm hf
        have r0 := h.sc hm
        have hok := h.1.P.ok (show i < S.q by omega)
        refine am_go rfl ?_
        iterate 4 refine am_g0 rfl rfl ?_
        refine am_ff (show ¬ (m.1 16 1 : Int32) ≤ (nI i) from by rw [r0.1.P.1]; exact nI_ge (by omega) (by omega)) ?_
        iterate 6 refine am_g0 rfl rfl ?_
        obtain ⟨⟨r1, w1⟩, ⟨e1, f1, g1⟩, hD1⟩ := d_wearR (d := d - 1) (by omega) r0 (show i < S.q by omega)
        dsimp only at e1 f1 g1
        subst e1
        refine ⟨(none, w1), hD1, ?_⟩
        refine am_to (lv' := [(0, .ref 0), (2, .int x), (3, .int (nI i))]) (st' := []) (w' := w1) rfl rfl rfl ?_
        have r1 := r0.f52 f1
        iterate 6 refine am_g0 rfl rfl ?_
        obtain ⟨⟨r2, w2⟩, ⟨e2, f2, g2⟩, hD2⟩ := d_trial (d := d - 1) (by omega) r1 g1 hok hwet
        dsimp only at e2 f2 g2
        subst e2
        refine ⟨(none, w2), hD2, ?_⟩
        refine am_to (lv' := [(0, .ref 0), (2, .int x), (3, .int (nI i))]) (st' := []) (w' := w2) rfl rfl rfl ?_
        have r2 := r1.sc f2
        have hsc : am_sc w w2 := hm.tr ((am_sc.of f1 scr52).tr f2)
        iterate 6 refine am_g0 rfl rfl ?_
        refine ⟨(some (.int (b01 (holdS S.sn S.st S.pe S.ce i (fun s => cellI S.V (prS S.pf i) (wetN S.rs (ex1 k) S.rn) s)))), w2), by rw [← hold_congr (F := w2.1 51) (G := fun s => cellI S.V (prS S.pf i) (wetN S.rs (ex1 k) S.rn) s) h.s30 (fun s hs => (g2.1 s hs).1)]; exact d_holdFor (by omega) r2.seen (by omega) rfl rfl rfl, ?_⟩
        refine am_to (lv' := [(0, .ref 0), (2, .int x), (3, .int (nI i))]) (st' := [.int (b01 (holdS S.sn S.st S.pe S.ce i (fun s => cellI S.V (prS S.pf i) (wetN S.rs (ex1 k) S.rn) s)))]) (w' := w2) rfl rfl rfl ?_
        refine am_g0 rfl rfl ?_
        cases h2 : holdS S.sn S.st S.pe S.ce i (fun s => cellI S.V (prS S.pf i) (wetN S.rs (ex1 k) S.rn) s) with
        | false =>
          iterate 2 refine am_g0 rfl rfl ?_
          exact ⟨rfl, by unfold neverA holdA; rw [h0, allB_f (i := i) (by omega) h2]; rfl, hsc⟩
        | true =>
          refine am_go rfl ?_
          refine am_g0 rfl rfl ?_
          have this := ih (i + 1) (by omega) w2 hsc (fun p hp => if z : p = i then by rw [z]; exact h2 else hf p (by omega))
          rw [← nI_1] at this
          exact am_kl this rfl
    exact am_kl (key S.q 0 (by omega) w am_sc.rf (fun p hp => absurd hp (Nat.not_lt_zero p))) rfl
theorem d_never {d : Nat} {w : am_M} {S : Sp} (hd : 8 ≤ d) (h : RC w S) : ∃ o : am_O, (o.1 = some (.int (neverS S)) ∧ RC o.2 S) ∧ am_D shC d mi_X11_never [.ref 0] w o := by
  have h8 := h.1.1.2.1.1
  refine am_dex (by omega) rfl rfl ?_
  iterate 4 refine am_g0 rfl rfl ?_
  have key : ∀ j i : Nat, i + j = S.rn → ∀ m : am_M, RC m S → am_R shC mi_X11_never (am_D shC (d - 1)) (fun o => (o.1 = some (.int (neverS S)) ∧ RC o.2 S)) 4 [(0, .ref 0), (1, .int (bitsS (neverA S) i)), (2, .int (nI i))] [] m := by
    intro j
    induction j with
    | zero =>
      intro i hi m hm
      refine am_go rfl ?_
      iterate 4 refine am_g0 rfl rfl ?_
      refine am_tt (show (m.1 18 1 : Int32) ≤ (nI i) from by rw [hm.1.2.2.2.2.2.1.1]; exact nI_le (by omega) (by omega)) ?_
      refine am_go rfl ?_
      refine am_g0 rfl rfl ?_
      exact ⟨rfl, by unfold neverS; rw [show S.rn = i by omega], hm⟩
    | succ j ih =>
      intro i hi m hm
      refine am_go rfl ?_
      iterate 4 refine am_g0 rfl rfl ?_
      refine am_ff (show ¬ (m.1 18 1 : Int32) ≤ (nI i) from by rw [hm.1.2.2.2.2.2.1.1]; exact nI_ge (by omega) (by omega)) ?_
      iterate 3 refine am_g0 rfl rfl ?_
      obtain ⟨⟨r1, w1⟩, ⟨e1, f1⟩, hD1⟩ := d_allHold (d := d - 1) (k := i) (by omega) hm (by omega)
      dsimp only at e1 f1
      subst e1
      refine ⟨(some (.int (b01 (neverA S i))), w1), hD1, ?_⟩
      refine am_to (lv' := [(0, .ref 0), (1, .int (bitsS (neverA S) i)), (2, .int (nI i))]) (st' := [.int (b01 (neverA S i))]) (w' := w1) rfl rfl rfl ?_
      refine am_g0 rfl rfl ?_
      have this := ih (i + 1) (by omega) w1 (hm.sc f1)
      cases h2 : neverA S i with
      | true =>
        iterate 6 refine am_g0 rfl rfl ?_
        refine am_go rfl ?_
        refine am_g0 rfl rfl ?_
        rw [bitsS, if_pos h2, ← nI_1] at this
        exact am_kl this rfl
      | false =>
        refine am_go rfl ?_
        refine am_g0 rfl rfl ?_
        rw [bitsS, if_neg (by rw [h2]; decide), ← nI_1] at this
        exact am_kl this rfl
  exact am_kl (key S.rn 0 (by omega) w h) rfl
/-! pair -/
theorem stop_idem (V : Wd) (P : Pr) (wet : Nat → Bool) : ∀ k, stopAt V P wet (stopAt V P wet k) = stopAt V P wet k
  | 0 => rfl
  | k + 1 => by
    have ih := stop_idem V P wet k
    by_cases hz : (lifeQ V P wet (stopAt V P wet k)).2.1 = 0
    · have e : stopAt V P wet k = k := Decidable.byContradiction fun z => (life_stop V P wet k).2.2 z hz
      have e2 : stopAt V P wet (k + 1) = k + 1 := by rw [stopAt, if_pos hz, e]
      rw [e2, e2]
    · have e2 : stopAt V P wet (k + 1) = stopAt V P wet k := by rw [stopAt, if_neg hz]
      rw [e2, ih]
theorem com_iff {V : Wd} {P : Pr} {wet : Nat → Bool} {k : Nat} (hk : k ≤ 30) : (lifeQ V P wet k).2.1 = 1 ↔ comS V P wet < k + 1 := by
  constructor
  · intro h
    have hz : (lifeQ V P wet k).2.1 ≠ 0 := by omega
    have h1 : lifeQ V P wet 30 = lifeQ V P wet k := by
      have := life_stay hz (30 - k)
      rw [show k + (30 - k) = 30 by omega] at this
      exact this
    have h2 : stopAt V P wet 30 = stopAt V P wet k := by
      have := stopAt_stay (stop_idem V P wet k) (by rw [(life_stop V P wet k).1]; exact hz) (30 - stopAt V P wet k)
      rw [show stopAt V P wet k + (30 - stopAt V P wet k) = 30 by have := (life_stop V P wet k).2.1; omega] at this
      exact this
    unfold comS fin
    rw [h1, if_pos h, h2]
    have := (life_stop V P wet k).2.1
    omega
  · intro h
    unfold comS at h
    by_cases hf : fin V P wet = 1
    · rw [if_pos hf] at h
      have h1 := (life_stop V P wet 30).1
      have h2 : (lifeQ V P wet (stopAt V P wet 30)).2.1 = 1 := by rw [h1]; exact hf
      have := life_stay (k := k - stopAt V P wet 30) (show (lifeQ V P wet (stopAt V P wet 30)).2.1 ≠ 0 by omega)
      rw [show stopAt V P wet 30 + (k - stopAt V P wet 30) = k by omega] at this
      rw [this]
      exact h2
    · rw [if_neg hf] at h; omega
theorem com_stop {V : Wd} {P : Pr} {wet : Nat → Bool} {k : Nat} (hk : k ≤ 30) (h : (lifeQ V P wet k).2.1 = 1) : comS V P wet = stopAt V P wet k := by
  have hz : (lifeQ V P wet k).2.1 ≠ 0 := by omega
  have h1 : lifeQ V P wet 30 = lifeQ V P wet k := by
    have := life_stay hz (30 - k)
    rw [show k + (30 - k) = 30 by omega] at this
    exact this
  have h2 := stopAt_stay (stop_idem V P wet k) (by rw [(life_stop V P wet k).1]; exact hz) (30 - stopAt V P wet k)
  rw [show stopAt V P wet k + (30 - stopAt V P wet k) = 30 by have := (life_stop V P wet k).2.1; omega] at h2
  unfold comS fin
  rw [h1, if_pos h, h2]
theorem comS_le {V : Wd} {P : Pr} {wet : Nat → Bool} : comS V P wet ≤ 31 := by
  unfold comS
  have := (life_stop V P wet 30).2.1
  split <;> omega
theorem sub1_lt {a b : Nat} (ha : a < 1000) (hb : b < 1000) : nI a - 1 < nI b - 1 ↔ a < b := by
  rw [Int32.lt_iff_toInt_lt, show (1 : Int32) = nI 1 from rfl, pk_sub_toInt (by omega) (by omega), pk_sub_toInt (by omega) (by omega)]
  omega
theorem d_walkE {d e : Nat} {V : Wd} {P : Pr} {x : Int32} {w : am_M} {wet : Nat → Bool} (hd : 3 ≤ d) (hV : cV w V) (hP : wkP (w.1 52) P) (hPb : Pok P) (hw : ∀ s, s < 30 → wetB x s = wet s) (he : e ≤ 31) : ∃ r : Int32, ∃ o : am_O, (o.1 = some (.int r) ∧ am_fr 52 w o.2 ∧ ((o.2.1 52 8 = 1 ∧ r < nI e - 1) ↔ comS V P wet < e) ∧ (comS V P wet < e → r = nI (comS V P wet) - 1)) ∧ am_D shC d mi_X10_walk [.ref 52, .int x, .int (nI e - 1)] w o := by
  cases e with
  | zero =>
    obtain ⟨⟨r1, w1⟩, ⟨e1, f1, g1, g2⟩, hD⟩ := d_begin_52 (d := d - 1) (by omega) hV hP hPb.1
    dsimp only at e1 f1 g1 g2
    subst e1
    refine ⟨-1, (some (.int (-1)), w1), ⟨rfl, f1, ⟨fun z => absurd z.2 (by decide), fun z => absurd z (Nat.not_lt_zero _)⟩, fun z => absurd z (Nat.not_lt_zero _)⟩, ?_⟩
    refine am_def (by omega) rfl rfl ?_
    iterate 2 refine am_g0 rfl rfl ?_
    refine ⟨(none, w1), hD, ?_⟩
    refine am_to (lv' := [(0, .ref 52), (1, .int x), (2, .int (-1))]) (st' := []) (w' := w1) rfl rfl rfl ?_
    iterate 2 refine am_g0 rfl rfl ?_
    refine am_go rfl ?_
    iterate 2 refine am_g0 rfl rfl ?_
    refine am_go rfl ?_
    iterate 3 refine am_g0 rfl rfl ?_
    exact ⟨rfl, rfl⟩
  | succ k =>
    have ek : nI (k + 1) - 1 = nI k := nI_pred k
    rw [ek]
    obtain ⟨o, ⟨h1, h2, h3, b, h4⟩, hD⟩ := d_walk (d := d) (e := k) (x := x) hd hV hP hPb (by omega)
    have hle := (life_stop V P wet k).2.1
    have hst : o.2.1 52 8 = nI (lifeQ V P wet k).2.1 := by rw [h4.2.1, (life_stop V P (wetB x) k).1, life_congr (fun s hs => hw s (by omega))]
    have hr : o.1 = some (.int (nI (stopAt V P wet k) - 1)) := by rw [h1, stop_congr (fun s hs => hw s (by omega))]
    refine ⟨nI (stopAt V P wet k) - 1, o, ⟨hr, h2, ?_, fun z => ?_⟩, hD⟩
    · have hlt : (lifeQ V P wet k).2.1 < 4 := (qok_life wet hV.good hPb k).1
      rw [hst, ← com_iff (by omega), ← ek]
      constructor
      · intro z
        exact Decidable.byContradiction fun q => nne (b := 1) q (by omega) (by omega) z.1
      · intro z
        exact ⟨by rw [z]; rfl, (sub1_lt (by omega) (by omega)).mpr (by omega)⟩
    · rw [com_stop (by omega) ((com_iff (by omega)).mpr z)]
theorem pairB_le {f : Nat → Nat} : ∀ n, (pairB f n).2 ≤ 31
  | 0 => Nat.le_refl _
  | n + 1 => by
    rw [pairB]
    have := pairB_le (f := f) n
    split
    · show f n ≤ 31; omega
    · exact this
/-- what the row of the pair holds -/
def pairI (m : Nat) (r : Option Nat × Nat) (k : Nat) : Int32 := match r.1 with
  | none => -1
  | some c => if k = 0 then nI (c / m) else if k = 1 then nI (c % m) else nI r.2 - 1
theorem pairI_some {m c n k : Nat} : pairI m (some c, n) k = if k = 0 then nI (c / m) else if k = 1 then nI (c % m) else nI n - 1 := rfl
def am_sp (w w' : am_M) : Prop := (∀ a, ¬ scr a → a ≠ 69 → w'.1 a = w.1 a) ∧ w'.2 = w.2
theorem am_sp.pi {w w' : am_M} {j : Nat} {x : Int32} (h : am_sp w w') : am_sp w (am_pi w' 69 j x) := ⟨fun a h1 h2 => (am_pi_row h2).trans (h.1 a h1 h2), h.2⟩
theorem am_sp.p52 {w w' : am_M} {j : Nat} {x : Int32} (h : am_sp w w') : am_sp w (am_pi w' 52 j x) := ⟨fun a h1 h2 => (am_pi_row (fun z => h1 (by rw [z]; exact scr52))).trans (h.1 a h1 h2), h.2⟩
theorem am_sp.f52 {w w' w'' : am_M} (h : am_sp w w') (e : am_fr 52 w' w'') : am_sp w w'' := ⟨fun a h1 h2 => (e.1 a (fun z => h1 (by rw [z]; exact scr52))).trans (h.1 a h1 h2), e.2.trans h.2⟩
theorem am_sp.b {w w' : am_M} {S : Sp} (h : RC w S) (e : am_sp w w') : RCb w' S := h.1.fr (fun a h1 h2 => e.1 a (by unfold scr; omega) (by omega)) (by rw [e.1 0 (by unfold scr; omega) (by omega)])
set_option maxHeartbeats 4000000 in
theorem d_findPair {d p : Nat} {w : am_M} {S : Sp} (hd : 5 ≤ d) (h : RC w S) (hp : p < S.q) : ∃ o : am_O, (o.1 = none ∧ am_sp w o.2 ∧ ∀ k, k < 3 → o.2.1 69 k = pairA S p k) ∧ am_D shC d mi_X11_findPair [.ref 0, .int (nI p)] w o := by
  have hq := h.q8
  have hok := h.1.P.ok hp
  have hm8 := h.1.M.2
  refine am_dex (by omega) rfl rfl ?_
  iterate 5 refine am_g0 rfl rfl ?_
  refine ⟨(some (.int (wetF (w.1 19) (-1) (-1) S.rn)), w), d_wetSteps (by omega) h.1.1.2.1.1 h.1.2.2.2.2.2.1.1, ?_⟩
  refine am_to (lv' := [(0, .ref 0), (1, .int (nI p))]) (st' := [.int (wetF (w.1 19) (-1) (-1) S.rn)]) (w' := w) rfl rfl rfl ?_
  have hwet := h.wet
  generalize wetF (w.1 19) (-1) (-1) S.rn = x at hwet ⊢
  iterate 5 refine am_g0 rfl rfl ?_
  refine am_gsN (n := 3) (k := 0) rfl rfl (by omega) (by decide) ?_
  refine am_to (lv' := [(0, .ref 0), (1, .int (nI p)), (2, .int x)]) (st' := []) (w' := am_pi w 69 0 (-1)) rfl rfl rfl ?_
  iterate 4 refine am_g0 rfl rfl ?_
  refine am_gsN (n := 3) (k := 1) rfl rfl (by omega) (by decide) ?_
  refine am_to (lv' := [(0, .ref 0), (1, .int (nI p)), (2, .int x)]) (st' := []) (w' := am_pi (am_pi w 69 0 (-1)) 69 1 (-1)) rfl rfl rfl ?_
  iterate 4 refine am_g0 rfl rfl ?_
  refine am_gsN (n := 3) (k := 2) rfl rfl (by omega) (by decide) ?_
  refine am_to (lv' := [(0, .ref 0), (1, .int (nI p)), (2, .int x)]) (st' := []) (w' := am_pi (am_pi (am_pi w 69 0 (-1)) 69 1 (-1)) 69 2 (-1)) rfl rfl rfl ?_
  generalize hw0 : am_pi (am_pi (am_pi w 69 0 (-1)) 69 1 (-1)) 69 2 (-1) = w0
  have f0 : am_sp w w0 := by rw [← hw0]; exact ((am_sp.pi (am_sp.pi (am_sp.pi ⟨fun _ _ _ => rfl, rfl⟩))))
  iterate 4 refine am_g0 rfl rfl ?_
  obtain ⟨M, hM⟩ : ∃ M, S.m = M := ⟨_, rfl⟩
  have hM8 : M ≤ 8 := by rw [← hM]; exact h.1.M.2
  obtain ⟨f, hf⟩ : ∃ f : Nat → Nat, f = fun c => comS S.V (prW (prS S.pf p) (c / M) (c % M)) (wet0 S) := ⟨_, rfl⟩
  have hA : ∀ k, pairA S p k = pairI M (pairB f (M * M)) k := fun k => by rw [hf, ← hM]; rfl
  have key : ∀ j l : Nat, l + j = M → ∀ m : am_M, am_sp w m → (∀ k, k < 3 → m.1 69 k = pairI M (pairB f (l * M)) k) → am_R shC mi_X11_findPair (am_D shC (d - 1)) (fun o => o.1 = none ∧ am_sp w o.2 ∧ ∀ k, k < 3 → o.2.1 69 k = pairA S p k) 37 [(0, .ref 0), (1, .int (nI p)), (2, .int x), (3, .int (nI (pairB f (l * M)).2 - 1)), (4, .int (nI l))] [] m := by
    intro j
    induction j with
    | zero =>
      intro l hl m hm hr
      have rb := hm.b h
      refine am_go rfl ?_
      iterate 4 refine am_g0 rfl rfl ?_
      refine am_tt (show (m.1 12 3 : Int32) ≤ (nI l) from by rw [rb.M.1, hM]; exact nI_le (by omega) (by omega)) ?_
      refine am_go rfl ?_
      exact ⟨rfl, rfl, hm, fun k hk => by rw [hA, hr k hk, show l = M by omega]⟩
    | succ j ih =>
      intro l hl m hm hr
      have rb := hm.b h
      refine am_go rfl ?_
      iterate 4 refine am_g0 rfl rfl ?_
      refine am_ff (show ¬ (m.1 12 3 : Int32) ≤ (nI l) from by rw [rb.M.1, hM]; exact nI_ge (by omega) (by omega)) ?_
      iterate 2 refine am_g0 rfl rfl ?_
      have key2 : ∀ j r : Nat, r + j = M → ∀ m : am_M, am_sp w m → (∀ k, k < 3 → m.1 69 k = pairI M (pairB f (l * M + r)) k) → am_R shC mi_X11_findPair (am_D shC (d - 1)) (fun o => o.1 = none ∧ am_sp w o.2 ∧ ∀ k, k < 3 → o.2.1 69 k = pairA S p k) 52 [(0, .ref 0), (1, .int (nI p)), (2, .int x), (3, .int (nI (pairB f (l * M + r)).2 - 1)), (4, .int (nI l)), (5, .int (nI r))] [] m := by
        intro j
        induction j with
        | zero =>
          intro r hr0 m hm hr
          have rb := hm.b h
          refine am_go rfl ?_
          iterate 4 refine am_g0 rfl rfl ?_
          refine am_tt (show (m.1 12 3 : Int32) ≤ (nI r) from by rw [rb.M.1, hM]; exact nI_le (by omega) (by omega)) ?_
          refine am_go rfl ?_
          refine am_g0 rfl rfl ?_
          have e : l * M + r = (l + 1) * M := by rw [Nat.succ_mul]; omega
          rw [e] at hr ⊢
          have this := ih (l + 1) (by omega) m hm hr
          rw [← nI_1] at this
          exact am_kl this rfl
        | succ j ih2 =>
          intro r hr0 m hm hr
          have rb := hm.b h
          have hmp : 0 < M := by omega
          have ec1 : (l * M + r) / M = l := by rw [Nat.add_comm, Nat.add_mul_div_right _ _ hmp, Nat.div_eq_of_lt (by omega), Nat.zero_add]
          have ec2 : (l * M + r) % M = r := by rw [Nat.add_comm, Nat.add_mul_mod_self_right, Nat.mod_eq_of_lt (by omega)]
          have efc : f (l * M + r) = comS S.V (prW (prS S.pf p) l r) (wet0 S) := by rw [hf]; dsimp only; rw [ec1, ec2]
          refine am_go rfl ?_
          iterate 4 refine am_g0 rfl rfl ?_
          refine am_ff (show ¬ (m.1 12 3 : Int32) ≤ (nI r) from by rw [rb.M.1, hM]; exact nI_ge (by omega) (by omega)) ?_
          iterate 6 refine am_g0 rfl rfl ?_
          obtain ⟨⟨r1, w1⟩, ⟨e1, f1, g1⟩, hD1⟩ := d_wear_52 (d := d - 1) (by omega) rb.P hp
          dsimp only at e1 f1 g1
          subst e1
          refine ⟨(none, w1), hD1, ?_⟩
          refine am_to (lv' := [(0, .ref 0), (1, .int (nI p)), (2, .int x), (3, .int (nI (pairB f (l * M + r)).2 - 1)), (4, .int (nI l)), (5, .int (nI r))]) (st' := []) (w' := w1) rfl rfl rfl ?_
          iterate 12 refine am_g0 rfl rfl ?_
          refine am_to (lv' := [(0, .ref 0), (1, .int (nI p)), (2, .int x), (3, .int (nI (pairB f (l * M + r)).2 - 1)), (4, .int (nI l)), (5, .int (nI r))]) (st' := [.int (nI (pairB f (l * M + r)).2 - 1), .int x, .ref 52]) (w' := am_pi (am_pi w1 52 3 (nI l)) 52 4 (nI r)) rfl rfl rfl ?_
          generalize hw2 : am_pi (am_pi w1 52 3 (nI l)) 52 4 (nI r) = v
          have fv : am_sp w v := by rw [← hw2]; exact ((hm.f52 f1).p52).p52
          have hPv : wkP (v.1 52) (prW (prS S.pf p) l r) := by rw [← hw2]; exact ⟨g1.1, rfl, rfl, g1.2.2.2.1, g1.2.2.2.2⟩
          have hr9 : ∀ k, v.1 69 k = m.1 69 k := fun k => by rw [← hw2, am_pi_row (by omega), am_pi_row (by omega), f1.1 69 (by omega)]
          have hPok : Pok (prW (prS S.pf p) l r) := ⟨hok.1, by show l < 8; omega, by show r < 8; omega, hok.2.2.2.1, hok.2.2.2.2⟩
          refine am_g0 rfl rfl ?_
          obtain ⟨rr, ⟨r2, w2⟩, ⟨e2, f2, g2, g3⟩, hD2⟩ := d_walkE (d := d - 1) (e := (pairB f (l * M + r)).2) (by omega) (fv.b h).V hPv hPok hwet (pairB_le _)
          dsimp only at e2 f2 g2 g3
          subst e2
          refine ⟨(some (.int rr), w2), hD2, ?_⟩
          refine am_to (lv' := [(0, .ref 0), (1, .int (nI p)), (2, .int x), (3, .int (nI (pairB f (l * M + r)).2 - 1)), (4, .int (nI l)), (5, .int (nI r))]) (st' := [.int rr]) (w' := w2) rfl rfl rfl ?_
          have f2w : am_sp w w2 := fv.f52 f2
          have hr2 : ∀ k, w2.1 69 k = m.1 69 k := fun k => by rw [f2.1 69 (by omega)]; exact hr9 k
          have this := fun m' a b => ih2 (r + 1) (by omega) m' a b
          rw [show l * M + (r + 1) = (l * M + r) + 1 by omega, pairB, efc, ← nI_1] at this
          iterate 6 refine am_g0 rfl rfl ?_
          have stay : ¬ comS S.V (prW (prS S.pf p) l r) (wet0 S) < (pairB f (l * M + r)).2 → am_R shC mi_X11_findPair (am_D shC (d - 1)) (fun o => o.1 = none ∧ am_sp w o.2 ∧ ∀ k, k < 3 → o.2.1 69 k = pairA S p k) 149 [(0, .ref 0), (1, .int (nI p)), (2, .int x), (3, .int (nI (pairB f (l * M + r)).2 - 1)), (4, .int (nI l)), (5, .int (nI r))] [] w2 := by
            intro hn
            refine am_go rfl ?_
            refine am_g0 rfl rfl ?_
            rw [if_neg hn] at this
            exact am_kl (this w2 f2w (fun k hk => by rw [hr2 k]; exact hr k hk)) rfl
          by_cases h1 : w2.1 52 8 = 1
          · refine am_tt (show (w2.1 52 8 : Int32) = 1 from h1) ?_
            iterate 3 refine am_g0 rfl rfl ?_
            by_cases hlt : rr < nI (pairB f (l * M + r)).2 - 1
            · refine am_ff (show ¬ (nI (pairB f (l * M + r)).2 - 1 : Int32) ≤ rr from by rw [Int32.not_le]; exact hlt) ?_
              have hc := g2.mp ⟨h1, hlt⟩
              rw [if_pos hc] at this
              have hrr := g3 hc
              dsimp only at this
              rw [← hrr] at this
              have k2 : ∀ k, k < 3 → (am_pi (am_pi (am_pi w2 69 0 (nI l)) 69 1 (nI r)) 69 2 rr).1 69 k = pairI M (some (l * M + r), comS S.V (prW (prS S.pf p) l r) (wet0 S)) k := by
                intro k hk
                rw [pairI_some, ec1, ec2, ← hrr]
                match k, hk with
                | 0, _ => rfl
                | 1, _ => rfl
                | 2, _ => rfl
              iterate 6 refine am_g0 rfl rfl ?_
              refine am_gsN (n := 3) (k := 0) rfl rfl (by omega) (by decide) ?_
              refine am_to (lv' := [(0, .ref 0), (1, .int (nI p)), (2, .int x), (3, .int rr), (4, .int (nI l)), (5, .int (nI r)), (6, .int rr)]) (st' := []) (w' := am_pi w2 69 0 (nI l)) rfl rfl rfl ?_
              iterate 4 refine am_g0 rfl rfl ?_
              refine am_gsN (n := 3) (k := 1) rfl rfl (by omega) (by decide) ?_
              refine am_to (lv' := [(0, .ref 0), (1, .int (nI p)), (2, .int x), (3, .int rr), (4, .int (nI l)), (5, .int (nI r)), (6, .int rr)]) (st' := []) (w' := am_pi (am_pi w2 69 0 (nI l)) 69 1 (nI r)) rfl rfl rfl ?_
              iterate 4 refine am_g0 rfl rfl ?_
              refine am_gsN (n := 3) (k := 2) rfl rfl (by omega) (by decide) ?_
              refine am_to (lv' := [(0, .ref 0), (1, .int (nI p)), (2, .int x), (3, .int rr), (4, .int (nI l)), (5, .int (nI r)), (6, .int rr)]) (st' := []) (w' := am_pi (am_pi (am_pi w2 69 0 (nI l)) 69 1 (nI r)) 69 2 rr) rfl rfl rfl ?_
              refine am_go rfl ?_
              refine am_g0 rfl rfl ?_
              exact am_kl (this (am_pi (am_pi (am_pi w2 69 0 (nI l)) 69 1 (nI r)) 69 2 rr) (((f2w.pi).pi).pi) k2) rfl
            · refine am_tt (show (nI (pairB f (l * M + r)).2 - 1 : Int32) ≤ rr from by rw [← Int32.not_lt]; exact hlt) ?_
              exact am_kl (stay (fun z => hlt (g2.mpr z).2)) rfl
          · refine am_ff (show ¬ (w2.1 52 8 : Int32) = 1 from h1) ?_
            exact am_kl (stay (fun z => h1 (g2.mpr z).1)) rfl
      refine am_kl (key2 M 0 (by omega) m hm hr) rfl
  have e0 : nI (pairB f (0 * M)).2 - 1 = 30 := by
    rw [Nat.zero_mul]
    show nI 31 - 1 = 30
    decide
  have k0 := key M 0 (by omega) w0 f0
  rw [e0, Nat.zero_mul] at k0
  refine am_kl (k0 (fun k hk => ?_)) rfl
  rw [← hw0]
  match k, hk with
  | 0, _ => rfl
  | 1, _ => rfl
  | 2, _ => rfl
def pairQ (S : Sp) (x y : Int32) : Int32 := match dI x S.q, dI y 3 with
  | some p, some k => pairA S p k
  | _, _ => -2
theorem d_pair {d : Nat} {x y : Int32} {w : am_M} {S : Sp} (hd : 8 ≤ d) (h : RC w S) : ∃ o : am_O, (o.1 = some (.int (pairQ S x y)) ∧ RC o.2 S) ∧ am_D shC d mi_X11_pair [.ref 0, .int x, .int y] w o := by
  have hq := h.q8
  rcases dI_or x S.q (by omega) with hx | ⟨p, hp, rfl, hx⟩
  · refine am_dex (by omega) rfl rfl ?_
    iterate 4 refine am_g0 rfl rfl ?_
    refine am_top (y := nI S.q) (h.1.P.1) ?_
    refine am_g0 rfl rfl ?_
    refine ⟨(some (.int 0), w), d_isWn shC (by omega) hx, ?_⟩
    refine am_to (lv' := [(0, .ref 0), (1, .int x), (2, .int y)]) (st' := [.int 0]) (w' := w) rfl rfl rfl ?_
    refine am_g0 rfl rfl ?_
    refine am_go rfl ?_
    refine am_g0 rfl rfl ?_
    exact ⟨rfl, by unfold pairQ; rw [hx], h⟩
  · rcases dI_or y 3 (by decide) with hy | ⟨k, hk, rfl, hy⟩
    · refine am_dex (by omega) rfl rfl ?_
      iterate 4 refine am_g0 rfl rfl ?_
      refine am_top (y := nI S.q) (h.1.P.1) ?_
      refine am_g0 rfl rfl ?_
      refine ⟨(some (.int 1), w), d_isWs shC (by omega) hp (by omega), ?_⟩
      refine am_to (lv' := [(0, .ref 0), (1, .int (nI p)), (2, .int y)]) (st' := [.int 1]) (w' := w) rfl rfl rfl ?_
      iterate 4 refine am_g0 rfl rfl ?_
      refine ⟨(some (.int 0), w), d_isWn shC (n := 3) (by omega) hy, ?_⟩
      refine am_to (lv' := [(0, .ref 0), (1, .int (nI p)), (2, .int y)]) (st' := [.int 0]) (w' := w) rfl rfl rfl ?_
      refine am_g0 rfl rfl ?_
      refine am_go rfl ?_
      refine am_g0 rfl rfl ?_
      exact ⟨rfl, by unfold pairQ; rw [hx, hy], h⟩
    · have hS : pairQ S (nI p) (nI k) = pairA S p k := by unfold pairQ; rw [hx, hy]
      rw [hS]
      have tail : ∀ m : am_M, RC m S → m.1 69 k = pairA S p k → am_R shC mi_X11_pair (am_D shC (d - 1)) (fun o => o.1 = some (.int (pairA S p k)) ∧ RC o.2 S) 43 [(0, .ref 0), (2, .int (nI k))] [] m := by
        intro m hm hr
        refine am_go rfl ?_
        iterate 2 refine am_g0 rfl rfl ?_
        refine am_glN (n := 3) (k := k) rfl rfl (by omega) (by decide) ?_
        refine am_top (y := pairA S p k) (hr) ?_
        refine am_g0 rfl rfl ?_
        exact ⟨rfl, rfl, hm⟩
      refine am_dex (by omega) rfl rfl ?_
      iterate 4 refine am_g0 rfl rfl ?_
      refine am_top (y := nI S.q) (h.1.P.1) ?_
      refine am_g0 rfl rfl ?_
      refine ⟨(some (.int 1), w), d_isWs shC (by omega) hp (by omega), ?_⟩
      refine am_to (lv' := [(0, .ref 0), (1, .int (nI p)), (2, .int (nI k))]) (st' := [.int 1]) (w' := w) rfl rfl rfl ?_
      iterate 4 refine am_g0 rfl rfl ?_
      refine ⟨(some (.int 1), w), d_isWs shC (n := 3) (by omega) hk (by decide), ?_⟩
      refine am_to (lv' := [(0, .ref 0), (1, .int (nI p)), (2, .int (nI k))]) (st' := [.int 1]) (w' := w) rfl rfl rfl ?_
      refine am_g0 rfl rfl ?_
      refine am_go rfl ?_
      iterate 3 refine am_g0 rfl rfl ?_
      by_cases hc : w.1 0 18 = nI p
      · refine am_tt (show (w.1 0 18 : Int32) = (nI p) from hc) ?_
        rcases h.2.2.1 with z | ⟨p', z1, z2, z3⟩
        · exact absurd (hc.symm.trans z) (nI_m1 (by omega))
        · have e : p' = p := (nI_eq (by omega) (by omega)).mp (z2.symm.trans hc)
          subst e
          exact am_kl (tail w h (z3 k hk)) rfl
      · refine am_ff (show ¬ (w.1 0 18 : Int32) = (nI p) from hc) ?_
        iterate 3 refine am_g0 rfl rfl ?_
        obtain ⟨⟨r1, w1⟩, ⟨e1, f1, g1⟩, hD1⟩ := d_findPair (d := d - 1) (by omega) h hp
        dsimp only at e1 f1 g1
        subst e1
        refine ⟨(none, w1), hD1, ?_⟩
        refine am_to (lv' := [(0, .ref 0), (1, .int (nI p)), (2, .int (nI k))]) (st' := []) (w' := w1) rfl rfl rfl ?_
        iterate 3 refine am_g0 rfl rfl ?_
        have e : ∀ a, ¬ scr a → a ≠ 69 → a ≠ 0 → (am_pi w1 0 18 (nI p)).1 a = w.1 a := fun a h1 h2 h3 => by rw [am_pi_row h3]; exact f1.1 a h1 h2
        have e0 : ∀ j, j ≠ 18 → (am_pi w1 0 18 (nI p)).1 0 j = w.1 0 j := fun j hj => by rw [am_pi_ne (Or.inr hj), f1.1 0 (by unfold scr; omega) (by omega)]
        have k4 : cSt (am_pi w1 0 18 (nI p)) S := h.2.2.2.2.fr (e 53 (by unfold scr; omega) (by omega) (by omega)) (by show w1.2 53 = w.2 53; rw [f1.2])
        refine am_kl (tail (am_pi w1 0 18 (nI p)) ⟨h.1.fr (fun a h1 h2 => e a (by unfold scr; omega) (by omega) (by omega)) (e0 16 (by omega)), h.2.1.fr hq (fun a h1 h2 => e a (by unfold scr; omega) (by omega) (by omega)) (e0 17 (by omega)), Or.inr ⟨p, hp, am_pi_at _ _ _ _, fun k hk => ?_⟩, h.2.2.2.1.fr (e 70 (by unfold scr; omega) (by omega) (by omega)) (e0 19 (by omega)), k4⟩ ?_) rfl
        · rw [am_pi_row (by omega)]; exact g1 k hk
        · rw [am_pi_row (by omega)]; exact g1 k hk
