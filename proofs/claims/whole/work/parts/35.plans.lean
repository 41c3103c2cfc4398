/-! soles, dry, never: the class -/
theorem d_walk30 {d : Nat} {V : Wd} {P : Pr} {x : Int32} {w : am_M} {wet : Nat → Bool} (hd : 3 ≤ d) (hV : cV w V) (hP : wkP (w.1 52) P) (hPb : Pok P) (hw : ∀ s, s < 30 → wetB x s = wet s) : ∃ o : am_O, (o.1 = some (.int (nI (stopAt V P wet 30) - 1)) ∧ am_fr 52 w o.2 ∧ wkP (o.2.1 52) P ∧ o.2.1 52 8 = nI (fin V P wet)) ∧ am_D shC d mi_X10_walk [.ref 52, .int x, .int 30] w o := by
  obtain ⟨o, ⟨h1, h2, h3, b, h4⟩, hD⟩ := d_walk (d := d) (e := 30) (x := x) hd hV hP hPb (by omega)
  refine ⟨o, ⟨?_, h2, h3, ?_⟩, hD⟩
  · rw [h1, stop_congr hw]
  · rw [h4.2.1, (life_stop V P (wetB x) 30).1, life_congr hw]; rfl
theorem d_wearR {d p : Nat} {w : am_M} {S : Sp} (hd : 2 ≤ d) (h : RC w S) (hp : p < S.q) : ∃ o : am_O, (o.1 = none ∧ am_fr 52 w o.2 ∧ wkP (o.2.1 52) (prS S.pf p)) ∧ am_D shC d mi_X10_wear [.ref 52, .ref 16, .int (nI p)] w o := d_wear_52 hd h.1.P hp
theorem RC.f52 {w w' : am_M} {S : Sp} (h : RC w S) (e : am_fr 52 w w') : RC w' S := h.sc (am_sc.of e scr52)
theorem RC.p52 {w : am_M} {S : Sp} {j : Nat} {x : Int32} (h : RC w S) : RC (am_pi w 52 j x) S := h.sc (am_sc.rf.pi scr52)
/-- wears other soles -/
def prSo (P : Pr) (v : Nat) : Pr := (P.1, P.2.1, P.2.2.1, v, P.2.2.2.2)
def solesA (S : Sp) (p : Nat) : Int32 := opI (firstN (fun v => !decide (fin S.V (prSo (prS S.pf p) v) (wet0 S) = 2)) 6)
def solesS (S : Sp) (x : Int32) : Int32 := match dI x S.q with
  | some p => solesA S p
  | none => -2
theorem fin_lt {V : Wd} {P : Pr} {wet : Nat → Bool} (hg : Vgood V) (hP : Pok P) : fin V P wet < 4 := (qok_life wet hg hP 30).1
theorem d_soles {d : Nat} {x : Int32} {w : am_M} {S : Sp} (hd : 8 ≤ d) (h : RC w S) : ∃ o : am_O, (o.1 = some (.int (solesS S x)) ∧ RC o.2 S) ∧ am_D shC d mi_X11_soles [.ref 0, .int x] w o := by
  have hq := h.q8
  rcases dI_or x S.q (by omega) with hx | ⟨p, hp, rfl, hx⟩
  · refine am_dex (by omega) rfl rfl ?_
    iterate 4 refine am_g0 rfl rfl ?_
    refine am_top (y := nI S.q) (h.1.P.1) ?_
    refine am_g0 rfl rfl ?_
    refine ⟨(some (.int 0), w), d_isWn shC (by omega) hx, ?_⟩
    refine am_to (lv' := [(0, .ref 0), (1, .int x)]) (st' := [.int 0]) (w' := w) rfl rfl rfl ?_
    iterate 3 refine am_g0 rfl rfl ?_
    exact ⟨rfl, by unfold solesS; rw [hx], h⟩
  · refine am_dex (by omega) rfl rfl ?_
    iterate 4 refine am_g0 rfl rfl ?_
    refine am_top (y := nI S.q) (h.1.P.1) ?_
    refine am_g0 rfl rfl ?_
    refine ⟨(some (.int 1), w), d_isWs shC (by omega) hp (by omega), ?_⟩
    refine am_to (lv' := [(0, .ref 0), (1, .int (nI p))]) (st' := [.int 1]) (w' := w) rfl rfl rfl ?_
    refine am_g0 rfl rfl ?_
    refine am_go rfl ?_
    iterate 4 refine am_g0 rfl rfl ?_
    refine ⟨(some (.int (wetF (w.1 19) (-1) (-1) S.rn)), w), d_wetSteps (by omega) h.1.1.2.1.1 h.1.2.2.2.2.2.1.1, ?_⟩
    refine am_to (lv' := [(0, .ref 0), (1, .int (nI p))]) (st' := [.int (wetF (w.1 19) (-1) (-1) S.rn)]) (w' := w) rfl rfl rfl ?_
    have hwet := h.wet
    generalize wetF (w.1 19) (-1) (-1) S.rn = x at hwet ⊢
    iterate 3 refine am_g0 rfl rfl ?_
    have hS : solesS S (nI p) = solesA S p := by unfold solesS; rw [hx]
    rw [hS]
    have key : ∀ j i : Nat, i + j = 6 → ∀ m : am_M, RC m S → (∀ v, v < i → (!decide (fin S.V (prSo (prS S.pf p) v) (wet0 S) = 2)) = false) → am_R shC mi_X11_soles (am_D shC (d - 1)) (fun o => o.1 = some (.int (solesA S p)) ∧ RC o.2 S) 29 [(0, .ref 0), (1, .int (nI p)), (2, .int x), (3, .int (nI i))] [] m := by
      intro j
      induction j with
      | zero =>
        intro i hi m hm hf
        refine am_go rfl ?_
        iterate 2 refine am_g0 rfl rfl ?_
        refine am_tt (show (5 : Int32) < (nI i) from nI_lt (a := 5) (by omega) (by omega)) ?_
        refine am_go rfl ?_
        refine am_g0 rfl rfl ?_
        exact ⟨rfl, by unfold solesA; rw [firstN_ex (fun v hv => hf v (by omega))]; rfl, hm⟩
      | succ j ih =>
        intro i hi m hm hf
        refine am_go rfl ?_
        iterate 2 refine am_g0 rfl rfl ?_
        refine am_ff (show ¬ (5 : Int32) < (nI i) from nI_nlt (a := 5) (by omega) (by omega)) ?_
        iterate 6 refine am_g0 rfl rfl ?_
        obtain ⟨⟨r1, w1⟩, ⟨e1, f1, g1⟩, hD1⟩ := d_wearR (d := d - 1) (by omega) hm hp
        dsimp only at e1 f1 g1
        subst e1
        refine ⟨(none, w1), hD1, ?_⟩
        refine am_to (lv' := [(0, .ref 0), (1, .int (nI p)), (2, .int x), (3, .int (nI i))]) (st' := []) (w' := w1) rfl rfl rfl ?_
        iterate 8 refine am_g0 rfl rfl ?_
        refine am_to (lv' := [(0, .ref 0), (1, .int (nI p)), (2, .int x), (3, .int (nI i))]) (st' := [.int 30, .int x, .ref 52]) (w' := am_pi w1 52 5 (nI i)) rfl rfl rfl ?_
        have r1 : RC (am_pi w1 52 5 (nI i)) S := (hm.f52 f1).p52
        have hP : wkP ((am_pi w1 52 5 (nI i)).1 52) (prSo (prS S.pf p) i) := ⟨g1.1, g1.2.1, g1.2.2.1, rfl, g1.2.2.2.2⟩
        have hok := h.1.P.ok hp
        have hPok : Pok (prSo (prS S.pf p) i) := ⟨hok.1, hok.2.1, hok.2.2.1, by show i < 6; omega, hok.2.2.2.2⟩
        refine am_g0 rfl rfl ?_
        obtain ⟨⟨r2, w2⟩, ⟨e2, f2, g2, g3⟩, hD2⟩ := d_walk30 (d := d - 1) (by omega) r1.1.V hP hPok hwet
        dsimp only at e2 f2 g2 g3
        subst e2
        refine ⟨(some (.int (nI (stopAt S.V (prSo (prS S.pf p) i) (wet0 S) 30) - 1)), w2), hD2, ?_⟩
        refine am_to (lv' := [(0, .ref 0), (1, .int (nI p)), (2, .int x), (3, .int (nI i))]) (st' := [.int (nI (stopAt S.V (prSo (prS S.pf p) i) (wet0 S) 30) - 1)]) (w' := w2) rfl rfl rfl ?_
        iterate 6 refine am_g0 rfl rfl ?_
        have hlt : fin S.V (prSo (prS S.pf p) i) (wet0 S) < 4 := fin_lt h.1.V.good hPok
        by_cases h2 : fin S.V (prSo (prS S.pf p) i) (wet0 S) = 2
        · refine am_tt (show (w2.1 52 8 : Int32) = 2 from by rw [g3, h2]; rfl) ?_
          refine am_go rfl ?_
          refine am_g0 rfl rfl ?_
          have this := ih (i + 1) (by omega) w2 (r1.f52 f2) (fun v hv => if z : v = i then by rw [z, decide_eq_true h2]; rfl else hf v (by omega))
          rw [← nI_1] at this
          exact am_kl this rfl
        · refine am_ff (show ¬ (w2.1 52 8 : Int32) = 2 from by rw [g3]; exact nne (b := 2) h2 (by omega) (by omega)) ?_
          iterate 2 refine am_g0 rfl rfl ?_
          exact ⟨rfl, by unfold solesA; rw [firstN_at (show i < 6 by omega) (by rw [decide_eq_false h2]; rfl) hf]; rfl, r1.f52 f2⟩
    exact am_kl (key 6 0 (by omega) w h (fun v hv => absurd hv (Nat.not_lt_zero v))) rfl
/-! dry -/
theorem d_nobody {d : Nat} {a b : Int32} {w : am_M} {S : Sp} {ex : Nat → Bool} (hd : 5 ≤ d) (h : RC w S) (hex : ∀ i, i < 8 → exI a b i = ex i) : ∃ o : am_O, (o.1 = some (.int (b01 (dryB S ex))) ∧ am_sc w o.2) ∧ am_D shC d mi_X11_nobodyDrownsWithout [.ref 0, .int a, .int b] w o := by
  have hq := h.q8
  have h8 := h.1.1.2.1.1
  refine am_dex (by omega) rfl rfl ?_
  iterate 5 refine am_g0 rfl rfl ?_
  refine ⟨(some (.int (wetF (w.1 19) a b S.rn)), w), d_wetSteps (by omega) h8 h.1.2.2.2.2.2.1.1, ?_⟩
  refine am_to (lv' := [(0, .ref 0), (1, .int a), (2, .int b)]) (st' := [.int (wetF (w.1 19) a b S.rn)]) (w' := w) rfl rfl rfl ?_
  have hwet : ∀ s, s < 30 → wetB (wetF (w.1 19) a b S.rn) s = wetN S.rs ex S.rn s := fun s hs => by rw [h.wetx a b s hs]; exact wetN_congr (fun i hi => hex i (by omega)) s
  generalize wetF (w.1 19) a b S.rn = x at hwet ⊢
  iterate 3 refine am_g0 rfl rfl ?_
  have key : ∀ j i : Nat, i + j = S.q → ∀ m : am_M, am_sc w m → (∀ p, p < i → (!decide (fin S.V (prS S.pf p) (wetN S.rs ex S.rn) = 2)) = true) → am_R shC mi_X11_nobodyDrownsWithout (am_D shC (d - 1)) (fun o => o.1 = some (.int (b01 (dryB S ex))) ∧ am_sc w o.2) 13 [(0, .ref 0), (3, .int x), (4, .int (nI i))] [] m := by
    intro j
    induction j with
    | zero =>
      intro i hi m hm hf
      have r0 := h.sc hm
      refine am_go rfl ?_
      iterate 4 refine am_g0 rfl rfl ?_
      refine am_tt (show (m.1 16 1 : Int32) ≤ (nI i) from by rw [r0.1.P.1]; exact nI_le (by omega) (by omega)) ?_
      refine am_go rfl ?_
      refine am_g0 rfl rfl ?_
      exact ⟨rfl, by unfold dryB; rw [allB_t.mpr (fun p hp => hf p (by omega))]; rfl, hm⟩
    | succ j ih =>
      intro i hi m hm hf
      have r0 := h.sc hm
      have hok := h.1.P.ok (show i < S.q by omega)
      refine am_go rfl ?_
      iterate 4 refine am_g0 rfl rfl ?_
      refine am_ff (show ¬ (m.1 16 1 : Int32) ≤ (nI i) from by rw [r0.1.P.1]; exact nI_ge (by omega) (by omega)) ?_
      iterate 6 refine am_g0 rfl rfl ?_
      obtain ⟨⟨r1, w1⟩, ⟨e1, f1, g1⟩, hD1⟩ := d_wearR (d := d - 1) (by omega) r0 (show i < S.q by omega)
      dsimp only at e1 f1 g1
      subst e1
      refine ⟨(none, w1), hD1, ?_⟩
      refine am_to (lv' := [(0, .ref 0), (3, .int x), (4, .int (nI i))]) (st' := []) (w' := w1) rfl rfl rfl ?_
      have r1 := r0.f52 f1
      iterate 5 refine am_g0 rfl rfl ?_
      obtain ⟨⟨r2, w2⟩, ⟨e2, f2, g2, g3⟩, hD2⟩ := d_walk30 (d := d - 1) (by omega) r1.1.V g1 hok hwet
      dsimp only at e2 f2 g2 g3
      subst e2
      refine ⟨(some (.int (nI (stopAt S.V (prS S.pf i) (wetN S.rs ex S.rn) 30) - 1)), w2), hD2, ?_⟩
      refine am_to (lv' := [(0, .ref 0), (3, .int x), (4, .int (nI i))]) (st' := [.int (nI (stopAt S.V (prS S.pf i) (wetN S.rs ex S.rn) 30) - 1)]) (w' := w2) rfl rfl rfl ?_
      have hsc : am_sc w w2 := hm.tr ((am_sc.of f1 scr52).tr (am_sc.of f2 scr52))
      iterate 6 refine am_g0 rfl rfl ?_
      have hlt : fin S.V (prS S.pf i) (wetN S.rs ex S.rn) < 4 := fin_lt h.1.V.good hok
      by_cases h2 : fin S.V (prS S.pf i) (wetN S.rs ex S.rn) = 2
      · refine am_tt (show (w2.1 52 8 : Int32) = 2 from by rw [g3, h2]; rfl) ?_
        iterate 2 refine am_g0 rfl rfl ?_
        exact ⟨rfl, by unfold dryB; rw [allB_f (i := i) (by omega) (by rw [decide_eq_true h2]; rfl)]; rfl, hsc⟩
      · refine am_ff (show ¬ (w2.1 52 8 : Int32) = 2 from by rw [g3]; exact nne (b := 2) h2 (by omega) (by omega)) ?_
        refine am_go rfl ?_
        refine am_g0 rfl rfl ?_
        have this := ih (i + 1) (by omega) w2 hsc (fun p hp => if z : p = i then by rw [z, decide_eq_false h2]; rfl else hf p (by omega))
        rw [← nI_1] at this
        exact am_kl this rfl
  exact am_kl (key S.q 0 (by omega) w am_sc.rf (fun p hp => absurd hp (Nat.not_lt_zero p))) rfl
theorem exI_1 {i j : Nat} (hi : i < 8) (hj : j < 8) : exI (nI j) (-1) i = ex1 j i := by
  unfold exI ex1
  rw [decide_eq_false (nI_m1 (by omega)), Bool.or_false]
  exact decide_eq_decide.mpr (nI_eq (by omega) (by omega))
theorem exI_2 {i j k : Nat} (hi : i < 8) (hj : j < 8) (hk : k < 8) : exI (nI j) (nI k) i = ex2 j k i := by
  unfold exI ex2
  rw [decide_eq_decide.mpr (nI_eq (a := i) (b := j) (by omega) (by omega)), decide_eq_decide.mpr (nI_eq (a := i) (b := k) (by omega) (by omega))]
theorem exI_0 {i : Nat} (hi : i < 8) : exI (-1) (-1) i = false := by
  unfold exI
  rw [decide_eq_false (nI_m1 (by omega))]; rfl
/-- but the row of what is left out has changed -/
def am_sd (w w' : am_M) : Prop := (∀ a, ¬ scr a → a ≠ 70 → w'.1 a = w.1 a) ∧ w'.2 = w.2
set_option maxHeartbeats 4000000 in
theorem d_findDry {d : Nat} {w : am_M} {S : Sp} (hd : 6 ≤ d) (h : RC w S) : ∃ o : am_O, (o.1 = some (.int (dryC S)) ∧ (am_sd w o.2 ∧ ∀ l, dryS S = some l → ∀ i a, l[i]? = some a → o.2.1 70 i = nI a)) ∧ am_D shC d mi_X11_findDry [.ref 0] w o := by
  have h8 := h.1.1.2.1.1
  have sd : ∀ m, am_sc w m → am_sd w m := fun m hm => ⟨fun a ha _ => hm.1 a ha, hm.2⟩
  refine am_dex (by omega) rfl rfl ?_
  iterate 4 refine am_g0 rfl rfl ?_
  obtain ⟨⟨r1, w1⟩, ⟨e1, f1⟩, hD1⟩ := d_nobody (d := d - 1) (ex := fun _ => false) (by omega) h (fun i hi => exI_0 hi)
  dsimp only at e1 f1
  subst e1
  refine ⟨(some (.int (b01 (dryB S (fun _ => false)))), w1), hD1, ?_⟩
  refine am_to (lv' := [(0, .ref 0)]) (st' := [.int (b01 (dryB S (fun _ => false)))]) (w' := w1) rfl rfl rfl ?_
  refine am_g0 rfl rfl ?_
  cases h0 : dryB S (fun _ => false) with
  | true =>
    have hS : dryS S = some [] := by unfold dryS; rw [if_pos h0]
    iterate 2 refine am_g0 rfl rfl ?_
    refine ⟨rfl, by unfold dryC; rw [hS]; rfl, sd _ f1, fun l hl i a ha => ?_⟩
    rw [hS] at hl
    cases hl
    cases ha
  | false =>
    refine am_go rfl ?_
    refine am_g0 rfl rfl ?_
    have key : ∀ j i : Nat, i + j = S.rn → ∀ m : am_M, am_sc w m → (∀ p, p < i → dryB S (ex1 p) = false) → am_R shC mi_X11_findDry (am_D shC (d - 1)) (fun o => o.1 = some (.int (dryC S)) ∧ (am_sd w o.2 ∧ ∀ l, dryS S = some l → ∀ i a, l[i]? = some a → o.2.1 70 i = nI a)) 13 [(0, .ref 0), (1, .int (nI i))] [] m := by
      intro j
      induction j with
      | zero =>
        intro i hi m hm hf
        have r0 := h.sc hm
        refine am_go rfl ?_
        iterate 4 refine am_g0 rfl rfl ?_
        refine am_tt (show (m.1 18 1 : Int32) ≤ (nI i) from by rw [r0.1.2.2.2.2.2.1.1]; exact nI_le (by omega) (by omega)) ?_
        refine am_go rfl ?_
        refine am_g0 rfl rfl ?_
        have n1 : firstN (fun a => dryB S (ex1 a)) S.rn = none := firstN_ex (fun p hp => hf p (by omega))
        have hS : dryS S = (match firstN (fun a => (dry2 S a).isSome) S.rn with
          | some a => (match dry2 S a with
            | some b => some [a, b]
            | none => none)
          | none => none) := by unfold dryS; rw [if_neg (by rw [h0]; decide), n1]; rfl
        have key2 : ∀ j i : Nat, i + j = S.rn → ∀ m : am_M, am_sc w m → (∀ p, p < i → (dry2 S p).isSome = false) → am_R shC mi_X11_findDry (am_D shC (d - 1)) (fun o => o.1 = some (.int (dryC S)) ∧ (am_sd w o.2 ∧ ∀ l, dryS S = some l → ∀ i a, l[i]? = some a → o.2.1 70 i = nI a)) 50 [(0, .ref 0), (1, .int (nI i))] [] m := by
          intro j
          induction j with
          | zero =>
            intro i hi m hm hf2
            have r0 := h.sc hm
            refine am_go rfl ?_
            iterate 4 refine am_g0 rfl rfl ?_
            refine am_tt (show (m.1 18 1 : Int32) ≤ (nI i) from by rw [r0.1.2.2.2.2.2.1.1]; exact nI_le (by omega) (by omega)) ?_
            refine am_go rfl ?_
            refine am_g0 rfl rfl ?_
            have hN : dryS S = none := by rw [hS, firstN_ex (fun p hp => hf2 p (by omega))]
            refine ⟨rfl, by unfold dryC; rw [hN], sd _ hm, fun l hl => ?_⟩
            rw [hN] at hl
            cases hl
          | succ j ih =>
            intro i hi m hm hf2
            have r0 := h.sc hm
            refine am_go rfl ?_
            iterate 4 refine am_g0 rfl rfl ?_
            refine am_ff (show ¬ (m.1 18 1 : Int32) ≤ (nI i) from by rw [r0.1.2.2.2.2.2.1.1]; exact nI_ge (by omega) (by omega)) ?_
            iterate 3 refine am_g0 rfl rfl ?_
            refine am_top (y := nI (i + 1)) (nI_1 _) ?_
            refine am_g0 rfl rfl ?_
            have key3 : ∀ j b : Nat, b + j = S.rn → i < b → ∀ m : am_M, am_sc w m → (∀ p, p < b → (decide (i < p) && dryB S (ex2 i p)) = false) → am_R shC mi_X11_findDry (am_D shC (d - 1)) (fun o => o.1 = some (.int (dryC S)) ∧ (am_sd w o.2 ∧ ∀ l, dryS S = some l → ∀ i a, l[i]? = some a → o.2.1 70 i = nI a)) 65 [(0, .ref 0), (1, .int (nI i)), (2, .int (nI b))] [] m := by
              intro j
              induction j with
              | zero =>
                intro b hb hib m hm hf3
                have r0 := h.sc hm
                refine am_go rfl ?_
                iterate 4 refine am_g0 rfl rfl ?_
                refine am_tt (show (m.1 18 1 : Int32) ≤ (nI b) from by rw [r0.1.2.2.2.2.2.1.1]; exact nI_le (by omega) (by omega)) ?_
                refine am_go rfl ?_
                refine am_g0 rfl rfl ?_
                have this := ih (i + 1) (by omega) m hm (fun p hp => if z : p = i then by rw [z]; unfold dry2; rw [firstN_ex (fun p hp => hf3 p (by omega))]; rfl else hf2 p (by omega))
                rw [← nI_1] at this
                exact am_kl this rfl
              | succ j ih3 =>
                intro b hb hib m hm hf3
                have r0 := h.sc hm
                refine am_go rfl ?_
                iterate 4 refine am_g0 rfl rfl ?_
                refine am_ff (show ¬ (m.1 18 1 : Int32) ≤ (nI b) from by rw [r0.1.2.2.2.2.2.1.1]; exact nI_ge (by omega) (by omega)) ?_
                iterate 4 refine am_g0 rfl rfl ?_
                obtain ⟨⟨r2, w2⟩, ⟨e2, f2⟩, hD2⟩ := d_nobody (d := d - 1) (ex := ex2 i b) (by omega) r0 (fun k hk => exI_2 hk (by omega) (by omega))
                dsimp only at e2 f2
                subst e2
                refine ⟨(some (.int (b01 (dryB S (ex2 i b)))), w2), hD2, ?_⟩
                refine am_to (lv' := [(0, .ref 0), (1, .int (nI i)), (2, .int (nI b))]) (st' := [.int (b01 (dryB S (ex2 i b)))]) (w' := w2) rfl rfl rfl ?_
                refine am_g0 rfl rfl ?_
                cases h2 : dryB S (ex2 i b) with
                | true =>
                  iterate 4 refine am_g0 rfl rfl ?_
                  refine am_gsN (n := 2) (k := 0) rfl rfl (by omega) (by decide) ?_
                  refine am_to (lv' := [(0, .ref 0), (1, .int (nI i)), (2, .int (nI b))]) (st' := []) (w' := am_pi w2 70 0 (nI i)) rfl rfl rfl ?_
                  iterate 4 refine am_g0 rfl rfl ?_
                  refine am_gsN (n := 2) (k := 1) rfl rfl (by omega) (by decide) ?_
                  refine am_to (lv' := [(0, .ref 0), (1, .int (nI i)), (2, .int (nI b))]) (st' := []) (w' := am_pi (am_pi w2 70 0 (nI i)) 70 1 (nI b)) rfl rfl rfl ?_
                  iterate 2 refine am_g0 rfl rfl ?_
                  have d2 : dry2 S i = some b := firstN_at (by omega) (by rw [decide_eq_true hib, h2]; rfl) hf3
                  have hN : dryS S = some [i, b] := by rw [hS, firstN_at (show i < S.rn by omega) (by rw [d2]; rfl) hf2]; dsimp only; rw [d2]
                  have hsc := hm.tr f2
                  refine ⟨rfl, by unfold dryC; rw [hN]; rfl, ⟨fun a ha h7 => ?_, hsc.2⟩, fun l hl k a ha => ?_⟩
                  · show (am_pi (am_pi w2 70 0 (nI i)) 70 1 (nI b)).1 a = _
                    rw [am_pi_row h7, am_pi_row h7]; exact hsc.1 a ha
                  · rw [hN] at hl
                    cases hl
                    match k, ha with
                    | 0, ha => cases ha; rfl
                    | 1, ha => cases ha; rfl
                | false =>
                  refine am_go rfl ?_
                  refine am_g0 rfl rfl ?_
                  have this := ih3 (b + 1) (by omega) (by omega) w2 (hm.tr f2) (fun p hp => if z : p = b then by rw [z, h2, Bool.and_false] else hf3 p (by omega))
                  rw [← nI_1] at this
                  exact am_kl this rfl
            exact am_kl (key3 (S.rn - (i + 1)) (i + 1) (by omega) (by omega) m hm (fun p hp => by rw [decide_eq_false (by omega)]; rfl)) rfl
        exact am_kl (key2 S.rn 0 (by omega) m hm (fun p hp => absurd hp (Nat.not_lt_zero p))) rfl
      | succ j ih =>
        intro i hi m hm hf
        have r0 := h.sc hm
        refine am_go rfl ?_
        iterate 4 refine am_g0 rfl rfl ?_
        refine am_ff (show ¬ (m.1 18 1 : Int32) ≤ (nI i) from by rw [r0.1.2.2.2.2.2.1.1]; exact nI_ge (by omega) (by omega)) ?_
        iterate 4 refine am_g0 rfl rfl ?_
        obtain ⟨⟨r2, w2⟩, ⟨e2, f2⟩, hD2⟩ := d_nobody (d := d - 1) (ex := ex1 i) (by omega) r0 (fun k hk => exI_1 hk (by omega))
        dsimp only at e2 f2
        subst e2
        refine ⟨(some (.int (b01 (dryB S (ex1 i)))), w2), hD2, ?_⟩
        refine am_to (lv' := [(0, .ref 0), (1, .int (nI i))]) (st' := [.int (b01 (dryB S (ex1 i)))]) (w' := w2) rfl rfl rfl ?_
        refine am_g0 rfl rfl ?_
        cases h2 : dryB S (ex1 i) with
        | true =>
          iterate 4 refine am_g0 rfl rfl ?_
          refine am_gsN (n := 2) (k := 0) rfl rfl (by omega) (by decide) ?_
          refine am_to (lv' := [(0, .ref 0), (1, .int (nI i))]) (st' := []) (w' := am_pi w2 70 0 (nI i)) rfl rfl rfl ?_
          iterate 2 refine am_g0 rfl rfl ?_
          have hN : dryS S = some [i] := by unfold dryS; rw [if_neg (by rw [h0]; decide), firstN_at (show i < S.rn by omega) h2 hf]
          have hsc := hm.tr f2
          refine ⟨rfl, by unfold dryC; rw [hN]; rfl, ⟨fun a ha h7 => ?_, hsc.2⟩, fun l hl k a ha => ?_⟩
          · show (am_pi w2 70 0 (nI i)).1 a = _
            rw [am_pi_row h7]; exact hsc.1 a ha
          · rw [hN] at hl
            cases hl
            match k, ha with
            | 0, ha => cases ha; rfl
        | false =>
          refine am_go rfl ?_
          refine am_g0 rfl rfl ?_
          have this := ih (i + 1) (by omega) w2 (hm.tr f2) (fun p hp => if z : p = i then by rw [z]; exact h2 else hf p (by omega))
          rw [← nI_1] at this
          exact am_kl this rfl
    exact am_kl (key S.rn 0 (by omega) w1 f1 (fun p hp => absurd hp (Nat.not_lt_zero p))) rfl
def dryQ (S : Sp) (x : Int32) : Int32 := if x = -1 then dryC S else match dI x 2 with
  | some i => dryA S i
  | none => -2
theorem dryS_len {S : Sp} {l : List Nat} (h : dryS S = some l) : l.length ≤ 2 := by
  unfold dryS at h
  split at h
  · cases h; simp
  · split at h
    · cases h; simp
    · split at h
      · split at h
        · cases h; simp
        · cases h
      · cases h
