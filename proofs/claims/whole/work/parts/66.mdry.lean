/-! the model: dry, never, wore -/
theorem wetB_1 {k s : Nat} (hk : k < 32) (hs : s < 32) : wetB ((1 : Int32) <<< (nI k &&& 31)) s = decide (s = k) := by
  unfold wetB
  rw [bit_one k hk s hs]
  by_cases e : s = k
  · rw [if_pos e, decide_eq_true e]; decide
  · rw [if_neg e, decide_eq_false e]; decide
theorem bits_z {f : Nat → Bool} {n : Nat} (hn : n ≤ 32) : bitsS f n = 0 ↔ allB (fun p => !f p) n = true := by
  constructor
  · intro h
    refine allB_t.mpr (fun i hi => ?_)
    have := bits_wet (f := f) hn i (by omega)
    rw [h, wetB_0 (by omega), decide_eq_true hi, Bool.true_and] at this
    rw [← this]; rfl
  · intro h
    refine bitsS_0 (fun i hi => ?_)
    have := allB_t.mp h i hi
    cases hf : f i with
    | false => rfl
    | true => rw [hf] at this; cases this
theorem am_fx.back {C J : List Nat} {w w' : am_M} {j : Nat} {x : Int32} (h : am_fx C (j :: J) w w') (hx : w.1 0 j = x) : am_fx C J w (am_pi w' 0 j x) := ⟨fun a h1 h2 => (am_pi_row h2).trans (h.1 a h1 h2), fun i hi => if z : i = j then by rw [z, am_pi_at, hx] else (am_pi_ne (Or.inr z)).trans (h.2.1 i (fun q => (List.mem_cons.mp q).elim z hi)), h.2.2⟩
theorem RM.Wx {w v : am_M} {S : Sp} {C J : List Nat} {ex : Nat → Bool} (h : RM w S) (g : SG S) (f : am_fx C J w v) (hC : 12 ∉ C) (h16 : 16 ∉ J) (h19 : 19 ∉ J) (hx : ∀ i, i < 8 → wetB (v.1 0 18) i = ex i) : mW v (wetN S.rs ex S.rn) := by
  have g8 := g.1.2.1.1
  refine Or.inl ⟨(f.2.1 19 h19).trans h.2.2.2.2.2.2, S.rn, S.rs, g8, (f.2.1 16 h16).trans h.2.2.2.1.1, fun i hi => ⟨by rw [f.1 12 hC (by decide)]; exact h.2.2.2.1.2 i hi, g.1.2.1.2 i hi⟩, fun s hs => wetN_congr (fun i hi => (hx i (by omega)).symm) s⟩
theorem m_isDry {d : Nat} {x : Int32} {ex : Nat → Bool} {w : am_M} {S : Sp} (hd : 5 ≤ d) (h : RM w S) (hR : mRd w S) (g : SG S) (hx : ∀ i, i < 8 → wetB x i = ex i) : ∃ o : am_O, (o.1 = some (.int (b01 (dryB S ex))) ∧ am_fx [13, 14, 15, 16, 17, 18, 19, 20] [28, 29, 30] w o.2) ∧ am_D shM d mi_X12_isDry [.ref 0, .int x] w o := by
  have hq := g.2.2.1
  have fv : am_fx [13, 14, 15, 16, 17, 18, 19, 20] [18, 28, 29, 30] w (am_pi w 0 18 x) := am_fx.rf.p0 (by decide)
  have hRv := hR.fl fv (by decide) (by decide)
  have hWv := h.Wx g fv (by decide) (by decide) (by decide) (ex := ex) (fun i hi => by rw [am_pi_at]; exact hx i hi)
  refine am_dex (by omega) rfl rfl ?_
  iterate 5 refine am_g0 rfl rfl ?_
  obtain ⟨⟨r1, w1⟩, ⟨e1, f1, g1⟩, hD1⟩ := m_lives (d := d - 1) (by omega) hRv.1 hWv hRv.2.1 hq (hRv.P g)
  dsimp only at e1 f1 g1
  subst e1
  refine ⟨(none, w1), hD1, ?_⟩
  refine am_to (lv' := [(0, .ref 0), (1, .int x)]) (st' := []) (w' := w1) rfl rfl rfl ?_
  have f1' : am_fx [13, 14, 15, 16, 17, 18, 19, 20] [18, 28, 29, 30] w w1 := fv.tr (f1.mono (by decide) (by decide))
  have hst := g1.st g.2.1.good g.2.2.2
  have fu : am_fx [13, 14, 15, 16, 17, 18, 19, 20] [28, 29, 30] w (am_pi w1 0 18 0) := f1'.back h.2.2.2.2.2.1
  iterate 5 refine am_g0 rfl rfl ?_
  generalize hu : am_pi w1 0 18 0 = u
  rw [hu] at fu
  have hwho := m_whoBy (d := d - 1) (q := S.q) (k := 1) (w := u) (by omega) ((fu.2.1 14 (by decide)).trans hR.2.1) hq (by omega) (fun p hp => by rw [← hu, am_pi_row (by decide)]; exact hst p hp)
  have hz := bits_z (f := fun p => decide (fin S.V (prS S.pf p) (wetN S.rs ex S.rn) = 1 + 1)) (n := S.q) (by omega)
  have hdr : dryB S ex = allB (fun p => !decide (fin S.V (prS S.pf p) (wetN S.rs ex S.rn) = 1 + 1)) S.q := rfl
  rw [hdr]
  generalize bitsS (fun p => decide (fin S.V (prS S.pf p) (wetN S.rs ex S.rn) = 1 + 1)) S.q = B at hz hwho
  generalize allB (fun p => !decide (fin S.V (prS S.pf p) (wetN S.rs ex S.rn) = 1 + 1)) S.q = bb at hz
  refine am_to (lv' := [(0, .ref 0), (1, .int x)]) (st' := [.int 1, .ref 0]) (w' := u) rfl rfl rfl ?_
  refine am_g0 rfl rfl ?_
  refine ⟨(some (.int B), u), hwho, ?_⟩
  refine am_to (lv' := [(0, .ref 0), (1, .int x)]) (st' := [.int B]) (w' := u) rfl rfl rfl ?_
  refine am_g0 rfl rfl ?_
  by_cases e : B = 0
  · refine am_tt (show (B : Int32) = 0 from e) ?_
    iterate 2 refine am_g0 rfl rfl ?_
    refine am_go rfl ?_
    exact ⟨rfl, by rw [hz.mp e]; rfl, fu⟩
  · refine am_ff (show ¬ (B : Int32) = 0 from e) ?_
    refine am_go rfl ?_
    refine am_go rfl ?_
    exact ⟨rfl, by rw [show bb = false from Bool.eq_false_iff.mpr (fun z => e (hz.mpr z))]; rfl, fu⟩
theorem dryQ_m {S : Sp} {x : Int32} (h : x = -1) : dryQ S x = dryC S := by unfold dryQ; rw [if_pos h]
theorem dryQ_i {S : Sp} {x : Int32} {i : Nat} (hi : i < 2) (h : x = nI i) : dryQ S x = dryA S i := by unfold dryQ; rw [if_neg (by rw [h]; exact nI_m1 (by omega)), h, dI_t hi (by omega)]
theorem dryS_0 {S : Sp} (h : dryB S (fun _ => false) = true) : dryS S = some [] := by unfold dryS; rw [if_pos h]
theorem dryS_1 {S : Sp} {a : Nat} (h : ¬ dryB S (fun _ => false) = true) (h1 : firstN (fun a => dryB S (ex1 a)) S.rn = some a) : dryS S = some [a] := by unfold dryS; rw [if_neg h, h1]
theorem dryS_2 {S : Sp} {a b : Nat} (h : ¬ dryB S (fun _ => false) = true) (h1 : firstN (fun a => dryB S (ex1 a)) S.rn = none) (h2 : firstN (fun a => (dry2 S a).isSome) S.rn = some a) (h3 : dry2 S a = some b) : dryS S = some [a, b] := by unfold dryS; rw [if_neg h, h1]; dsimp only; rw [h2]; dsimp only; rw [h3]
theorem dryS_n {S : Sp} (h : ¬ dryB S (fun _ => false) = true) (h1 : firstN (fun a => dryB S (ex1 a)) S.rn = none) (h2 : firstN (fun a => (dry2 S a).isSome) S.rn = none) : dryS S = none := by unfold dryS; rw [if_neg h, h1]; dsimp only; rw [h2]
theorem dryC_s {S : Sp} {l : List Nat} (h : dryS S = some l) : dryC S = nI l.length := by unfold dryC; rw [h]
theorem dryA_s {S : Sp} {l : List Nat} {i : Nat} (h : dryS S = some l) : dryA S i = opI (l[i]?) := by unfold dryA; rw [h]
theorem m_dryOf {d : Nat} {x : Int32} {w : am_M} {S : Sp} (hd : 6 ≤ d) (h : RM w S) (hR : mRd w S) (g : SG S) (hx : x = -1 ∨ ∃ i, i < 2 ∧ x = nI i) : ∃ o : am_O, (o.1 = some (.int (dryQ S x)) ∧ am_fx [13, 14, 15, 16, 17, 18, 19, 20] [28, 29, 30] w o.2) ∧ am_D shM d mi_X12_dryOf [.ref 0, .int x] w o := by
  have hr8 := g.1.2.1.1
  have hrn : w.1 0 16 = nI S.rn := h.2.2.2.1.1
  have hdry : ∀ u : am_M, am_fx [13, 14, 15, 16, 17, 18, 19, 20] [28, 29, 30] w u → ∀ (y : Int32) (ex : Nat → Bool), (∀ i, i < 8 → wetB y i = ex i) → ∃ o : am_O, (o.1 = some (.int (b01 (dryB S ex))) ∧ am_fx [13, 14, 15, 16, 17, 18, 19, 20] [28, 29, 30] u o.2) ∧ am_D shM (d - 1) mi_X12_isDry [.ref 0, .int y] u o := fun u fu y ex hy => m_isDry (by omega) (h.fr fu (by decide) (by decide)) (hR.fl fu (by decide) (by decide)) g hy
  refine am_dex (by omega) rfl rfl ?_
  iterate 3 refine am_g0 rfl rfl ?_
  obtain ⟨⟨r1, w1⟩, ⟨e1, f1⟩, hD1⟩ := hdry w am_fx.rf 0 (fun _ => false) (fun i hi => wetB_0 (by omega))
  dsimp only at e1 f1
  subst e1
  refine ⟨(some (.int (b01 (dryB S (fun _ => false)))), w1), hD1, ?_⟩
  refine am_to (lv' := [(0, .ref 0), (1, .int x)]) (st' := [.int (b01 (dryB S (fun _ => false)))]) (w' := w1) rfl rfl rfl ?_
  refine am_g0 rfl rfl ?_
  by_cases c0 : dryB S (fun _ => false) = true
  · have hS := dryS_0 c0
    refine am_ff (show ¬ (b01 (dryB S (fun _ => false)) : Int32) = 0 from b01_t c0) ?_
    iterate 3 refine am_g0 rfl rfl ?_
    rcases hx with hx | ⟨i, hi, hx⟩
    · refine am_tt (show (x : Int32) = (-1) from hx) ?_
      iterate 2 refine am_g0 rfl rfl ?_
      refine am_go rfl ?_
      exact ⟨rfl, by rw [dryQ_m hx, dryC_s hS]; rfl, f1⟩
    · refine am_ff (show ¬ (x : Int32) = (-1) from by rw [hx]; exact nI_m1 (by omega)) ?_
      refine am_go rfl ?_
      refine am_go rfl ?_
      exact ⟨rfl, by rw [dryQ_i hi hx, dryA_s hS]; rfl, f1⟩
  · refine am_tt (show (b01 (dryB S (fun _ => false)) : Int32) = 0 from b01_f c0) ?_
    refine am_go rfl ?_
    refine am_g0 rfl rfl ?_
    have key66 : (∀ b, b < S.rn → dryB S (ex1 b) = false) → ∀ j a : Nat, a + j = S.rn → ∀ u : am_M, am_fx [13, 14, 15, 16, 17, 18, 19, 20] [28, 29, 30] w u → (∀ b, b < a → (dry2 S b).isSome = false) → am_R shM mi_X12_dryOf (am_D shM (d - 1)) (fun o => (o.1 = some (.int (dryQ S x)) ∧ am_fx [13, 14, 15, 16, 17, 18, 19, 20] [28, 29, 30] w o.2)) 66 [(0, .ref 0), (1, .int x), (2, .int (nI a))] [] u := by
      intro h1 j
      have hf1 : firstN (fun a => dryB S (ex1 a)) S.rn = none := firstN_ex h1
      induction j with
      | zero =>
        intro a ha u fu h2
        have hru : u.1 0 16 = nI S.rn := (fu.2.1 16 (by decide)).trans hrn
        have hS := dryS_n c0 hf1 (firstN_ex (fun b hb => h2 b (by omega)))
        refine am_go rfl ?_
        iterate 3 refine am_g0 rfl rfl ?_
        refine am_tt (show (u.1 0 16 : Int32) ≤ (nI a) from by rw [hru]; exact nI_le (by omega) (by omega)) ?_
        refine am_go rfl ?_
        refine am_g0 rfl rfl ?_
        rcases hx with hx | ⟨i, hi, hx⟩
        · exact ⟨rfl, by rw [dryQ_m hx]; unfold dryC; rw [hS], fu⟩
        · exact ⟨rfl, by rw [dryQ_i hi hx]; unfold dryA; rw [hS], fu⟩
      | succ j ih =>
        intro a ha u fu h2
        have hru : u.1 0 16 = nI S.rn := (fu.2.1 16 (by decide)).trans hrn
        refine am_go rfl ?_
        iterate 3 refine am_g0 rfl rfl ?_
        refine am_ff (show ¬ (u.1 0 16 : Int32) ≤ (nI a) from by rw [hru]; exact nI_ge (by omega) (by omega)) ?_
        iterate 4 refine am_g0 rfl rfl ?_
        have key78 : ∀ j b : Nat, b + j = S.rn → a < b → ∀ u : am_M, am_fx [13, 14, 15, 16, 17, 18, 19, 20] [28, 29, 30] w u → (∀ c, c < b → (decide (a < c) && dryB S (ex2 a c)) = false) → am_R shM mi_X12_dryOf (am_D shM (d - 1)) (fun o => (o.1 = some (.int (dryQ S x)) ∧ am_fx [13, 14, 15, 16, 17, 18, 19, 20] [28, 29, 30] w o.2)) 78 [(0, .ref 0), (1, .int x), (2, .int (nI a)), (3, .int (nI b))] [] u := by
          intro j
          induction j with
          | zero =>
            intro b hb hab u fu h3
            have hru : u.1 0 16 = nI S.rn := (fu.2.1 16 (by decide)).trans hrn
            have hd2 : dry2 S a = none := firstN_ex (fun c hc => h3 c (by omega))
            have this := ih (a + 1) (by omega) u fu (fun c hc => if z : c = a then by rw [z, hd2]; rfl else h2 c (by omega))
            rw [← nI_1 a] at this
            refine am_go rfl ?_
            iterate 3 refine am_g0 rfl rfl ?_
            refine am_tt (show (u.1 0 16 : Int32) ≤ (nI b) from by rw [hru]; exact nI_le (by omega) (by omega)) ?_
            refine am_go rfl ?_
            refine am_g0 rfl rfl ?_
            exact am_kl this rfl
          | succ j ih2 =>
            intro b hb hab u fu h3
            have hru : u.1 0 16 = nI S.rn := (fu.2.1 16 (by decide)).trans hrn
            refine am_go rfl ?_
            iterate 3 refine am_g0 rfl rfl ?_
            refine am_ff (show ¬ (u.1 0 16 : Int32) ≤ (nI b) from by rw [hru]; exact nI_ge (by omega) (by omega)) ?_
            iterate 9 refine am_g0 rfl rfl ?_
            obtain ⟨⟨r2, w2⟩, ⟨e2, f2⟩, hD2⟩ := hdry u fu _ (ex2 a b) (fun i hi => by rw [wetB_or (x := (1 : Int32) <<< (nI a &&& 31)) (k := b) (s := i) (by omega) (by omega), wetB_1 (k := a) (s := i) (by omega) (by omega)]; unfold ex2; rw [decide_eq_decide.mpr (show b = i ↔ i = b from ⟨Eq.symm, Eq.symm⟩)])
            dsimp only at e2 f2
            subst e2
            refine ⟨(some (.int (b01 (dryB S (ex2 a b)))), w2), hD2, ?_⟩
            refine am_to (lv' := [(0, .ref 0), (1, .int x), (2, .int (nI a)), (3, .int (nI b))]) (st' := [.int (b01 (dryB S (ex2 a b)))]) (w' := w2) rfl rfl rfl ?_
            have f2' := fu.tr f2
            refine am_g0 rfl rfl ?_
            by_cases c2 : dryB S (ex2 a b) = true
            · have hd2 : dry2 S a = some b := firstN_at (by omega) (by rw [decide_eq_true hab, c2]; rfl) h3
              have hS := dryS_2 c0 hf1 (firstN_at (by omega) (by rw [hd2]; rfl) h2) hd2
              refine am_ff (show ¬ (b01 (dryB S (ex2 a b)) : Int32) = 0 from b01_t c2) ?_
              iterate 3 refine am_g0 rfl rfl ?_
              rcases hx with hx | ⟨i, hi, hx⟩
              · refine am_tt (show (x : Int32) = (-1) from hx) ?_
                iterate 2 refine am_g0 rfl rfl ?_
                refine am_go rfl ?_
                exact ⟨rfl, by rw [dryQ_m hx, dryC_s hS]; rfl, f2'⟩
              · refine am_ff (show ¬ (x : Int32) = (-1) from by rw [hx]; exact nI_m1 (by omega)) ?_
                refine am_go rfl ?_
                refine am_g0 rfl rfl ?_
                rcases (show i = 0 ∨ i = 1 by omega) with e | e
                · refine am_tt (show (x : Int32) = 0 from by rw [hx, e]; rfl) ?_
                  iterate 2 refine am_g0 rfl rfl ?_
                  refine am_go rfl ?_
                  exact ⟨rfl, by rw [dryQ_i hi hx, dryA_s hS, e]; rfl, f2'⟩
                · refine am_ff (show ¬ (x : Int32) = 0 from by rw [hx, e]; decide) ?_
                  refine am_go rfl ?_
                  refine am_go rfl ?_
                  exact ⟨rfl, by rw [dryQ_i hi hx, dryA_s hS, e]; rfl, f2'⟩
            · have this := ih2 (b + 1) (by omega) (by omega) w2 f2' (fun c hc => if z : c = b then by rw [z, Bool.eq_false_iff.mpr c2, Bool.and_false] else h3 c (by omega))
              rw [← nI_1 b] at this
              refine am_tt (show (b01 (dryB S (ex2 a b)) : Int32) = 0 from b01_f c2) ?_
              refine am_go rfl ?_
              refine am_g0 rfl rfl ?_
              exact am_kl this rfl
        have this := key78 (S.rn - (a + 1)) (a + 1) (by omega) (by omega) u fu (fun c hc => by rw [decide_eq_false (by omega), Bool.false_and])
        rw [← nI_1 a] at this
        exact am_kl this rfl
    have key21 : ∀ j a : Nat, a + j = S.rn → ∀ u : am_M, am_fx [13, 14, 15, 16, 17, 18, 19, 20] [28, 29, 30] w u → (∀ b, b < a → dryB S (ex1 b) = false) → am_R shM mi_X12_dryOf (am_D shM (d - 1)) (fun o => (o.1 = some (.int (dryQ S x)) ∧ am_fx [13, 14, 15, 16, 17, 18, 19, 20] [28, 29, 30] w o.2)) 21 [(0, .ref 0), (1, .int x), (2, .int (nI a))] [] u := by
      intro j
      induction j with
      | zero =>
        intro a ha u fu h1
        have hru : u.1 0 16 = nI S.rn := (fu.2.1 16 (by decide)).trans hrn
        refine am_go rfl ?_
        iterate 3 refine am_g0 rfl rfl ?_
        refine am_tt (show (u.1 0 16 : Int32) ≤ (nI a) from by rw [hru]; exact nI_le (by omega) (by omega)) ?_
        refine am_go rfl ?_
        refine am_g0 rfl rfl ?_
        exact am_kl (key66 (fun b hb => h1 b (by omega)) S.rn 0 (by omega) u fu (fun b hb => absurd hb (Nat.not_lt_zero b))) rfl
      | succ j ih =>
        intro a ha u fu h1
        have hru : u.1 0 16 = nI S.rn := (fu.2.1 16 (by decide)).trans hrn
        refine am_go rfl ?_
        iterate 3 refine am_g0 rfl rfl ?_
        refine am_ff (show ¬ (u.1 0 16 : Int32) ≤ (nI a) from by rw [hru]; exact nI_ge (by omega) (by omega)) ?_
        iterate 5 refine am_g0 rfl rfl ?_
        obtain ⟨⟨r2, w2⟩, ⟨e2, f2⟩, hD2⟩ := hdry u fu _ (ex1 a) (fun i hi => wetB_1 (by omega) (by omega))
        dsimp only at e2 f2
        subst e2
        refine ⟨(some (.int (b01 (dryB S (ex1 a)))), w2), hD2, ?_⟩
        refine am_to (lv' := [(0, .ref 0), (1, .int x), (2, .int (nI a))]) (st' := [.int (b01 (dryB S (ex1 a)))]) (w' := w2) rfl rfl rfl ?_
        have f2' := fu.tr f2
        refine am_g0 rfl rfl ?_
        by_cases c1 : dryB S (ex1 a) = true
        · have hS := dryS_1 c0 (firstN_at (f := fun a => dryB S (ex1 a)) (n := S.rn) (by omega) c1 h1)
          refine am_ff (show ¬ (b01 (dryB S (ex1 a)) : Int32) = 0 from b01_t c1) ?_
          iterate 3 refine am_g0 rfl rfl ?_
          rcases hx with hx | ⟨i, hi, hx⟩
          · refine am_tt (show (x : Int32) = (-1) from hx) ?_
            iterate 2 refine am_g0 rfl rfl ?_
            refine am_go rfl ?_
            exact ⟨rfl, by rw [dryQ_m hx, dryC_s hS]; rfl, f2'⟩
          · refine am_ff (show ¬ (x : Int32) = (-1) from by rw [hx]; exact nI_m1 (by omega)) ?_
            refine am_go rfl ?_
            refine am_g0 rfl rfl ?_
            rcases (show i = 0 ∨ i = 1 by omega) with e | e
            · refine am_tt (show (x : Int32) = 0 from by rw [hx, e]; rfl) ?_
              iterate 2 refine am_g0 rfl rfl ?_
              refine am_go rfl ?_
              exact ⟨rfl, by rw [dryQ_i hi hx, dryA_s hS, e]; rfl, f2'⟩
            · refine am_ff (show ¬ (x : Int32) = 0 from by rw [hx, e]; decide) ?_
              refine am_go rfl ?_
              refine am_go rfl ?_
              exact ⟨rfl, by rw [dryQ_i hi hx, dryA_s hS, e]; rfl, f2'⟩
        · have this := ih (a + 1) (by omega) w2 f2' (fun b hb => if z : b = a then by rw [z, Bool.eq_false_iff.mpr c1] else h1 b (by omega))
          rw [← nI_1 a] at this
          refine am_tt (show (b01 (dryB S (ex1 a)) : Int32) = 0 from b01_f c1) ?_
          refine am_go rfl ?_
          refine am_g0 rfl rfl ?_
          exact am_kl this rfl
    exact am_kl (key21 S.rn 0 (by omega) w1 f1 (fun b hb => absurd hb (Nat.not_lt_zero b))) rfl
theorem m_dry {d : Nat} {x : Int32} {w : am_M} {S : Sp} (hd : 8 ≤ d) (h : RM w S) (g : SG S) : ∃ o : am_O, (o.1 = some (.int (dryQ S x)) ∧ RM o.2 S) ∧ am_D shM d mi_X12_dry [.ref 0, .int x] w o := by
  obtain ⟨⟨r1, w1⟩, ⟨e1, f1⟩, hD1⟩ := m_find2 (d := d - 1) (by omega) h g
  dsimp only at e1 f1
  subst e1
  by_cases hc : x = -1 ∨ ∃ i, i < 2 ∧ x = nI i
  · have hin : am_D shM (d - 1) mi_X12_in [.long x.toInt64, .long (-1), .long 1] w1 (some (.int 1), w1) := by
      rcases hc with hx | ⟨i, hi, hx⟩
      · rw [hx]; exact m_in_t (by omega) (by decide) (by decide)
      · rcases (show i = 0 ∨ i = 1 by omega) with e | e <;> (rw [hx, e]; exact m_in_t (by omega) (by decide) (by decide))
    refine am_dex (by omega) rfl rfl ?_
    iterate 2 refine am_g0 rfl rfl ?_
    refine ⟨(none, w1), hD1, ?_⟩
    refine am_to (lv' := [(0, .ref 0), (1, .int x)]) (st' := []) (w' := w1) rfl rfl rfl ?_
    iterate 5 refine am_g0 rfl rfl ?_
    refine ⟨(some (.int 1), w1), hin, ?_⟩
    refine am_to (lv' := [(0, .ref 0), (1, .int x)]) (st' := [.int 1]) (w' := w1) rfl rfl rfl ?_
    iterate 4 refine am_g0 rfl rfl ?_
    obtain ⟨⟨r2, w2⟩, ⟨e2, f2⟩, hD2⟩ := m_dryOf (d := d - 1) (by omega) f1.1 f1.2.1 g hc
    dsimp only at e2 f2
    subst e2
    refine ⟨(some (.int (dryQ S x)), w2), hD2, ?_⟩
    refine am_to (lv' := [(0, .ref 0), (1, .int x)]) (st' := [.int (dryQ S x)]) (w' := w2) rfl rfl rfl ?_
    refine am_g0 rfl rfl ?_
    refine am_go rfl ?_
    exact ⟨rfl, rfl, f1.1.fr f2 (by decide) (by decide)⟩
  · have hm1 : ¬ x = -1 := fun z => hc (Or.inl z)
    have hn : dI x 2 = none := by
      rcases dI_or x 2 (by decide) with z | ⟨i, hi, z, _⟩
      · exact z
      · exact absurd (Or.inr ⟨i, hi, z⟩) hc
    have hin : am_D shM (d - 1) mi_X12_in [.long x.toInt64, .long (-1), .long 1] w1 (some (.int 0), w1) := by
      refine m_in_f (by omega) ?_
      rw [Int64.lt_iff_toInt_lt, Int64.lt_iff_toInt_lt, i64_toInt, show (-1 : Int64).toInt = -1 by decide, show (1 : Int64).toInt = 1 by decide]
      by_cases z1 : x.toInt < -1
      · exact Or.inl z1
      · by_cases z2 : 1 < x.toInt
        · exact Or.inr z2
        · exfalso
          rcases (show x.toInt = -1 ∨ x.toInt = 0 ∨ x.toInt = 1 by omega) with e | e | e
          · exact hm1 (Int32.toInt_inj.mp e)
          · exact hc (Or.inr ⟨0, by omega, Int32.toInt_inj.mp e⟩)
          · exact hc (Or.inr ⟨1, by omega, Int32.toInt_inj.mp e⟩)
    refine am_dex (by omega) rfl rfl ?_
    iterate 2 refine am_g0 rfl rfl ?_
    refine ⟨(none, w1), hD1, ?_⟩
    refine am_to (lv' := [(0, .ref 0), (1, .int x)]) (st' := []) (w' := w1) rfl rfl rfl ?_
    iterate 5 refine am_g0 rfl rfl ?_
    refine ⟨(some (.int 0), w1), hin, ?_⟩
    refine am_to (lv' := [(0, .ref 0), (1, .int x)]) (st' := [.int 0]) (w' := w1) rfl rfl rfl ?_
    refine am_g0 rfl rfl ?_
    refine am_go rfl ?_
    refine am_go rfl ?_
    exact ⟨rfl, by unfold dryQ; rw [if_neg hm1, hn], f1.1⟩
/-! what was seen -/
def holdG (S : Sp) (F : Nat → Nat → Int32) (i : Nat) : Bool := decide (S.pe i < S.q) && decide (F (S.pe i) (S.st i) = nI (S.ce i))
theorem holdA_eq {S : Sp} {F : Nat → Nat → Int32} : holdA S F = allB (holdG S F) S.sn := by
  rw [Bool.eq_iff_iff]
  unfold holdA
  rw [Bool.and_eq_true, allB_t, allB_t, allB_t]
  constructor
  · rintro ⟨h1, h2⟩ i hi
    have a1 := h1 i hi
    have a2 := h2 (S.pe i) (of_decide_eq_true a1)
    unfold holdS at a2
    have a3 := allB_t.mp a2 i hi
    unfold holdG
    rw [a1, Bool.true_and]
    exact decide_eq_true (of_decide_eq_true a3 rfl)
  · intro h
    refine ⟨fun i hi => ?_, fun p hp => ?_⟩
    · have := h i hi
      unfold holdG at this
      exact (Bool.and_eq_true_iff.mp this).1
    · unfold holdS
      refine allB_t.mpr (fun i hi => decide_eq_true (fun e => ?_))
      have := h i hi
      unfold holdG at this
      rw [← e]
      exact of_decide_eq_true (Bool.and_eq_true_iff.mp this).2
theorem allB_s {f : Nat → Bool} {n : Nat} : allB f (n + 1) = (allB f n && f n) := by
  rw [Bool.eq_iff_iff, Bool.and_eq_true, allB_t, allB_t]
  constructor
  · intro h; exact ⟨fun i hi => h i (by omega), h n (by omega)⟩
  · rintro ⟨h1, h2⟩ i hi
    by_cases e : i = n
    · rw [e]; exact h2
    · exact h1 i (by omega)
theorem m_isSeen {d : Nat} {w : am_M} {S : Sp} {P : Nat → Pr} {wet : Nat → Bool} (hd : 5 ≤ d) (hs : RMs w S) (g : SG S) (hV : mV w S.V (SW S)) (hW : mW w wet) (hq14 : w.1 0 14 = nI S.q) (hP : ∀ p, p < S.q → mPr w p (P p) ∧ Pok (P p)) : ∃ o : am_O, (o.1 = some (.int (b01 (holdA S (fun p s => cellI S.V (P p) wet s)))) ∧ am_fx [13, 14, 15, 16, 17, 18, 19, 20] [28, 29, 30] w o.2) ∧ am_D shM d mi_X12_isSeen [.ref 0] w o := by
  have hq := g.2.2.1
  have hs8 := g.1.2.2.1.1
  rw [holdA_eq]
  obtain ⟨G, hG⟩ : ∃ G, G = holdG S (fun p s => cellI S.V (P p) wet s) := ⟨_, rfl⟩
  have hGi : ∀ i, G i = (decide (S.pe i < S.q) && decide (cellI S.V (P (S.pe i)) wet (S.st i) = nI (S.ce i))) := fun i => by rw [hG]; rfl
  rw [← hG]
  refine am_dex (by omega) rfl rfl ?_
  iterate 2 refine am_g0 rfl rfl ?_
  obtain ⟨⟨r1, w1⟩, ⟨e1, f1, g1⟩, hD1⟩ := m_lives (d := d - 1) (by omega) hV hW hq14 hq hP
  dsimp only at e1 f1 g1
  subst e1
  refine ⟨(none, w1), hD1, ?_⟩
  refine am_to (lv' := [(0, .ref 0)]) (st' := []) (w' := w1) rfl rfl rfl ?_
  have h32 : w1.1 0 32 = nI S.sn := (f1.2.1 32 (by decide)).trans hs.1
  have h14 : w1.1 0 14 = nI S.q := (f1.2.1 14 (by decide)).trans hq14
  have h22 : ∀ i, i < S.sn → w1.1 22 (3 * i) = nI (S.st i) ∧ w1.1 22 (3 * i + 1) = nI (S.pe i) ∧ w1.1 22 (3 * i + 2) = nI (S.ce i) := fun i hi => by rw [f1.1 22 (by decide) (by decide)]; exact hs.2 i hi
  have kp : ∀ p, p < S.q → ∀ s, s < 30 → w1.1 18 (32 * s + 4 * p) = cellI S.V (P p) wet s := fun p hp s hs => (g1.1 p hp).2.2 s hs 0 (by omega)
  iterate 4 refine am_g0 rfl rfl ?_
  have key : ∀ j i : Nat, i + j = S.sn → ∀ y, y = b01 (allB G i) → am_R shM mi_X12_isSeen (am_D shM (d - 1)) (fun o => o.1 = some (.int (b01 (allB G S.sn))) ∧ am_fx [13, 14, 15, 16, 17, 18, 19, 20] [28, 29, 30] w o.2) 8 [(0, .ref 0), (1, .int y), (2, .int (nI i))] [] w1 := by
    intro j
    induction j with
    | zero =>
      intro i hi y hy
      refine am_go rfl ?_
      iterate 3 refine am_g0 rfl rfl ?_
      refine am_tt (show (w1.1 0 32 : Int32) ≤ (nI i) from by rw [h32]; exact nI_le (by omega) (by omega)) ?_
      refine am_go rfl ?_
      refine am_g0 rfl rfl ?_
      exact ⟨by rw [hy]; cases allB G i <;> rfl, by rw [hy, show i = S.sn by omega], f1⟩
    | succ j ih =>
      intro i hi y hy
      obtain ⟨a1, a2, a3⟩ := h22 i (by omega)
      obtain ⟨b1, b2, b3⟩ := g.1.2.2.1.2 i (by omega)
      have hGs : allB G (i + 1) = (allB G i && G i) := allB_s
      refine am_go rfl ?_
      iterate 3 refine am_g0 rfl rfl ?_
      refine am_ff (show ¬ (w1.1 0 32 : Int32) ≤ (nI i) from by rw [h32]; exact nI_ge (by omega) (by omega)) ?_
      iterate 7 refine am_g0 rfl rfl ?_
      refine am_glE (n := 24) (k := 3 * i + 1) rfl rfl (by rw [ix3]; exact nI_1 _) (by omega) (by decide) ?_
      refine am_top (y := nI (S.pe i)) (a2) ?_
      iterate 3 refine am_g0 rfl rfl ?_
      by_cases c1 : allB G i = true
      · refine am_ff (show ¬ (y : Int32) = 0 from by rw [hy]; exact b01_t c1) ?_
        iterate 3 refine am_g0 rfl rfl ?_
        by_cases c2 : S.pe i < S.q
        · refine ⟨(some (.int 1), w1), m_isPerson_s (by omega) hq h14 c2, ?_⟩
          refine am_to (lv' := [(0, .ref 0), (1, .int y), (2, .int (nI i)), (3, .int (nI (S.pe i)))]) (st' := [.int 1]) (w' := w1) rfl rfl rfl ?_
          iterate 9 refine am_g0 rfl rfl ?_
          refine am_glE (n := 24) (k := 3 * i) rfl rfl (ix3 i) (by omega) (by decide) ?_
          refine am_top (y := nI (S.st i)) (a1) ?_
          iterate 5 refine am_g0 rfl rfl ?_
          refine am_glE (n := 960) (k := 32 * S.st i + 4 * S.pe i) rfl rfl (ix32 _ _) (by omega) (by decide) ?_
          refine am_top (y := cellI S.V (P (S.pe i)) wet (S.st i)) (kp _ c2 _ b1) ?_
          iterate 7 refine am_g0 rfl rfl ?_
          refine am_glE (n := 24) (k := 3 * i + 2) rfl rfl (by rw [ix3]; exact nI_add _ 2) (by omega) (by decide) ?_
          refine am_top (y := nI (S.ce i)) (a3) ?_
          refine am_g0 rfl rfl ?_
          by_cases c3 : cellI S.V (P (S.pe i)) wet (S.st i) = nI (S.ce i)
          · have this := ih (i + 1) (by omega) 1 (by rw [hGs, c1, hGi, decide_eq_true c2, decide_eq_true c3]; rfl)
            rw [← nI_1 i] at this
            refine am_tt (show (cellI S.V (P (S.pe i)) wet (S.st i) : Int32) = (nI (S.ce i)) from c3) ?_
            iterate 2 refine am_g0 rfl rfl ?_
            refine am_go rfl ?_
            iterate 2 refine am_g0 rfl rfl ?_
            exact am_kl this rfl
          · have this := ih (i + 1) (by omega) 0 (by rw [hGs, c1, hGi, decide_eq_true c2, decide_eq_false c3]; rfl)
            rw [← nI_1 i] at this
            refine am_ff (show ¬ (cellI S.V (P (S.pe i)) wet (S.st i) : Int32) = (nI (S.ce i)) from c3) ?_
            refine am_go rfl ?_
            refine am_go rfl ?_
            iterate 2 refine am_g0 rfl rfl ?_
            exact am_kl this rfl
        · have this := ih (i + 1) (by omega) 0 (by rw [hGs, c1, hGi, decide_eq_false c2]; rfl)
          rw [← nI_1 i] at this
          refine ⟨(some (.int 0), w1), m_isPerson_n (by omega) hq h14 (dI_f (Or.inr (nI_le (by omega) (by omega)))), ?_⟩
          refine am_to (lv' := [(0, .ref 0), (1, .int y), (2, .int (nI i)), (3, .int (nI (S.pe i)))]) (st' := [.int 0]) (w' := w1) rfl rfl rfl ?_
          refine am_g0 rfl rfl ?_
          refine am_go rfl ?_
          refine am_go rfl ?_
          iterate 2 refine am_g0 rfl rfl ?_
          exact am_kl this rfl
      · have this := ih (i + 1) (by omega) 0 (by rw [hGs, Bool.eq_false_iff.mpr c1]; rfl)
        rw [← nI_1 i] at this
        refine am_tt (show (y : Int32) = 0 from by rw [hy]; exact b01_f c1) ?_
        refine am_go rfl ?_
        refine am_go rfl ?_
        iterate 2 refine am_g0 rfl rfl ?_
        exact am_kl this rfl
  exact am_kl (key S.sn 0 (by omega) 1 rfl) rfl
theorem RMs.fr {w w' : am_M} {S : Sp} {C J : List Nat} (h : RMs w S) (f : am_fx C J w w') (hC : 22 ∉ C) (hJ : 32 ∉ J) : RMs w' S := ⟨(f.2.1 32 hJ).trans h.1, fun i hi => by rw [f.1 22 hC (by decide)]; exact h.2 i hi⟩
theorem m_neverNow {d : Nat} {w : am_M} {S : Sp} (hd : 6 ≤ d) (h : RM w S) (hR : mRd w S) (g : SG S) : ∃ o : am_O, (o.1 = some (.int (neverS S)) ∧ am_fx [13, 14, 15, 16, 17, 18, 19, 20] [28, 29, 30] w o.2) ∧ am_D shM d mi_X12_neverNow [.ref 0] w o := by
  have hr8 := g.1.2.1.1
  have hrn : w.1 0 16 = nI S.rn := h.2.2.2.1.1
  obtain ⟨A, hA⟩ : ∃ A, A = neverA S := ⟨_, rfl⟩
  have hN : neverS S = bitsS A S.rn := by rw [hA]; rfl
  rw [hN]
  refine am_dex (by omega) rfl rfl ?_
  iterate 4 refine am_g0 rfl rfl ?_
  have key : ∀ j i : Nat, i + j = S.rn → ∀ u : am_M, am_fx [13, 14, 15, 16, 17, 18, 19, 20] [18, 28, 29, 30] w u → am_R shM mi_X12_neverNow (am_D shM (d - 1)) (fun o => o.1 = some (.int (bitsS A S.rn)) ∧ am_fx [13, 14, 15, 16, 17, 18, 19, 20] [28, 29, 30] w o.2) 4 [(0, .ref 0), (1, .int (bitsS A i)), (2, .int (nI i))] [] u := by
    intro j
    induction j with
    | zero =>
      intro i hi u fu
      have hru : u.1 0 16 = nI S.rn := (fu.2.1 16 (by decide)).trans hrn
      refine am_go rfl ?_
      iterate 3 refine am_g0 rfl rfl ?_
      refine am_tt (show (u.1 0 16 : Int32) ≤ (nI i) from by rw [hru]; exact nI_le (by omega) (by omega)) ?_
      refine am_go rfl ?_
      iterate 4 refine am_g0 rfl rfl ?_
      exact ⟨rfl, by rw [show i = S.rn by omega], fu.back h.2.2.2.2.2.1⟩
    | succ j ih =>
      intro i hi u fu
      have hru : u.1 0 16 = nI S.rn := (fu.2.1 16 (by decide)).trans hrn
      refine am_go rfl ?_
      iterate 3 refine am_g0 rfl rfl ?_
      refine am_ff (show ¬ (u.1 0 16 : Int32) ≤ (nI i) from by rw [hru]; exact nI_ge (by omega) (by omega)) ?_
      iterate 7 refine am_g0 rfl rfl ?_
      generalize hv : am_pi u 0 18 ((1 : Int32) <<< ((nI i) &&& 31)) = v
      have fv : am_fx [13, 14, 15, 16, 17, 18, 19, 20] [18, 28, 29, 30] w v := by rw [← hv]; exact fu.p0 (by decide)
      have hRv := hR.fl fv (by decide) (by decide)
      have hWv := h.Wx g fv (by decide) (by decide) (by decide) (ex := ex1 i) (fun k hk => by rw [← hv, am_pi_at]; exact wetB_1 (by omega) (by omega))
      refine am_to (lv' := [(0, .ref 0), (1, .int (bitsS A i)), (2, .int (nI i))]) (st' := [.ref 0, .int (bitsS A i)]) (w' := v) rfl rfl rfl ?_
      refine am_g0 rfl rfl ?_
      have hse : ∃ o : am_O, (o.1 = some (.int (b01 (A i))) ∧ am_fx [13, 14, 15, 16, 17, 18, 19, 20] [28, 29, 30] v o.2) ∧ am_D shM (d - 1) mi_X12_isSeen [.ref 0] v o := by rw [hA]; exact m_isSeen (d := d - 1) (by omega) (h.2.2.2.2.1.fr fv (by decide) (by decide)) g hRv.1 hWv hRv.2.1 (hRv.P g)
      obtain ⟨⟨r2, w2⟩, ⟨e2, f2⟩, hD2⟩ := hse
      dsimp only at e2 f2
      subst e2
      refine ⟨(some (.int (b01 (A i))), w2), hD2, ?_⟩
      refine am_to (lv' := [(0, .ref 0), (1, .int (bitsS A i)), (2, .int (nI i))]) (st' := [.int (b01 (A i)), .int (bitsS A i)]) (w' := w2) rfl rfl rfl ?_
      have this := ih (i + 1) (by omega) w2 (fv.tr (f2.mono (by decide) (by decide)))
      rw [← nI_1 i] at this
      refine am_g0 rfl rfl ?_
      by_cases c : A i = true
      · refine am_ff (show ¬ (b01 (A i) : Int32) = 0 from b01_t c) ?_
        iterate 4 refine am_g0 rfl rfl ?_
        refine am_go rfl ?_
        iterate 3 refine am_g0 rfl rfl ?_
        rw [bitsS_t c] at this
        exact am_kl this rfl
      · refine am_tt (show (b01 (A i) : Int32) = 0 from b01_f c) ?_
        refine am_go rfl ?_
        refine am_go rfl ?_
        refine am_top (y := bitsS A i) (or0 _) ?_
        iterate 3 refine am_g0 rfl rfl ?_
        rw [bitsS_f (Bool.eq_false_iff.mpr c)] at this
        exact am_kl this rfl
  exact am_kl (key S.rn 0 (by omega) w am_fx.rf) rfl
theorem m_never {d : Nat} {w : am_M} {S : Sp} (hd : 8 ≤ d) (h : RM w S) (g : SG S) : ∃ o : am_O, (o.1 = some (.int (neverS S)) ∧ RM o.2 S) ∧ am_D shM d mi_X12_never [.ref 0] w o := by
  obtain ⟨⟨r1, w1⟩, ⟨e1, f1⟩, hD1⟩ := m_find2 (d := d - 1) (by omega) h g
  dsimp only at e1 f1
  subst e1
  refine am_dex (by omega) rfl rfl ?_
  iterate 2 refine am_g0 rfl rfl ?_
  refine ⟨(none, w1), hD1, ?_⟩
  refine am_to (lv' := [(0, .ref 0)]) (st' := []) (w' := w1) rfl rfl rfl ?_
  iterate 2 refine am_g0 rfl rfl ?_
  obtain ⟨⟨r2, w2⟩, ⟨e2, f2⟩, hD2⟩ := m_neverNow (d := d - 1) (by omega) f1.1 f1.2.1 g
  dsimp only at e2 f2
  subst e2
  refine ⟨(some (.int (neverS S)), w2), hD2, ?_⟩
  refine am_to (lv' := [(0, .ref 0)]) (st' := [.int (neverS S)]) (w' := w2) rfl rfl rfl ?_
  refine am_g0 rfl rfl ?_
  exact ⟨rfl, rfl, f1.1.fr f2 (by decide) (by decide)⟩
theorem ix51 (a b : Nat) : (5 : Int32) * nI a + 1 + nI b = nI (5 * a + 1 + b) := by rw [show (5 : Int32) = nI 5 from rfl, pk_mul, nI_1, nI_add]
theorem m_woreOf {d k f : Nat} {w : am_M} {S : Sp} (hd : 6 ≤ d) (h : RM w S) (hR : mRd w S) (g : SG S) (hk : k < S.q) (hf : f < 2) : ∃ o : am_O, (o.1 = some (.int (bitsS (woreA S k f) 8)) ∧ am_fx [13, 14, 15, 16, 17, 18, 19, 20] [28, 29, 30] w o.2) ∧ am_D shM d mi_X12_woreOf [.ref 0, .int (nI k), .int (nI f)] w o := by
  have hq := g.2.2.1
  have hok := g.2.2.2 k hk
  obtain ⟨A, hA⟩ : ∃ A, A = woreA S k f := ⟨_, rfl⟩
  rw [← hA]
  refine am_dex (by omega) rfl rfl ?_
  iterate 9 refine am_g0 rfl rfl ?_
  refine am_glE (n := 40) (k := 5 * k + 1 + f) rfl rfl (ix51 k f) (by omega) (by decide) ?_
  iterate 5 refine am_g0 rfl rfl ?_
  have key : ∀ j i : Nat, i + j = 8 → ∀ u : am_M, am_fx [11, 13, 14, 15, 16, 17, 18, 19, 20] [28, 29, 30] w u → (∀ e, e ≠ 5 * k + 1 + f → u.1 11 e = w.1 11 e) → am_R shM mi_X12_woreOf (am_D shM (d - 1)) (fun o => o.1 = some (.int (bitsS A 8)) ∧ am_fx [13, 14, 15, 16, 17, 18, 19, 20] [28, 29, 30] w o.2) 19 [(0, .ref 0), (1, .int (nI k)), (2, .int (nI f)), (3, .int (w.1 11 (5 * k + 1 + f))), (4, .int (bitsS A i)), (5, .int (nI i))] [] u := by
    intro j
    induction j with
    | zero =>
      intro i hi u fu u11
      refine am_go rfl ?_
      iterate 2 refine am_g0 rfl rfl ?_
      refine am_tt (show (8 : Int32) ≤ (nI i) from nI_le (a := 8) (by omega) (by omega)) ?_
      refine am_go rfl ?_
      iterate 9 refine am_g0 rfl rfl ?_
      refine am_gsE (n := 40) (k := 5 * k + 1 + f) rfl rfl (ix51 k f) (by omega) (by decide) ?_
      refine am_to (lv' := [(0, .ref 0), (1, .int (nI k)), (2, .int (nI f)), (3, .int (w.1 11 (5 * k + 1 + f))), (4, .int (bitsS A i))]) (st' := []) (w' := am_pi u 11 (5 * k + 1 + f) (w.1 11 (5 * k + 1 + f))) rfl rfl rfl ?_
      iterate 2 refine am_g0 rfl rfl ?_
      refine ⟨rfl, by rw [show i = 8 by omega], am_fx.drop (a := 11) (fu.pc (by decide) (by decide)) (funext fun e => ?_)⟩
      by_cases z1 : e = 5 * k + 1 + f
      · rw [z1, am_pi_at]
      · rw [am_pi_ne (Or.inr z1)]; exact u11 e z1
    | succ j ih =>
      intro i hi u fu u11
      refine am_go rfl ?_
      iterate 2 refine am_g0 rfl rfl ?_
      refine am_ff (show ¬ (8 : Int32) ≤ (nI i) from nI_ge (b := 8) (by omega) (by omega)) ?_
      iterate 10 refine am_g0 rfl rfl ?_
      refine am_gsE (n := 40) (k := 5 * k + 1 + f) rfl rfl (ix51 k f) (by omega) (by decide) ?_
      refine am_to (lv' := [(0, .ref 0), (1, .int (nI k)), (2, .int (nI f)), (3, .int (w.1 11 (5 * k + 1 + f))), (4, .int (bitsS A i)), (5, .int (nI i))]) (st' := []) (w' := am_pi u 11 (5 * k + 1 + f) (nI i)) rfl rfl rfl ?_
      generalize hv : am_pi u 11 (5 * k + 1 + f) (nI i) = v
      have fv : am_fx [11, 13, 14, 15, 16, 17, 18, 19, 20] [28, 29, 30] w v := by rw [← hv]; exact fu.pc (by decide) (by decide)
      have v11 : ∀ e, e ≠ 5 * k + 1 + f → v.1 11 e = w.1 11 e := fun e z1 => by rw [← hv, am_pi_ne (Or.inr z1)]; exact u11 e z1
      have v11f : v.1 11 (5 * k + 1 + f) = nI i := by rw [← hv, am_pi_at]
      obtain ⟨hV, hq14⟩ := hR.V' fv (by decide) (by decide)
      have rv : RM v S := h.fr fv (by decide) (by decide)
      obtain ⟨⟨p1, p2, p3, p4, p5⟩, p6⟩ := hR.P g k hk
      have hP := mPr_up (v := v) (k := k) (x := prF (prS S.pf k) f i) hR g (fun e he => v11 e (by omega)) (by
        rcases (show f = 0 ∨ f = 1 by omega) with e | e
        · rw [e] at v11 v11f
          rw [e]
          exact ⟨by rw [v11 _ (by omega)]; exact p1, v11f, by rw [v11 _ (by omega)]; exact p3, by rw [v11 _ (by omega)]; exact p4, by rw [v11 _ (by omega)]; exact p5⟩
        · rw [e] at v11 v11f
          rw [e]
          exact ⟨by rw [v11 _ (by omega)]; exact p1, by rw [v11 _ (by omega)]; exact p2, v11f, by rw [v11 _ (by omega)]; exact p4, by rw [v11 _ (by omega)]; exact p5⟩) (by
        rcases (show f = 0 ∨ f = 1 by omega) with e | e
        · rw [e]; exact ⟨hok.1, by show i < 8; omega, hok.2.2.1, hok.2.2.2.1, hok.2.2.2.2⟩
        · rw [e]; exact ⟨hok.1, hok.2.1, by show i < 8; omega, hok.2.2.2.1, hok.2.2.2.2⟩)
      refine am_to (lv' := [(0, .ref 0), (1, .int (nI k)), (2, .int (nI f)), (3, .int (w.1 11 (5 * k + 1 + f))), (4, .int (bitsS A i)), (5, .int (nI i))]) (st' := []) (w' := v) rfl rfl rfl ?_
      iterate 3 refine am_g0 rfl rfl ?_
      have hse : ∃ o : am_O, (o.1 = some (.int (b01 (A i))) ∧ am_fx [13, 14, 15, 16, 17, 18, 19, 20] [28, 29, 30] v o.2) ∧ am_D shM (d - 1) mi_X12_isSeen [.ref 0] v o := by rw [hA]; exact m_isSeen (d := d - 1) (by omega) (h.2.2.2.2.1.fr fv (by decide) (by decide)) g hV (rv.W g) hq14 hP
      obtain ⟨⟨r2, w2⟩, ⟨e2, f2⟩, hD2⟩ := hse
      dsimp only at e2 f2
      subst e2
      refine ⟨(some (.int (b01 (A i))), w2), hD2, ?_⟩
      refine am_to (lv' := [(0, .ref 0), (1, .int (nI k)), (2, .int (nI f)), (3, .int (w.1 11 (5 * k + 1 + f))), (4, .int (bitsS A i)), (5, .int (nI i))]) (st' := [.int (b01 (A i)), .int (bitsS A i)]) (w' := w2) rfl rfl rfl ?_
      have this := ih (i + 1) (by omega) w2 (fv.tr (f2.mono (by decide) (by decide))) (fun e z1 => by rw [f2.1 11 (by decide) (by decide)]; exact v11 e z1)
      rw [← nI_1 i] at this
      refine am_g0 rfl rfl ?_
      by_cases c : A i = true
      · refine am_ff (show ¬ (b01 (A i) : Int32) = 0 from b01_t c) ?_
        iterate 4 refine am_g0 rfl rfl ?_
        refine am_go rfl ?_
        iterate 3 refine am_g0 rfl rfl ?_
        rw [bitsS_t c] at this
        exact am_kl this rfl
      · refine am_tt (show (b01 (A i) : Int32) = 0 from b01_f c) ?_
        refine am_go rfl ?_
        refine am_go rfl ?_
        refine am_top (y := bitsS A i) (or0 _) ?_
        iterate 3 refine am_g0 rfl rfl ?_
        rw [bitsS_f (Bool.eq_false_iff.mpr c)] at this
        exact am_kl this rfl
  exact am_kl (key 8 0 (by omega) w am_fx.rf (fun _ _ => rfl)) rfl
theorem m_wore {d : Nat} {x y : Int32} {w : am_M} {S : Sp} (hd : 8 ≤ d) (h : RM w S) (g : SG S) : ∃ o : am_O, (o.1 = some (.int (woreQ S x y)) ∧ RM o.2 S) ∧ am_D shM d mi_X12_wore [.ref 0, .int x, .int y] w o := by
  have hq := g.2.2.1
  obtain ⟨⟨r1, w1⟩, ⟨e1, f1⟩, hD1⟩ := m_find2 (d := d - 1) (by omega) h g
  dsimp only at e1 f1
  subst e1
  have hp14 : w1.1 0 14 = nI S.q := f1.2.1.2.1
  rcases dI_or x S.q (by omega) with hx | ⟨k, hk, rfl, hx⟩
  · refine am_dex (by omega) rfl rfl ?_
    iterate 2 refine am_g0 rfl rfl ?_
    refine ⟨(none, w1), hD1, ?_⟩
    refine am_to (lv' := [(0, .ref 0), (1, .int x), (2, .int y)]) (st' := []) (w' := w1) rfl rfl rfl ?_
    iterate 3 refine am_g0 rfl rfl ?_
    refine ⟨(some (.int 0), w1), m_isPerson_n (by omega) hq hp14 hx, ?_⟩
    refine am_to (lv' := [(0, .ref 0), (1, .int x), (2, .int y)]) (st' := [.int 0]) (w' := w1) rfl rfl rfl ?_
    refine am_g0 rfl rfl ?_
    refine am_go rfl ?_
    refine am_go rfl ?_
    exact ⟨rfl, by unfold woreQ; rw [hx], f1.1⟩
  · rcases dI_or y 2 (by decide) with hy | ⟨f, hf, rfl, hy⟩
    · refine am_dex (by omega) rfl rfl ?_
      iterate 2 refine am_g0 rfl rfl ?_
      refine ⟨(none, w1), hD1, ?_⟩
      refine am_to (lv' := [(0, .ref 0), (1, .int (nI k)), (2, .int y)]) (st' := []) (w' := w1) rfl rfl rfl ?_
      iterate 3 refine am_g0 rfl rfl ?_
      refine ⟨(some (.int 1), w1), m_isPerson_s (by omega) hq hp14 hk, ?_⟩
      refine am_to (lv' := [(0, .ref 0), (1, .int (nI k)), (2, .int y)]) (st' := [.int 1]) (w' := w1) rfl rfl rfl ?_
      iterate 3 refine am_g0 rfl rfl ?_
      refine ⟨(some (.int 0), w1), m_isTwo_n (by omega) hy, ?_⟩
      refine am_to (lv' := [(0, .ref 0), (1, .int (nI k)), (2, .int y)]) (st' := [.int 0]) (w' := w1) rfl rfl rfl ?_
      refine am_g0 rfl rfl ?_
      refine am_go rfl ?_
      refine am_go rfl ?_
      exact ⟨rfl, by unfold woreQ; rw [hx, hy], f1.1⟩
    · refine am_dex (by omega) rfl rfl ?_
      iterate 2 refine am_g0 rfl rfl ?_
      refine ⟨(none, w1), hD1, ?_⟩
      refine am_to (lv' := [(0, .ref 0), (1, .int (nI k)), (2, .int (nI f))]) (st' := []) (w' := w1) rfl rfl rfl ?_
      iterate 3 refine am_g0 rfl rfl ?_
      refine ⟨(some (.int 1), w1), m_isPerson_s (by omega) hq hp14 hk, ?_⟩
      refine am_to (lv' := [(0, .ref 0), (1, .int (nI k)), (2, .int (nI f))]) (st' := [.int 1]) (w' := w1) rfl rfl rfl ?_
      iterate 3 refine am_g0 rfl rfl ?_
      refine ⟨(some (.int 1), w1), m_isTwo_s (by omega) hf, ?_⟩
      refine am_to (lv' := [(0, .ref 0), (1, .int (nI k)), (2, .int (nI f))]) (st' := [.int 1]) (w' := w1) rfl rfl rfl ?_
      iterate 5 refine am_g0 rfl rfl ?_
      obtain ⟨⟨r2, w2⟩, ⟨e2, f2⟩, hD2⟩ := m_woreOf (d := d - 1) (by omega) f1.1 f1.2.1 g hk hf
      dsimp only at e2 f2
      subst e2
      refine ⟨(some (.int (bitsS (woreA S k f) 8)), w2), hD2, ?_⟩
      refine am_to (lv' := [(0, .ref 0), (1, .int (nI k)), (2, .int (nI f))]) (st' := [.int (bitsS (woreA S k f) 8)]) (w' := w2) rfl rfl rfl ?_
      refine am_g0 rfl rfl ?_
      refine am_go rfl ?_
      exact ⟨rfl, by unfold woreQ; rw [hx, hy], f1.1.fr f2 (by decide) (by decide)⟩
