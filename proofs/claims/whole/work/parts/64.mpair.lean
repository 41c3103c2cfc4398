/-! the model: the pair, the soles -/
theorem am_fx.drop {a : Nat} {C J : List Nat} {w w' : am_M} (h : am_fx (a :: C) J w w') (e : w'.1 a = w.1 a) : am_fx C J w w' := ⟨fun b h1 h2 => if z : b = a then (by rw [z]; exact e) else h.1 b (fun q => (List.mem_cons.mp q).elim z h1) h2, h.2.1, h.2.2⟩
theorem mRd.fl {w w' : am_M} {S : Sp} {C J : List Nat} (h : mRd w S) (f : am_fx C J w w') (hC : ∀ a, a ∈ [7, 8, 9, 10, 11] → a ∉ C) (hJ : ∀ a, a ∈ [7, 8, 10, 14] → a ∉ J) : mRd w' S := by
  have k : ∀ a, 7 ≤ a → a ≤ 11 → w'.1 a = w.1 a := fun a h1 h2 => f.1 a (hC a (by simp; omega)) (by omega)
  exact ⟨h.1.fr (fun j hj => f.2.1 j (hJ j (by rcases hj with z | z | z <;> (rw [z]; decide)))) (fun a h1 h2 => k a h1 (by omega)), (f.2.1 14 (hJ 14 (by decide))).trans h.2.1, fun p hp j hj => by rw [k 11 (by omega) (by omega)]; exact h.2.2 p hp j hj⟩
theorem mRd.V' {w w' : am_M} {S : Sp} {C J : List Nat} (h : mRd w S) (f : am_fx C J w w') (hC : ∀ a, a ∈ [7, 8, 9, 10] → a ∉ C) (hJ : ∀ a, a ∈ [7, 8, 10, 14] → a ∉ J) : mV w' S.V (SW S) ∧ w'.1 0 14 = nI S.q := ⟨h.1.fr (fun j hj => f.2.1 j (hJ j (by rcases hj with z | z | z <;> (rw [z]; decide)))) (fun a h1 h2 => f.1 a (hC a (by simp; omega)) (by omega)), (f.2.1 14 (hJ 14 (by decide))).trans h.2.1⟩
def upP (P : Nat → Pr) (k : Nat) (x : Pr) : Nat → Pr := fun p => if p = k then x else P p
theorem upP_at {P : Nat → Pr} {k : Nat} {x : Pr} : upP P k x k = x := by unfold upP; rw [if_pos rfl]
theorem upP_ne {P : Nat → Pr} {k p : Nat} {x : Pr} (h : p ≠ k) : upP P k x p = P p := by unfold upP; rw [if_neg h]
theorem mPr_up {w v : am_M} {S : Sp} {k : Nat} {x : Pr} (h : mRd w S) (g : SG S) (e : ∀ j, j < 5 * k ∨ 5 * k + 5 ≤ j → v.1 11 j = w.1 11 j) (hx : mPr v k x) (hP : Pok x) : ∀ p, p < S.q → mPr v p (upP (prS S.pf) k x p) ∧ Pok (upP (prS S.pf) k x p) := by
  intro p hp
  by_cases z : p = k
  · rw [z, upP_at]; exact ⟨hx, hP⟩
  · rw [upP_ne z]
    obtain ⟨⟨h1, h2, h3, h4, h5⟩, h6⟩ := h.P g p hp
    exact ⟨⟨by rw [e _ (by omega)]; exact h1, by rw [e _ (by omega)]; exact h2, by rw [e _ (by omega)]; exact h3, by rw [e _ (by omega)]; exact h4, by rw [e _ (by omega)]; exact h5⟩, h6⟩
theorem end_stop {V : Wd} {P : Pr} {wet : Nat → Bool} : ∀ {k : Nat}, (lifeQ V P wet k).2.1 ≠ 0 → opI (endS V P wet k) = nI (stopAt V P wet k) - 1
  | 0, _ => rfl
  | k + 1, h => by
    obtain ⟨h1, h2, h3⟩ := life_stop V P wet k
    rw [endS, stopAt, h1]
    by_cases hz : (lifeQ V P wet k).2.1 = 0
    · have e : stopAt V P wet k = k := Decidable.byContradiction fun z => h3 z (by rw [h1]; exact hz)
      rw [if_pos ⟨hz, h⟩, if_pos hz, e, nI_pred]
      rfl
    · rw [if_neg (fun z => hz z.1), if_neg hz]
      exact end_stop hz
theorem m_comes {d p : Nat} {V : Wd} {P : Pr} {wet : Nat → Bool} {w : am_M} (hd : 1 ≤ d) (hp : p < 8) (h : mLp w V P wet p 30) (hf : fin V P wet < 4) : am_D shM d mi_X12_comes [.ref 0, .int (nI p)] w (some (.int (nI (comS V P wet) - 1)), w) := by
  have h14 : w.1 14 p = nI (fin V P wet) := h.1.2.1
  have h19 : w.1 19 (2 * p) = enG V P wet 30 0 := h.2.1 0 (by omega)
  have hc1 : fin V P wet = 1 → comS V P wet = stopAt V P wet 30 ∧ w.1 19 (2 * p) = nI (stopAt V P wet 30) - 1 := fun e => by
    refine ⟨by unfold comS; rw [if_pos e], ?_⟩
    rw [h19]
    unfold enG
    rw [if_pos (show (lifeQ V P wet 30).2.1 = 0 + 1 from e)]
    exact end_stop (fun z => by rw [show (lifeQ V P wet 30).2.1 = 1 from e] at z; cases z)
  have hc2 : fin V P wet ≠ 1 → comS V P wet = 31 := fun e => by unfold comS; rw [if_neg e]
  generalize fin V P wet = F at *
  generalize comS V P wet = C at *
  generalize stopAt V P wet 30 = T at *
  refine am_def (by omega) rfl rfl ?_
  iterate 3 refine am_g0 rfl rfl ?_
  refine am_glN (n := 8) (k := p) rfl rfl (by omega) (by decide) ?_
  refine am_top (y := nI F) (h14) ?_
  iterate 2 refine am_g0 rfl rfl ?_
  by_cases e : F = 1
  · refine am_tt (show (nI F : Int32) = 1 from by rw [e]; rfl) ?_
    iterate 5 refine am_g0 rfl rfl ?_
    refine am_glE (n := 16) (k := 2 * p) rfl rfl (pk_mul 2 p) (by omega) (by decide) ?_
    refine am_top (y := nI T - 1) ((hc1 e).2) ?_
    refine am_g0 rfl rfl ?_
    refine am_go rfl ?_
    exact ⟨rfl, by rw [(hc1 e).1]⟩
  · refine am_ff (show ¬ (nI F : Int32) = 1 from nne (b := 1) e (by omega) (by omega)) ?_
    refine am_go rfl ?_
    refine am_go rfl ?_
    exact ⟨rfl, by rw [hc2 e, show nI 31 - 1 = (30 : Int32) by decide]⟩
theorem pairB_s {f : Nat → Nat} : ∀ {n c : Nat}, (pairB f n).1 = some c → c < n
  | 0, c, h => by cases h
  | n + 1, c, h => by
    rw [pairB] at h
    split at h
    · cases h; omega
    · have := pairB_s h; omega
set_option maxHeartbeats 4000000 in
theorem m_pairOf {d k j : Nat} {w : am_M} {S : Sp} (hd : 5 ≤ d) (h : RM w S) (hR : mRd w S) (g : SG S) (hk : k < S.q) (hj : j < 3) : ∃ o : am_O, (o.1 = some (.int (pairA S k j)) ∧ am_fx [13, 14, 15, 16, 17, 18, 19, 20] [28, 29, 30] w o.2) ∧ am_D shM d mi_X12_pairOf [.ref 0, .int (nI k), .int (nI j)] w o := by
  have hq := g.2.2.1
  have hm8 : S.m ≤ 8 := g.2.1.2.2.2.1
  have hm : w.1 0 10 = nI S.m := hR.1.2.2.2.2.2.2.1
  obtain ⟨f, hf⟩ : ∃ f : Nat → Nat, f = fun c => comS S.V (prW (prS S.pf k) (c / S.m) (c % S.m)) (wet0 S) := ⟨_, rfl⟩
  have hPS : pairS S k = pairB f (S.m * S.m) := by unfold pairS; rw [hf]
  have hA0 : (pairS S k).1 = none → pairA S k j = -1 := fun z => by unfold pairA; rw [z]
  have hA1 : ∀ c, (pairS S k).1 = some c → pairA S k j = if j = 0 then nI (c / S.m) else if j = 1 then nI (c % S.m) else nI (pairS S k).2 - 1 := fun c z => by unfold pairA; rw [z]
  rw [hPS] at hA0 hA1
  generalize pairA S k j = A at *
  obtain ⟨M, hM⟩ : ∃ M, S.m = M := ⟨_, rfl⟩
  rw [hM] at hm hm8 hf hA0 hA1
  have hMM : M * M ≤ 64 := Nat.mul_le_mul hm8 hm8
  have hok := g.2.2.2 k hk
  refine am_dex (by omega) rfl rfl ?_
  iterate 7 refine am_g0 rfl rfl ?_
  refine am_glE (n := 40) (k := 5 * k + 1) rfl rfl (ix5 k 1) (by omega) (by decide) ?_
  iterate 8 refine am_g0 rfl rfl ?_
  refine am_glE (n := 40) (k := 5 * k + 2) rfl rfl (ix5 k 2) (by omega) (by decide) ?_
  iterate 7 refine am_g0 rfl rfl ?_
  have key : ∀ n i : Nat, i + n = M * M → ∀ u : am_M, am_fx [11, 13, 14, 15, 16, 17, 18, 19, 20] [28, 29, 30] w u → (∀ e, e ≠ 5 * k + 1 → e ≠ 5 * k + 2 → u.1 11 e = w.1 11 e) → ∀ b E, pairB f i = (b, E) → am_R shM mi_X12_pairOf (am_D shM (d - 1)) (fun o => o.1 = some (.int A) ∧ am_fx [13, 14, 15, 16, 17, 18, 19, 20] [28, 29, 30] w o.2) 33 [(0, .ref 0), (1, .int (nI k)), (2, .int (nI j)), (3, .int (w.1 11 (5 * k + 1))), (4, .int (w.1 11 (5 * k + 2))), (5, .int (opI b)), (6, .int (nI E - 1)), (7, .int (nI i))] [] u := by
    intro n
    induction n with
    | zero =>
      intro i hi u fu u11 b E hbE
      have hmu : u.1 0 10 = nI M := (fu.2.1 10 (by decide)).trans hm
      rw [show i = M * M by omega] at hbE
      rw [hbE] at hA0 hA1
      refine am_go rfl ?_
      iterate 6 refine am_g0 rfl rfl ?_
      refine am_tt (show ((u.1 0 10) * (u.1 0 10) : Int32) ≤ (nI i) from by rw [hmu, pk_mul]; exact nI_le (by omega) (by omega)) ?_
      refine am_go rfl ?_
      iterate 7 refine am_g0 rfl rfl ?_
      refine am_gsE (n := 40) (k := 5 * k + 1) rfl rfl (ix5 k 1) (by omega) (by decide) ?_
      refine am_to (lv' := [(0, .ref 0), (1, .int (nI k)), (2, .int (nI j)), (3, .int (w.1 11 (5 * k + 1))), (4, .int (w.1 11 (5 * k + 2))), (5, .int (opI b)), (6, .int (nI E - 1))]) (st' := []) (w' := am_pi u 11 (5 * k + 1) (w.1 11 (5 * k + 1))) rfl rfl rfl ?_
      iterate 8 refine am_g0 rfl rfl ?_
      refine am_gsE (n := 40) (k := 5 * k + 2) rfl rfl (ix5 k 2) (by omega) (by decide) ?_
      refine am_to (lv' := [(0, .ref 0), (1, .int (nI k)), (2, .int (nI j)), (3, .int (w.1 11 (5 * k + 1))), (4, .int (w.1 11 (5 * k + 2))), (5, .int (opI b)), (6, .int (nI E - 1))]) (st' := []) (w' := am_pi (am_pi u 11 (5 * k + 1) (w.1 11 (5 * k + 1))) 11 (5 * k + 2) (w.1 11 (5 * k + 2))) rfl rfl rfl ?_
      generalize hv : am_pi (am_pi u 11 (5 * k + 1) (w.1 11 (5 * k + 1))) 11 (5 * k + 2) (w.1 11 (5 * k + 2)) = v
      have fv : am_fx [13, 14, 15, 16, 17, 18, 19, 20] [28, 29, 30] w v := by
        refine am_fx.drop (a := 11) ?_ (funext fun e => ?_)
        · rw [← hv]; exact (fu.pc (by decide) (by decide)).pc (by decide) (by decide)
        · rw [← hv]
          by_cases z2 : e = 5 * k + 2
          · rw [z2, am_pi_at]
          · rw [am_pi_ne (Or.inr z2)]
            by_cases z1 : e = 5 * k + 1
            · rw [z1, am_pi_at]
            · rw [am_pi_ne (Or.inr z1)]; exact u11 e z1 z2
      have hmv : v.1 0 10 = nI M := (fv.2.1 10 (by decide)).trans hm
      refine am_to (lv' := [(0, .ref 0), (1, .int (nI k)), (2, .int (nI j)), (3, .int (w.1 11 (5 * k + 1))), (4, .int (w.1 11 (5 * k + 2))), (5, .int (opI b)), (6, .int (nI E - 1))]) (st' := []) (w' := v) rfl rfl rfl ?_
      iterate 3 refine am_g0 rfl rfl ?_
      rcases opt_or b with hz | ⟨c, hz⟩
      · refine am_tt (show (opI b : Int32) = (-1) from by rw [hz]; rfl) ?_
        iterate 2 refine am_g0 rfl rfl ?_
        refine am_go rfl ?_
        exact ⟨rfl, by rw [hA0 hz], fv⟩
      · rw [hz] at hbE
        have hc : c < M * M := pairB_s (f := f) (by rw [hbE])
        have hM0 : 0 < M := by rcases Nat.eq_zero_or_pos M with z | z; rw [z] at hc; omega; exact z
        have hA2 := hA1 c hz
        refine am_ff (show ¬ (opI b : Int32) = (-1) from by rw [hz]; exact nI_m1 (i := c) (by omega)) ?_
        rw [hz]
        refine am_to (lv' := [(0, .ref 0), (1, .int (nI k)), (2, .int (nI j)), (3, .int (w.1 11 (5 * k + 1))), (4, .int (w.1 11 (5 * k + 2))), (5, .int (nI c)), (6, .int (nI E - 1))]) (st' := []) (w' := v) rfl rfl rfl ?_
        refine am_go rfl ?_
        refine am_g0 rfl rfl ?_
        by_cases j0 : j = 0
        · refine am_tt (show (nI j : Int32) = 0 from by rw [j0]; rfl) ?_
          iterate 4 refine am_g0 rfl rfl ?_
          refine am_ff (by rw [hmv]; exact nI_ne0 hM0 (by omega)) ?_
          refine am_top (y := nI (c / M)) (by rw [hmv]; exact pk_div (by omega) hM0 (by omega)) ?_
          refine am_g0 rfl rfl ?_
          refine am_go rfl ?_
          exact ⟨rfl, by rw [hA2, if_pos j0], fv⟩
        · refine am_ff (show ¬ (nI j : Int32) = 0 from nne (b := 0) j0 (by omega) (by omega)) ?_
          refine am_go rfl ?_
          iterate 2 refine am_g0 rfl rfl ?_
          by_cases j1 : j = 1
          · refine am_tt (show (nI j : Int32) = 1 from by rw [j1]; rfl) ?_
            iterate 4 refine am_g0 rfl rfl ?_
            refine am_ff (by rw [hmv]; exact nI_ne0 hM0 (by omega)) ?_
            refine am_top (y := nI (c % M)) (by rw [hmv]; exact pk_rem (by omega) hM0 (by omega)) ?_
            refine am_g0 rfl rfl ?_
            refine am_go rfl ?_
            exact ⟨rfl, by rw [hA2, if_neg j0, if_pos j1], fv⟩
          · refine am_ff (show ¬ (nI j : Int32) = 1 from nne (b := 1) j1 (by omega) (by omega)) ?_
            refine am_go rfl ?_
            refine am_go rfl ?_
            exact ⟨rfl, by rw [hA2, if_neg j0, if_neg j1], fv⟩
    | succ n ih =>
      intro i hi u fu u11 b E hbE
      have hmu : u.1 0 10 = nI M := (fu.2.1 10 (by decide)).trans hm
      have hM0 : 0 < M := by rcases Nat.eq_zero_or_pos M with z | z; rw [z] at hi; omega; exact z
      have hl : i / M < M := Nat.div_lt_of_lt_mul (by omega)
      have hr : i % M < M := Nat.mod_lt _ hM0
      refine am_go rfl ?_
      iterate 6 refine am_g0 rfl rfl ?_
      refine am_ff (show ¬ ((u.1 0 10) * (u.1 0 10) : Int32) ≤ (nI i) from by rw [hmu, pk_mul]; exact nI_ge (by omega) (by omega)) ?_
      iterate 11 refine am_g0 rfl rfl ?_
      refine am_ff (by rw [hmu]; exact nI_ne0 hM0 (by omega)) ?_
      refine am_top (y := nI (i / M)) (by rw [hmu]; exact pk_div (by omega) hM0 (by omega)) ?_
      refine am_gsE (n := 40) (k := 5 * k + 1) rfl rfl (ix5 k 1) (by omega) (by decide) ?_
      refine am_to (lv' := [(0, .ref 0), (1, .int (nI k)), (2, .int (nI j)), (3, .int (w.1 11 (5 * k + 1))), (4, .int (w.1 11 (5 * k + 2))), (5, .int (opI b)), (6, .int (nI E - 1)), (7, .int (nI i))]) (st' := []) (w' := am_pi u 11 (5 * k + 1) (nI (i / M))) rfl rfl rfl ?_
      iterate 11 refine am_g0 rfl rfl ?_
      refine am_ff (by rw [am_pi_row (by omega), hmu]; exact nI_ne0 hM0 (by omega)) ?_
      refine am_top (y := nI (i % M)) (by rw [am_pi_row (by omega), hmu]; exact pk_rem (by omega) hM0 (by omega)) ?_
      refine am_gsE (n := 40) (k := 5 * k + 2) rfl rfl (ix5 k 2) (by omega) (by decide) ?_
      refine am_to (lv' := [(0, .ref 0), (1, .int (nI k)), (2, .int (nI j)), (3, .int (w.1 11 (5 * k + 1))), (4, .int (w.1 11 (5 * k + 2))), (5, .int (opI b)), (6, .int (nI E - 1)), (7, .int (nI i))]) (st' := []) (w' := am_pi (am_pi u 11 (5 * k + 1) (nI (i / M))) 11 (5 * k + 2) (nI (i % M))) rfl rfl rfl ?_
      generalize hv : am_pi (am_pi u 11 (5 * k + 1) (nI (i / M))) 11 (5 * k + 2) (nI (i % M)) = v
      have fv : am_fx [11, 13, 14, 15, 16, 17, 18, 19, 20] [28, 29, 30] w v := by rw [← hv]; exact (fu.pc (by decide) (by decide)).pc (by decide) (by decide)
      have v11 : ∀ e, e ≠ 5 * k + 1 → e ≠ 5 * k + 2 → v.1 11 e = w.1 11 e := fun e z1 z2 => by rw [← hv, am_pi_ne (Or.inr z2), am_pi_ne (Or.inr z1)]; exact u11 e z1 z2
      obtain ⟨hV, hq14⟩ := hR.V' fv (by decide) (by decide)
      have rv : RM v S := h.fr fv (by decide) (by decide)
      obtain ⟨⟨p1, p2, p3, p4, p5⟩, p6⟩ := hR.P g k hk
      have hP := mPr_up (v := v) (k := k) (x := prW (prS S.pf k) (i / M) (i % M)) hR g (fun e he => v11 e (by omega) (by omega)) ⟨by rw [v11 _ (by omega) (by omega)]; exact p1, by rw [← hv, am_pi_ne (Or.inr (by omega)), am_pi_at]; rfl, by rw [← hv, am_pi_at]; rfl, by rw [v11 _ (by omega) (by omega)]; exact p4, by rw [v11 _ (by omega) (by omega)]; exact p5⟩ ⟨hok.1, by show i / M < 8; omega, by show i % M < 8; omega, hok.2.2.2.1, hok.2.2.2.2⟩
      refine am_to (lv' := [(0, .ref 0), (1, .int (nI k)), (2, .int (nI j)), (3, .int (w.1 11 (5 * k + 1))), (4, .int (w.1 11 (5 * k + 2))), (5, .int (opI b)), (6, .int (nI E - 1)), (7, .int (nI i))]) (st' := []) (w' := v) rfl rfl rfl ?_
      iterate 2 refine am_g0 rfl rfl ?_
      obtain ⟨⟨r1, w1⟩, ⟨e1, f1, g1⟩, hD1⟩ := m_lives (d := d - 1) (by omega) hV (rv.W g) hq14 hq hP
      dsimp only at e1 f1 g1
      subst e1
      refine ⟨(none, w1), hD1, ?_⟩
      refine am_to (lv' := [(0, .ref 0), (1, .int (nI k)), (2, .int (nI j)), (3, .int (w.1 11 (5 * k + 1))), (4, .int (w.1 11 (5 * k + 2))), (5, .int (opI b)), (6, .int (nI E - 1)), (7, .int (nI i))]) (st' := []) (w' := w1) rfl rfl rfl ?_
      have f1' : am_fx [11, 13, 14, 15, 16, 17, 18, 19, 20] [28, 29, 30] w w1 := fv.tr (f1.mono (by decide) (by decide))
      have w11 : ∀ e, e ≠ 5 * k + 1 → e ≠ 5 * k + 2 → w1.1 11 e = w.1 11 e := fun e z1 z2 => by rw [f1.1 11 (by decide) (by decide)]; exact v11 e z1 z2
      have hL := g1.1 k hk
      rw [upP_at] at hL
      have hfi : comS S.V (prW (prS S.pf k) (i / M) (i % M)) (wet0 S) = f i := by rw [hf]
      have hcm : am_D shM (d - 1) mi_X12_comes [.ref 0, .int (nI k)] w1 (some (.int (nI (f i) - 1)), w1) := by
        rw [← hfi]
        have hPk := (hP k hk).2
        rw [upP_at] at hPk
        exact m_comes (by omega) (by omega) hL (fin_lt g.2.1.good hPk)
      have hfi31 : f i ≤ 31 := by rw [← hfi]; exact comS_le
      have he31 := pairB_le (f := f) i
      rw [hbE] at he31
      dsimp only at he31
      have hfin : f i < E → pairB f (i + 1) = (some i, f i) := fun z => by rw [pairB, hbE]; dsimp only; rw [if_pos z]
      have hfin2 : ¬ f i < E → pairB f (i + 1) = (b, E) := fun z => by rw [pairB, hbE]; dsimp only; rw [if_neg z]
      generalize hG : f i = G at *
      iterate 3 refine am_g0 rfl rfl ?_
      refine ⟨(some (.int (nI G - 1)), w1), hcm, ?_⟩
      refine am_to (lv' := [(0, .ref 0), (1, .int (nI k)), (2, .int (nI j)), (3, .int (w.1 11 (5 * k + 1))), (4, .int (w.1 11 (5 * k + 2))), (5, .int (opI b)), (6, .int (nI E - 1)), (7, .int (nI i))]) (st' := [.int (nI G - 1)]) (w' := w1) rfl rfl rfl ?_
      iterate 2 refine am_g0 rfl rfl ?_
      by_cases hlt : G < E
      · refine am_ff (show ¬ (nI E - 1 : Int32) ≤ (nI G - 1) from fun z => absurd ((sub1_lt (by omega) (by omega)).mpr hlt) (Int32.not_lt.mpr z)) ?_
        iterate 2 refine am_g0 rfl rfl ?_
        refine am_go rfl ?_
        refine am_to (lv' := [(0, .ref 0), (1, .int (nI k)), (2, .int (nI j)), (3, .int (w.1 11 (5 * k + 1))), (4, .int (w.1 11 (5 * k + 2))), (5, .int (opI b)), (6, .int (nI E - 1)), (7, .int (nI i)), (8, .int 1)]) (st' := []) (w' := w1) rfl rfl rfl ?_
        iterate 4 refine am_g0 rfl rfl ?_
        refine am_go rfl ?_
        refine am_to (lv' := [(0, .ref 0), (1, .int (nI k)), (2, .int (nI j)), (3, .int (w.1 11 (5 * k + 1))), (4, .int (w.1 11 (5 * k + 2))), (5, .int (nI i)), (6, .int (nI E - 1)), (7, .int (nI i)), (8, .int 1)]) (st' := []) (w' := w1) rfl rfl rfl ?_
        iterate 5 refine am_g0 rfl rfl ?_
        refine ⟨(some (.int (nI G - 1)), w1), hcm, ?_⟩
        refine am_to (lv' := [(0, .ref 0), (1, .int (nI k)), (2, .int (nI j)), (3, .int (w.1 11 (5 * k + 1))), (4, .int (w.1 11 (5 * k + 2))), (5, .int (nI i)), (6, .int (nI E - 1)), (7, .int (nI i)), (8, .int 1)]) (st' := [.int (nI G - 1)]) (w' := w1) rfl rfl rfl ?_
        refine am_g0 rfl rfl ?_
        refine am_go rfl ?_
        refine am_to (lv' := [(0, .ref 0), (1, .int (nI k)), (2, .int (nI j)), (3, .int (w.1 11 (5 * k + 1))), (4, .int (w.1 11 (5 * k + 2))), (5, .int (nI i)), (6, .int (nI G - 1)), (7, .int (nI i))]) (st' := []) (w' := w1) rfl rfl rfl ?_
        iterate 2 refine am_g0 rfl rfl ?_
        have this := ih (i + 1) (by omega) w1 f1' w11 (some i) G (hfin hlt)
        rw [← nI_1] at this
        exact am_kl this rfl
      · refine am_tt (show (nI E - 1 : Int32) ≤ (nI G - 1) from Int32.not_lt.mp (fun z => hlt ((sub1_lt (by omega) (by omega)).mp z))) ?_
        refine am_go rfl ?_
        refine am_go rfl ?_
        refine am_to (lv' := [(0, .ref 0), (1, .int (nI k)), (2, .int (nI j)), (3, .int (w.1 11 (5 * k + 1))), (4, .int (w.1 11 (5 * k + 2))), (5, .int (opI b)), (6, .int (nI E - 1)), (7, .int (nI i)), (8, .int 0)]) (st' := []) (w' := w1) rfl rfl rfl ?_
        iterate 2 refine am_g0 rfl rfl ?_
        refine am_go rfl ?_
        refine am_go rfl ?_
        refine am_to (lv' := [(0, .ref 0), (1, .int (nI k)), (2, .int (nI j)), (3, .int (w.1 11 (5 * k + 1))), (4, .int (w.1 11 (5 * k + 2))), (5, .int (opI b)), (6, .int (nI E - 1)), (7, .int (nI i)), (8, .int 0)]) (st' := []) (w' := w1) rfl rfl rfl ?_
        iterate 2 refine am_g0 rfl rfl ?_
        refine am_go rfl ?_
        refine am_go rfl ?_
        refine am_to (lv' := [(0, .ref 0), (1, .int (nI k)), (2, .int (nI j)), (3, .int (w.1 11 (5 * k + 1))), (4, .int (w.1 11 (5 * k + 2))), (5, .int (opI b)), (6, .int (nI E - 1)), (7, .int (nI i))]) (st' := []) (w' := w1) rfl rfl rfl ?_
        iterate 2 refine am_g0 rfl rfl ?_
        have this := ih (i + 1) (by omega) w1 f1' w11 b E (hfin2 hlt)
        rw [← nI_1] at this
        exact am_kl this rfl
  have k0 := key (M * M) 0 (by omega) w am_fx.rf (fun _ _ _ => rfl) none 31 rfl
  rw [show nI 31 - 1 = (30 : Int32) by decide] at k0
  exact am_kl k0 rfl
theorem m_pair {d : Nat} {x y : Int32} {w : am_M} {S : Sp} (hd : 8 ≤ d) (h : RM w S) (g : SG S) : ∃ o : am_O, (o.1 = some (.int (pairQ S x y)) ∧ RM o.2 S) ∧ am_D shM d mi_X12_pair [.ref 0, .int x, .int y] w o := by
  have hq := g.2.2.1
  obtain ⟨⟨r1, w1⟩, ⟨e1, f1⟩, hD1⟩ := m_find2 (d := d - 1) (by omega) h g
  dsimp only at e1 f1
  subst e1
  have hp14 : w1.1 0 14 = nI S.q := f1.2.1.2.1
  rcases dI_or x S.q (by omega) with hx | ⟨k, hk, rfl, hx⟩
  · refine am_dex (by omega) rfl rfl ?_
    iterate 2 refine am_g0 rfl rfl ?_
    refine ⟨(none, w1), hD1, ?_⟩
    refine am_to (lv' := [(0, .ref 0), (1, .int x), (2, .int y)]) (st' := []) (w' := w1) rfl rfl rfl ?_
    iterate 3 refine am_g0 rfl rfl ?_
    refine ⟨(some (.int 0), w1), m_isPerson_n (by omega) hq hp14 hx, ?_⟩
    refine am_to (lv' := [(0, .ref 0), (1, .int x), (2, .int y)]) (st' := [.int 0]) (w' := w1) rfl rfl rfl ?_
    refine am_g0 rfl rfl ?_
    refine am_go rfl ?_
    refine am_go rfl ?_
    exact ⟨rfl, by unfold pairQ; rw [hx], f1.1⟩
  · rcases dI_or y 3 (by decide) with hy | ⟨j, hj, rfl, hy⟩
    · refine am_dex (by omega) rfl rfl ?_
      iterate 2 refine am_g0 rfl rfl ?_
      refine ⟨(none, w1), hD1, ?_⟩
      refine am_to (lv' := [(0, .ref 0), (1, .int (nI k)), (2, .int y)]) (st' := []) (w' := w1) rfl rfl rfl ?_
      iterate 3 refine am_g0 rfl rfl ?_
      refine ⟨(some (.int 1), w1), m_isPerson_s (by omega) hq hp14 hk, ?_⟩
      refine am_to (lv' := [(0, .ref 0), (1, .int (nI k)), (2, .int y)]) (st' := [.int 1]) (w' := w1) rfl rfl rfl ?_
      iterate 6 refine am_g0 rfl rfl ?_
      refine ⟨(some (.int 0), w1), m_inn (n := 3) (by omega) (by omega) (by decide) hy, ?_⟩
      refine am_to (lv' := [(0, .ref 0), (1, .int (nI k)), (2, .int y)]) (st' := [.int 0]) (w' := w1) rfl rfl rfl ?_
      refine am_g0 rfl rfl ?_
      refine am_go rfl ?_
      refine am_go rfl ?_
      exact ⟨rfl, by unfold pairQ; rw [hx, hy], f1.1⟩
    · refine am_dex (by omega) rfl rfl ?_
      iterate 2 refine am_g0 rfl rfl ?_
      refine ⟨(none, w1), hD1, ?_⟩
      refine am_to (lv' := [(0, .ref 0), (1, .int (nI k)), (2, .int (nI j))]) (st' := []) (w' := w1) rfl rfl rfl ?_
      iterate 3 refine am_g0 rfl rfl ?_
      refine ⟨(some (.int 1), w1), m_isPerson_s (by omega) hq hp14 hk, ?_⟩
      refine am_to (lv' := [(0, .ref 0), (1, .int (nI k)), (2, .int (nI j))]) (st' := [.int 1]) (w' := w1) rfl rfl rfl ?_
      iterate 6 refine am_g0 rfl rfl ?_
      refine ⟨(some (.int 1), w1), m_ins (n := 3) (by omega) (by omega) (by decide) hj, ?_⟩
      refine am_to (lv' := [(0, .ref 0), (1, .int (nI k)), (2, .int (nI j))]) (st' := [.int 1]) (w' := w1) rfl rfl rfl ?_
      iterate 5 refine am_g0 rfl rfl ?_
      obtain ⟨⟨r2, w2⟩, ⟨e2, f2⟩, hD2⟩ := m_pairOf (d := d - 1) (by omega) f1.1 f1.2.1 g hk hj
      dsimp only at e2 f2
      subst e2
      refine ⟨(some (.int (pairA S k j)), w2), hD2, ?_⟩
      refine am_to (lv' := [(0, .ref 0), (1, .int (nI k)), (2, .int (nI j))]) (st' := [.int (pairA S k j)]) (w' := w2) rfl rfl rfl ?_
      refine am_g0 rfl rfl ?_
      refine am_go rfl ?_
      exact ⟨rfl, by unfold pairQ; rw [hx, hy], f1.1.fr f2 (by decide) (by decide)⟩
theorem nI_m (i : Nat) : nI (i + 1) + (-1) = nI i := by rw [← Int32.sub_eq_add_neg]; exact nI_pred i
theorem low_t {f : Nat → Bool} {n i : Nat} (hi : i < n) (h : f i = true) : firstN (fun v => decide (i ≤ v) && f v) n = some i := firstN_at hi (by rw [h, decide_eq_true (Nat.le_refl i)]; rfl) (fun j hj => by rw [decide_eq_false (by omega)]; rfl)
theorem low_f {f : Nat → Bool} {n i : Nat} (h : f i = false) : firstN (fun v => decide (i ≤ v) && f v) n = firstN (fun v => decide (i + 1 ≤ v) && f v) n := firstN_congr (fun j hj => by
  by_cases z : j = i
  · rw [z, h, Bool.and_false, Bool.and_false]
  · by_cases z2 : i ≤ j
    · rw [decide_eq_true z2, decide_eq_true (show i + 1 ≤ j by omega)]
    · rw [decide_eq_false z2, decide_eq_false (show ¬ i + 1 ≤ j by omega)])
theorem m_solesOf {d k : Nat} {w : am_M} {S : Sp} (hd : 5 ≤ d) (h : RM w S) (hR : mRd w S) (g : SG S) (hk : k < S.q) : ∃ o : am_O, (o.1 = some (.int (solesA S k)) ∧ am_fx [13, 14, 15, 16, 17, 18, 19, 20] [28, 29, 30] w o.2) ∧ am_D shM d mi_X12_solesOf [.ref 0, .int (nI k)] w o := by
  have hq := g.2.2.1
  have hok := g.2.2.2 k hk
  obtain ⟨f, hf⟩ : ∃ f : Nat → Bool, f = fun v => !decide (fin S.V (prSo (prS S.pf k) v) (wet0 S) = 2) := ⟨_, rfl⟩
  have hA : solesA S k = opI (firstN f 6) := by rw [hf]; rfl
  rw [hA]
  refine am_dex (by omega) rfl rfl ?_
  iterate 7 refine am_g0 rfl rfl ?_
  refine am_glE (n := 40) (k := 5 * k + 3) rfl rfl (ix5 k 3) (by omega) (by decide) ?_
  iterate 5 refine am_g0 rfl rfl ?_
  have key : ∀ i : Nat, i ≤ 6 → ∀ u : am_M, am_fx [11, 13, 14, 15, 16, 17, 18, 19, 20] [28, 29, 30] w u → (∀ e, e ≠ 5 * k + 3 → u.1 11 e = w.1 11 e) → ∀ b, firstN (fun v => decide (i ≤ v) && f v) 6 = b → ∀ x, x = nI i + (-1) → am_R shM mi_X12_solesOf (am_D shM (d - 1)) (fun o => o.1 = some (.int (opI (firstN f 6))) ∧ am_fx [13, 14, 15, 16, 17, 18, 19, 20] [28, 29, 30] w o.2) 16 [(0, .ref 0), (1, .int (nI k)), (2, .int (w.1 11 (5 * k + 3))), (3, .int (opI b)), (4, .int x)] [] u := by
    intro i
    induction i with
    | zero =>
      intro hi u fu u11 b hb x hx
      refine am_go rfl ?_
      refine am_g0 rfl rfl ?_
      refine am_tt (show (x : Int32) < 0 from by rw [hx]; decide) ?_
      refine am_go rfl ?_
      iterate 7 refine am_g0 rfl rfl ?_
      refine am_gsE (n := 40) (k := 5 * k + 3) rfl rfl (ix5 k 3) (by omega) (by decide) ?_
      refine am_to (lv' := [(0, .ref 0), (1, .int (nI k)), (2, .int (w.1 11 (5 * k + 3))), (3, .int (opI b))]) (st' := []) (w' := am_pi u 11 (5 * k + 3) (w.1 11 (5 * k + 3))) rfl rfl rfl ?_
      iterate 2 refine am_g0 rfl rfl ?_
      refine ⟨rfl, by rw [← hb, firstN_congr (g := f) (fun j hj => by rw [decide_eq_true (Nat.zero_le j)]; rfl)], am_fx.drop (a := 11) (fu.pc (by decide) (by decide)) (funext fun e => ?_)⟩
      by_cases z1 : e = 5 * k + 3
      · rw [z1, am_pi_at]
      · rw [am_pi_ne (Or.inr z1)]; exact u11 e z1
    | succ i ih =>
      intro hi u fu u11 b hb x hx
      rw [hx, nI_m]
      refine am_go rfl ?_
      refine am_g0 rfl rfl ?_
      refine am_ff (show ¬ (nI i : Int32) < 0 from nI_pos (by omega)) ?_
      iterate 8 refine am_g0 rfl rfl ?_
      refine am_gsE (n := 40) (k := 5 * k + 3) rfl rfl (ix5 k 3) (by omega) (by decide) ?_
      refine am_to (lv' := [(0, .ref 0), (1, .int (nI k)), (2, .int (w.1 11 (5 * k + 3))), (3, .int (opI b)), (4, .int (nI i))]) (st' := []) (w' := am_pi u 11 (5 * k + 3) (nI i)) rfl rfl rfl ?_
      generalize hv : am_pi u 11 (5 * k + 3) (nI i) = v
      have fv : am_fx [11, 13, 14, 15, 16, 17, 18, 19, 20] [28, 29, 30] w v := by rw [← hv]; exact fu.pc (by decide) (by decide)
      have v11 : ∀ e, e ≠ 5 * k + 3 → v.1 11 e = w.1 11 e := fun e z1 => by rw [← hv, am_pi_ne (Or.inr z1)]; exact u11 e z1
      obtain ⟨hV, hq14⟩ := hR.V' fv (by decide) (by decide)
      have rv : RM v S := h.fr fv (by decide) (by decide)
      obtain ⟨⟨p1, p2, p3, p4, p5⟩, p6⟩ := hR.P g k hk
      have hP := mPr_up (v := v) (k := k) (x := prSo (prS S.pf k) i) hR g (fun e he => v11 e (by omega)) ⟨by rw [v11 _ (by omega)]; exact p1, by rw [v11 _ (by omega)]; exact p2, by rw [v11 _ (by omega)]; exact p3, by rw [← hv, am_pi_at]; rfl, by rw [v11 _ (by omega)]; exact p5⟩ ⟨hok.1, hok.2.1, hok.2.2.1, by show i < 6; omega, hok.2.2.2.2⟩
      refine am_to (lv' := [(0, .ref 0), (1, .int (nI k)), (2, .int (w.1 11 (5 * k + 3))), (3, .int (opI b)), (4, .int (nI i))]) (st' := []) (w' := v) rfl rfl rfl ?_
      iterate 2 refine am_g0 rfl rfl ?_
      obtain ⟨⟨r1, w1⟩, ⟨e1, f1, g1⟩, hD1⟩ := m_lives (d := d - 1) (by omega) hV (rv.W g) hq14 hq hP
      dsimp only at e1 f1 g1
      subst e1
      refine ⟨(none, w1), hD1, ?_⟩
      refine am_to (lv' := [(0, .ref 0), (1, .int (nI k)), (2, .int (w.1 11 (5 * k + 3))), (3, .int (opI b)), (4, .int (nI i))]) (st' := []) (w' := w1) rfl rfl rfl ?_
      have f1' : am_fx [11, 13, 14, 15, 16, 17, 18, 19, 20] [28, 29, 30] w w1 := fv.tr (f1.mono (by decide) (by decide))
      have w11 : ∀ e, e ≠ 5 * k + 3 → w1.1 11 e = w.1 11 e := fun e z1 => by rw [f1.1 11 (by decide) (by decide)]; exact v11 e z1
      have hL := (g1.st g.2.1.good (fun p hp => (hP p hp).2)) k hk
      rw [upP_at] at hL
      have hfi : f i = !decide (fin S.V (prSo (prS S.pf k) i) (wet0 S) = 2) := by rw [hf]
      generalize fin S.V (prSo (prS S.pf k) i) (wet0 S) = F at *
      iterate 3 refine am_g0 rfl rfl ?_
      refine am_glN (n := 8) (k := k) rfl rfl (by omega) (by decide) ?_
      refine am_top (y := nI F) (hL.1) ?_
      iterate 2 refine am_g0 rfl rfl ?_
      by_cases e2 : F = 2
      · refine am_tt (show (nI F : Int32) = 2 from by rw [e2]; rfl) ?_
        iterate 2 refine am_g0 rfl rfl ?_
        refine am_go rfl ?_
        iterate 2 refine am_g0 rfl rfl ?_
        have this := ih (by omega) w1 f1' w11 b (by rw [low_f (by rw [hfi, decide_eq_true e2]; rfl)]; exact hb) _ rfl
        exact am_kl this rfl
      · refine am_ff (show ¬ (nI F : Int32) = 2 from nne (b := 2) e2 (by have := hL.2; omega) (by omega)) ?_
        refine am_go rfl ?_
        refine am_go rfl ?_
        iterate 2 refine am_g0 rfl rfl ?_
        have this := ih (by omega) w1 f1' w11 (some i) (low_t (by omega) (by rw [hfi, decide_eq_false e2]; rfl)) _ rfl
        exact am_kl this rfl
  have k6 := key 6 (Nat.le_refl _) w am_fx.rf (fun _ _ => rfl) none (firstN_ex (fun j hj => by rw [decide_eq_false (by omega)]; rfl)) 5 (by decide)
  exact am_kl k6 rfl
theorem m_soles {d : Nat} {x : Int32} {w : am_M} {S : Sp} (hd : 8 ≤ d) (h : RM w S) (g : SG S) : ∃ o : am_O, (o.1 = some (.int (solesS S x)) ∧ RM o.2 S) ∧ am_D shM d mi_X12_soles [.ref 0, .int x] w o := by
  have hq := g.2.2.1
  obtain ⟨⟨r1, w1⟩, ⟨e1, f1⟩, hD1⟩ := m_find2 (d := d - 1) (by omega) h g
  dsimp only at e1 f1
  subst e1
  have hp14 : w1.1 0 14 = nI S.q := f1.2.1.2.1
  rcases dI_or x S.q (by omega) with hx | ⟨k, hk, rfl, hx⟩
  · refine am_dex (by omega) rfl rfl ?_
    iterate 2 refine am_g0 rfl rfl ?_
    refine ⟨(none, w1), hD1, ?_⟩
    refine am_to (lv' := [(0, .ref 0), (1, .int x)]) (st' := []) (w' := w1) rfl rfl rfl ?_
    iterate 3 refine am_g0 rfl rfl ?_
    refine ⟨(some (.int 0), w1), m_isPerson_n (by omega) hq hp14 hx, ?_⟩
    refine am_to (lv' := [(0, .ref 0), (1, .int x)]) (st' := [.int 0]) (w' := w1) rfl rfl rfl ?_
    refine am_g0 rfl rfl ?_
    refine am_go rfl ?_
    refine am_go rfl ?_
    exact ⟨rfl, by unfold solesS; rw [hx], f1.1⟩
  · refine am_dex (by omega) rfl rfl ?_
    iterate 2 refine am_g0 rfl rfl ?_
    refine ⟨(none, w1), hD1, ?_⟩
    refine am_to (lv' := [(0, .ref 0), (1, .int (nI k))]) (st' := []) (w' := w1) rfl rfl rfl ?_
    iterate 3 refine am_g0 rfl rfl ?_
    refine ⟨(some (.int 1), w1), m_isPerson_s (by omega) hq hp14 hk, ?_⟩
    refine am_to (lv' := [(0, .ref 0), (1, .int (nI k))]) (st' := [.int 1]) (w' := w1) rfl rfl rfl ?_
    iterate 4 refine am_g0 rfl rfl ?_
    obtain ⟨⟨r2, w2⟩, ⟨e2, f2⟩, hD2⟩ := m_solesOf (d := d - 1) (by omega) f1.1 f1.2.1 g hk
    dsimp only at e2 f2
    subst e2
    refine ⟨(some (.int (solesA S k)), w2), hD2, ?_⟩
    refine am_to (lv' := [(0, .ref 0), (1, .int (nI k))]) (st' := [.int (solesA S k)]) (w' := w2) rfl rfl rfl ?_
    refine am_g0 rfl rfl ?_
    refine am_go rfl ?_
    exact ⟨rfl, by unfold solesS; rw [hx], f1.1.fr f2 (by decide) (by decide)⟩
