/-! the model: the next step to look at -/
theorem ix30b (a b : Nat) : (30 : Int32) * nI a + nI b = nI (30 * a + b) := by rw [show (30 : Int32) = nI 30 from rfl, pk_mul, nI_add]
theorem m_alike {d s : Nat} {x : Int32} {f : Nat → Bool} {t : Nat → Int32} {w : am_M} (hd : 2 ≤ d) (hs : s < 30) (hx : ∀ l, l < 8 → wetB x l = f l) (ht : ∀ l, l < 8 → w.1 23 (30 * l + s) = t l) : am_D shM d mi_X12_alike [.ref 0, .int x, .int (nI s)] w (some (.int (nI (alkS f t))), w) := by
  have hS : alkS f t = mxN (alkA f t) 8 := rfl
  rw [hS]
  refine am_def (by omega) rfl rfl ?_
  iterate 4 refine am_g0 rfl rfl ?_
  have key : ∀ j a : Nat, a + j = 8 → ∀ B, B = mxN (alkA f t) a → am_R shM mi_X12_alike (am_D shM (d - 1)) (fun r => r = (some (.int (nI (mxN (alkA f t) 8))), w)) 5 [(0, .ref 0), (1, .int x), (2, .int (nI s)), (3, .int (nI B)), (4, .int (nI a))] [] w := by
    intro j
    induction j with
    | zero =>
      intro a ha B hB
      refine am_go rfl ?_
      iterate 2 refine am_g0 rfl rfl ?_
      refine am_tt (show (8 : Int32) ≤ (nI a) from nI_le (a := 8) (by omega) (by omega)) ?_
      refine am_go rfl ?_
      refine am_g0 rfl rfl ?_
      exact ⟨rfl, by rw [hB, show a = 8 by omega]⟩
    | succ j ih =>
      intro a ha B hB
      have hB8 : B ≤ 8 := by rw [hB]; exact mxN_le (fun i _ => cntN_le 8)
      have hmx : mxN (alkA f t) (a + 1) = if B < alkA f t a then alkA f t a else B := by rw [mxN, ← hB]
      obtain ⟨G, hG⟩ : ∃ G : Nat → Bool, G = fun k => f a && (f k && decide (t a = t k)) := ⟨_, rfl⟩
      have hGk : ∀ k, G k = (f a && (f k && decide (t a = t k))) := fun k => by rw [hG]
      have hal : alkA f t a = cntN G 8 := by rw [hG]; rfl
      rw [hal] at hmx
      refine am_go rfl ?_
      iterate 2 refine am_g0 rfl rfl ?_
      refine am_ff (show ¬ (8 : Int32) ≤ (nI a) from nI_ge (b := 8) (by omega) (by omega)) ?_
      iterate 4 refine am_g0 rfl rfl ?_
      have key2 : ∀ j b : Nat, b + j = 8 → ∀ C, C = cntN G b → am_R shM mi_X12_alike (am_D shM (d - 1)) (fun r => r = (some (.int (nI (mxN (alkA f t) 8))), w)) 18 [(0, .ref 0), (1, .int x), (2, .int (nI s)), (3, .int (nI B)), (4, .int (nI a)), (5, .int (nI C)), (6, .int (nI b))] [] w := by
        intro j
        induction j with
        | zero =>
          intro b hb C hC
          have hC8 : C ≤ 8 := by rw [hC]; exact Nat.le_trans (cntN_le b) (by omega)
          have this := ih (a + 1) (by omega) (if B < C then C else B) (by rw [hmx, hC, show b = 8 by omega])
          rw [← nI_1 a] at this
          refine am_go rfl ?_
          iterate 2 refine am_g0 rfl rfl ?_
          refine am_tt (show (8 : Int32) ≤ (nI b) from nI_le (a := 8) (by omega) (by omega)) ?_
          refine am_go rfl ?_
          iterate 2 refine am_g0 rfl rfl ?_
          refine ⟨(some (.int (nI (if B < C then C else B))), w), m_greater (by omega) (by omega) (by omega), ?_⟩
          refine am_to (lv' := [(0, .ref 0), (1, .int x), (2, .int (nI s)), (3, .int (nI B)), (4, .int (nI a)), (5, .int (nI C))]) (st' := [.int (nI (if B < C then C else B))]) (w' := w) rfl rfl rfl ?_
          iterate 3 refine am_g0 rfl rfl ?_
          exact am_kl this rfl
        | succ j ih2 =>
          intro b hb C hC
          have h1 : G b = true → ∀ y, y = nI C + 1 → am_R shM mi_X12_alike (am_D shM (d - 1)) (fun r => r = (some (.int (nI (mxN (alkA f t) 8))), w)) 78 [(0, .ref 0), (1, .int x), (2, .int (nI s)), (3, .int (nI B)), (4, .int (nI a)), (6, .int (nI b))] [.int y] w := fun z y hy => by
            have this := ih2 (b + 1) (by omega) (C + 1) (by rw [cntN_t z, hC])
            rw [← nI_1 b, ← nI_1 C, ← hy] at this
            refine am_g0 rfl rfl ?_
            refine am_g0 rfl rfl ?_
            refine am_g0 rfl rfl ?_
            exact am_kl this rfl
          have h0 : G b = false → ∀ y, y = nI C + 0 → am_R shM mi_X12_alike (am_D shM (d - 1)) (fun r => r = (some (.int (nI (mxN (alkA f t) 8))), w)) 78 [(0, .ref 0), (1, .int x), (2, .int (nI s)), (3, .int (nI B)), (4, .int (nI a)), (6, .int (nI b))] [.int y] w := fun z y hy => by
            have this := ih2 (b + 1) (by omega) C (by rw [cntN_f z, hC])
            rw [← nI_1 b, show nI C = y by rw [hy]; exact (Int32.add_zero _).symm] at this
            refine am_g0 rfl rfl ?_
            refine am_g0 rfl rfl ?_
            refine am_g0 rfl rfl ?_
            exact am_kl this rfl
          refine am_go rfl ?_
          iterate 2 refine am_g0 rfl rfl ?_
          refine am_ff (show ¬ (8 : Int32) ≤ (nI b) from nI_ge (b := 8) (by omega) (by omega)) ?_
          iterate 4 refine am_g0 rfl rfl ?_
          refine ⟨(some (.int (b01 (f a))), w), m_isIn (by omega) (hx a (by omega)), ?_⟩
          refine am_to (lv' := [(0, .ref 0), (1, .int x), (2, .int (nI s)), (3, .int (nI B)), (4, .int (nI a)), (5, .int (nI C)), (6, .int (nI b))]) (st' := [.int (b01 (f a)), .int (nI C)]) (w' := w) rfl rfl rfl ?_
          refine am_g0 rfl rfl ?_
          by_cases c1 : f a = true
          · refine am_ff (show ¬ (b01 (f a) : Int32) = 0 from b01_t c1) ?_
            iterate 3 refine am_g0 rfl rfl ?_
            refine ⟨(some (.int (b01 (f b))), w), m_isIn (by omega) (hx b (by omega)), ?_⟩
            refine am_to (lv' := [(0, .ref 0), (1, .int x), (2, .int (nI s)), (3, .int (nI B)), (4, .int (nI a)), (5, .int (nI C)), (6, .int (nI b))]) (st' := [.int (b01 (f b)), .int (nI C)]) (w' := w) rfl rfl rfl ?_
            refine am_g0 rfl rfl ?_
            by_cases c2 : f b = true
            · refine am_ff (show ¬ (b01 (f b) : Int32) = 0 from b01_t c2) ?_
              iterate 7 refine am_g0 rfl rfl ?_
              refine am_glE (n := 240) (k := 30 * a + s) rfl rfl (ix30b a s) (by omega) (by decide) ?_
              refine am_top (y := t a) (ht a (by omega)) ?_
              iterate 7 refine am_g0 rfl rfl ?_
              refine am_glE (n := 240) (k := 30 * b + s) rfl rfl (ix30b b s) (by omega) (by decide) ?_
              refine am_top (y := t b) (ht b (by omega)) ?_
              refine am_g0 rfl rfl ?_
              by_cases c3 : t a = t b
              · refine am_tt (show (t a : Int32) = (t b) from c3) ?_
                iterate 2 refine am_g0 rfl rfl ?_
                refine am_go rfl ?_
                exact am_kl (h1 (by rw [hGk, c1, c2, decide_eq_true c3]; rfl) _ rfl) rfl
              · refine am_ff (show ¬ (t a : Int32) = (t b) from c3) ?_
                refine am_go rfl ?_
                refine am_go rfl ?_
                exact am_kl (h0 (by rw [hGk, c1, c2, decide_eq_false c3]; rfl) _ rfl) rfl
            · refine am_tt (show (b01 (f b) : Int32) = 0 from b01_f c2) ?_
              refine am_go rfl ?_
              refine am_go rfl ?_
              exact am_kl (h0 (by rw [hGk, c1, Bool.eq_false_iff.mpr c2]; rfl) _ rfl) rfl
          · refine am_tt (show (b01 (f a) : Int32) = 0 from b01_f c1) ?_
            refine am_go rfl ?_
            refine am_go rfl ?_
            exact am_kl (h0 (by rw [hGk, Bool.eq_false_iff.mpr c1]; rfl) _ rfl) rfl
      exact am_kl (key2 8 0 (by omega) 0 rfl) rfl
  exact am_kl (key 8 0 (by omega) 0 rfl) rfl
set_option maxHeartbeats 1000000 in
theorem m_askOf {d k : Nat} {w : am_M} {S : Sp} (hd : 7 ≤ d) (h : RM w S) (hR : mRd w S) (g : SG S) (hk : k < S.q) : ∃ o : am_O, (o.1 = some (.int (askA S k)) ∧ am_fx [13, 14, 15, 16, 17, 18, 19, 20, 23] [28, 29, 30] w o.2) ∧ am_D shM d mi_X12_askOf [.ref 0, .int (nI k)] w o := by
  have hq := g.2.2.1
  have hok := g.2.2.2 k hk
  obtain ⟨A, hA⟩ : ∃ A, A = woreA S k 1 := ⟨_, rfl⟩
  obtain ⟨ct, hct⟩ : ∃ ct : Nat → Nat → Int32, ct = fun s l => cellI S.V (prF (prS S.pf k) 1 l) (wet0 S) s := ⟨_, rfl⟩
  have hctv : ∀ s l, ct s l = cellI S.V (prF (prS S.pf k) 1 l) (wet0 S) s := fun s l => by rw [hct]
  obtain ⟨G, hG⟩ : ∃ G : Nat → Nat, G = fun s => alkS A (ct s) := ⟨_, rfl⟩
  have hGs : ∀ s, G s = alkS A (ct s) := fun s => by rw [hG]
  have hG8 : ∀ s, G s ≤ 8 := fun s => by rw [hGs]; exact alkS_le _ _
  have hAA : askA S k = nI (askN G 30).1 := by rw [hG, hct, hA]; rfl
  rw [hAA]
  have hx : ∀ l, l < 8 → wetB (bitsS A 8) l = A l := fun l hl => by rw [bits_wet (by omega) l (by omega), decide_eq_true hl, Bool.true_and]
  have key110 : ∀ u : am_M, am_fx [13, 14, 15, 16, 17, 18, 19, 20, 23] [28, 29, 30] w u → (∀ s, s < 30 → ∀ l, l < 8 → u.1 23 (30 * l + s) = ct s l) → ∀ j s : Nat, s + j = 30 → 1 ≤ s → ∀ B, B = (askN G s).1 → B < s → G B = (askN G s).2 → am_R shM mi_X12_askOf (am_D shM (d - 1)) (fun o => o.1 = some (.int (nI (askN G 30).1)) ∧ am_fx [13, 14, 15, 16, 17, 18, 19, 20, 23] [28, 29, 30] w o.2) 110 [(0, .ref 0), (2, .int (bitsS A 8)), (4, .int (nI B)), (5, .int (nI s))] [] u := by
    intro u fu u23 j
    induction j with
    | zero =>
      intro s hs hs1 B hB hBs hGB
      refine am_go rfl ?_
      iterate 2 refine am_g0 rfl rfl ?_
      refine am_tt (show (30 : Int32) ≤ (nI s) from nI_le (a := 30) (by omega) (by omega)) ?_
      refine am_go rfl ?_
      refine am_g0 rfl rfl ?_
      exact ⟨rfl, by rw [hB, show s = 30 by omega], fu⟩
    | succ j ih =>
      intro s hs hs1 B hB hBs hGB
      have g1 := hG8 s
      have g2 := hG8 B
      have k1 : am_D shM (d - 1) mi_X12_alike [.ref 0, .int (bitsS A 8), .int (nI s)] u (some (.int (nI (G s))), u) := by rw [hGs]; exact m_alike (by omega) (by omega) hx (u23 s (by omega))
      have k2 : am_D shM (d - 1) mi_X12_alike [.ref 0, .int (bitsS A 8), .int (nI B)] u (some (.int (nI (G B))), u) := by rw [hGs]; exact m_alike (by omega) (by omega) hx (u23 B (by omega))
      refine am_go rfl ?_
      iterate 2 refine am_g0 rfl rfl ?_
      refine am_ff (show ¬ (30 : Int32) ≤ (nI s) from nI_ge (b := 30) (by omega) (by omega)) ?_
      iterate 4 refine am_g0 rfl rfl ?_
      refine ⟨(some (.int (nI (G s))), u), k1, ?_⟩
      refine am_to (lv' := [(0, .ref 0), (2, .int (bitsS A 8)), (4, .int (nI B)), (5, .int (nI s))]) (st' := [.int (nI (G s))]) (w' := u) rfl rfl rfl ?_
      iterate 4 refine am_g0 rfl rfl ?_
      refine ⟨(some (.int (nI (G B))), u), k2, ?_⟩
      refine am_to (lv' := [(0, .ref 0), (2, .int (bitsS A 8)), (4, .int (nI B)), (5, .int (nI s))]) (st' := [.int (nI (G B)), .int (nI (G s))]) (w' := u) rfl rfl rfl ?_
      refine am_g0 rfl rfl ?_
      by_cases c : G s < G B
      · have this := ih (s + 1) (by omega) (by omega) s (by rw [askN_t (by rw [← hGB]; exact c)]) (by omega) (by rw [askN_t (by rw [← hGB]; exact c)])
        rw [← nI_1 s] at this
        refine am_ff (show ¬ (nI (G B) : Int32) ≤ (nI (G s)) from nI_ge c (by omega)) ?_
        iterate 2 refine am_g0 rfl rfl ?_
        refine am_go rfl ?_
        iterate 2 refine am_g0 rfl rfl ?_
        exact am_kl this rfl
      · have this := ih (s + 1) (by omega) (by omega) B (by rw [askN_f (by rw [← hGB]; exact c)]; exact hB) (by omega) (by rw [askN_f (by rw [← hGB]; exact c)]; exact hGB)
        rw [← nI_1 s] at this
        refine am_tt (show (nI (G B) : Int32) ≤ (nI (G s)) from nI_le (by omega) (by omega)) ?_
        refine am_go rfl ?_
        refine am_go rfl ?_
        iterate 2 refine am_g0 rfl rfl ?_
        exact am_kl this rfl
  have key21 : ∀ j l : Nat, l + j = 8 → ∀ u : am_M, am_fx [11, 13, 14, 15, 16, 17, 18, 19, 20, 23] [28, 29, 30] w u → (∀ e, e ≠ 5 * k + 2 → u.1 11 e = w.1 11 e) → (∀ s, s < 30 → ∀ i, i < l → u.1 23 (30 * i + s) = ct s i) → am_R shM mi_X12_askOf (am_D shM (d - 1)) (fun o => o.1 = some (.int (nI (askN G 30).1)) ∧ am_fx [13, 14, 15, 16, 17, 18, 19, 20, 23] [28, 29, 30] w o.2) 21 [(0, .ref 0), (1, .int (nI k)), (2, .int (bitsS A 8)), (3, .int (w.1 11 (5 * k + 2))), (4, .int (nI l))] [] u := by
    intro j
    induction j with
    | zero =>
      intro l hl u fu u11 u23
      refine am_go rfl ?_
      iterate 2 refine am_g0 rfl rfl ?_
      refine am_tt (show (8 : Int32) ≤ (nI l) from nI_le (a := 8) (by omega) (by omega)) ?_
      refine am_go rfl ?_
      iterate 7 refine am_g0 rfl rfl ?_
      refine am_gsE (n := 40) (k := 5 * k + 2) rfl rfl (ix5 k 2) (by omega) (by decide) ?_
      refine am_to (lv' := [(0, .ref 0), (1, .int (nI k)), (2, .int (bitsS A 8)), (3, .int (w.1 11 (5 * k + 2)))]) (st' := []) (w' := am_pi u 11 (5 * k + 2) (w.1 11 (5 * k + 2))) rfl rfl rfl ?_
      generalize hv : am_pi u 11 (5 * k + 2) (w.1 11 (5 * k + 2)) = v
      have fv : am_fx [13, 14, 15, 16, 17, 18, 19, 20, 23] [28, 29, 30] w v := by
        refine am_fx.drop (a := 11) ?_ (funext fun e => ?_)
        · rw [← hv]; exact fu.pc (by decide) (by decide)
        · rw [← hv]
          by_cases z1 : e = 5 * k + 2
          · rw [z1, am_pi_at]
          · rw [am_pi_ne (Or.inr z1)]; exact u11 e z1
      refine am_to (lv' := [(0, .ref 0), (1, .int (nI k)), (2, .int (bitsS A 8)), (3, .int (w.1 11 (5 * k + 2)))]) (st' := []) (w' := v) rfl rfl rfl ?_
      iterate 4 refine am_g0 rfl rfl ?_
      exact am_kl (key110 v fv (fun s hs i hi => by rw [← hv, am_pi_row (by decide)]; exact u23 s hs i (by omega)) 29 1 (by omega) (by omega) 0 (by rw [askN_t (by have := hG8 0; show G 0 < 9; omega)]) (by omega) (by rw [askN_t (by have := hG8 0; show G 0 < 9; omega)])) rfl
    | succ j ih =>
      intro l hl u fu u11 u23
      refine am_go rfl ?_
      iterate 2 refine am_g0 rfl rfl ?_
      refine am_ff (show ¬ (8 : Int32) ≤ (nI l) from nI_ge (b := 8) (by omega) (by omega)) ?_
      iterate 8 refine am_g0 rfl rfl ?_
      refine am_gsE (n := 40) (k := 5 * k + 2) rfl rfl (ix5 k 2) (by omega) (by decide) ?_
      refine am_to (lv' := [(0, .ref 0), (1, .int (nI k)), (2, .int (bitsS A 8)), (3, .int (w.1 11 (5 * k + 2))), (4, .int (nI l))]) (st' := []) (w' := am_pi u 11 (5 * k + 2) (nI l)) rfl rfl rfl ?_
      generalize hv : am_pi u 11 (5 * k + 2) (nI l) = v
      have fv : am_fx [11, 13, 14, 15, 16, 17, 18, 19, 20, 23] [28, 29, 30] w v := by rw [← hv]; exact fu.pc (by decide) (by decide)
      have v11 : ∀ e, e ≠ 5 * k + 2 → v.1 11 e = w.1 11 e := fun e z1 => by rw [← hv, am_pi_ne (Or.inr z1)]; exact u11 e z1
      have v23 : ∀ s, s < 30 → ∀ i, i < l → v.1 23 (30 * i + s) = ct s i := fun s hs i hi => by rw [← hv, am_pi_row (by decide)]; exact u23 s hs i hi
      obtain ⟨hV, hq14⟩ := hR.V' fv (by decide) (by decide)
      have rv : RM v S := h.fr fv (by decide) (by decide)
      obtain ⟨⟨p1, p2, p3, p4, p5⟩, p6⟩ := hR.P g k hk
      have hP := mPr_up (v := v) (k := k) (x := prF (prS S.pf k) 1 l) hR g (fun e he => v11 e (by omega)) ⟨by rw [v11 _ (by omega)]; exact p1, by rw [v11 _ (by omega)]; exact p2, by rw [← hv, am_pi_at]; rfl, by rw [v11 _ (by omega)]; exact p4, by rw [v11 _ (by omega)]; exact p5⟩ ⟨hok.1, hok.2.1, by show l < 8; omega, hok.2.2.2.1, hok.2.2.2.2⟩
      refine am_to (lv' := [(0, .ref 0), (1, .int (nI k)), (2, .int (bitsS A 8)), (3, .int (w.1 11 (5 * k + 2))), (4, .int (nI l))]) (st' := []) (w' := v) rfl rfl rfl ?_
      iterate 2 refine am_g0 rfl rfl ?_
      obtain ⟨⟨r1, w1⟩, ⟨e1, f1, g1⟩, hD1⟩ := m_lives (d := d - 1) (by omega) hV (rv.W g) hq14 hq hP
      dsimp only at e1 f1 g1
      subst e1
      refine ⟨(none, w1), hD1, ?_⟩
      refine am_to (lv' := [(0, .ref 0), (1, .int (nI k)), (2, .int (bitsS A 8)), (3, .int (w.1 11 (5 * k + 2))), (4, .int (nI l))]) (st' := []) (w' := w1) rfl rfl rfl ?_
      have f1' : am_fx [11, 13, 14, 15, 16, 17, 18, 19, 20, 23] [28, 29, 30] w w1 := fv.tr (f1.mono (by decide) (by decide))
      have w11 : ∀ e, e ≠ 5 * k + 2 → w1.1 11 e = w.1 11 e := fun e z1 => by rw [f1.1 11 (by decide) (by decide)]; exact v11 e z1
      have w23 : ∀ s, s < 30 → ∀ i, i < l → w1.1 23 (30 * i + s) = ct s i := fun s hs i hi => by rw [f1.1 23 (by decide) (by decide)]; exact v23 s hs i hi
      have kp : ∀ s, s < 30 → w1.1 18 (32 * s + 4 * k) = ct s l := fun s hs => by
        have := (g1.1 k hk).2.2 s hs 0 (by omega)
        rw [upP_at] at this
        rw [hctv]
        exact this
      iterate 2 refine am_g0 rfl rfl ?_
      have key47 : ∀ j s : Nat, s + j = 30 → ∀ u : am_M, am_fx [23] [] w1 u → (∀ e, (e < 30 * l ∨ 30 * l + s ≤ e) → u.1 23 e = w1.1 23 e) → (∀ i, i < s → u.1 23 (30 * l + i) = ct i l) → am_R shM mi_X12_askOf (am_D shM (d - 1)) (fun o => o.1 = some (.int (nI (askN G 30).1)) ∧ am_fx [13, 14, 15, 16, 17, 18, 19, 20, 23] [28, 29, 30] w o.2) 47 [(0, .ref 0), (1, .int (nI k)), (2, .int (bitsS A 8)), (3, .int (w.1 11 (5 * k + 2))), (4, .int (nI l)), (5, .int (nI s))] [] u := by
        intro j
        induction j with
        | zero =>
          intro s hs u fu uo ui
          have this := ih (l + 1) (by omega) u (f1'.tr (fu.mono (by decide) (by decide))) (fun e z1 => by rw [fu.1 11 (by decide) (by decide)]; exact w11 e z1) (fun s' hs' i hi => if z : i = l then by rw [z]; exact ui s' (by omega) else by rw [uo _ (by omega)]; exact w23 s' hs' i (by omega))
          rw [← nI_1 l] at this
          refine am_go rfl ?_
          iterate 2 refine am_g0 rfl rfl ?_
          refine am_tt (show (30 : Int32) ≤ (nI s) from nI_le (a := 30) (by omega) (by omega)) ?_
          refine am_go rfl ?_
          refine am_g0 rfl rfl ?_
          exact am_kl this rfl
        | succ j ih2 =>
          intro s hs u fu uo ui
          have this := ih2 (s + 1) (by omega) (am_pi u 23 (30 * l + s) (ct s l)) (fu.pc (by decide) (by decide)) (fun e he => by rw [am_pi_ne (Or.inr (by omega))]; exact uo e (by omega)) (fun i hi => if z : i = s then by rw [z, am_pi_at] else by rw [am_pi_ne (Or.inr (by omega))]; exact ui i (by omega))
          rw [← nI_1 s] at this
          refine am_go rfl ?_
          iterate 2 refine am_g0 rfl rfl ?_
          refine am_ff (show ¬ (30 : Int32) ≤ (nI s) from nI_ge (b := 30) (by omega) (by omega)) ?_
          iterate 16 refine am_g0 rfl rfl ?_
          refine am_glE (n := 960) (k := 32 * s + 4 * k) rfl rfl (ix32 s k) (by omega) (by decide) ?_
          refine am_top (y := ct s l) (by rw [fu.1 18 (by decide) (by decide)]; exact kp s (by omega)) ?_
          refine am_gsE (n := 240) (k := 30 * l + s) rfl rfl (ix30b l s) (by omega) (by decide) ?_
          refine am_to (lv' := [(0, .ref 0), (1, .int (nI k)), (2, .int (bitsS A 8)), (3, .int (w.1 11 (5 * k + 2))), (4, .int (nI l)), (5, .int (nI s))]) (st' := []) (w' := am_pi u 23 (30 * l + s) (ct s l)) rfl rfl rfl ?_
          iterate 2 refine am_g0 rfl rfl ?_
          exact am_kl this rfl
      exact am_kl (key47 30 0 (by omega) w1 am_fx.rf (fun _ _ => rfl) (fun i hi => absurd hi (Nat.not_lt_zero i))) rfl
  refine am_dex (by omega) rfl rfl ?_
  iterate 4 refine am_g0 rfl rfl ?_
  have hwo : ∃ o : am_O, (o.1 = some (.int (bitsS A 8)) ∧ am_fx [13, 14, 15, 16, 17, 18, 19, 20] [28, 29, 30] w o.2) ∧ am_D shM (d - 1) mi_X12_woreOf [.ref 0, .int (nI k), .int (nI 1)] w o := by rw [hA]; exact m_woreOf (d := d - 1) (f := 1) (by omega) h hR g hk (by omega)
  obtain ⟨⟨r1, w1⟩, ⟨e1, f1⟩, hD1⟩ := hwo
  dsimp only at e1 f1
  subst e1
  refine ⟨(some (.int (bitsS A 8)), w1), hD1, ?_⟩
  refine am_to (lv' := [(0, .ref 0), (1, .int (nI k))]) (st' := [.int (bitsS A 8)]) (w' := w1) rfl rfl rfl ?_
  iterate 8 refine am_g0 rfl rfl ?_
  refine am_glE (n := 40) (k := 5 * k + 2) rfl rfl (ix5 k 2) (by omega) (by decide) ?_
  refine am_top (y := w.1 11 (5 * k + 2)) (by rw [f1.1 11 (by decide) (by decide)]) ?_
  iterate 3 refine am_g0 rfl rfl ?_
  exact am_kl (key21 8 0 (by omega) w1 (f1.mono (by decide) (by decide)) (fun e _ => by rw [f1.1 11 (by decide) (by decide)]) (fun s hs i hi => absurd hi (Nat.not_lt_zero i))) rfl
theorem m_ask {d : Nat} {x : Int32} {w : am_M} {S : Sp} (hd : 8 ≤ d) (h : RM w S) (g : SG S) : ∃ o : am_O, (o.1 = some (.int (askQ S x)) ∧ RM o.2 S) ∧ am_D shM d mi_X12_ask [.ref 0, .int x] w o := by
  have hq := g.2.2.1
  obtain ⟨⟨r1, w1⟩, ⟨e1, f1⟩, hD1⟩ := m_find2 (d := d - 1) (by omega) h g
  dsimp only at e1 f1
  subst e1
  have hp14 : w1.1 0 14 = nI S.q := f1.2.1.2.1
  rcases dI_or x S.q (by omega) with hx | ⟨k, hk, rfl, hx⟩
  · refine am_dex (by omega) rfl rfl ?_
    iterate 2 refine am_g0 rfl rfl ?_
    refine ⟨(none, w1), hD1, ?_⟩
    refine am_to (lv' := [(0, .ref 0), (1, .int x)]) (st' := []) (w' := w1) rfl rfl rfl ?_
    iterate 3 refine am_g0 rfl rfl ?_
    refine ⟨(some (.int 0), w1), m_isPerson_n (by omega) hq hp14 hx, ?_⟩
    refine am_to (lv' := [(0, .ref 0), (1, .int x)]) (st' := [.int 0]) (w' := w1) rfl rfl rfl ?_
    refine am_g0 rfl rfl ?_
    refine am_go rfl ?_
    refine am_go rfl ?_
    exact ⟨rfl, by unfold askQ; rw [hx], f1.1⟩
  · refine am_dex (by omega) rfl rfl ?_
    iterate 2 refine am_g0 rfl rfl ?_
    refine ⟨(none, w1), hD1, ?_⟩
    refine am_to (lv' := [(0, .ref 0), (1, .int (nI k))]) (st' := []) (w' := w1) rfl rfl rfl ?_
    iterate 3 refine am_g0 rfl rfl ?_
    refine ⟨(some (.int 1), w1), m_isPerson_s (by omega) hq hp14 hk, ?_⟩
    refine am_to (lv' := [(0, .ref 0), (1, .int (nI k))]) (st' := [.int 1]) (w' := w1) rfl rfl rfl ?_
    iterate 4 refine am_g0 rfl rfl ?_
    obtain ⟨⟨r2, w2⟩, ⟨e2, f2⟩, hD2⟩ := m_askOf (d := d - 1) (by omega) f1.1 f1.2.1 g hk
    dsimp only at e2 f2
    subst e2
    refine ⟨(some (.int (askA S k)), w2), hD2, ?_⟩
    refine am_to (lv' := [(0, .ref 0), (1, .int (nI k))]) (st' := [.int (askA S k)]) (w' := w2) rfl rfl rfl ?_
    refine am_g0 rfl rfl ?_
    refine am_go rfl ?_
    exact ⟨rfl, by unfold askQ; rw [hx], f1.1.fr f2 (by decide) (by decide)⟩
