/-! the model: digest, the call -/
theorem faultS_t {S : Sp} {t : Nat} (ht : t < 3) : faultS S (nI t) = opI (fltS S t) := by unfold faultS; rw [dI_t ht (by omega)]
theorem cellS_t {S : Sp} {c : Nat} (hc : c < S.V.1) (h36 : S.V.1 ≤ 36) : cellS S (nI c) = nI (S.V.2.1 c) := by unfold cellS; rw [dI_t (by omega) (by omega)]; unfold kindA; exact if_pos hc
theorem lastS_t {S : Sp} {l j : Nat} (hl : l < S.m) (hm : S.m ≤ 8) (hj : j < 6) : lastS S (nI l) (nI j) = lastA S l j := by unfold lastS; rw [dI_t hl (by omega), dI_t hj (by omega)]
theorem wornS_t {S : Sp} {l : Nat} (hl : l < S.m) (hm : S.m ≤ 8) : wornS S (nI l) = nI (wornA S l) := by unfold wornS; rw [dI_t hl (by omega)]
theorem whoS_t {S : Sp} {k : Nat} (hk : k < 2) : whoS S (nI k) = whoA S (wet0 S) k := by unfold whoS; rw [dI_t hk (by omega)]
theorem metS_t {S : Sp} {k : Nat} (hk : k < 3) : metS S (nI k) = metA S k := by unfold metS; rw [dI_t hk (by omega)]
theorem shelvesQ_t {S : Sp} {x : Int32} {k : Nat} (hk : k < 2) : shelvesQ S x (nI k) = nI (shelvesA S x k) := by unfold shelvesQ; rw [dI_t hk (by omega)]
set_option maxHeartbeats 4000000 in
theorem m_digest {d : Nat} {w : am_M} {S : Sp} (hd : 10 ≤ d) (r : RM w S) (g : SG S) : ∃ o : am_O, (o.1 = some (.long (digS S)) ∧ RM o.2 S) ∧ am_D shM d mi_X12_digest [.ref 0] w o := by
  have hq := g.2.2.1
  have hm8 : S.m ≤ 8 := g.2.1.2.2.2.1
  have h36 : S.V.1 ≤ 36 := g.2.1.1
  obtain ⟨v0, hv0⟩ : ∃ v, v = rifS S := ⟨_, rfl⟩
  obtain ⟨v1, hv1⟩ : ∃ v, v = nI (matchN S) := ⟨_, rfl⟩
  obtain ⟨v2, hv2⟩ : ∃ v, v = dryQ S (-1) := ⟨_, rfl⟩
  obtain ⟨v3, hv3⟩ : ∃ v, v = dryQ S 0 := ⟨_, rfl⟩
  obtain ⟨v4, hv4⟩ : ∃ v, v = neverS S := ⟨_, rfl⟩
  obtain ⟨v5, hv5⟩ : ∃ v, v = shelvesQ S 7 0 := ⟨_, rfl⟩
  obtain ⟨v6, hv6⟩ : ∃ v, v = shelvesQ S 7 1 := ⟨_, rfl⟩
  obtain ⟨D7, hD7⟩ : ∃ v, v = dg7 S := ⟨_, rfl⟩
  have hA : digS S = mx (mx (mx (mx (mx (mx (mx D7 v0.toInt64) v1.toInt64) v2.toInt64) v3.toInt64) v4.toInt64) v5.toInt64) v6.toInt64 := by unfold digS; rw [hv0, hv1, hv2, hv3, hv4, hv5, hv6, hD7]
  rw [hA]
  replace hv5 : v5 = nI (shelvesA S 7 0) := hv5.trans (shelvesQ_t (k := 0) (by omega))
  replace hv6 : v6 = nI (shelvesA S 7 1) := hv6.trans (shelvesQ_t (k := 1) (by omega))
  have key227 : ∀ u : am_M, RM u S → mRd u S → (∀ l, l < 8 → u.1 20 l = nI (wornA S l)) → am_R shM mi_X12_digest (am_D shM (d - 1)) (fun o => o.1 = some (.long (mx (mx (mx (mx (mx (mx (mx D7 v0.toInt64) v1.toInt64) v2.toInt64) v3.toInt64) v4.toInt64) v5.toInt64) v6.toInt64)) ∧ RM o.2 S) 227 [(0, .ref 0), (1, .long D7)] [] u := by
    intro u ru hRu uw
    have hr : am_D shM (d - 1) mi_X12_rifestNow [.ref 0] u (some (.int v0), u) := by rw [hv0]; exact m_rifestNow (f := wornA S) (by omega) hRu.1.2.2.2.2.2.2.1 hm8 (fun l hl => ⟨uw l hl, by have := wornA_le (S := S) (l := l) hq; omega⟩)
    obtain ⟨⟨r1, w1⟩, ⟨e1, f1⟩, hD1⟩ := m_matchNow (d := d - 1) (by omega) ru hRu g
    dsimp only at e1 f1
    rw [← hv1] at e1
    subst e1
    have ru1 : RM w1 S := ru.fr f1 (by decide) (by decide)
    have hRu1 : mRd w1 S := hRu.fl f1 (by decide) (by decide)
    obtain ⟨⟨r2, w2⟩, ⟨e2, f2⟩, hD2⟩ := m_dryOf (d := d - 1) (x := -1) (by omega) ru1 hRu1 g (Or.inl rfl)
    dsimp only at e2 f2
    rw [← hv2] at e2
    subst e2
    have ru2 : RM w2 S := ru1.fr f2 (by decide) (by decide)
    have hRu2 : mRd w2 S := hRu1.fl f2 (by decide) (by decide)
    obtain ⟨⟨r3, w3⟩, ⟨e3, f3⟩, hD3⟩ := m_dryOf (d := d - 1) (x := 0) (by omega) ru2 hRu2 g (Or.inr ⟨0, by omega, rfl⟩)
    dsimp only at e3 f3
    rw [← hv3] at e3
    subst e3
    have ru3 : RM w3 S := ru2.fr f3 (by decide) (by decide)
    have hRu3 : mRd w3 S := hRu2.fl f3 (by decide) (by decide)
    obtain ⟨⟨r4, w4⟩, ⟨e4, f4⟩, hD4⟩ := m_neverNow (d := d - 1) (by omega) ru3 hRu3 g
    dsimp only at e4 f4
    rw [← hv4] at e4
    subst e4
    have ru4 : RM w4 S := ru3.fr f4 (by decide) (by decide)
    have hRu4 : mRd w4 S := hRu3.fl f4 (by decide) (by decide)
    obtain ⟨⟨r5, w5⟩, ⟨e5, f5, hRu5⟩, hD5⟩ := m_shelvesOf (d := d - 1) (x := 7) (k := 0) (by omega) ru4 hRu4 g (by omega)
    dsimp only at e5 f5 hRu5
    rw [← hv5] at e5
    subst e5
    have ru5 : RM w5 S := ru4.fr f5 (by decide) (by decide)
    obtain ⟨⟨r6, w6⟩, ⟨e6, f6, hRu6⟩, hD6⟩ := m_shelvesOf (d := d - 1) (x := 7) (k := 1) (by omega) ru5 hRu5 g (by omega)
    dsimp only at e6 f6 hRu6
    rw [← hv6] at e6
    subst e6
    have ru6 : RM w6 S := ru5.fr f6 (by decide) (by decide)
    refine am_go rfl ?_
    iterate 4 refine am_g0 rfl rfl ?_
    refine ⟨(some (.int v0), u), hr, ?_⟩
    refine am_to (lv' := [(0, .ref 0), (1, .long D7)]) (st' := [.int v0, .long (31 * D7)]) (w' := u) rfl rfl rfl ?_
    iterate 2 refine am_g0 rfl rfl ?_
    refine am_topL (y := mx D7 v0.toInt64) (rfl) ?_
    refine am_g0 rfl rfl ?_
    refine am_to (lv' := [(0, .ref 0), (1, .long (mx D7 v0.toInt64))]) (st' := []) (w' := u) rfl rfl rfl ?_
    iterate 5 refine am_g0 rfl rfl ?_
    refine ⟨(some (.int v1), w1), hD1, ?_⟩
    refine am_to (lv' := [(0, .ref 0), (1, .long (mx D7 v0.toInt64))]) (st' := [.int v1, .long (31 * (mx D7 v0.toInt64))]) (w' := w1) rfl rfl rfl ?_
    iterate 2 refine am_g0 rfl rfl ?_
    refine am_topL (y := mx (mx D7 v0.toInt64) v1.toInt64) (rfl) ?_
    refine am_g0 rfl rfl ?_
    refine am_to (lv' := [(0, .ref 0), (1, .long (mx (mx D7 v0.toInt64) v1.toInt64))]) (st' := []) (w' := w1) rfl rfl rfl ?_
    iterate 6 refine am_g0 rfl rfl ?_
    refine ⟨(some (.int v2), w2), hD2, ?_⟩
    refine am_to (lv' := [(0, .ref 0), (1, .long (mx (mx D7 v0.toInt64) v1.toInt64))]) (st' := [.int v2, .long (31 * (mx (mx D7 v0.toInt64) v1.toInt64))]) (w' := w2) rfl rfl rfl ?_
    iterate 2 refine am_g0 rfl rfl ?_
    refine am_topL (y := mx (mx (mx D7 v0.toInt64) v1.toInt64) v2.toInt64) (rfl) ?_
    refine am_g0 rfl rfl ?_
    refine am_to (lv' := [(0, .ref 0), (1, .long (mx (mx (mx D7 v0.toInt64) v1.toInt64) v2.toInt64))]) (st' := []) (w' := w2) rfl rfl rfl ?_
    iterate 6 refine am_g0 rfl rfl ?_
    refine ⟨(some (.int v3), w3), hD3, ?_⟩
    refine am_to (lv' := [(0, .ref 0), (1, .long (mx (mx (mx D7 v0.toInt64) v1.toInt64) v2.toInt64))]) (st' := [.int v3, .long (31 * (mx (mx (mx D7 v0.toInt64) v1.toInt64) v2.toInt64))]) (w' := w3) rfl rfl rfl ?_
    iterate 2 refine am_g0 rfl rfl ?_
    refine am_topL (y := mx (mx (mx (mx D7 v0.toInt64) v1.toInt64) v2.toInt64) v3.toInt64) (rfl) ?_
    refine am_g0 rfl rfl ?_
    refine am_to (lv' := [(0, .ref 0), (1, .long (mx (mx (mx (mx D7 v0.toInt64) v1.toInt64) v2.toInt64) v3.toInt64))]) (st' := []) (w' := w3) rfl rfl rfl ?_
    iterate 5 refine am_g0 rfl rfl ?_
    refine ⟨(some (.int v4), w4), hD4, ?_⟩
    refine am_to (lv' := [(0, .ref 0), (1, .long (mx (mx (mx (mx D7 v0.toInt64) v1.toInt64) v2.toInt64) v3.toInt64))]) (st' := [.int v4, .long (31 * (mx (mx (mx (mx D7 v0.toInt64) v1.toInt64) v2.toInt64) v3.toInt64))]) (w' := w4) rfl rfl rfl ?_
    iterate 2 refine am_g0 rfl rfl ?_
    refine am_topL (y := mx (mx (mx (mx (mx D7 v0.toInt64) v1.toInt64) v2.toInt64) v3.toInt64) v4.toInt64) (rfl) ?_
    refine am_g0 rfl rfl ?_
    refine am_to (lv' := [(0, .ref 0), (1, .long (mx (mx (mx (mx (mx D7 v0.toInt64) v1.toInt64) v2.toInt64) v3.toInt64) v4.toInt64))]) (st' := []) (w' := w4) rfl rfl rfl ?_
    iterate 7 refine am_g0 rfl rfl ?_
    refine ⟨(some (.int v5), w5), hD5, ?_⟩
    refine am_to (lv' := [(0, .ref 0), (1, .long (mx (mx (mx (mx (mx D7 v0.toInt64) v1.toInt64) v2.toInt64) v3.toInt64) v4.toInt64))]) (st' := [.int v5, .long (31 * (mx (mx (mx (mx (mx D7 v0.toInt64) v1.toInt64) v2.toInt64) v3.toInt64) v4.toInt64))]) (w' := w5) rfl rfl rfl ?_
    iterate 2 refine am_g0 rfl rfl ?_
    refine am_topL (y := mx (mx (mx (mx (mx (mx D7 v0.toInt64) v1.toInt64) v2.toInt64) v3.toInt64) v4.toInt64) v5.toInt64) (rfl) ?_
    refine am_g0 rfl rfl ?_
    refine am_to (lv' := [(0, .ref 0), (1, .long (mx (mx (mx (mx (mx (mx D7 v0.toInt64) v1.toInt64) v2.toInt64) v3.toInt64) v4.toInt64) v5.toInt64))]) (st' := []) (w' := w5) rfl rfl rfl ?_
    iterate 7 refine am_g0 rfl rfl ?_
    refine ⟨(some (.int v6), w6), hD6, ?_⟩
    refine am_to (lv' := [(0, .ref 0), (1, .long (mx (mx (mx (mx (mx (mx D7 v0.toInt64) v1.toInt64) v2.toInt64) v3.toInt64) v4.toInt64) v5.toInt64))]) (st' := [.int v6, .long (31 * (mx (mx (mx (mx (mx (mx D7 v0.toInt64) v1.toInt64) v2.toInt64) v3.toInt64) v4.toInt64) v5.toInt64))]) (w' := w6) rfl rfl rfl ?_
    iterate 2 refine am_g0 rfl rfl ?_
    refine am_topL (y := mx (mx (mx (mx (mx (mx (mx D7 v0.toInt64) v1.toInt64) v2.toInt64) v3.toInt64) v4.toInt64) v5.toInt64) v6.toInt64) (rfl) ?_
    refine am_g0 rfl rfl ?_
    exact ⟨rfl, rfl, ru6⟩
  obtain ⟨D6, hD6⟩ : ∃ v, v = dg6 S := ⟨_, rfl⟩
  obtain ⟨F7, hF7⟩ : ∃ F : Int64 → Nat → Int64, F = fun h k => mx h (metS S (nI k)).toInt64 := ⟨_, rfl⟩
  have hF7j : ∀ x j, F7 x j = mx x (metS S (nI j)).toInt64 := fun x j => by rw [hF7]
  have hD76 : D7 = itN F7 D6 3 := by rw [hD7, hD6, hF7]; rfl
  have key203 : ∀ u : am_M, RM u S → mRd u S → (∀ l, l < 8 → u.1 20 l = nI (wornA S l)) → metI u (metG (mtF S.V (prS S.pf) (wet0 S)) S.q 30) → ∀ j i : Nat, i + j = 3 → ∀ y, y = itN F7 D6 i → am_R shM mi_X12_digest (am_D shM (d - 1)) (fun o => o.1 = some (.long (mx (mx (mx (mx (mx (mx (mx D7 v0.toInt64) v1.toInt64) v2.toInt64) v3.toInt64) v4.toInt64) v5.toInt64) v6.toInt64)) ∧ RM o.2 S) 203 [(0, .ref 0), (1, .long y), (3, .int (nI i))] [] u := by
    intro u ru hRu uw um j
    induction j with
    | zero =>
      intro i hi y hy
      rw [show i = 3 by omega, ← hD76] at hy
      rw [hy]
      refine am_go rfl ?_
      iterate 2 refine am_g0 rfl rfl ?_
      refine am_tt (show (3 : Int32) ≤ (nI i) from nI_le (a := 3) (by omega) (by omega)) ?_
      exact am_kl (key227 u ru hRu uw) rfl
    | succ j ih =>
      intro i hi y hy
      have this := ih (i + 1) (by omega) (mx y (metA S i).toInt64) (by rw [itN, ← hy, hF7j, metS_t (by omega)])
      rw [← nI_1 i] at this
      refine am_go rfl ?_
      iterate 2 refine am_g0 rfl rfl ?_
      refine am_ff (show ¬ (3 : Int32) ≤ (nI i) from nI_ge (b := 3) (by omega) (by omega)) ?_
      iterate 6 refine am_g0 rfl rfl ?_
      refine ⟨(some (.int (metA S i)), u), m_metBy (by omega) (by omega) um, ?_⟩
      refine am_to (lv' := [(0, .ref 0), (1, .long y), (3, .int (nI i))]) (st' := [.int (metA S i), .long (31 * y)]) (w' := u) rfl rfl rfl ?_
      iterate 2 refine am_g0 rfl rfl ?_
      refine am_topL (y := mx y (metA S i).toInt64) (rfl) ?_
      iterate 3 refine am_g0 rfl rfl ?_
      exact am_kl this rfl
  obtain ⟨D5, hD5⟩ : ∃ v, v = dg5 S := ⟨_, rfl⟩
  have hD65 : D6 = mx (mx D5 (whoA S (wet0 S) 0).toInt64) (whoA S (wet0 S) 1).toInt64 := by rw [hD6, hD5]; unfold dg6; rw [show whoS S 0 = whoA S (wet0 S) 0 from whoS_t (k := 0) (by omega), show whoS S 1 = whoA S (wet0 S) 1 from whoS_t (k := 1) (by omega)]
  have key171 : ∀ u : am_M, RM u S → mRd u S → am_R shM mi_X12_digest (am_D shM (d - 1)) (fun o => o.1 = some (.long (mx (mx (mx (mx (mx (mx (mx D7 v0.toInt64) v1.toInt64) v2.toInt64) v3.toInt64) v4.toInt64) v5.toInt64) v6.toInt64)) ∧ RM o.2 S) 171 [(0, .ref 0), (1, .long D5)] [] u := by
    intro u ru hRu
    obtain ⟨⟨r1, w1⟩, ⟨e1, f1, g1⟩, hL⟩ := m_lives (d := d - 1) (by omega) hRu.1 (ru.W g) hRu.2.1 hq (hRu.P g)
    dsimp only at e1 f1 g1
    subst e1
    have ru1 : RM w1 S := ru.fr f1 (by decide) (by decide)
    have hRu1 : mRd w1 S := hRu.fl f1 (by decide) (by decide)
    have hst := g1.st g.2.1.good g.2.2.2
    have hw0 : am_D shM (d - 1) mi_X12_whoBy [.ref 0, .int (nI 0)] w1 (some (.int (whoA S (wet0 S) 0)), w1) := m_whoBy (by omega) hRu1.2.1 hq (by omega) hst
    have hw1 : am_D shM (d - 1) mi_X12_whoBy [.ref 0, .int (nI 1)] w1 (some (.int (whoA S (wet0 S) 1)), w1) := m_whoBy (by omega) hRu1.2.1 hq (by omega) hst
    have this := key203 w1 ru1 hRu1 (fun l hl => g1.2.1 l hl) g1.2.2 3 0 (by omega) D6 rfl
    rw [hD65] at this
    generalize whoA S (wet0 S) 0 = a0 at *
    generalize whoA S (wet0 S) 1 = a1 at *
    refine am_go rfl ?_
    refine am_g0 rfl rfl ?_
    refine ⟨(none, w1), hL, ?_⟩
    refine am_to (lv' := [(0, .ref 0), (1, .long D5)]) (st' := []) (w' := w1) rfl rfl rfl ?_
    iterate 6 refine am_g0 rfl rfl ?_
    refine ⟨(some (.int a0), w1), hw0, ?_⟩
    refine am_to (lv' := [(0, .ref 0), (1, .long D5)]) (st' := [.int a0, .long (31 * D5)]) (w' := w1) rfl rfl rfl ?_
    iterate 2 refine am_g0 rfl rfl ?_
    refine am_topL (y := mx D5 a0.toInt64) (rfl) ?_
    refine am_g0 rfl rfl ?_
    refine am_to (lv' := [(0, .ref 0), (1, .long (mx D5 a0.toInt64))]) (st' := []) (w' := w1) rfl rfl rfl ?_
    iterate 6 refine am_g0 rfl rfl ?_
    refine ⟨(some (.int a1), w1), hw1, ?_⟩
    refine am_to (lv' := [(0, .ref 0), (1, .long (mx D5 a0.toInt64))]) (st' := [.int a1, .long (31 * (mx D5 a0.toInt64))]) (w' := w1) rfl rfl rfl ?_
    iterate 2 refine am_g0 rfl rfl ?_
    refine am_topL (y := mx (mx D5 a0.toInt64) a1.toInt64) (rfl) ?_
    iterate 3 refine am_g0 rfl rfl ?_
    exact am_kl this rfl
  obtain ⟨D4, hD4⟩ : ∃ v, v = dg4 S := ⟨_, rfl⟩
  obtain ⟨F5, hF5⟩ : ∃ F : Int64 → Nat → Int64, F = fun h p => digP S (digW S h p) p := ⟨_, rfl⟩
  have hF5j : ∀ x p, F5 x p = digP S (digW S x p) p := fun x j => by rw [hF5]
  have hD54 : D5 = itN F5 D4 S.q := by rw [hD5, hD4, hF5]; rfl
  have key150 : ∀ j i : Nat, i + j = S.q → ∀ u : am_M, RM u S → mRd u S → ∀ y, y = itN F5 D4 i → am_R shM mi_X12_digest (am_D shM (d - 1)) (fun o => o.1 = some (.long (mx (mx (mx (mx (mx (mx (mx D7 v0.toInt64) v1.toInt64) v2.toInt64) v3.toInt64) v4.toInt64) v5.toInt64) v6.toInt64)) ∧ RM o.2 S) 150 [(0, .ref 0), (1, .long y), (3, .int (nI i))] [] u := by
    intro j
    induction j with
    | zero =>
      intro i hi u ru hRu y hy
      rw [show i = S.q by omega, ← hD54] at hy
      rw [hy]
      refine am_go rfl ?_
      iterate 3 refine am_g0 rfl rfl ?_
      refine am_tt (show (u.1 0 14 : Int32) ≤ (nI i) from by rw [hRu.2.1]; exact nI_le (by omega) (by omega)) ?_
      exact am_kl (key171 u ru hRu) rfl
    | succ j ih =>
      intro i hi u ru hRu y hy
      obtain ⟨⟨r1, w1⟩, ⟨e1, f1⟩, hT⟩ := m_tellsPerson (d := d - 1) (p := i) (h := y) (by omega) ru hRu g (by omega)
      dsimp only at e1 f1
      have this := ih (i + 1) (by omega) w1 (ru.fr f1 (by decide) (by decide)) (hRu.fl f1 (by decide) (by decide)) (digP S (digW S y i) i) (by rw [itN, ← hy, hF5j])
      rw [← nI_1 i] at this
      generalize digP S (digW S y i) i = y1 at *
      subst e1
      refine am_go rfl ?_
      iterate 3 refine am_g0 rfl rfl ?_
      refine am_ff (show ¬ (u.1 0 14 : Int32) ≤ (nI i) from by rw [hRu.2.1]; exact nI_ge (by omega) (by omega)) ?_
      iterate 4 refine am_g0 rfl rfl ?_
      refine ⟨(some (.long y1), w1), hT, ?_⟩
      refine am_to (lv' := [(0, .ref 0), (1, .long y), (3, .int (nI i))]) (st' := [.long y1]) (w' := w1) rfl rfl rfl ?_
      iterate 3 refine am_g0 rfl rfl ?_
      exact am_kl this rfl
  obtain ⟨D3, hD3⟩ : ∃ v, v = dg3 S := ⟨_, rfl⟩
  have hD43 : D4 = itN (digL S) D3 S.m := by rw [hD4, hD3]; rfl
  have hdL : ∀ y l, digL S y l = mx (itN (fun h j => mx h (lastS S (nI l) (nI j)).toInt64) y 6) (wornS S (nI l)).toInt64 := fun _ _ => rfl
  obtain ⟨L, hL⟩ : ∃ L, L = digL S := ⟨_, rfl⟩
  rw [← hL] at hD43 hdL
  obtain ⟨M, hM⟩ : ∃ M, S.m = M := ⟨_, rfl⟩
  have key89 : ∀ u : am_M, RM u S → mRd u S → (∀ l, l < 8 → u.1 20 l = nI (wornA S l)) → ∀ j i : Nat, i + j = M → ∀ y, y = itN L D3 i → am_R shM mi_X12_digest (am_D shM (d - 1)) (fun o => o.1 = some (.long (mx (mx (mx (mx (mx (mx (mx D7 v0.toInt64) v1.toInt64) v2.toInt64) v3.toInt64) v4.toInt64) v5.toInt64) v6.toInt64)) ∧ RM o.2 S) 89 [(0, .ref 0), (1, .long y), (3, .int (nI i))] [] u := by
    intro u ru hRu uw j
    have hmu : u.1 0 10 = nI M := by rw [← hM]; exact hRu.1.2.2.2.2.2.2.1
    rw [hM] at hD43 hm8
    induction j with
    | zero =>
      intro i hi y hy
      rw [show i = M by omega, ← hD43] at hy
      rw [hy]
      refine am_go rfl ?_
      iterate 3 refine am_g0 rfl rfl ?_
      refine am_tt (show (u.1 0 10 : Int32) ≤ (nI i) from by rw [hmu]; exact nI_le (by omega) (by omega)) ?_
      refine am_go rfl ?_
      refine am_g0 rfl rfl ?_
      exact am_kl (key150 S.q 0 (by omega) u ru hRu D4 rfl) rfl
    | succ j ih =>
      intro i hi y hy
      have hiM : i < S.m := by rw [hM]; omega
      have hm8' : S.m ≤ 8 := by rw [hM]; exact hm8
      obtain ⟨FL, hFL⟩ : ∃ F : Int64 → Nat → Int64, F = fun h j => mx h (lastS S (nI i) (nI j)).toInt64 := ⟨_, rfl⟩
      have hFLj : ∀ x j, FL x j = mx x (lastS S (nI i) (nI j)).toInt64 := fun x j => by rw [hFL]
      have this := ih (i + 1) (by omega) (L y i) (by rw [itN, ← hy])
      rw [← nI_1 i, hdL, wornS_t hiM hm8', ← hFL] at this
      refine am_go rfl ?_
      iterate 3 refine am_g0 rfl rfl ?_
      refine am_ff (show ¬ (u.1 0 10 : Int32) ≤ (nI i) from by rw [hmu]; exact nI_ge (by omega) (by omega)) ?_
      iterate 2 refine am_g0 rfl rfl ?_
      have key100 : ∀ j k : Nat, k + j = 6 → ∀ z, z = itN FL y k → am_R shM mi_X12_digest (am_D shM (d - 1)) (fun o => o.1 = some (.long (mx (mx (mx (mx (mx (mx (mx D7 v0.toInt64) v1.toInt64) v2.toInt64) v3.toInt64) v4.toInt64) v5.toInt64) v6.toInt64)) ∧ RM o.2 S) 100 [(0, .ref 0), (1, .long z), (3, .int (nI i)), (4, .int (nI k))] [] u := by
        intro j
        induction j with
        | zero =>
          intro k hk z hz
          rw [show k = 6 by omega] at hz
          rw [← hz] at this
          refine am_go rfl ?_
          iterate 2 refine am_g0 rfl rfl ?_
          refine am_tt (show (6 : Int32) ≤ (nI k) from nI_le (a := 6) (by omega) (by omega)) ?_
          refine am_go rfl ?_
          iterate 5 refine am_g0 rfl rfl ?_
          refine am_glN (n := 8) (k := i) rfl rfl (by omega) (by decide) ?_
          refine am_top (y := nI (wornA S i)) (uw i (by omega)) ?_
          iterate 2 refine am_g0 rfl rfl ?_
          refine am_topL (y := mx z (nI (wornA S i)).toInt64) (rfl) ?_
          iterate 3 refine am_g0 rfl rfl ?_
          exact am_kl this rfl
        | succ j ih2 =>
          intro k hk z hz
          have this := ih2 (k + 1) (by omega) (mx z (lastA S i k).toInt64) (by rw [itN, ← hz, hFLj, lastS_t hiM hm8' (by omega)])
          rw [← nI_1 k] at this
          refine am_go rfl ?_
          iterate 2 refine am_g0 rfl rfl ?_
          refine am_ff (show ¬ (6 : Int32) ≤ (nI k) from nI_ge (b := 6) (by omega) (by omega)) ?_
          iterate 7 refine am_g0 rfl rfl ?_
          refine ⟨(some (.int (lastA S i k)), u), m_lastBy (by omega) g hRu.1.2.2.2.2.2.2 hiM (by omega), ?_⟩
          refine am_to (lv' := [(0, .ref 0), (1, .long z), (3, .int (nI i)), (4, .int (nI k))]) (st' := [.int (lastA S i k), .long (31 * z)]) (w' := u) rfl rfl rfl ?_
          iterate 2 refine am_g0 rfl rfl ?_
          refine am_topL (y := mx z (lastA S i k).toInt64) (rfl) ?_
          iterate 3 refine am_g0 rfl rfl ?_
          exact am_kl this rfl
      exact am_kl (key100 6 0 (by omega) y rfl) rfl
  obtain ⟨D2, hD2⟩ : ∃ v, v = dg2 S := ⟨_, rfl⟩
  obtain ⟨F3, hF3⟩ : ∃ F : Int64 → Nat → Int64, F = fun h k => mx h (cellS S (nI k)).toInt64 := ⟨_, rfl⟩
  have hF3j : ∀ x j, F3 x j = mx x (cellS S (nI j)).toInt64 := fun x j => by rw [hF3]
  have hD32 : D3 = itN F3 D2 S.V.1 := by rw [hD3, hD2, hF3]; rfl
  have hct : ∀ c, c < S.V.1 → cellS S (nI c) = nI (S.V.2.1 c) := fun c hc => cellS_t hc h36
  have key59 : ∀ u : am_M, RM u S → mRd u S → (∀ l, l < 8 → u.1 20 l = nI (wornA S l)) → ∀ j i : Nat, i + j = S.V.1 → ∀ y, y = itN F3 D2 i → am_R shM mi_X12_digest (am_D shM (d - 1)) (fun o => o.1 = some (.long (mx (mx (mx (mx (mx (mx (mx D7 v0.toInt64) v1.toInt64) v2.toInt64) v3.toInt64) v4.toInt64) v5.toInt64) v6.toInt64)) ∧ RM o.2 S) 59 [(0, .ref 0), (1, .long y), (3, .int (nI i))] [] u := by
    intro u ru hRu uw j
    have hcu : u.1 0 7 = nI S.V.1 := hRu.1.1.1
    have hc7 : ∀ c, c < S.V.1 → u.1 7 c = nI (S.V.2.1 c) := hRu.1.1.2.2
    generalize S.V.1 = N at *
    induction j with
    | zero =>
      intro i hi y hy
      rw [show i = N by omega, ← hD32] at hy
      rw [hy]
      refine am_go rfl ?_
      iterate 3 refine am_g0 rfl rfl ?_
      refine am_tt (show (u.1 0 7 : Int32) ≤ (nI i) from by rw [hcu]; exact nI_le (by omega) (by omega)) ?_
      refine am_go rfl ?_
      refine am_g0 rfl rfl ?_
      exact am_kl (key89 u ru hRu uw M 0 (by omega) D3 rfl) rfl
    | succ j ih =>
      intro i hi y hy
      have hcs := hct i (by omega)
      have hci := hc7 i (by omega)
      have this := ih (i + 1) (by omega) (mx y (nI (S.V.2.1 i)).toInt64) (by rw [itN, ← hy, hF3j, hcs])
      rw [← nI_1 i] at this
      generalize nI (S.V.2.1 i) = ci at *
      refine am_go rfl ?_
      iterate 3 refine am_g0 rfl rfl ?_
      refine am_ff (show ¬ (u.1 0 7 : Int32) ≤ (nI i) from by rw [hcu]; exact nI_ge (by omega) (by omega)) ?_
      iterate 6 refine am_g0 rfl rfl ?_
      refine am_glN (n := 36) (k := i) rfl rfl (by omega) (by decide) ?_
      refine am_top (y := ci) (hci) ?_
      iterate 2 refine am_g0 rfl rfl ?_
      refine am_topL (y := mx y ci.toInt64) (rfl) ?_
      iterate 3 refine am_g0 rfl rfl ?_
      exact am_kl this rfl
  obtain ⟨D1, hD1⟩ : ∃ v, v = dg1 S := ⟨_, rfl⟩
  obtain ⟨F2, hF2⟩ : ∃ F : Int64 → Nat → Int64, F = fun h k => mx h (faultS S (nI k)).toInt64 := ⟨_, rfl⟩
  have hF2j : ∀ x j, F2 x j = mx x (faultS S (nI j)).toInt64 := fun x j => by rw [hF2]
  have hD21 : D2 = itN F2 D1 3 := by rw [hD2, hD1, hF2]; rfl
  have key33 : ∀ j i : Nat, i + j = 3 → ∀ u : am_M, RM u S → mRd u S → (∀ l, l < 8 → u.1 20 l = nI (wornA S l)) → ∀ y, y = itN F2 D1 i → am_R shM mi_X12_digest (am_D shM (d - 1)) (fun o => o.1 = some (.long (mx (mx (mx (mx (mx (mx (mx D7 v0.toInt64) v1.toInt64) v2.toInt64) v3.toInt64) v4.toInt64) v5.toInt64) v6.toInt64)) ∧ RM o.2 S) 33 [(0, .ref 0), (1, .long y), (3, .int (nI i))] [] u := by
    intro j
    induction j with
    | zero =>
      intro i hi u ru hRu uw y hy
      rw [show i = 3 by omega, ← hD21] at hy
      rw [hy]
      refine am_go rfl ?_
      iterate 2 refine am_g0 rfl rfl ?_
      refine am_tt (show (3 : Int32) ≤ (nI i) from nI_le (a := 3) (by omega) (by omega)) ?_
      refine am_go rfl ?_
      refine am_g0 rfl rfl ?_
      exact am_kl (key59 u ru hRu uw _ 0 (Nat.zero_add _) D2 rfl) rfl
    | succ j ih =>
      intro i hi u ru hRu uw y hy
      obtain ⟨⟨r1, w1⟩, ⟨e1, f1, g1⟩, hT⟩ := m_readsText (d := d - 1) (t := i) (by omega) ru g (by omega)
      dsimp only at e1 f1 g1
      have this := ih (i + 1) (by omega) w1 (ru.fr f1 (by decide) (by decide)) (g1 hRu) (fun l hl => by rw [f1.1 20 (by decide) (by decide)]; exact uw l hl) (mx y (opI (fltS S i)).toInt64) (by rw [itN, ← hy, hF2j, faultS_t (by omega)])
      rw [← nI_1 i] at this
      generalize opI (fltS S i) = fi at *
      subst e1
      refine am_go rfl ?_
      iterate 2 refine am_g0 rfl rfl ?_
      refine am_ff (show ¬ (3 : Int32) ≤ (nI i) from nI_ge (b := 3) (by omega) (by omega)) ?_
      iterate 6 refine am_g0 rfl rfl ?_
      refine ⟨(some (.int fi), w1), hT, ?_⟩
      refine am_to (lv' := [(0, .ref 0), (1, .long y), (3, .int (nI i))]) (st' := [.int fi, .long (31 * y)]) (w' := w1) rfl rfl rfl ?_
      iterate 2 refine am_g0 rfl rfl ?_
      refine am_topL (y := mx y fi.toInt64) (rfl) ?_
      iterate 3 refine am_g0 rfl rfl ?_
      exact am_kl this rfl
  obtain ⟨F0, hF0⟩ : ∃ F : Int64 → Nat → Int64, F = fun h k => mx h (countS S (nI k)).toInt64 := ⟨_, rfl⟩
  have hF0j : ∀ x j, F0 x j = mx x (countS S (nI j)).toInt64 := fun x j => by rw [hF0]
  have hD10 : D1 = itN F0 17 8 := by rw [hD1, hF0]; rfl
  have key6 : ∀ j i : Nat, i + j = 8 → ∀ u : am_M, RM u S → (i ≠ 0 → mFi u S) → ∀ y, y = itN F0 17 i → am_R shM mi_X12_digest (am_D shM (d - 1)) (fun o => o.1 = some (.long (mx (mx (mx (mx (mx (mx (mx D7 v0.toInt64) v1.toInt64) v2.toInt64) v3.toInt64) v4.toInt64) v5.toInt64) v6.toInt64)) ∧ RM o.2 S) 6 [(0, .ref 0), (1, .long y), (3, .int (nI i))] [] u := by
    intro j
    induction j with
    | zero =>
      intro i hi u ru hfi y hy
      have hF := hfi (by omega)
      rw [show i = 8 by omega, ← hD10] at hy
      rw [hy]
      refine am_go rfl ?_
      iterate 2 refine am_g0 rfl rfl ?_
      refine am_tt (show (8 : Int32) ≤ (nI i) from nI_le (a := 8) (by omega) (by omega)) ?_
      refine am_go rfl ?_
      refine am_g0 rfl rfl ?_
      exact am_kl (key33 3 0 (by omega) u ru hF.2.1 (fun l hl => hF.2.2.2.1 l hl) D1 rfl) rfl
    | succ j ih =>
      intro i hi u ru hfi y hy
      obtain ⟨⟨r1, w1⟩, ⟨e1, f1⟩, hT⟩ := m_count (d := d - 1) (x := nI i) (by omega) ru g
      dsimp only at e1 f1
      have this := ih (i + 1) (by omega) w1 f1.1 (fun _ => f1) (mx y (countS S (nI i)).toInt64) (by rw [itN, ← hy, hF0j])
      rw [← nI_1 i] at this
      generalize countS S (nI i) = ci at *
      subst e1
      refine am_go rfl ?_
      iterate 2 refine am_g0 rfl rfl ?_
      refine am_ff (show ¬ (8 : Int32) ≤ (nI i) from nI_ge (b := 8) (by omega) (by omega)) ?_
      iterate 6 refine am_g0 rfl rfl ?_
      refine ⟨(some (.int ci), w1), hT, ?_⟩
      refine am_to (lv' := [(0, .ref 0), (1, .long y), (3, .int (nI i))]) (st' := [.int ci, .long (31 * y)]) (w' := w1) rfl rfl rfl ?_
      iterate 2 refine am_g0 rfl rfl ?_
      refine am_topL (y := mx y ci.toInt64) (rfl) ?_
      iterate 3 refine am_g0 rfl rfl ?_
      exact am_kl this rfl
  refine am_dex (by omega) rfl rfl ?_
  iterate 4 refine am_g0 rfl rfl ?_
  exact am_kl (key6 8 0 (by omega) w r (fun z => absurd rfl z) 17 rfl) rfl
