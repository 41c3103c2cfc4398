/-! the model: digest -/
theorem itN_congr {F G : Int64 → Nat → Int64} {h : Int64} : ∀ {n : Nat}, (∀ x j, j < n → F x j = G x j) → itN F h n = itN G h n
  | 0, _ => rfl
  | n + 1, e => by rw [itN, itN, itN_congr (fun x j hj => e x j (by omega)), e _ n (by omega)]
theorem m_tellsStep {d k s : Nat} {h : Int64} {f : Nat → Int32} {w : am_M} (hd : 1 ≤ d) (hk : k < 8) (hs : s < 30) (hf : ∀ j, j < 4 → w.1 18 (32 * s + 4 * k + j) = f j) : am_D shM d mi_X12_tellsStep [.ref 0, .long h, .int (nI k), .int (nI s)] w (some (.long (itN (fun h j => mx h (f j).toInt64) h 4)), w) := by
  obtain ⟨F, hF⟩ : ∃ F : Int64 → Nat → Int64, F = fun h j => mx h (f j).toInt64 := ⟨_, rfl⟩
  have hFj : ∀ x j, F x j = mx x (f j).toInt64 := fun x j => by rw [hF]
  rw [← hF]
  refine am_def (by omega) rfl rfl ?_
  iterate 4 refine am_g0 rfl rfl ?_
  have key : ∀ j i : Nat, i + j = 4 → ∀ y, y = itN F h i → am_R shM mi_X12_tellsStep (am_D shM (d - 1)) (fun r => r = (some (.long (itN F h 4)), w)) 6 [(0, .ref 0), (3, .int (nI k)), (4, .int (nI s)), (5, .long y), (7, .int (nI i))] [] w := by
    intro j
    induction j with
    | zero =>
      intro i hi y hy
      refine am_go rfl ?_
      iterate 2 refine am_g0 rfl rfl ?_
      refine am_tt (show (4 : Int32) ≤ (nI i) from nI_le (a := 4) (by omega) (by omega)) ?_
      refine am_go rfl ?_
      refine am_g0 rfl rfl ?_
      exact ⟨rfl, by rw [hy, show i = 4 by omega]⟩
    | succ j ih =>
      intro i hi y hy
      have this := ih (i + 1) (by omega) (mx y (f i).toInt64) (by rw [itN, ← hy, hFj])
      rw [← nI_1 i] at this
      refine am_go rfl ?_
      iterate 2 refine am_g0 rfl rfl ?_
      refine am_ff (show ¬ (4 : Int32) ≤ (nI i) from nI_ge (b := 4) (by omega) (by omega)) ?_
      iterate 14 refine am_g0 rfl rfl ?_
      refine am_glE (n := 960) (k := 32 * s + 4 * k + i) rfl rfl (ix324 s k i) (by omega) (by decide) ?_
      refine am_top (y := f i) (hf i (by omega)) ?_
      iterate 2 refine am_g0 rfl rfl ?_
      refine am_topL (y := mx y (f i).toInt64) (rfl) ?_
      iterate 3 refine am_g0 rfl rfl ?_
      exact am_kl this rfl
  exact am_kl (key 4 0 (by omega) h rfl) rfl
theorem personS_t {S : Sp} {p j : Nat} (hp : p < S.q) (hq : S.q ≤ 8) (hj : j < 5) : personS S (nI p) (nI j) = nI (S.pf p j) := by unfold personS; rw [dI_t hp (by omega), dI_t hj (by omega)]
theorem atS_t {S : Sp} {s p j : Nat} (hs : s < 30) (hp : p < S.q) (hq : S.q ≤ 8) (hj : j < 4) : atS S (nI s) (nI p) (nI j) = rowI S.V (prS S.pf p) (wet0 S) s j := by unfold atS; rw [dI_t hs (by omega), dI_t hp (by omega), dI_t hj (by omega)]
theorem endsS_t {S : Sp} {p j : Nat} (hp : p < S.q) (hq : S.q ≤ 8) (hj : j < 2) : endsS S (nI p) (nI j) = endsA S p j := by unfold endsS; rw [dI_t hp (by omega), dI_t hj (by omega)]
theorem pairQ_t {S : Sp} {p j : Nat} (hp : p < S.q) (hq : S.q ≤ 8) (hj : j < 3) : pairQ S (nI p) (nI j) = pairA S p j := by unfold pairQ; rw [dI_t hp (by omega), dI_t hj (by omega)]
theorem solesS_t {S : Sp} {p : Nat} (hp : p < S.q) (hq : S.q ≤ 8) : solesS S (nI p) = solesA S p := by unfold solesS; rw [dI_t hp (by omega)]
theorem woreQ_t {S : Sp} {p j : Nat} (hp : p < S.q) (hq : S.q ≤ 8) (hj : j < 2) : woreQ S (nI p) (nI j) = bitsS (woreA S p j) 8 := by unfold woreQ; rw [dI_t hp (by omega), dI_t hj (by omega)]
theorem askQ_t {S : Sp} {p : Nat} (hp : p < S.q) (hq : S.q ≤ 8) : askQ S (nI p) = askA S p := by unfold askQ; rw [dI_t hp (by omega)]
theorem stormQ_t {S : Sp} {c l p j : Nat} (hc : c < 17) (hl : l < 10) (hp : p < S.q) (hq : S.q ≤ 8) (hj : j < 2) : stormQ S (nI c) (nI l) (nI p) (nI j) = lN (stormR S p c l j) := by unfold stormQ; rw [dI_t hc (by omega), dI_t hl (by omega), dI_t hp (by omega), dI_t hj (by omega)]
theorem stepN_lt {k : Nat} : stepN k < 30 := by unfold stepN; split; omega; split; omega; split <;> omega
set_option maxHeartbeats 4000000 in
theorem m_tellsPerson {d p : Nat} {h : Int64} {w : am_M} {S : Sp} (hd : 8 ≤ d) (r : RM w S) (hR : mRd w S) (g : SG S) (hp : p < S.q) : ∃ o : am_O, (o.1 = some (.long (digP S (digW S h p) p)) ∧ am_fx [13, 14, 15, 16, 17, 18, 19, 20, 23] [28, 29, 30] w o.2) ∧ am_D shM d mi_X12_tellsPerson [.ref 0, .long h, .int (nI p)] w o := by
  have hq := g.2.2.1
  obtain ⟨F1, hF1⟩ : ∃ F : Int64 → Nat → Int64, F = fun h j => mx h (personS S (nI p) (nI j)).toInt64 := ⟨_, rfl⟩
  have hF1j : ∀ x j, F1 x j = mx x (personS S (nI p) (nI j)).toInt64 := fun x j => by rw [hF1]
  obtain ⟨FW, hFW⟩ : ∃ F : Int64 → Nat → Int64, F = fun h k => itN (fun h j => mx h (atS S (nI (stepN k)) (nI p) (nI j)).toInt64) h 4 := ⟨_, rfl⟩
  have hFWj : ∀ x k, FW x k = itN (fun h j => mx h (atS S (nI (stepN k)) (nI p) (nI j)).toInt64) x 4 := fun x j => by rw [hFW]
  obtain ⟨FP, hFP⟩ : ∃ F : Int64 → Nat → Int64, F = fun h j => mx h (pairQ S (nI p) (nI j)).toInt64 := ⟨_, rfl⟩
  have hFPj : ∀ x j, FP x j = mx x (pairQ S (nI p) (nI j)).toInt64 := fun x j => by rw [hFP]
  obtain ⟨v0, hv0⟩ : ∃ v, v = endsS S (nI p) 0 := ⟨_, rfl⟩
  obtain ⟨v1, hv1⟩ : ∃ v, v = endsS S (nI p) 1 := ⟨_, rfl⟩
  obtain ⟨v2, hv2⟩ : ∃ v, v = solesS S (nI p) := ⟨_, rfl⟩
  obtain ⟨v3, hv3⟩ : ∃ v, v = woreQ S (nI p) 0 := ⟨_, rfl⟩
  obtain ⟨v4, hv4⟩ : ∃ v, v = woreQ S (nI p) 1 := ⟨_, rfl⟩
  obtain ⟨v5, hv5⟩ : ∃ v, v = askQ S (nI p) := ⟨_, rfl⟩
  obtain ⟨v6, hv6⟩ : ∃ v, v = stormQ S 5 5 (nI p) 0 := ⟨_, rfl⟩
  obtain ⟨v7, hv7⟩ : ∃ v, v = stormQ S 5 5 (nI p) 1 := ⟨_, rfl⟩
  have hW : digW S h p = itN FW (itN F1 h 5) 4 := by unfold digW; rw [hFW, hF1]
  have hA : digP S (digW S h p) p = mx (mx (mx (mx (mx (mx (itN FP (mx (mx (itN FW (itN F1 h 5) 4) v0.toInt64) v1.toInt64) 3) v2.toInt64) v3.toInt64) v4.toInt64) v5.toInt64) v6) v7 := by unfold digP; rw [hW, hFP, hv0, hv1, hv2, hv3, hv4, hv5, hv6, hv7]
  rw [hA]
  replace hv0 : v0 = endsA S p 0 := hv0.trans (endsS_t (j := 0) hp hq (by omega))
  replace hv1 : v1 = endsA S p 1 := hv1.trans (endsS_t (j := 1) hp hq (by omega))
  replace hv2 := hv2.trans (solesS_t hp hq)
  replace hv3 : v3 = bitsS (woreA S p 0) 8 := hv3.trans (woreQ_t (j := 0) hp hq (by omega))
  replace hv4 : v4 = bitsS (woreA S p 1) 8 := hv4.trans (woreQ_t (j := 1) hp hq (by omega))
  replace hv5 := hv5.trans (askQ_t hp hq)
  replace hv6 : v6 = lN (stormR S p 5 5 0) := hv6.trans (stormQ_t (c := 5) (l := 5) (j := 0) (by omega) (by omega) hp hq (by omega))
  replace hv7 : v7 = lN (stormR S p 5 5 1) := hv7.trans (stormQ_t (c := 5) (l := 5) (j := 1) (by omega) (by omega) hp hq (by omega))
  clear hA hW hFP hF1 hFW
  have key143 : ∀ u : am_M, am_fx [13, 14, 15, 16, 17, 18, 19, 20, 23] [28, 29, 30] w u → am_R shM mi_X12_tellsPerson (am_D shM (d - 1)) (fun o => o.1 = some (.long (mx (mx (mx (mx (mx (mx (itN FP (mx (mx (itN FW (itN F1 h 5) 4) v0.toInt64) v1.toInt64) 3) v2.toInt64) v3.toInt64) v4.toInt64) v5.toInt64) v6) v7)) ∧ am_fx [13, 14, 15, 16, 17, 18, 19, 20, 23] [28, 29, 30] w o.2) 143 [(0, .ref 0), (3, .int (nI p)), (4, .long (itN FP (mx (mx (itN FW (itN F1 h 5) 4) v0.toInt64) v1.toInt64) 3))] [] u := by
    intro u fu
    generalize itN FP (mx (mx (itN FW (itN F1 h 5) 4) v0.toInt64) v1.toInt64) 3 = Y
    have ru : RM u S := r.fr fu (by decide) (by decide)
    have hRu : mRd u S := hR.fl fu (by decide) (by decide)
    obtain ⟨⟨r1, w1⟩, ⟨e1, f1⟩, hD1⟩ := m_solesOf (d := d - 1) (by omega) ru hRu g hp
    dsimp only at e1 f1
    rw [← hv2] at e1
    subst e1
    have ru1 : RM w1 S := ru.fr f1 (by decide) (by decide)
    have hRu1 : mRd w1 S := hRu.fl f1 (by decide) (by decide)
    obtain ⟨⟨r2, w2⟩, ⟨e2, f2⟩, hD2⟩ := m_woreOf (d := d - 1) (f := 0) (by omega) ru1 hRu1 g hp (by omega)
    dsimp only at e2 f2
    rw [← hv3] at e2
    subst e2
    have ru2 : RM w2 S := ru1.fr f2 (by decide) (by decide)
    have hRu2 : mRd w2 S := hRu1.fl f2 (by decide) (by decide)
    obtain ⟨⟨r3, w3⟩, ⟨e3, f3⟩, hD3⟩ := m_woreOf (d := d - 1) (f := 1) (by omega) ru2 hRu2 g hp (by omega)
    dsimp only at e3 f3
    rw [← hv4] at e3
    subst e3
    have ru3 : RM w3 S := ru2.fr f3 (by decide) (by decide)
    have hRu3 : mRd w3 S := hRu2.fl f3 (by decide) (by decide)
    obtain ⟨⟨r4, w4⟩, ⟨e4, f4⟩, hD4⟩ := m_askOf (d := d - 1) (by omega) ru3 hRu3 g hp
    dsimp only at e4 f4
    rw [← hv5] at e4
    subst e4
    have ru4 : RM w4 S := ru3.fr f4 (by decide) (by decide)
    have hRu4 : mRd w4 S := hRu3.fl f4 (by decide) (by decide)
    obtain ⟨⟨r5, w5⟩, ⟨e5, f5⟩, hD5⟩ := m_stormOf (d := d - 1) (c := 5) (l := 5) (j := 0) (by omega) ru4 hRu4 g hp (by omega) (by omega) (by omega)
    dsimp only at e5 f5
    rw [← hv6] at e5
    subst e5
    have ru5 : RM w5 S := ru4.fr f5 (by decide) (by decide)
    have hRu5 : mRd w5 S := hRu4.fl f5 (by decide) (by decide)
    obtain ⟨⟨r6, w6⟩, ⟨e6, f6⟩, hD6⟩ := m_stormOf (d := d - 1) (c := 5) (l := 5) (j := 1) (by omega) ru5 hRu5 g hp (by omega) (by omega) (by omega)
    dsimp only at e6 f6
    rw [← hv7] at e6
    subst e6
    have ff : am_fx [13, 14, 15, 16, 17, 18, 19, 20, 23] [28, 29, 30] w w6 := (((((fu.tr (f1.mono (by decide) (by decide))).tr (f2.mono (by decide) (by decide))).tr (f3.mono (by decide) (by decide))).tr f4).tr (f5.mono (by decide) (by decide))).tr (f6.mono (by decide) (by decide))
    refine am_go rfl ?_
    iterate 5 refine am_g0 rfl rfl ?_
    refine ⟨(some (.int v2), w1), hD1, ?_⟩
    refine am_to (lv' := [(0, .ref 0), (3, .int (nI p)), (4, .long Y)]) (st' := [.int v2, .long (31 * Y)]) (w' := w1) rfl rfl rfl ?_
    iterate 2 refine am_g0 rfl rfl ?_
    refine am_topL (y := mx Y v2.toInt64) (rfl) ?_
    refine am_g0 rfl rfl ?_
    refine am_to (lv' := [(0, .ref 0), (3, .int (nI p)), (4, .long (mx Y v2.toInt64))]) (st' := []) (w' := w1) rfl rfl rfl ?_
    iterate 7 refine am_g0 rfl rfl ?_
    refine ⟨(some (.int v3), w2), hD2, ?_⟩
    refine am_to (lv' := [(0, .ref 0), (3, .int (nI p)), (4, .long (mx Y v2.toInt64))]) (st' := [.int v3, .long (31 * (mx Y v2.toInt64))]) (w' := w2) rfl rfl rfl ?_
    iterate 2 refine am_g0 rfl rfl ?_
    refine am_topL (y := mx (mx Y v2.toInt64) v3.toInt64) (rfl) ?_
    refine am_g0 rfl rfl ?_
    refine am_to (lv' := [(0, .ref 0), (3, .int (nI p)), (4, .long (mx (mx Y v2.toInt64) v3.toInt64))]) (st' := []) (w' := w2) rfl rfl rfl ?_
    iterate 7 refine am_g0 rfl rfl ?_
    refine ⟨(some (.int v4), w3), hD3, ?_⟩
    refine am_to (lv' := [(0, .ref 0), (3, .int (nI p)), (4, .long (mx (mx Y v2.toInt64) v3.toInt64))]) (st' := [.int v4, .long (31 * (mx (mx Y v2.toInt64) v3.toInt64))]) (w' := w3) rfl rfl rfl ?_
    iterate 2 refine am_g0 rfl rfl ?_
    refine am_topL (y := mx (mx (mx Y v2.toInt64) v3.toInt64) v4.toInt64) (rfl) ?_
    refine am_g0 rfl rfl ?_
    refine am_to (lv' := [(0, .ref 0), (3, .int (nI p)), (4, .long (mx (mx (mx Y v2.toInt64) v3.toInt64) v4.toInt64))]) (st' := []) (w' := w3) rfl rfl rfl ?_
    iterate 6 refine am_g0 rfl rfl ?_
    refine ⟨(some (.int v5), w4), hD4, ?_⟩
    refine am_to (lv' := [(0, .ref 0), (3, .int (nI p)), (4, .long (mx (mx (mx Y v2.toInt64) v3.toInt64) v4.toInt64))]) (st' := [.int v5, .long (31 * (mx (mx (mx Y v2.toInt64) v3.toInt64) v4.toInt64))]) (w' := w4) rfl rfl rfl ?_
    iterate 2 refine am_g0 rfl rfl ?_
    refine am_topL (y := mx (mx (mx (mx Y v2.toInt64) v3.toInt64) v4.toInt64) v5.toInt64) (rfl) ?_
    refine am_g0 rfl rfl ?_
    refine am_to (lv' := [(0, .ref 0), (3, .int (nI p)), (4, .long (mx (mx (mx (mx Y v2.toInt64) v3.toInt64) v4.toInt64) v5.toInt64))]) (st' := []) (w' := w4) rfl rfl rfl ?_
    iterate 9 refine am_g0 rfl rfl ?_
    refine ⟨(some (.long v6), w5), hD5, ?_⟩
    refine am_to (lv' := [(0, .ref 0), (3, .int (nI p)), (4, .long (mx (mx (mx (mx Y v2.toInt64) v3.toInt64) v4.toInt64) v5.toInt64))]) (st' := [.long v6, .long (31 * (mx (mx (mx (mx Y v2.toInt64) v3.toInt64) v4.toInt64) v5.toInt64))]) (w' := w5) rfl rfl rfl ?_
    refine am_g0 rfl rfl ?_
    refine am_topL (y := mx (mx (mx (mx (mx Y v2.toInt64) v3.toInt64) v4.toInt64) v5.toInt64) v6) (rfl) ?_
    refine am_g0 rfl rfl ?_
    refine am_to (lv' := [(0, .ref 0), (3, .int (nI p)), (4, .long (mx (mx (mx (mx (mx Y v2.toInt64) v3.toInt64) v4.toInt64) v5.toInt64) v6))]) (st' := []) (w' := w5) rfl rfl rfl ?_
    iterate 9 refine am_g0 rfl rfl ?_
    refine ⟨(some (.long v7), w6), hD6, ?_⟩
    refine am_to (lv' := [(0, .ref 0), (3, .int (nI p)), (4, .long (mx (mx (mx (mx (mx Y v2.toInt64) v3.toInt64) v4.toInt64) v5.toInt64) v6))]) (st' := [.long v7, .long (31 * (mx (mx (mx (mx (mx Y v2.toInt64) v3.toInt64) v4.toInt64) v5.toInt64) v6))]) (w' := w6) rfl rfl rfl ?_
    refine am_g0 rfl rfl ?_
    refine am_topL (y := mx (mx (mx (mx (mx (mx Y v2.toInt64) v3.toInt64) v4.toInt64) v5.toInt64) v6) v7) (rfl) ?_
    refine am_g0 rfl rfl ?_
    exact ⟨rfl, rfl, ff⟩
  generalize hY1 : mx (mx (itN FW (itN F1 h 5) 4) v0.toInt64) v1.toInt64 = Y1 at key143
  have key114 : ∀ j i : Nat, i + j = 3 → ∀ u : am_M, am_fx [13, 14, 15, 16, 17, 18, 19, 20, 23] [28, 29, 30] w u → ∀ y, y = itN FP Y1 i → am_R shM mi_X12_tellsPerson (am_D shM (d - 1)) (fun o => o.1 = some (.long (mx (mx (mx (mx (mx (mx (itN FP Y1 3) v2.toInt64) v3.toInt64) v4.toInt64) v5.toInt64) v6) v7)) ∧ am_fx [13, 14, 15, 16, 17, 18, 19, 20, 23] [28, 29, 30] w o.2) 114 [(0, .ref 0), (3, .int (nI p)), (4, .long y), (6, .int (nI i))] [] u := by
    intro j
    induction j with
    | zero =>
      intro i hi u fu y hy
      rw [show i = 3 by omega] at hy
      rw [hy]
      have this := key143 u fu
      generalize itN FP Y1 3 = Z at this ⊢
      refine am_go rfl ?_
      iterate 2 refine am_g0 rfl rfl ?_
      refine am_tt (show (3 : Int32) ≤ (nI i) from nI_le (a := 3) (by omega) (by omega)) ?_
      exact am_kl this rfl
    | succ j ih =>
      intro i hi u fu y hy
      obtain ⟨⟨r1, w1⟩, ⟨e1, f1⟩, hD1⟩ := m_pairOf (d := d - 1) (j := i) (by omega) (r.fr fu (by decide) (by decide)) (hR.fl fu (by decide) (by decide)) g hp (by omega)
      dsimp only at e1 f1
      subst e1
      have this := ih (i + 1) (by omega) w1 (fu.tr (f1.mono (by decide) (by decide))) (mx y (pairA S p i).toInt64) (by rw [itN, ← hy, hFPj, pairQ_t hp hq (by omega)])
      rw [← nI_1 i] at this
      refine am_go rfl ?_
      iterate 2 refine am_g0 rfl rfl ?_
      refine am_ff (show ¬ (3 : Int32) ≤ (nI i) from nI_ge (b := 3) (by omega) (by omega)) ?_
      iterate 7 refine am_g0 rfl rfl ?_
      refine ⟨(some (.int (pairA S p i)), w1), hD1, ?_⟩
      refine am_to (lv' := [(0, .ref 0), (3, .int (nI p)), (4, .long y), (6, .int (nI i))]) (st' := [.int (pairA S p i), .long (31 * y)]) (w' := w1) rfl rfl rfl ?_
      iterate 2 refine am_g0 rfl rfl ?_
      refine am_topL (y := mx y (pairA S p i).toInt64) (rfl) ?_
      iterate 3 refine am_g0 rfl rfl ?_
      exact am_kl this rfl
  refine am_dex (by omega) rfl rfl ?_
  iterate 2 refine am_g0 rfl rfl ?_
  obtain ⟨⟨r1, w1⟩, ⟨e1, f1, g1⟩, hD1⟩ := m_lives (d := d - 1) (by omega) hR.1 (r.W g) hR.2.1 hq (hR.P g)
  dsimp only at e1 f1 g1
  subst e1
  refine ⟨(none, w1), hD1, ?_⟩
  refine am_to (lv' := [(0, .ref 0), (1, .long h), (3, .int (nI p))]) (st' := []) (w' := w1) rfl rfl rfl ?_
  have f1' : am_fx [13, 14, 15, 16, 17, 18, 19, 20, 23] [28, 29, 30] w w1 := f1.mono (by decide) (by decide)
  have h11 : ∀ j, j < 5 → w1.1 11 (5 * p + j) = nI (S.pf p j) := fun j hj => by rw [f1.1 11 (by decide) (by decide)]; exact hR.2.2 p hp j hj
  obtain ⟨_, hen, hrow⟩ := g1.1 p hp
  have hts : ∀ x k, k < 4 → am_D shM (d - 1) mi_X12_tellsStep [.ref 0, .long x, .int (nI p), .int (nI (stepN k))] w1 (some (.long (FW x k)), w1) := fun x k hk => by
    rw [hFWj]
    have := m_tellsStep (d := d - 1) (k := p) (s := stepN k) (h := x) (f := fun j => atS S (nI (stepN k)) (nI p) (nI j)) (w := w1) (by omega) (by omega) stepN_lt (fun j hj => by rw [atS_t stepN_lt hp hq hj]; exact hrow _ stepN_lt j hj)
    exact this
  iterate 4 refine am_g0 rfl rfl ?_
  have key10 : ∀ j i : Nat, i + j = 5 → ∀ y, y = itN F1 h i → am_R shM mi_X12_tellsPerson (am_D shM (d - 1)) (fun o => o.1 = some (.long (mx (mx (mx (mx (mx (mx (itN FP Y1 3) v2.toInt64) v3.toInt64) v4.toInt64) v5.toInt64) v6) v7)) ∧ am_fx [13, 14, 15, 16, 17, 18, 19, 20, 23] [28, 29, 30] w o.2) 10 [(0, .ref 0), (3, .int (nI p)), (4, .long y), (6, .int (nI i))] [] w1 := by
    intro j
    induction j with
    | zero =>
      intro i hi y hy
      rw [show i = 5 by omega] at hy
      have hY1' : Y1 = mx (mx (FW (FW (FW (FW y 0) 1) 2) 3) v0.toInt64) v1.toInt64 := by rw [← hY1, hy]; rfl
      have t0 := hts y 0 (by omega)
      have t1 := hts (FW y 0) 1 (by omega)
      have t2 := hts (FW (FW y 0) 1) 2 (by omega)
      have t3 := hts (FW (FW (FW y 0) 1) 2) 3 (by omega)
      generalize FW y 0 = y1 at *
      generalize FW y1 1 = y2 at *
      generalize FW y2 2 = y3 at *
      generalize FW y3 3 = y4 at *
      have this := key114 3 0 (by omega) w1 f1' Y1 rfl
      rw [hY1'] at this
      refine am_go rfl ?_
      iterate 2 refine am_g0 rfl rfl ?_
      refine am_tt (show (5 : Int32) ≤ (nI i) from nI_le (a := 5) (by omega) (by omega)) ?_
      refine am_go rfl ?_
      iterate 7 refine am_g0 rfl rfl ?_
      refine ⟨(some (.long y1), w1), t0, ?_⟩
      refine am_to (lv' := [(0, .ref 0), (3, .int (nI p)), (4, .long y)]) (st' := [.long y1, .ref 0, .ref 0, .ref 0]) (w' := w1) rfl rfl rfl ?_
      iterate 3 refine am_g0 rfl rfl ?_
      refine ⟨(some (.long y2), w1), t1, ?_⟩
      refine am_to (lv' := [(0, .ref 0), (3, .int (nI p)), (4, .long y)]) (st' := [.long y2, .ref 0, .ref 0]) (w' := w1) rfl rfl rfl ?_
      iterate 3 refine am_g0 rfl rfl ?_
      refine ⟨(some (.long y3), w1), t2, ?_⟩
      refine am_to (lv' := [(0, .ref 0), (3, .int (nI p)), (4, .long y)]) (st' := [.long y3, .ref 0]) (w' := w1) rfl rfl rfl ?_
      iterate 3 refine am_g0 rfl rfl ?_
      refine ⟨(some (.long y4), w1), t3, ?_⟩
      refine am_to (lv' := [(0, .ref 0), (3, .int (nI p)), (4, .long y)]) (st' := [.long y4]) (w' := w1) rfl rfl rfl ?_
      refine am_g0 rfl rfl ?_
      refine am_to (lv' := [(0, .ref 0), (3, .int (nI p)), (4, .long y4)]) (st' := []) (w' := w1) rfl rfl rfl ?_
      iterate 8 refine am_g0 rfl rfl ?_
      refine am_glE (n := 16) (k := 2 * p) rfl rfl (pk_mul 2 p) (by omega) (by decide) ?_
      refine am_top (y := v0) (by rw [hv0]; exact hen 0 (by omega)) ?_
      iterate 2 refine am_g0 rfl rfl ?_
      refine am_topL (y := mx y4 v0.toInt64) (rfl) ?_
      refine am_g0 rfl rfl ?_
      refine am_to (lv' := [(0, .ref 0), (3, .int (nI p)), (4, .long (mx y4 v0.toInt64))]) (st' := []) (w' := w1) rfl rfl rfl ?_
      iterate 10 refine am_g0 rfl rfl ?_
      refine am_glE (n := 16) (k := 2 * p + 1) rfl rfl (ix2 p 1) (by omega) (by decide) ?_
      refine am_top (y := v1) (by rw [hv1]; exact hen 1 (by omega)) ?_
      iterate 2 refine am_g0 rfl rfl ?_
      refine am_topL (y := mx (mx y4 v0.toInt64) v1.toInt64) (rfl) ?_
      refine am_g0 rfl rfl ?_
      refine am_to (lv' := [(0, .ref 0), (3, .int (nI p)), (4, .long (mx (mx y4 v0.toInt64) v1.toInt64))]) (st' := []) (w' := w1) rfl rfl rfl ?_
      iterate 2 refine am_g0 rfl rfl ?_
      rw [hY1']
      exact am_kl this rfl
    | succ j ih =>
      intro i hi y hy
      have this := ih (i + 1) (by omega) (mx y (nI (S.pf p i)).toInt64) (by rw [itN, ← hy, hF1j, personS_t hp hq (by omega)])
      rw [← nI_1 i] at this
      refine am_go rfl ?_
      iterate 2 refine am_g0 rfl rfl ?_
      refine am_ff (show ¬ (5 : Int32) ≤ (nI i) from nI_ge (b := 5) (by omega) (by omega)) ?_
      iterate 10 refine am_g0 rfl rfl ?_
      refine am_glE (n := 40) (k := 5 * p + i) rfl rfl (ix5 p i) (by omega) (by decide) ?_
      refine am_top (y := nI (S.pf p i)) (h11 i (by omega)) ?_
      iterate 2 refine am_g0 rfl rfl ?_
      refine am_topL (y := mx y (nI (S.pf p i)).toInt64) (rfl) ?_
      iterate 3 refine am_g0 rfl rfl ?_
      exact am_kl this rfl
  exact am_kl (key10 5 0 (by omega) h rfl) rfl
