/-! the model: other shelves -/
theorem or_nI : ∀ n, n < 8 → ∀ b, b < 256 → b < 2 ^ n → nI b ||| ((1 : Int32) <<< (nI n &&& 31)) = nI (b + 2 ^ n) ∧ b + 2 ^ n < 2 ^ (n + 1) ∧ ∀ i, i < 8 → (b + 2 ^ n).testBit i = (if i = n then true else b.testBit i) := by decide +kernel
theorem pow_8 : ∀ n, n ≤ 8 → 2 ^ n ≤ 256 := fun n h => by have := Nat.pow_le_pow_right (n := 2) (by omega) h; omega
theorem bits_n {f : Nat → Bool} : ∀ {n : Nat}, n ≤ 8 → ∃ b, b < 2 ^ n ∧ bitsS f n = nI b ∧ ∀ i, i < 8 → b.testBit i = (decide (i < n) && f i)
  | 0, _ => ⟨0, by decide, rfl, fun i _ => by rw [Nat.zero_testBit, decide_eq_false (Nat.not_lt_zero i)]; rfl⟩
  | n + 1, h => by
    obtain ⟨b, h1, h2, h3⟩ := bits_n (f := f) (n := n) (by omega)
    have h8 := pow_8 n (by omega)
    cases hf : f n with
    | true =>
      obtain ⟨k1, k2, k3⟩ := or_nI n (by omega) b (by omega) h1
      refine ⟨b + 2 ^ n, k2, by rw [bitsS_t hf, h2, k1], fun i hi => ?_⟩
      rw [k3 i hi]
      by_cases e : i = n
      · rw [if_pos e, e, hf, decide_eq_true (Nat.lt_succ_self n)]; rfl
      · rw [if_neg e, h3 i hi, decide_eq_decide.mpr (show i < n ↔ i < n + 1 by omega)]
    | false =>
      refine ⟨b, by rw [Nat.pow_succ]; omega, by rw [bitsS_f hf, h2], fun i hi => ?_⟩
      rw [h3 i hi]
      by_cases e : i = n
      · rw [e, hf, Bool.and_false, Bool.and_false]
      · rw [decide_eq_decide.mpr (show i < n ↔ i < n + 1 by omega)]
theorem cnt_more {f : Nat → Bool} {n : Nat} : ∀ k, cntN (fun i => decide (i < n) && f i) (n + k) = cntN f n
  | 0 => cntN_congr (fun i hi => by rw [decide_eq_true (by omega), Bool.true_and])
  | k + 1 => by rw [show n + (k + 1) = n + k + 1 by omega, cntN_f (by rw [decide_eq_false (by omega), Bool.false_and])]; exact cnt_more k
theorem one_nI : ∀ n, n < 256 → n ≠ 0 → nI n &&& (nI n - 1) = nI (n &&& (n - 1)) ∧ (n &&& (n - 1)) < n ∧ cntN n.testBit 8 = cntN (n &&& (n - 1)).testBit 8 + 1 := by decide +kernel
theorem m_ones {d n : Nat} {w : am_M} (hd : 1 ≤ d) (hn : n < 256) : am_D shM d mi_X12_ones [.int (nI n)] w (some (.int (nI (cntN n.testBit 8))), w) := by
  generalize hC : cntN n.testBit 8 = C
  refine am_def (by omega) rfl rfl ?_
  iterate 4 refine am_g0 rfl rfl ?_
  have key : ∀ k m c : Nat, m ≤ k → m < 256 → c + cntN m.testBit 8 = C → am_R shM mi_X12_ones (am_D shM (d - 1)) (fun r => r = (some (.int (nI C)), w)) 4 [(1, .int (nI c)), (2, .int (nI m))] [] w := by
    intro k
    induction k with
    | zero =>
      intro m c hk hm hc
      have h0 : m = 0 := by omega
      have hz : cntN (0 : Nat).testBit 8 = 0 := cntN_0 (fun i _ => Nat.zero_testBit i)
      rw [h0, hz] at hc
      refine am_go rfl ?_
      refine am_g0 rfl rfl ?_
      refine am_tt (show (nI m : Int32) = 0 from by rw [h0]; rfl) ?_
      refine am_go rfl ?_
      refine am_g0 rfl rfl ?_
      exact ⟨rfl, by rw [← hc]; rfl⟩
    | succ k ih =>
      intro m c hk hm hc
      by_cases h0 : m = 0
      · exact ih m c (by omega) hm hc
      · obtain ⟨k1, k2, k3⟩ := one_nI m hm h0
        have this := ih (m &&& (m - 1)) (c + 1) (by omega) (by omega) (by omega)
        rw [← nI_1 c, ← k1] at this
        refine am_go rfl ?_
        refine am_g0 rfl rfl ?_
        refine am_ff (show ¬ (nI m : Int32) = 0 from nne (b := 0) h0 (by omega) (by omega)) ?_
        iterate 8 refine am_g0 rfl rfl ?_
        exact am_kl this rfl
  exact am_kl (key n n 0 (Nat.le_refl _) hn (by omega)) rfl
theorem m_lot {d m : Nat} {y : Int32} {w : am_M} (hd : 1 ≤ d) (h0 : 0 < m) (h8 : m ≤ 8) (hy : y = 1103515245 * w.1 0 35 + 12345) : am_D shM d mi_X12_lot [.ref 0, .int (nI m)] w (some (.int (nI (hi16 y % m))), am_pi w 0 35 y) := by
  refine am_def (by omega) rfl rfl ?_
  iterate 7 refine am_g0 rfl rfl ?_
  refine am_top (y := y) (hy.symm) ?_
  iterate 3 refine am_g0 rfl rfl ?_
  refine am_top (y := y) (am_pi_at _ _ _ _) ?_
  iterate 4 refine am_g0 rfl rfl ?_
  refine am_ff (nI_ne0 h0 (by omega)) ?_
  refine am_top (y := nI (hi16 y % m)) (lotI rfl h0 h8) ?_
  refine am_g0 rfl rfl ?_
  exact ⟨rfl, rfl⟩
set_option maxHeartbeats 4000000 in
theorem m_shelvesOf {d k : Nat} {x : Int32} {w : am_M} {S : Sp} (hd : 6 ≤ d) (h : RM w S) (hR : mRd w S) (g : SG S) (hk : k < 2) : ∃ o : am_O, (o.1 = some (.int (nI (shelvesA S x k))) ∧ am_fx [11, 13, 14, 15, 16, 17, 18, 19, 20] [14, 28, 29, 30, 35] w o.2 ∧ mRd o.2 S) ∧ am_D shM d mi_X12_shelvesOf [.ref 0, .int x, .int (nI k)] w o := by
  have hq := g.2.2.1
  have hm8 : S.m ≤ 8 := g.2.1.2.2.2.1
  have hm : w.1 0 10 = nI S.m := hR.1.2.2.2.2.2.2.1
  have hp14 : w.1 0 14 = nI S.q := hR.2.1
  have key64 : ∀ u : am_M, am_fx [11] [35] w u → (∀ p, p < S.q → mPr u p (shP S x p)) → am_R shM mi_X12_shelvesOf (am_D shM (d - 1)) (fun o => (o.1 = some (.int (nI (shelvesA S x k))) ∧ am_fx [11, 13, 14, 15, 16, 17, 18, 19, 20] [14, 28, 29, 30, 35] w o.2 ∧ mRd o.2 S)) 64 [(0, .ref 0), (2, .int (nI k))] [] u := by
    intro u fu hu
    obtain ⟨hV, hq14⟩ := hR.V' fu (by decide) (by decide)
    have ru : RM u S := h.fr fu (by decide) (by decide)
    have hok : ∀ p, p < S.q → Pok (shP S x p) := fun p hp => shP_ok (g.2.2.2 p hp) hm8
    refine am_go rfl ?_
    refine am_g0 rfl rfl ?_
    obtain ⟨⟨r1, w1⟩, ⟨e1, f1, g1⟩, hD1⟩ := m_lives (d := d - 1) (P := shP S x) (by omega) hV (ru.W g) hq14 hq (fun p hp => ⟨hu p hp, hok p hp⟩)
    dsimp only at e1 f1 g1
    subst e1
    refine ⟨(none, w1), hD1, ?_⟩
    refine am_to (lv' := [(0, .ref 0), (2, .int (nI k))]) (st' := []) (w' := w1) rfl rfl rfl ?_
    have r1 : RM w1 S := ru.fr f1 (by decide) (by decide)
    iterate 2 refine am_g0 rfl rfl ?_
    obtain ⟨⟨r2, w2⟩, ⟨e2, f2, g2⟩, hD2⟩ := m_readsPeople (d := d - 1) (by omega) (r1.tx g (t := 2) (by omega))
    dsimp only at e2 f2 g2
    subst e2
    refine ⟨(some (.int (opI (peopleR (S.tb 2) (S.tl 2)).1)), w2), hD2, ?_⟩
    refine am_to (lv' := [(0, .ref 0), (2, .int (nI k))]) (st' := [.int (opI (peopleR (S.tb 2) (S.tl 2)).1)]) (w' := w2) rfl rfl rfl ?_
    have hst : ∀ p, p < S.q → w2.1 14 p = nI (fin S.V (shP S x p) (wet0 S)) ∧ fin S.V (shP S x p) (wet0 S) < 4 := fun p hp => by rw [f2.1 14 (by decide) (by decide)]; exact (g1.st g.2.1.good hok) p hp
    have hR2 : mRd w2 S := by
      refine ⟨?_, g2⟩
      have hV1 : mV w1 S.V (SW S) := hV.fr (fun j hj => f1.2.1 j (by rcases hj with z | z | z <;> (rw [z]; decide))) (fun a h1 h2 => f1.1 a (by simp; omega) (by omega))
      exact hV1.fr (fun j hj => f2.2.1 j (by rcases hj with z | z | z <;> (rw [z]; decide))) (fun a h1 h2 => f2.1 a (by simp; omega) (by omega))
    have ff : am_fx [11, 13, 14, 15, 16, 17, 18, 19, 20] [14, 28, 29, 30, 35] w w2 := ((fu.mono (by decide) (by decide)).tr (f1.mono (by decide) (by decide))).tr (f2.mono (by decide) (by decide))
    have hwho := m_whoBy (d := d - 1) (q := S.q) (k := k) (w := w2) (by omega) g2.1 hq hk hst
    obtain ⟨b, b1, b2, b3⟩ := bits_n (f := fun p => decide (fin S.V (shP S x p) (wet0 S) = k + 1)) (n := S.q) hq
    have hb8 := pow_8 S.q hq
    have hcn : shelvesA S x k = cntN b.testBit 8 := by
      have c1 : shelvesA S x k = cntN (fun p => decide (fin S.V (shP S x p) (wet0 S) = k + 1)) S.q := rfl
      rw [c1, ← cnt_more (8 - S.q), show S.q + (8 - S.q) = 8 by omega]
      exact (cntN_congr b3).symm
    rw [b2] at hwho
    rw [hcn]
    clear hcn b2 b3 hst
    iterate 4 refine am_g0 rfl rfl ?_
    refine ⟨(some (.int (nI b)), w2), hwho, ?_⟩
    refine am_to (lv' := [(0, .ref 0), (2, .int (nI k))]) (st' := [.int (nI b)]) (w' := w2) rfl rfl rfl ?_
    refine am_g0 rfl rfl ?_
    refine ⟨(some (.int (nI (cntN b.testBit 8))), w2), m_ones (by omega) (by omega), ?_⟩
    refine am_to (lv' := [(0, .ref 0), (2, .int (nI k))]) (st' := [.int (nI (cntN b.testBit 8))]) (w' := w2) rfl rfl rfl ?_
    refine am_g0 rfl rfl ?_
    exact ⟨rfl, rfl, ff, hR2⟩
  refine am_dex (by omega) rfl rfl ?_
  iterate 5 refine am_g0 rfl rfl ?_
  generalize hv : am_pi w 0 35 x = v
  have fv : am_fx [11] [35] w v := by rw [← hv]; exact am_fx.rf.p0 (by decide)
  have hv35 : v.1 0 35 = x := by rw [← hv, am_pi_at]
  have hv11 : v.1 11 = w.1 11 := by rw [← hv, am_pi_row (by decide)]
  refine am_to (lv' := [(0, .ref 0), (1, .int x), (2, .int (nI k)), (3, .int 0)]) (st' := []) (w' := v) rfl rfl rfl ?_
  by_cases hm0 : S.m = 0
  · have fin0 : am_R shM mi_X12_shelvesOf (am_D shM (d - 1)) (fun o => (o.1 = some (.int (nI (shelvesA S x k))) ∧ am_fx [11, 13, 14, 15, 16, 17, 18, 19, 20] [14, 28, 29, 30, 35] w o.2 ∧ mRd o.2 S)) 64 [(0, .ref 0), (2, .int (nI k))] [] v := key64 v fv (fun p hp => by
      have hs : shP S x p = prS S.pf p := by unfold shP; rw [if_pos hm0]
      rw [hs]
      obtain ⟨p1, p2, p3, p4, p5⟩ := (hR.P g p hp).1
      unfold mPr
      rw [hv11]
      exact ⟨p1, p2, p3, p4, p5⟩)
    have hqv : v.1 0 14 = nI S.q := (fv.2.1 14 (by decide)).trans hp14
    have hmv : v.1 0 10 = 0 := by rw [fv.2.1 10 (by decide), hm, hm0]; rfl
    refine am_go rfl ?_
    iterate 3 refine am_g0 rfl rfl ?_
    by_cases hq0 : S.q = 0
    · refine am_tt (show (v.1 0 14 : Int32) ≤ 0 from by rw [hqv, hq0]; exact Int32.le_refl _) ?_
      exact am_kl fin0 rfl
    · refine am_ff (show ¬ (v.1 0 14 : Int32) ≤ 0 from by rw [hqv]; exact nI_nle (by omega) (by omega)) ?_
      iterate 3 refine am_g0 rfl rfl ?_
      refine am_tt (show (v.1 0 10 : Int32) ≤ 0 from by rw [hmv]; exact Int32.le_refl _) ?_
      exact am_kl fin0 rfl
  · have hsP : ∀ p, shP S x p = prW (prS S.pf p) (lotN x S.m (2 * p + 1)) (lotN x S.m (2 * p + 2)) := fun p => by unfold shP; rw [if_neg hm0]
    have hlt : ∀ i, lotN x S.m i = hi16 (seedN x i) % S.m := fun _ => rfl
    generalize S.m = M at hsP hlt hm hm8 hm0
    have key : ∀ j i : Nat, i + j = S.q → ∀ u : am_M, am_fx [11] [35] w u → u.1 0 35 = seedN x (2 * i) → (∀ p, p < i → u.1 11 (5 * p + 1) = nI (lotN x M (2 * p + 1)) ∧ u.1 11 (5 * p + 2) = nI (lotN x M (2 * p + 2))) → (∀ e, (e % 5 ≠ 1 ∧ e % 5 ≠ 2) ∨ 5 * i ≤ e → u.1 11 e = w.1 11 e) → am_R shM mi_X12_shelvesOf (am_D shM (d - 1)) (fun o => (o.1 = some (.int (nI (shelvesA S x k))) ∧ am_fx [11, 13, 14, 15, 16, 17, 18, 19, 20] [14, 28, 29, 30, 35] w o.2 ∧ mRd o.2 S)) 7 [(0, .ref 0), (2, .int (nI k)), (3, .int (nI i))] [] u := by
      intro j
      induction j with
      | zero =>
        intro i hi u fu u35 ul uo
        have hqu : u.1 0 14 = nI S.q := (fu.2.1 14 (by decide)).trans hp14
        refine am_go rfl ?_
        iterate 3 refine am_g0 rfl rfl ?_
        refine am_tt (show (u.1 0 14 : Int32) ≤ (nI i) from by rw [hqu]; exact nI_le (by omega) (by omega)) ?_
        refine am_kl (key64 u fu (fun p hp => ?_)) rfl
        rw [hsP]
        obtain ⟨p1, p2, p3, p4, p5⟩ := (hR.P g p hp).1
        exact ⟨by rw [uo _ (by omega)]; exact p1, (ul p (by omega)).1, (ul p (by omega)).2, by rw [uo _ (by omega)]; exact p4, by rw [uo _ (by omega)]; exact p5⟩
      | succ j ih =>
        intro i hi u fu u35 ul uo
        have hqu : u.1 0 14 = nI S.q := (fu.2.1 14 (by decide)).trans hp14
        have hmu : u.1 0 10 = nI M := (fu.2.1 10 (by decide)).trans hm
        refine am_go rfl ?_
        iterate 3 refine am_g0 rfl rfl ?_
        refine am_ff (show ¬ (u.1 0 14 : Int32) ≤ (nI i) from by rw [hqu]; exact nI_ge (by omega) (by omega)) ?_
        iterate 3 refine am_g0 rfl rfl ?_
        refine am_ff (show ¬ (u.1 0 10 : Int32) ≤ 0 from by rw [hmu]; exact nI_nle (by omega) (by omega)) ?_
        iterate 10 refine am_g0 rfl rfl ?_
        refine am_top (y := nI M) (hmu) ?_
        refine am_g0 rfl rfl ?_
        refine ⟨(some (.int (nI (lotN x M (2 * i + 1)))), am_pi u 0 35 (seedN x (2 * i + 1))), m_lot (m := M) (y := seedN x (2 * i + 1)) (by omega) (by omega) hm8 (by rw [u35]; rfl), ?_⟩
        refine am_to (lv' := [(0, .ref 0), (2, .int (nI k)), (3, .int (nI i))]) (st' := [.int (nI (lotN x M (2 * i + 1))), .int (((5 : Int32) * (nI i)) + 1), .ref 11]) (w' := am_pi u 0 35 (seedN x (2 * i + 1))) rfl rfl rfl ?_
        refine am_gsE (n := 40) (k := 5 * i + 1) rfl rfl (ix5 i 1) (by omega) (by decide) ?_
        refine am_to (lv' := [(0, .ref 0), (2, .int (nI k)), (3, .int (nI i))]) (st' := []) (w' := am_pi (am_pi u 0 35 (seedN x (2 * i + 1))) 11 (5 * i + 1) (nI (lotN x M (2 * i + 1)))) rfl rfl rfl ?_
        generalize ha : am_pi (am_pi u 0 35 (seedN x (2 * i + 1))) 11 (5 * i + 1) (nI (lotN x M (2 * i + 1))) = a
        have fa : am_fx [11] [35] w a := by rw [← ha]; exact (fu.p0 (by decide)).pc (by decide) (by decide)
        have hma : a.1 0 10 = nI M := (fa.2.1 10 (by decide)).trans hm
        have a35 : a.1 0 35 = seedN x (2 * i + 1) := by rw [← ha, am_pi_row (by decide), am_pi_at]
        refine am_to (lv' := [(0, .ref 0), (2, .int (nI k)), (3, .int (nI i))]) (st' := []) (w' := a) rfl rfl rfl ?_
        iterate 10 refine am_g0 rfl rfl ?_
        refine am_top (y := nI M) (hma) ?_
        refine am_g0 rfl rfl ?_
        refine ⟨(some (.int (nI (lotN x M (2 * i + 2)))), am_pi a 0 35 (seedN x (2 * i + 2))), m_lot (m := M) (y := seedN x (2 * i + 2)) (by omega) (by omega) hm8 (by rw [a35]; rfl), ?_⟩
        refine am_to (lv' := [(0, .ref 0), (2, .int (nI k)), (3, .int (nI i))]) (st' := [.int (nI (lotN x M (2 * i + 2))), .int (((5 : Int32) * (nI i)) + 2), .ref 11]) (w' := am_pi a 0 35 (seedN x (2 * i + 2))) rfl rfl rfl ?_
        refine am_gsE (n := 40) (k := 5 * i + 2) rfl rfl (ix5 i 2) (by omega) (by decide) ?_
        refine am_to (lv' := [(0, .ref 0), (2, .int (nI k)), (3, .int (nI i))]) (st' := []) (w' := am_pi (am_pi a 0 35 (seedN x (2 * i + 2))) 11 (5 * i + 2) (nI (lotN x M (2 * i + 2)))) rfl rfl rfl ?_
        generalize hb : am_pi (am_pi a 0 35 (seedN x (2 * i + 2))) 11 (5 * i + 2) (nI (lotN x M (2 * i + 2))) = b
        have fb : am_fx [11] [35] w b := by rw [← hb]; exact (fa.p0 (by decide)).pc (by decide) (by decide)
        have b35 : b.1 0 35 = seedN x (2 * (i + 1)) := by rw [← hb, am_pi_row (by decide), am_pi_at]; rfl
        have b11 : ∀ e, b.1 11 e = if e = 5 * i + 2 then nI (lotN x M (2 * i + 2)) else if e = 5 * i + 1 then nI (lotN x M (2 * i + 1)) else u.1 11 e := fun e => by
          rw [← hb]
          by_cases z2 : e = 5 * i + 2
          · rw [if_pos z2, z2, am_pi_at]
          · rw [if_neg z2, am_pi_ne (Or.inr z2), am_pi_row (by decide), ← ha]
            by_cases z1 : e = 5 * i + 1
            · rw [if_pos z1, z1, am_pi_at]
            · rw [if_neg z1, am_pi_ne (Or.inr z1), am_pi_row (by decide)]
        have this := ih (i + 1) (by omega) b fb b35 (fun p hp => by
          rw [b11, b11]
          by_cases z : p = i
          · rw [z, if_neg (by omega), if_pos rfl, if_pos rfl]; exact ⟨rfl, rfl⟩
          · rw [if_neg (by omega), if_neg (by omega), if_neg (by omega), if_neg (by omega)]; exact ul p (by omega)) (fun e he => by rw [b11, if_neg (by omega), if_neg (by omega)]; exact uo e (by omega))
        rw [← nI_1 i] at this
        refine am_to (lv' := [(0, .ref 0), (2, .int (nI k)), (3, .int (nI i))]) (st' := []) (w' := b) rfl rfl rfl ?_
        iterate 2 refine am_g0 rfl rfl ?_
        exact am_kl this rfl
    exact am_kl (key S.q 0 (by omega) v fv hv35 (fun p hp => absurd hp (Nat.not_lt_zero p)) (fun e _ => by rw [hv11])) rfl
theorem m_shelves {d : Nat} {x y : Int32} {w : am_M} {S : Sp} (hd : 8 ≤ d) (h : RM w S) (g : SG S) : ∃ o : am_O, (o.1 = some (.int (shelvesQ S x y)) ∧ RM o.2 S) ∧ am_D shM d mi_X12_shelves [.ref 0, .int x, .int y] w o := by
  obtain ⟨⟨r1, w1⟩, ⟨e1, f1⟩, hD1⟩ := m_find2 (d := d - 1) (by omega) h g
  dsimp only at e1 f1
  subst e1
  rcases dI_or y 2 (by decide) with hy | ⟨k, hk, rfl, hy⟩
  · refine am_dex (by omega) rfl rfl ?_
    iterate 2 refine am_g0 rfl rfl ?_
    refine ⟨(none, w1), hD1, ?_⟩
    refine am_to (lv' := [(0, .ref 0), (1, .int x), (2, .int y)]) (st' := []) (w' := w1) rfl rfl rfl ?_
    iterate 2 refine am_g0 rfl rfl ?_
    refine ⟨(some (.int 0), w1), m_isTwo_n (by omega) hy, ?_⟩
    refine am_to (lv' := [(0, .ref 0), (1, .int x), (2, .int y)]) (st' := [.int 0]) (w' := w1) rfl rfl rfl ?_
    refine am_g0 rfl rfl ?_
    refine am_go rfl ?_
    refine am_go rfl ?_
    exact ⟨rfl, by unfold shelvesQ; rw [hy], f1.1⟩
  · refine am_dex (by omega) rfl rfl ?_
    iterate 2 refine am_g0 rfl rfl ?_
    refine ⟨(none, w1), hD1, ?_⟩
    refine am_to (lv' := [(0, .ref 0), (1, .int x), (2, .int (nI k))]) (st' := []) (w' := w1) rfl rfl rfl ?_
    iterate 2 refine am_g0 rfl rfl ?_
    refine ⟨(some (.int 1), w1), m_isTwo_s (by omega) hk, ?_⟩
    refine am_to (lv' := [(0, .ref 0), (1, .int x), (2, .int (nI k))]) (st' := [.int 1]) (w' := w1) rfl rfl rfl ?_
    iterate 5 refine am_g0 rfl rfl ?_
    obtain ⟨⟨r2, w2⟩, ⟨e2, f2, g2⟩, hD2⟩ := m_shelvesOf (d := d - 1) (by omega) f1.1 f1.2.1 g hk
    dsimp only at e2 f2 g2
    subst e2
    refine ⟨(some (.int (nI (shelvesA S x k))), w2), hD2, ?_⟩
    refine am_to (lv' := [(0, .ref 0), (1, .int x), (2, .int (nI k))]) (st' := [.int (nI (shelvesA S x k))]) (w' := w2) rfl rfl rfl ?_
    refine am_g0 rfl rfl ?_
    refine am_go rfl ?_
    exact ⟨rfl, by unfold shelvesQ; rw [hy], f1.1.fr f2 (by decide) (by decide)⟩
