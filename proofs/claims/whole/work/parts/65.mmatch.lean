/-! the model: how many may come, each in lasts of its own -/
theorem b01_t {b : Bool} (h : b = true) : ¬ b01 b = 0 := by rw [h]; decide
theorem b01_f {b : Bool} (h : ¬ b = true) : b01 b = 0 := by rw [Bool.eq_false_iff.mpr h]; rfl
theorem mRd.fr0 {w w' : am_M} {S : Sp} {C J : List Nat} (h : mRd w S) (f : am_fx C J w w') (hC : ∀ a, a ∈ [7, 8, 9, 10, 11] → a ∉ C) (hJ : ∀ a, a ∈ [7, 8, 10, 14] → a ∉ J) : mRd w' S := h.fl f hC hJ
theorem m_comesIn {d k l : Nat} {w : am_M} {S : Sp} (hd : 5 ≤ d) (h : RM w S) (hR : mRd w S) (g : SG S) (hk : k < S.q) (hl : l < 8) : ∃ o : am_O, (o.1 = some (.int (b01 (decide (fin S.V (prW (prS S.pf k) l l) (wet0 S) = 1)))) ∧ am_fx [13, 14, 15, 16, 17, 18, 19, 20] [28, 29, 30] w o.2) ∧ am_D shM d mi_X12_comesIn [.ref 0, .int (nI k), .int (nI l)] w o := by
  have hq := g.2.2.1
  have hok := g.2.2.2 k hk
  refine am_dex (by omega) rfl rfl ?_
  iterate 7 refine am_g0 rfl rfl ?_
  refine am_glE (n := 40) (k := 5 * k + 1) rfl rfl (ix5 k 1) (by omega) (by decide) ?_
  iterate 8 refine am_g0 rfl rfl ?_
  refine am_glE (n := 40) (k := 5 * k + 2) rfl rfl (ix5 k 2) (by omega) (by decide) ?_
  iterate 9 refine am_g0 rfl rfl ?_
  refine am_gsE (n := 40) (k := 5 * k + 1) rfl rfl (ix5 k 1) (by omega) (by decide) ?_
  refine am_to (lv' := [(0, .ref 0), (1, .int (nI k)), (2, .int (nI l)), (3, .int (w.1 11 (5 * k + 1))), (4, .int (w.1 11 (5 * k + 2)))]) (st' := []) (w' := am_pi w 11 (5 * k + 1) (nI l)) rfl rfl rfl ?_
  iterate 8 refine am_g0 rfl rfl ?_
  refine am_gsE (n := 40) (k := 5 * k + 2) rfl rfl (ix5 k 2) (by omega) (by decide) ?_
  refine am_to (lv' := [(0, .ref 0), (1, .int (nI k)), (2, .int (nI l)), (3, .int (w.1 11 (5 * k + 1))), (4, .int (w.1 11 (5 * k + 2)))]) (st' := []) (w' := am_pi (am_pi w 11 (5 * k + 1) (nI l)) 11 (5 * k + 2) (nI l)) rfl rfl rfl ?_
  generalize hv : am_pi (am_pi w 11 (5 * k + 1) (nI l)) 11 (5 * k + 2) (nI l) = v
  have fv : am_fx [11, 13, 14, 15, 16, 17, 18, 19, 20] [28, 29, 30] w v := by rw [← hv]; exact (am_fx.rf.pc (by decide) (by decide)).pc (by decide) (by decide)
  have v11 : ∀ e, e ≠ 5 * k + 1 → e ≠ 5 * k + 2 → v.1 11 e = w.1 11 e := fun e z1 z2 => by rw [← hv, am_pi_ne (Or.inr z2), am_pi_ne (Or.inr z1)]
  obtain ⟨hV, hq14⟩ := hR.V' fv (by decide) (by decide)
  have rv : RM v S := h.fr fv (by decide) (by decide)
  obtain ⟨⟨p1, p2, p3, p4, p5⟩, p6⟩ := hR.P g k hk
  have hP := mPr_up (v := v) (k := k) (x := prW (prS S.pf k) l l) hR g (fun e he => v11 e (by omega) (by omega)) ⟨by rw [v11 _ (by omega) (by omega)]; exact p1, by rw [← hv, am_pi_ne (Or.inr (by omega)), am_pi_at]; rfl, by rw [← hv, am_pi_at]; rfl, by rw [v11 _ (by omega) (by omega)]; exact p4, by rw [v11 _ (by omega) (by omega)]; exact p5⟩ ⟨hok.1, by show l < 8; omega, by show l < 8; omega, hok.2.2.2.1, hok.2.2.2.2⟩
  refine am_to (lv' := [(0, .ref 0), (1, .int (nI k)), (2, .int (nI l)), (3, .int (w.1 11 (5 * k + 1))), (4, .int (w.1 11 (5 * k + 2)))]) (st' := []) (w' := v) rfl rfl rfl ?_
  iterate 2 refine am_g0 rfl rfl ?_
  obtain ⟨⟨r1, w1⟩, ⟨e1, f1, g1⟩, hD1⟩ := m_lives (d := d - 1) (by omega) hV (rv.W g) hq14 hq hP
  dsimp only at e1 f1 g1
  subst e1
  refine ⟨(none, w1), hD1, ?_⟩
  refine am_to (lv' := [(0, .ref 0), (1, .int (nI k)), (2, .int (nI l)), (3, .int (w.1 11 (5 * k + 1))), (4, .int (w.1 11 (5 * k + 2)))]) (st' := []) (w' := w1) rfl rfl rfl ?_
  have f1' : am_fx [11, 13, 14, 15, 16, 17, 18, 19, 20] [28, 29, 30] w w1 := fv.tr (f1.mono (by decide) (by decide))
  have w11 : ∀ e, e ≠ 5 * k + 1 → e ≠ 5 * k + 2 → w1.1 11 e = w.1 11 e := fun e z1 z2 => by rw [f1.1 11 (by decide) (by decide)]; exact v11 e z1 z2
  have hL := (g1.st g.2.1.good (fun p hp => (hP p hp).2)) k hk
  rw [upP_at] at hL
  generalize fin S.V (prW (prS S.pf k) l l) (wet0 S) = F at *
  iterate 8 refine am_g0 rfl rfl ?_
  refine am_gsE (n := 40) (k := 5 * k + 1) rfl rfl (ix5 k 1) (by omega) (by decide) ?_
  refine am_to (lv' := [(0, .ref 0), (1, .int (nI k)), (2, .int (nI l)), (3, .int (w.1 11 (5 * k + 1))), (4, .int (w.1 11 (5 * k + 2)))]) (st' := []) (w' := am_pi w1 11 (5 * k + 1) (w.1 11 (5 * k + 1))) rfl rfl rfl ?_
  iterate 8 refine am_g0 rfl rfl ?_
  refine am_gsE (n := 40) (k := 5 * k + 2) rfl rfl (ix5 k 2) (by omega) (by decide) ?_
  refine am_to (lv' := [(0, .ref 0), (1, .int (nI k)), (2, .int (nI l)), (3, .int (w.1 11 (5 * k + 1))), (4, .int (w.1 11 (5 * k + 2)))]) (st' := []) (w' := am_pi (am_pi w1 11 (5 * k + 1) (w.1 11 (5 * k + 1))) 11 (5 * k + 2) (w.1 11 (5 * k + 2))) rfl rfl rfl ?_
  generalize hu : am_pi (am_pi w1 11 (5 * k + 1) (w.1 11 (5 * k + 1))) 11 (5 * k + 2) (w.1 11 (5 * k + 2)) = u
  have fu : am_fx [13, 14, 15, 16, 17, 18, 19, 20] [28, 29, 30] w u := by
    refine am_fx.drop (a := 11) ?_ (funext fun e => ?_)
    · rw [← hu]; exact (f1'.pc (by decide) (by decide)).pc (by decide) (by decide)
    · rw [← hu]
      by_cases z2 : e = 5 * k + 2
      · rw [z2, am_pi_at]
      · rw [am_pi_ne (Or.inr z2)]
        by_cases z1 : e = 5 * k + 1
        · rw [z1, am_pi_at]
        · rw [am_pi_ne (Or.inr z1)]; exact w11 e z1 z2
  have hu14 : u.1 14 k = nI F := by rw [← hu, am_pi_row (by decide), am_pi_row (by decide)]; exact hL.1
  refine am_to (lv' := [(0, .ref 0), (1, .int (nI k)), (2, .int (nI l)), (3, .int (w.1 11 (5 * k + 1))), (4, .int (w.1 11 (5 * k + 2)))]) (st' := []) (w' := u) rfl rfl rfl ?_
  iterate 3 refine am_g0 rfl rfl ?_
  refine am_glN (n := 8) (k := k) rfl rfl (by omega) (by decide) ?_
  refine am_top (y := nI F) (hu14) ?_
  iterate 2 refine am_g0 rfl rfl ?_
  by_cases e : F = 1
  · refine am_tt (show (nI F : Int32) = 1 from by rw [e]; rfl) ?_
    iterate 2 refine am_g0 rfl rfl ?_
    refine am_go rfl ?_
    exact ⟨rfl, by rw [decide_eq_true e]; rfl, fu⟩
  · refine am_ff (show ¬ (nI F : Int32) = 1 from nne (b := 1) e (by have := hL.2; omega) (by omega)) ?_
    refine am_go rfl ?_
    refine am_go rfl ?_
    exact ⟨rfl, by rw [decide_eq_false e]; rfl, fu⟩
/-! rows of lasts as bits -/
theorem bit_and (x y : Int32) (c : Int32) : ((x &&& y) >>> c) &&& 1 = ((x >>> c) &&& 1) &&& ((y >>> c) &&& 1) := by
  apply Int32.toBitVec_inj.mp
  simp only [Int32.toBitVec_and, Int32.toBitVec_shiftRight]
  apply BitVec.eq_of_getLsbD_eq
  intro i hi
  simp only [BitVec.getLsbD_and, BitVec.getLsbD_sshiftRight, BitVec.getLsbD_sshiftRight']
  cases BitVec.getLsbD (Int32.toBitVec 1) i
  · simp
  · simp
    split <;> cases decide (32 ≤ i) <;> simp
theorem wetB_and (x y : Int32) (s : Nat) : wetB (x &&& y) s = (wetB x s && wetB y s) := by
  unfold wetB
  rw [bit_and]
  rcases bit_01 (x >>> (nI s &&& 31)) with z | z <;> rcases bit_01 (y >>> (nI s &&& 31)) with z2 | z2 <;> rw [z, z2] <;> decide
theorem wetB_nI : ∀ n, n < 256 → ∀ l, l < 8 → wetB (nI n) l = n.testBit l := by decide +kernel
theorem xor_nI : ∀ n, n < 256 → ∀ l, l < 8 → n.testBit l = true → nI n ^^^ ((1 : Int32) <<< (nI l &&& 31)) = nI (n - 2 ^ l) ∧ 2 ^ l ≤ n ∧ ∀ i, i < 8 → (n - 2 ^ l).testBit i = (if i = l then false else n.testBit i) := by decide +kernel
theorem two_M : ∀ m, m ≤ 8 → (1 : Int32) <<< (nI m &&& 31) = nI (2 ^ m) ∧ 1 ≤ 2 ^ m ∧ 2 ^ m ≤ 256 ∧ ∀ l, l < m → (2 ^ m - 1).testBit l = true := by
  have : ∀ m, m < 9 → (1 : Int32) <<< (nI m &&& 31) = nI (2 ^ m) ∧ 1 ≤ 2 ^ m ∧ 2 ^ m ≤ 256 ∧ ∀ l, l < m → (2 ^ m - 1).testBit l = true := by decide +kernel
  exact fun m hm => this m (by omega)
theorem lt2_M : ∀ m, m ≤ 8 → ∀ n, n < 2 ^ m → ∀ l, l < 8 → n.testBit l = true → l < m := by
  have : ∀ m, m < 9 → ∀ n, n < 256 → n < 2 ^ m → ∀ l, l < 8 → n.testBit l = true → l < m := by decide +kernel
  intro m hm n hn l hl h
  exact this m (by omega) n (by have := (two_M m hm).2.2.1; omega) hn l hl h
theorem dpN_0 {A : Nat → Nat → Bool} {m : Nat} : ∀ {k : Nat} {T : Nat → Bool}, (∀ l, l < m → T l = false) → dpN A m k T = 0
  | 0, _, _ => rfl
  | k + 1, T, h => by
    rw [dpN]
    rcases dpL_or (F := fun l => dpN A m k (rmB T l)) (c := fun l => T l && A k l) (v := dpN A m k T) m with z | ⟨l, h1, h2, _⟩
    · rw [z]; exact dpN_0 h
    · rw [h l h1] at h2
      cases h2
theorem dpN_8 {A : Nat → Nat → Bool} {m : Nat} (hm : m ≤ 8) (k : Nat) (T : Nat → Bool) : dpN A m k T ≤ 8 := by
  obtain ⟨h, _, _, e⟩ := dp_at (A := A) hm k T
  rw [← e]
  exact cntN_le 8
theorem dpL_9 {F : Nat → Nat} {c : Nat → Bool} {v : Nat} (hF : ∀ l, F l ≤ 8) (hv : v ≤ 8) (n : Nat) : dpL F c v n ≤ 9 := by
  rcases dpL_or (F := F) (c := c) (v := v) n with z | ⟨l, _, _, z⟩
  · omega
  · have := hF l; omega
set_option maxHeartbeats 4000000 in
theorem m_matchNow {d : Nat} {w : am_M} {S : Sp} (hd : 6 ≤ d) (h : RM w S) (hR : mRd w S) (g : SG S) : ∃ o : am_O, (o.1 = some (.int (nI (matchN S))) ∧ am_fx [13, 14, 15, 16, 17, 18, 19, 20, 21] [28, 29, 30] w o.2) ∧ am_D shM d mi_X12_matchNow [.ref 0] w o := by
  have hq := g.2.2.1
  have hm8 : S.m ≤ 8 := g.2.1.2.2.2.1
  have hm : w.1 0 10 = nI S.m := hR.1.2.2.2.2.2.2.1
  have hp14 : w.1 0 14 = nI S.q := hR.2.1
  obtain ⟨M, hM⟩ : ∃ M, S.m = M := ⟨_, rfl⟩
  obtain ⟨A, hA⟩ : ∃ A, A = matA S := ⟨_, rfl⟩
  have hAd : ∀ p l, A p l = (decide (p < S.q) && (decide (l < M) && decide (fin S.V (prW (prS S.pf p) l l) (wet0 S) = 1))) := fun p l => by rw [hA, ← hM]; rfl
  have hMN : matchN S = dpN A M S.q (fun l => decide (l < M)) := by rw [hA, ← hM]; rfl
  rw [hM] at hm hm8
  obtain ⟨hAll, hN1, hN256, hNb⟩ := two_M M hm8
  have hlt2 := lt2_M M hm8
  have hMN2 : matchN S = dpN A M S.q (2 ^ M - 1).testBit := by rw [hMN]; exact dpN_congr (fun l hl => by rw [decide_eq_true hl, hNb l hl])
  rw [hMN2]
  obtain ⟨N, hN⟩ : ∃ N, 2 ^ M = N := ⟨_, rfl⟩
  rw [hN] at hAll hN1 hN256 hNb hlt2 ⊢
  have h8 : ∀ k T, dpN A M k T ≤ 8 := dpN_8 hm8
  clear hMN hMN2
  have key29 : ∀ j k : Nat, k + j = S.q → ∀ u : am_M, am_fx [13, 14, 15, 16, 17, 18, 19, 20, 21] [28, 29, 30] w u → (∀ t, t < N → u.1 21 t = nI (dpN A M k t.testBit)) → am_R shM mi_X12_matchNow (am_D shM (d - 1)) (fun o => o.1 = some (.int (nI (dpN A M S.q (N - 1).testBit))) ∧ am_fx [13, 14, 15, 16, 17, 18, 19, 20, 21] [28, 29, 30] w o.2) 29 [(0, .ref 0), (1, .int (nI N)), (2, .int (nI k))] [] u := by
    intro j
    induction j with
    | zero =>
      intro k hk u fu u21
      have hq14 : u.1 0 14 = nI S.q := (fu.2.1 14 (by decide)).trans hp14
      refine am_go rfl ?_
      iterate 3 refine am_g0 rfl rfl ?_
      refine am_tt (show (u.1 0 14 : Int32) ≤ (nI k) from by rw [hq14]; exact nI_le (by omega) (by omega)) ?_
      refine am_go rfl ?_
      iterate 4 refine am_g0 rfl rfl ?_
      refine am_glE (n := 256) (k := N - 1) rfl rfl (pk_sub (b := 1) hN1) (by omega) (by decide) ?_
      refine am_top (y := nI (dpN A M k (N - 1).testBit)) (u21 _ (by omega)) ?_
      refine am_g0 rfl rfl ?_
      exact ⟨rfl, by rw [show k = S.q by omega], fu⟩
    | succ j ih =>
      intro k hk u fu u21
      have hkq : k < S.q := by omega
      have hq14 : u.1 0 14 = nI S.q := (fu.2.1 14 (by decide)).trans hp14
      refine am_go rfl ?_
      iterate 3 refine am_g0 rfl rfl ?_
      refine am_ff (show ¬ (u.1 0 14 : Int32) ≤ (nI k) from by rw [hq14]; exact nI_ge (by omega) (by omega)) ?_
      iterate 4 refine am_g0 rfl rfl ?_
      have key83 : ∀ n : Nat, n < N → ∀ u : am_M, am_fx [13, 14, 15, 16, 17, 18, 19, 20, 21] [28, 29, 30] w u → (∀ t, t < N → u.1 21 t = nI (dpN A M (if n < t then k + 1 else k) t.testBit)) → ∀ x, x = nI n → am_R shM mi_X12_matchNow (am_D shM (d - 1)) (fun o => o.1 = some (.int (nI (dpN A M S.q (N - 1).testBit))) ∧ am_fx [13, 14, 15, 16, 17, 18, 19, 20, 21] [28, 29, 30] w o.2) 83 [(0, .ref 0), (1, .int (nI N)), (2, .int (nI k)), (3, .int (bitsS (A k) M)), (4, .int x)] [] u := by
        intro n
        induction n with
        | zero =>
          intro hn u fu u21 x hx
          have this := ih (k + 1) (by omega) u fu (fun t ht => by
            rw [u21 t ht]
            by_cases z : 0 < t
            · rw [if_pos z]
            · rw [if_neg z, show t = 0 by omega, dpN_0 (fun l _ => Nat.zero_testBit l), dpN_0 (fun l _ => Nat.zero_testBit l)])
          rw [← nI_1 k] at this
          refine am_go rfl ?_
          refine am_g0 rfl rfl ?_
          refine am_tt (show (x : Int32) ≤ 0 from by rw [hx]; decide) ?_
          refine am_go rfl ?_
          refine am_g0 rfl rfl ?_
          exact am_kl this rfl
        | succ n ih2 =>
          intro hn u fu u21 x hx
          obtain ⟨p, hp⟩ : ∃ p, n + 1 = p := ⟨_, rfl⟩
          have hback : nI p + (-1) = nI n := by rw [← hp]; exact pk_m1 n
          rw [hp] at hn u21 hx
          rw [hx]
          refine am_go rfl ?_
          refine am_g0 rfl rfl ?_
          refine am_ff (show ¬ (nI p : Int32) ≤ 0 from nI_nle (by omega) (by omega)) ?_
          iterate 2 refine am_g0 rfl rfl ?_
          have key91 : ∀ j l : Nat, l + j = M → ∀ u : am_M, am_fx [13, 14, 15, 16, 17, 18, 19, 20, 21] [28, 29, 30] w u → (∀ t, t < N → t ≠ p → u.1 21 t = nI (dpN A M (if p < t then k + 1 else k) t.testBit)) → ∀ D, dpL (fun l => dpN A M k (rmB p.testBit l)) (fun l => p.testBit l && A k l) (dpN A M k p.testBit) l = D → u.1 21 p = nI D → am_R shM mi_X12_matchNow (am_D shM (d - 1)) (fun o => o.1 = some (.int (nI (dpN A M S.q (N - 1).testBit))) ∧ am_fx [13, 14, 15, 16, 17, 18, 19, 20, 21] [28, 29, 30] w o.2) 91 [(0, .ref 0), (1, .int (nI N)), (2, .int (nI k)), (3, .int (bitsS (A k) M)), (4, .int (nI p)), (5, .int (nI l))] [] u := by
            intro j
            induction j with
            | zero =>
              intro l hl u fu u21 D hD u21p
              have hmu : u.1 0 10 = nI M := (fu.2.1 10 (by decide)).trans hm
              have this := ih2 (by omega) u fu (fun t ht => by
                by_cases z : t = p
                · rw [z, if_pos (by omega), u21p, ← hD, show l = M by omega]; rfl
                · rw [u21 t ht z]
                  by_cases z2 : p < t
                  · rw [if_pos z2, if_pos (by omega)]
                  · rw [if_neg z2, if_neg (by omega)]) _ hback
              refine am_go rfl ?_
              iterate 3 refine am_g0 rfl rfl ?_
              refine am_tt (show (u.1 0 10 : Int32) ≤ (nI l) from by rw [hmu]; exact nI_le (by omega) (by omega)) ?_
              refine am_go rfl ?_
              refine am_g0 rfl rfl ?_
              exact am_kl this rfl
            | succ j ih3 =>
              intro l hl u fu u21 D hD u21p
              have hmu : u.1 0 10 = nI M := (fu.2.1 10 (by decide)).trans hm
              have hD9 : D ≤ 9 := by rw [← hD]; exact dpL_9 (fun l => h8 k _) (h8 k _) l
              have hbit : wetB (nI p &&& bitsS (A k) M) l = (p.testBit l && A k l) := by rw [wetB_and, wetB_nI p (by omega) l (by omega), bits_wet (by omega) l (by omega), decide_eq_true (show l < M by omega), Bool.true_and]
              have hDt : (p.testBit l && A k l) = true → dpL (fun l => dpN A M k (rmB p.testBit l)) (fun l => p.testBit l && A k l) (dpN A M k p.testBit) (l + 1) = if D < dpN A M k (rmB p.testBit l) + 1 then dpN A M k (rmB p.testBit l) + 1 else D := fun z => by rw [dpL, hD, if_pos z]
              have hDf : ¬ (p.testBit l && A k l) = true → dpL (fun l => dpN A M k (rmB p.testBit l)) (fun l => p.testBit l && A k l) (dpN A M k p.testBit) (l + 1) = D := fun z => by rw [dpL, hD, if_neg z]
              have hX8 := h8 k (rmB p.testBit l)
              have h2l : 0 < 2 ^ l := Nat.two_pow_pos l
              have hX : (p.testBit l && A k l) = true → u.1 21 (p - 2 ^ l) = nI (dpN A M k (rmB p.testBit l)) ∧ nI p ^^^ ((1 : Int32) <<< (nI l &&& 31)) = nI (p - 2 ^ l) := fun z => by
                have hb := (Bool.and_eq_true_iff.mp z).1
                obtain ⟨x1, x2, x3⟩ := xor_nI p (by omega) l (by omega) hb
                have h2 : 0 < 2 ^ l := Nat.two_pow_pos l
                refine ⟨?_, x1⟩
                rw [u21 _ (by omega) (by omega), if_neg (by omega)]
                exact congrArg nI (dpN_congr (fun i hi => x3 i (by omega)))
              generalize dpN A M k (rmB p.testBit l) = X at hDt hX hX8
              refine am_go rfl ?_
              iterate 3 refine am_g0 rfl rfl ?_
              refine am_ff (show ¬ (u.1 0 10 : Int32) ≤ (nI l) from by rw [hmu]; exact nI_ge (by omega) (by omega)) ?_
              iterate 5 refine am_g0 rfl rfl ?_
              refine ⟨(some (.int (b01 (p.testBit l && A k l))), u), m_isIn (by omega) hbit, ?_⟩
              refine am_to (lv' := [(0, .ref 0), (1, .int (nI N)), (2, .int (nI k)), (3, .int (bitsS (A k) M)), (4, .int (nI p)), (5, .int (nI l))]) (st' := [.int (b01 (p.testBit l && A k l))]) (w' := u) rfl rfl rfl ?_
              refine am_g0 rfl rfl ?_
              refine am_to (lv' := [(0, .ref 0), (1, .int (nI N)), (2, .int (nI k)), (3, .int (bitsS (A k) M)), (4, .int (nI p)), (5, .int (nI l)), (6, .int (b01 (p.testBit l && A k l)))]) (st' := []) (w' := u) rfl rfl rfl ?_
              iterate 5 refine am_g0 rfl rfl ?_
              by_cases c : (p.testBit l && A k l) = true
              · obtain ⟨hX1, hX2⟩ := hX c
                have this := ih3 (l + 1) (by omega) (am_pi u 21 p (nI (if D < X + 1 then X + 1 else D))) (fu.pc (by decide) (by decide)) (fun t ht z => by rw [am_pi_ne (Or.inr z)]; exact u21 t ht z) _ (hDt c) (am_pi_at _ _ _ _)
                rw [← nI_1 l] at this
                refine am_ff (show ¬ (b01 (p.testBit l && A k l) : Int32) = 0 from b01_t c) ?_
                iterate 7 refine am_g0 rfl rfl ?_
                refine am_glE (n := 256) (k := p - 2 ^ l) rfl rfl (hX2) (by omega) (by decide) ?_
                refine am_top (y := nI X) (hX1) ?_
                iterate 2 refine am_g0 rfl rfl ?_
                refine am_top (y := nI (X + 1)) (nI_1 X) ?_
                iterate 3 refine am_g0 rfl rfl ?_
                refine am_glN (n := 256) (k := p) rfl rfl (by omega) (by decide) ?_
                refine am_top (y := nI D) (u21p) ?_
                refine am_g0 rfl rfl ?_
                refine ⟨(some (.int (nI (if D < X + 1 then X + 1 else D))), u), m_greater (by omega) (by omega) (by omega), ?_⟩
                refine am_to (lv' := [(0, .ref 0), (1, .int (nI N)), (2, .int (nI k)), (3, .int (bitsS (A k) M)), (4, .int (nI p)), (5, .int (nI l)), (6, .int (b01 (p.testBit l && A k l)))]) (st' := [.int (nI (if D < X + 1 then X + 1 else D)), .int (nI p), .ref 21]) (w' := u) rfl rfl rfl ?_
                refine am_g0 rfl rfl ?_
                refine am_gsN (n := 256) (k := p) rfl rfl (by omega) (by decide) ?_
                refine am_to (lv' := [(0, .ref 0), (1, .int (nI N)), (2, .int (nI k)), (3, .int (bitsS (A k) M)), (4, .int (nI p)), (5, .int (nI l))]) (st' := []) (w' := am_pi u 21 p (nI (if D < X + 1 then X + 1 else D))) rfl rfl rfl ?_
                iterate 2 refine am_g0 rfl rfl ?_
                exact am_kl this rfl
              · have this := ih3 (l + 1) (by omega) (am_pi u 21 p (nI D)) (fu.pc (by decide) (by decide)) (fun t ht z => by rw [am_pi_ne (Or.inr z)]; exact u21 t ht z) _ (hDf c) (am_pi_at _ _ _ _)
                rw [← nI_1 l] at this
                refine am_tt (show (b01 (p.testBit l && A k l) : Int32) = 0 from b01_f c) ?_
                refine am_go rfl ?_
                iterate 2 refine am_g0 rfl rfl ?_
                refine am_glN (n := 256) (k := p) rfl rfl (by omega) (by decide) ?_
                refine am_top (y := nI D) (u21p) ?_
                refine am_gsN (n := 256) (k := p) rfl rfl (by omega) (by decide) ?_
                refine am_to (lv' := [(0, .ref 0), (1, .int (nI N)), (2, .int (nI k)), (3, .int (bitsS (A k) M)), (4, .int (nI p)), (5, .int (nI l))]) (st' := []) (w' := am_pi u 21 p (nI D)) rfl rfl rfl ?_
                iterate 2 refine am_g0 rfl rfl ?_
                exact am_kl this rfl
          exact am_kl (key91 M 0 (by omega) u fu (fun t ht z => u21 t ht) _ rfl (by rw [u21 p hn, if_neg (by omega)]; rfl)) rfl
      have key42 : ∀ j l : Nat, l + j = M → ∀ u : am_M, am_fx [13, 14, 15, 16, 17, 18, 19, 20, 21] [28, 29, 30] w u → (∀ t, t < N → u.1 21 t = nI (dpN A M k t.testBit)) → am_R shM mi_X12_matchNow (am_D shM (d - 1)) (fun o => o.1 = some (.int (nI (dpN A M S.q (N - 1).testBit))) ∧ am_fx [13, 14, 15, 16, 17, 18, 19, 20, 21] [28, 29, 30] w o.2) 42 [(0, .ref 0), (1, .int (nI N)), (2, .int (nI k)), (3, .int (bitsS (A k) l)), (4, .int (nI l))] [] u := by
        intro j
        induction j with
        | zero =>
          intro l hl u fu u21
          have hmu : u.1 0 10 = nI M := (fu.2.1 10 (by decide)).trans hm
          rw [show l = M by omega]
          refine am_go rfl ?_
          iterate 3 refine am_g0 rfl rfl ?_
          refine am_tt (show (u.1 0 10 : Int32) ≤ (nI M) from by rw [hmu]; exact nI_le (by omega) (by omega)) ?_
          refine am_go rfl ?_
          iterate 3 refine am_g0 rfl rfl ?_
          exact am_kl (key83 (N - 1) (by omega) u fu (fun t ht => by rw [if_neg (by omega)]; exact u21 t ht) _ (pk_sub (b := 1) hN1)) rfl
        | succ j ih2 =>
          intro l hl u fu u21
          have hmu : u.1 0 10 = nI M := (fu.2.1 10 (by decide)).trans hm
          have ru : RM u S := h.fr fu (by decide) (by decide)
          have hRu : mRd u S := hR.fl fu (by decide) (by decide)
          have hAk : A k l = decide (fin S.V (prW (prS S.pf k) l l) (wet0 S) = 1) := by rw [hAd, decide_eq_true hkq, decide_eq_true (show l < M by omega), Bool.true_and, Bool.true_and]
          obtain ⟨⟨r1, w1⟩, ⟨e1, f1⟩, hD1⟩ := m_comesIn (d := d - 1) (l := l) (by omega) ru hRu g hkq (by omega)
          dsimp only at e1 f1
          rw [← hAk] at e1
          subst e1
          have this := ih2 (l + 1) (by omega) w1 (fu.tr (f1.mono (by decide) (by decide))) (fun t ht => by rw [f1.1 21 (by decide) (by decide)]; exact u21 t ht)
          rw [← nI_1 l] at this
          refine am_go rfl ?_
          iterate 3 refine am_g0 rfl rfl ?_
          refine am_ff (show ¬ (u.1 0 10 : Int32) ≤ (nI l) from by rw [hmu]; exact nI_ge (by omega) (by omega)) ?_
          iterate 5 refine am_g0 rfl rfl ?_
          refine ⟨(some (.int (b01 (A k l))), w1), hD1, ?_⟩
          refine am_to (lv' := [(0, .ref 0), (1, .int (nI N)), (2, .int (nI k)), (3, .int (bitsS (A k) l)), (4, .int (nI l))]) (st' := [.int (b01 (A k l)), .int (bitsS (A k) l)]) (w' := w1) rfl rfl rfl ?_
          refine am_g0 rfl rfl ?_
          by_cases c : A k l = true
          · refine am_ff (show ¬ (b01 (A k l) : Int32) = 0 from b01_t c) ?_
            iterate 4 refine am_g0 rfl rfl ?_
            refine am_go rfl ?_
            iterate 3 refine am_g0 rfl rfl ?_
            rw [bitsS_t c] at this
            exact am_kl this rfl
          · refine am_tt (show (b01 (A k l) : Int32) = 0 from b01_f c) ?_
            refine am_go rfl ?_
            refine am_go rfl ?_
            refine am_top (y := bitsS (A k) l) (or0 _) ?_
            iterate 3 refine am_g0 rfl rfl ?_
            rw [bitsS_f (Bool.eq_false_iff.mpr c)] at this
            exact am_kl this rfl
      exact am_kl (key42 M 0 (by omega) u fu u21) rfl
  refine am_dex (by omega) rfl rfl ?_
  iterate 4 refine am_g0 rfl rfl ?_
  refine am_top (y := nI N) (by rw [hm]; exact hAll) ?_
  iterate 3 refine am_g0 rfl rfl ?_
  have key9 : ∀ j i : Nat, i + j = N → ∀ u : am_M, am_fx [13, 14, 15, 16, 17, 18, 19, 20, 21] [28, 29, 30] w u → (∀ t, t < i → u.1 21 t = 0) → am_R shM mi_X12_matchNow (am_D shM (d - 1)) (fun o => o.1 = some (.int (nI (dpN A M S.q (N - 1).testBit))) ∧ am_fx [13, 14, 15, 16, 17, 18, 19, 20, 21] [28, 29, 30] w o.2) 9 [(0, .ref 0), (1, .int (nI N)), (2, .int (nI i))] [] u := by
    intro j
    induction j with
    | zero =>
      intro i hi u fu u21
      refine am_go rfl ?_
      iterate 2 refine am_g0 rfl rfl ?_
      refine am_tt (show (nI N : Int32) ≤ (nI i) from nI_le (by omega) (by omega)) ?_
      refine am_go rfl ?_
      refine am_g0 rfl rfl ?_
      exact am_kl (key29 S.q 0 (by omega) u fu (fun t ht => u21 t (by omega))) rfl
    | succ j ih =>
      intro i hi u fu u21
      have this := ih (i + 1) (by omega) (am_pi u 21 i 0) (fu.pc (by decide) (by decide)) (fun t ht => if z : t = i then by rw [z, am_pi_at] else by rw [am_pi_ne (Or.inr z)]; exact u21 t (by omega))
      rw [← nI_1 i] at this
      refine am_go rfl ?_
      iterate 2 refine am_g0 rfl rfl ?_
      refine am_ff (show ¬ (nI N : Int32) ≤ (nI i) from nI_ge (by omega) (by omega)) ?_
      iterate 4 refine am_g0 rfl rfl ?_
      refine am_gsN (n := 256) (k := i) rfl rfl (by omega) (by decide) ?_
      refine am_to (lv' := [(0, .ref 0), (1, .int (nI N)), (2, .int (nI i))]) (st' := []) (w' := am_pi u 21 i 0) rfl rfl rfl ?_
      iterate 2 refine am_g0 rfl rfl ?_
      exact am_kl this rfl
  exact am_kl (key9 N 0 (by omega) w am_fx.rf (fun t ht => absurd ht (Nat.not_lt_zero t))) rfl
theorem m_match {d : Nat} {w : am_M} {S : Sp} (hd : 8 ≤ d) (h : RM w S) (g : SG S) : ∃ o : am_O, (o.1 = some (.int (nI (matchN S))) ∧ RM o.2 S) ∧ am_D shM d mi_X12_match [.ref 0] w o := by
  obtain ⟨⟨r1, w1⟩, ⟨e1, f1⟩, hD1⟩ := m_find2 (d := d - 1) (by omega) h g
  dsimp only at e1 f1
  subst e1
  refine am_dex (by omega) rfl rfl ?_
  iterate 2 refine am_g0 rfl rfl ?_
  refine ⟨(none, w1), hD1, ?_⟩
  refine am_to (lv' := [(0, .ref 0)]) (st' := []) (w' := w1) rfl rfl rfl ?_
  iterate 2 refine am_g0 rfl rfl ?_
  obtain ⟨⟨r2, w2⟩, ⟨e2, f2⟩, hD2⟩ := m_matchNow (d := d - 1) (by omega) f1.1 f1.2.1 g
  dsimp only at e2 f2
  subst e2
  refine ⟨(some (.int (nI (matchN S))), w2), hD2, ?_⟩
  refine am_to (lv' := [(0, .ref 0)]) (st' := [.int (nI (matchN S))]) (w' := w2) rfl rfl rfl ?_
  refine am_g0 rfl rfl ?_
  exact ⟨rfl, rfl, f1.1.fr f2 (by decide) (by decide)⟩
