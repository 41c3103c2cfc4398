/-! the model walks -/
def mW (w : am_M) (wet : Nat → Bool) : Prop := (w.1 0 19 = -1 ∧ ∃ n rs, n ≤ 8 ∧ w.1 0 16 = nI n ∧ (∀ i, i < n → w.1 12 i = nI (rs i) ∧ rs i < 30) ∧ ∀ s, s < 30 → wet s = wetN rs (fun i => wetB (w.1 0 18) i) n s) ∨ (w.1 0 19 ≠ -1 ∧ ∀ s, s < 30 → wet s = (decide (s < 10) && wetB (w.1 0 19) s))
theorem mW.fr {w w' : am_M} {wet : Nat → Bool} (h : mW w wet) (e0 : w'.1 0 19 = w.1 0 19) (e1 : w'.1 0 16 = w.1 0 16) (e2 : w'.1 0 18 = w.1 0 18) (e12 : w'.1 12 = w.1 12) : mW w' wet := by
  unfold mW
  rw [e0, e1, e2, e12]
  exact h
theorem m_isRain {d s : Nat} {w : am_M} {wet : Nat → Bool} (hd : 2 ≤ d) (h : mW w wet) (hs : s < 30) : am_D shM d mi_X12_isRain [.ref 0, .int (nI s)] w (some (.int (b01 (wet s))), w) := by
  refine am_def (by omega) rfl rfl ?_
  iterate 4 refine am_g0 rfl rfl ?_
  rcases h with ⟨h1, n, rs, hn, h16, h12, hw⟩ | ⟨h1, hw⟩
  · refine am_tt (show (w.1 0 19 : Int32) = (-1) from h1) ?_
    refine am_go rfl ?_
    iterate 3 refine am_g0 rfl rfl ?_
    rw [hw s hs]
    generalize hex : (fun i => wetB (w.1 0 18) i) = ex
    have hexi : ∀ i, wetB (w.1 0 18) i = ex i := fun i => by rw [← hex]
    have key : ∀ j i : Nat, i + j = n → am_R shM mi_X12_isRain (am_D shM (d - 1)) (fun r => r = (some (.int (b01 (wetN rs ex n s))), w)) 35 [(0, .ref 0), (1, .int (nI s)), (2, .int (b01 (wetN rs ex i s))), (3, .int (nI i))] [] w := by
      intro j
      induction j with
      | zero =>
        intro i hi
        refine am_go rfl ?_
        iterate 3 refine am_g0 rfl rfl ?_
        refine am_tt (show (w.1 0 16 : Int32) ≤ (nI i) from by rw [h16]; exact nI_le (by omega) (by omega)) ?_
        refine am_go rfl ?_
        refine am_g0 rfl rfl ?_
        refine ⟨?_, by rw [show i = n by omega]⟩
        cases wetN rs ex i s <;> rfl
      | succ j ih =>
        intro i hi
        have hr := h12 i (by omega)
        have this := ih (i + 1) (by omega)
        rw [show wetN rs ex (i + 1) s = (wetN rs ex i s || (decide (rs i = s) && !ex i)) from rfl, ← nI_1 i] at this
        refine am_go rfl ?_
        iterate 3 refine am_g0 rfl rfl ?_
        refine am_ff (show ¬ (w.1 0 16 : Int32) ≤ (nI i) from by rw [h16]; exact nI_ge (by omega) (by omega)) ?_
        iterate 2 refine am_g0 rfl rfl ?_
        cases hz : wetN rs ex i s with
        | true =>
          rw [hz] at this
          refine am_go rfl ?_
          refine am_g0 rfl rfl ?_
          refine am_go rfl ?_
          iterate 2 refine am_g0 rfl rfl ?_
          exact am_kl this rfl
        | false =>
          rw [hz, Bool.false_or] at this
          iterate 3 refine am_g0 rfl rfl ?_
          refine am_glN (n := 8) (k := i) rfl rfl (by omega) (by decide) ?_
          refine am_top (y := nI (rs i)) (hr.1) ?_
          iterate 2 refine am_g0 rfl rfl ?_
          by_cases e : rs i = s
          · rw [decide_eq_true e, Bool.true_and] at this
            refine am_tt (show (nI (rs i) : Int32) = (nI s) from by rw [e]) ?_
            iterate 4 refine am_g0 rfl rfl ?_
            refine ⟨(some (.int (b01 (ex i))), w), m_isIn (by omega) (hexi i), ?_⟩
            refine am_to (lv' := [(0, .ref 0), (1, .int (nI s)), (2, .int (b01 false)), (3, .int (nI i))]) (st' := [.int (b01 (ex i))]) (w' := w) rfl rfl rfl ?_
            refine am_g0 rfl rfl ?_
            cases hx : ex i with
            | true =>
              rw [hx] at this
              refine am_go rfl ?_
              refine am_go rfl ?_
              iterate 2 refine am_g0 rfl rfl ?_
              exact am_kl this rfl
            | false =>
              rw [hx] at this
              refine am_go rfl ?_
              refine am_g0 rfl rfl ?_
              refine am_go rfl ?_
              iterate 2 refine am_g0 rfl rfl ?_
              exact am_kl this rfl
          · rw [decide_eq_false e, Bool.false_and] at this
            refine am_ff (show ¬ (nI (rs i) : Int32) = (nI s) from nne e (by omega) (by omega)) ?_
            refine am_go rfl ?_
            refine am_go rfl ?_
            iterate 2 refine am_g0 rfl rfl ?_
            exact am_kl this rfl
    exact am_kl (key n 0 (by omega)) rfl
  · rw [hw s hs]
    refine am_ff (show ¬ (w.1 0 19 : Int32) = (-1) from h1) ?_
    iterate 3 refine am_g0 rfl rfl ?_
    by_cases h10 : s < 10
    · refine am_ff (show ¬ (10 : Int32) ≤ (nI s) from nI_ge (b := 10) h10 (by omega)) ?_
      iterate 4 refine am_g0 rfl rfl ?_
      refine ⟨(some (.int (b01 (wetB (w.1 0 19) s))), w), m_isIn (by omega) rfl, ?_⟩
      refine am_to (lv' := [(0, .ref 0), (1, .int (nI s))]) (st' := [.int (b01 (wetB (w.1 0 19) s))]) (w' := w) rfl rfl rfl ?_
      rw [decide_eq_true h10, Bool.true_and]
      refine am_g0 rfl rfl ?_
      cases hx : wetB (w.1 0 19) s with
      | true =>
        iterate 2 refine am_g0 rfl rfl ?_
        refine am_go rfl ?_
        exact ⟨rfl, rfl⟩
      | false =>
        refine am_go rfl ?_
        refine am_go rfl ?_
        exact ⟨rfl, rfl⟩
    · refine am_tt (show (10 : Int32) ≤ (nI s) from nI_le (a := 10) (by omega) (by omega)) ?_
      refine am_go rfl ?_
      refine am_go rfl ?_
      exact ⟨rfl, by rw [decide_eq_false h10]; rfl⟩
/-! the world -/
def Vok (V : Wd) : Prop := V.1 ≤ 36 ∧ (∀ c, c < V.1 → V.2.1 c < 4) ∧ (∀ c, c < V.1 → ∀ a, a < 4 → V.2.2.1 c a < V.1 ∧ (V.2.1 c ≠ 1 → V.2.1 (V.2.2.1 c a) ≠ 1)) ∧ V.2.2.2.1 ≤ 8 ∧ ∀ l, l < V.2.2.2.1 → V.2.2.2.2.1 l < 3 ∧ 1 ≤ V.2.2.2.2.2.1 l ∧ V.2.2.2.2.2.1 l ≤ 4 ∧ ∀ j, j < V.2.2.2.2.2.1 l → V.2.2.2.2.2.2 l j < 4
theorem cV.ok {w : am_M} {V : Wd} (h : cV w V) : Vok V := ⟨h.1.2.1, fun c hc => (h.1.2.2.1 c hc).2, fun c hc a ha => (h.1.2.2.2 c hc a ha).2, h.2.2.1, fun l hl => ⟨(h.2.2.2 l hl).2.1, (h.2.2.2 l hl).2.2.2.1, (h.2.2.2 l hl).2.2.2.2.1, fun j hj => ((h.2.2.2 l hl).2.2.2.2.2 j hj).2⟩⟩
theorem Vok.good {V : Wd} (h : Vok V) : Vgood V := ⟨h.2.1, fun c hc a ha => (h.2.2.1 c hc a ha).1, fun l hl => ⟨(h.2.2.2.2 l hl).2.1, (h.2.2.2.2 l hl).2.2.2⟩⟩
def mV (w : am_M) (V : Wd) (W : Nat) : Prop := mTn w V.1 W V.2.1 ∧ V.2.2.1 = nxS V.1 W V.2.1 ∧ (V.1 ≠ 0 → 1 ≤ W) ∧ W ≤ 6 ∧ (∃ r, V.1 = r * W) ∧ Vok V ∧ mLa w V.2.2.2.1 V.2.2.2.2.1 V.2.2.2.2.2.1 V.2.2.2.2.2.2
theorem mV.fr {w w' : am_M} {V : Wd} {W : Nat} (h : mV w V W) (e : ∀ j, j = 7 ∨ j = 8 ∨ j = 10 → w'.1 0 j = w.1 0 j) (e7 : ∀ a, 7 ≤ a → a ≤ 10 → w'.1 a = w.1 a) : mV w' V W := by
  obtain ⟨⟨h1, h2, h3⟩, h4, h5, h6, h7, h8, h9, h10⟩ := h
  exact ⟨⟨by rw [e 7 (by omega)]; exact h1, by rw [e 8 (by omega)]; exact h2, fun c hc => by rw [e7 7 (by omega) (by omega)]; exact h3 c hc⟩, h4, h5, h6, h7, h8, by rw [e 10 (by omega)]; exact h9, fun l hl => by rw [e7 8 (by omega) (by omega), e7 9 (by omega) (by omega), e7 10 (by omega) (by omega)]; exact h10 l hl⟩
set_option maxHeartbeats 1000000 in
theorem m_beside {d c a W : Nat} {V : Wd} {w : am_M} (hd : 1 ≤ d) (hV : mV w V W) (hc : c < V.1) (ha : a < 4) : ∃ o : am_O, (∃ x : Int32, o = (some (.int x), w) ∧ (x = -1 ∧ V.2.2.1 c a = c ∨ x = nI (V.2.2.1 c a))) ∧ am_D shM d mi_X12_beside [.ref 0, .int (nI c), .int (nI a)] w o := by
  obtain ⟨⟨h7, h8, hK⟩, hnx, hW1, hW6, ⟨r, hr⟩, hok, _⟩ := hV
  have hW1 := hW1 (by omega)
  have h36 := hok.1
  rw [hnx]
  have hKb := hok.2.1
  generalize V.1 = n at h7 hK hr h36 hc hKb ⊢
  generalize V.2.1 = K at hK hKb ⊢
  have none' : toS n W c a = c → am_R shM mi_X12_beside (am_D shM (d - 1)) (fun o => ∃ x : Int32, o = (some (.int x), w) ∧ (x = -1 ∧ nxS n W K c a = c ∨ x = nI (nxS n W K c a))) 104 [(0, .ref 0), (3, .int (-1))] [] w := by
    intro e
    refine am_go rfl ?_
    iterate 2 refine am_g0 rfl rfl ?_
    refine am_go rfl ?_
    refine am_go rfl ?_
    exact ⟨rfl, _, rfl, Or.inl ⟨rfl, nxS_self e⟩⟩
  have some' : ∀ t, toS n W c a = t → t < n → am_R shM mi_X12_beside (am_D shM (d - 1)) (fun o => ∃ x : Int32, o = (some (.int x), w) ∧ (x = -1 ∧ nxS n W K c a = c ∨ x = nI (nxS n W K c a))) 104 [(0, .ref 0), (3, .int (nI t))] [] w := by
    intro t e ht
    refine am_go rfl ?_
    iterate 2 refine am_g0 rfl rfl ?_
    refine am_ff (show ¬ (nI t : Int32) = (-1) from nI_m1 (by omega)) ?_
    iterate 3 refine am_g0 rfl rfl ?_
    refine am_glN (n := 36) (k := t) rfl rfl (by omega) (by decide) ?_
    refine am_top (y := nI (K t)) (hK t ht) ?_
    iterate 2 refine am_g0 rfl rfl ?_
    by_cases k1 : K t = 1
    · refine am_tt (show (nI (K t) : Int32) = 1 from by rw [k1]; rfl) ?_
      iterate 2 refine am_g0 rfl rfl ?_
      refine am_go rfl ?_
      exact ⟨rfl, _, rfl, Or.inl ⟨rfl, by unfold nxS; rw [e, if_pos k1]⟩⟩
    · have hk : ¬ nI (K t) = 1 := by
        have hkt := hKb t ht
        exact nne (b := 1) k1 (by omega) (by omega)
      refine am_ff (show ¬ (nI (K t) : Int32) = 1 from hk) ?_
      refine am_go rfl ?_
      refine am_go rfl ?_
      exact ⟨rfl, _, rfl, Or.inr (by unfold nxS; rw [e, if_neg k1])⟩
  refine am_dex (by omega) rfl rfl ?_
  iterate 4 refine am_g0 rfl rfl ?_
  by_cases a0 : a = 0
  · refine am_tt (show (nI a : Int32) = 0 from by rw [a0]; rfl) ?_
    iterate 4 refine am_g0 rfl rfl ?_
    by_cases hz : W ≤ c
    · refine am_ff (show ¬ (nI c : Int32) < (w.1 0 8) from by rw [h8]; exact nI_nlt hz (by omega)) ?_
      iterate 4 refine am_g0 rfl rfl ?_
      refine am_top (y := nI (c - W)) (by rw [h8, pk_sub hz]) ?_
      refine am_g0 rfl rfl ?_
      refine am_go rfl ?_
      refine am_g0 rfl rfl ?_
      exact am_kl (some' (c - W) (by rw [a0]; exact toS_0 hz) (by omega)) rfl
    · refine am_tt (show (nI c : Int32) < (w.1 0 8) from by rw [h8]; exact nI_lt (by omega) (by omega)) ?_
      refine am_go rfl ?_
      refine am_go rfl ?_
      refine am_g0 rfl rfl ?_
      exact am_kl (none' (by rw [a0]; unfold toS; rw [if_pos rfl, if_neg hz])) rfl
  · refine am_ff (show ¬ (nI a : Int32) = 0 from nne (b := 0) a0 (by omega) (by omega)) ?_
    refine am_go rfl ?_
    iterate 2 refine am_g0 rfl rfl ?_
    by_cases a1 : a = 1
    · refine am_tt (show (nI a : Int32) = 1 from by rw [a1]; rfl) ?_
      iterate 5 refine am_g0 rfl rfl ?_
      refine am_top2 (y := nI (c + 1)) (nI_1 c) ?_
      refine am_top (y := nI W) (h8) ?_
      refine am_g0 rfl rfl ?_
      refine am_ff (nI_ne0 (by omega) (by omega)) ?_
      refine am_top (y := nI ((c + 1) % W)) (pk_rem (by omega) (by omega) (by omega)) ?_
      refine am_g0 rfl rfl ?_
      by_cases hz : c % W + 1 < W
      · have hm : (c + 1) % W = c % W + 1 := by rw [modS hW1, if_pos hz]
        have hlt : c + 1 < n := by
          have h1 := Nat.div_add_mod c W
          have h2 : c / W < r := Nat.div_lt_of_lt_mul (by rw [Nat.mul_comm]; omega)
          have h3 : W * (c / W + 1) ≤ W * r := Nat.mul_le_mul_left W h2
          rw [Nat.mul_add, Nat.mul_one] at h3
          rw [hr, Nat.mul_comm]
          omega
        refine am_ff (show ¬ (nI ((c + 1) % W) : Int32) ≤ 0 from by rw [hm]; exact nI_nle (by omega) (by omega)) ?_
        iterate 3 refine am_g0 rfl rfl ?_
        refine am_top (y := nI (c + 1)) (nI_1 c) ?_
        refine am_g0 rfl rfl ?_
        refine am_go rfl ?_
        refine am_g0 rfl rfl ?_
        exact am_kl (some' (c + 1) (by rw [a1]; exact toS_1 hz) hlt) rfl
      · refine am_tt (show (nI ((c + 1) % W) : Int32) ≤ 0 from by rw [modS hW1, if_neg hz]; exact Int32.le_refl _) ?_
        refine am_go rfl ?_
        refine am_go rfl ?_
        refine am_g0 rfl rfl ?_
        exact am_kl (none' (by rw [a1]; unfold toS; rw [if_neg (by omega), if_pos rfl, if_neg hz])) rfl
    · refine am_ff (show ¬ (nI a : Int32) = 1 from nne (b := 1) a1 (by omega) (by omega)) ?_
      refine am_go rfl ?_
      iterate 2 refine am_g0 rfl rfl ?_
      by_cases a2 : a = 2
      · refine am_tt (show (nI a : Int32) = 2 from by rw [a2]; rfl) ?_
        iterate 4 refine am_g0 rfl rfl ?_
        refine am_top (y := nI (c + W)) (by rw [h8, nI_add]) ?_
        iterate 3 refine am_g0 rfl rfl ?_
        by_cases hz : c + W < n
        · refine am_ff (show ¬ (w.1 0 7 : Int32) ≤ (nI (c + W)) from by rw [h7]; exact nI_ge hz (by omega)) ?_
          iterate 4 refine am_g0 rfl rfl ?_
          refine am_top (y := nI (c + W)) (by rw [h8, nI_add]) ?_
          refine am_g0 rfl rfl ?_
          refine am_go rfl ?_
          refine am_g0 rfl rfl ?_
          exact am_kl (some' (c + W) (by rw [a2]; exact toS_2 hz) hz) rfl
        · refine am_tt (show (w.1 0 7 : Int32) ≤ (nI (c + W)) from by rw [h7]; exact nI_le (by omega) (by omega)) ?_
          refine am_go rfl ?_
          refine am_go rfl ?_
          refine am_g0 rfl rfl ?_
          exact am_kl (none' (by rw [a2]; unfold toS; rw [if_neg (by omega), if_neg (by omega), if_pos rfl, if_neg hz])) rfl
      · have a3 : a = 3 := by omega
        refine am_ff (show ¬ (nI a : Int32) = 2 from nne (b := 2) a2 (by omega) (by omega)) ?_
        refine am_go rfl ?_
        iterate 2 refine am_g0 rfl rfl ?_
        refine am_top (y := nI W) (h8) ?_
        refine am_g0 rfl rfl ?_
        refine am_ff (nI_ne0 (by omega) (by omega)) ?_
        refine am_top (y := nI (c % W)) (pk_rem (by omega) (by omega) (by omega)) ?_
        refine am_g0 rfl rfl ?_
        have hmc := Nat.mod_le c W
        by_cases hz : 0 < c % W
        · refine am_ff (show ¬ (nI (c % W) : Int32) ≤ 0 from nI_nle hz (by omega)) ?_
          iterate 3 refine am_g0 rfl rfl ?_
          refine am_top (y := nI (c - 1)) (pk_sub (b := 1) (by omega)) ?_
          refine am_g0 rfl rfl ?_
          refine am_go rfl ?_
          exact am_kl (some' (c - 1) (by rw [a3]; exact toS_3 hz) (by omega)) rfl
        · refine am_tt (show (nI (c % W) : Int32) ≤ 0 from by rw [show c % W = 0 by omega]; exact Int32.le_refl _) ?_
          refine am_go rfl ?_
          refine am_go rfl ?_
          exact am_kl (none' (by rw [a3]; unfold toS; rw [if_neg (by omega), if_neg (by omega), if_neg (by omega), if_neg hz])) rfl
