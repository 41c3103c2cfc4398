/-! the model: copies, a sheet read as rains, cells written on a sheet -/
theorem ad64 (x y : Int32) : (x.toInt64 + y.toInt64).toInt = x.toInt + y.toInt := by
  have h1 := Int32.toInt_lt x
  have h2 := Int32.le_toInt x
  have h3 := Int32.toInt_lt y
  have h4 := Int32.le_toInt y
  rw [Int64.toInt_add, i64_toInt, i64_toInt]
  exact Int.bmod_eq_of_le (by omega) (by omega)
theorem rng64 {i n : Int32} {a : Nat} (ha : a ≤ 60) (h1 : ¬ i < 0) (h2 : ¬ n < 0) : (0 : Int32) < lg_cmp (i.toInt64 + n.toInt64) (nI a).toInt64 ↔ ¬ rng i n a := by
  rw [lg_cmp_gt, Int64.lt_iff_toInt_lt, ad64, i64_toInt, nI_toInt (by omega)]
  unfold rng
  constructor
  · intro z q; omega
  · intro z; exact Decidable.byContradiction fun q => z ⟨h1, h2, by omega⟩
theorem rng64' {i n : Int32} {a : Nat} (ha : a ≤ 60) (h1 : ¬ i < 0) (h2 : ¬ n < 0) : lg_cmp (i.toInt64 + n.toInt64) (nI a).toInt64 ≤ 0 ↔ rng i n a := by
  rw [← Int32.not_lt, rng64 ha h1 h2]
  exact Classical.not_not
theorem ix60b (s i k : Nat) : (60 : Int32) * nI s + nI i + nI k = nI (60 * s + i + k) := by rw [ix60, nI_add]
theorem m_copy {d : Nat} {x i y j n : Int32} {w : am_M} {S : Sp} (hd : 4 ≤ d) (h : RM w S) (g : SG S) : ∃ o : am_O, (o.1 = some (.int (copyS S x i y j n).1) ∧ RM o.2 (copyS S x i y j n).2) ∧ am_D shM d mi_X12_copy [.ref 0, .int x, .int i, .int y, .int j, .int n] w o := by
  rcases dI_or x 4 (by decide) with hx | ⟨s, hs, rfl, hx⟩
  · refine am_dex (by omega) rfl rfl ?_
    iterate 2 refine am_g0 rfl rfl ?_
    refine ⟨(some (.int 0), w), m_isSheet_n (by omega) hx, ?_⟩
    refine am_to (lv' := [(0, .ref 0), (1, .int x), (2, .int i), (3, .int y), (4, .int j), (5, .int n)]) (st' := [.int 0]) (w' := w) rfl rfl rfl ?_
    refine am_g0 rfl rfl ?_
    refine am_go rfl ?_
    refine am_g0 rfl rfl ?_
    exact ⟨rfl, by unfold copyS; rw [hx], by unfold copyS; rw [hx]; exact h⟩
  · rcases dI_or y 4 (by decide) with hy | ⟨t, ht, rfl, hy⟩
    · refine am_dex (by omega) rfl rfl ?_
      iterate 2 refine am_g0 rfl rfl ?_
      refine ⟨(some (.int 1), w), m_isSheet_s (by omega) hs, ?_⟩
      refine am_to (lv' := [(0, .ref 0), (1, .int (nI s)), (2, .int i), (3, .int y), (4, .int j), (5, .int n)]) (st' := [.int 1]) (w' := w) rfl rfl rfl ?_
      iterate 3 refine am_g0 rfl rfl ?_
      refine ⟨(some (.int 0), w), m_isSheet_n (by omega) hy, ?_⟩
      refine am_to (lv' := [(0, .ref 0), (1, .int (nI s)), (2, .int i), (3, .int y), (4, .int j), (5, .int n)]) (st' := [.int 0]) (w' := w) rfl rfl rfl ?_
      refine am_g0 rfl rfl ?_
      refine am_go rfl ?_
      refine am_g0 rfl rfl ?_
      exact ⟨rfl, by unfold copyS; rw [hx, hy], by unfold copyS; rw [hx, hy]; exact h⟩
    · obtain ⟨a1, a2⟩ := h.2.1 s hs
      obtain ⟨b1, b2⟩ := h.2.1 t ht
      obtain ⟨a5, a6⟩ := g.1.2.2.2 s hs
      obtain ⟨b5, b6⟩ := g.1.2.2.2 t ht
      refine am_dex (by omega) rfl rfl ?_
      iterate 2 refine am_g0 rfl rfl ?_
      refine ⟨(some (.int 1), w), m_isSheet_s (by omega) hs, ?_⟩
      refine am_to (lv' := [(0, .ref 0), (1, .int (nI s)), (2, .int i), (3, .int (nI t)), (4, .int j), (5, .int n)]) (st' := [.int 1]) (w' := w) rfl rfl rfl ?_
      iterate 3 refine am_g0 rfl rfl ?_
      refine ⟨(some (.int 1), w), m_isSheet_s (by omega) ht, ?_⟩
      refine am_to (lv' := [(0, .ref 0), (1, .int (nI s)), (2, .int i), (3, .int (nI t)), (4, .int j), (5, .int n)]) (st' := [.int 1]) (w' := w) rfl rfl rfl ?_
      refine am_g0 rfl rfl ?_
      refine am_go rfl ?_
      iterate 2 refine am_g0 rfl rfl ?_
      refine am_glN (n := 4) (k := s) rfl rfl (by omega) (by decide) ?_
      refine am_g0 rfl rfl ?_
      rcases opt_or (S.sz s) with hz | ⟨a, hz⟩
      · refine am_tt (show (w.1 1 s : Int32) < 0 from by rw [a1 hz]; decide) ?_
        refine am_go rfl ?_
        iterate 2 refine am_g0 rfl rfl ?_
        refine ⟨(some (.int (-11)), am_pi w 0 4 1), m_finds (x := 1) (by omega), ?_⟩
        refine am_to (lv' := [(0, .ref 0)]) (st' := [.int (-11)]) (w' := am_pi w 0 4 1) rfl rfl rfl ?_
        refine am_g0 rfl rfl ?_
        exact ⟨rfl, by unfold copyS; rw [hx, hy]; dsimp only; rw [hz], by unfold copyS; rw [hx, hy]; dsimp only; rw [hz]; exact RM_setF h⟩
      · obtain ⟨c1, c2, c3⟩ := a2 a hz
        have ha60 := a6 a hz
        refine am_ff (show ¬ (w.1 1 s : Int32) < 0 from by rw [c1]; exact nI_pos (by omega)) ?_
        iterate 3 refine am_g0 rfl rfl ?_
        refine am_glN (n := 4) (k := t) rfl rfl (by omega) (by decide) ?_
        refine am_g0 rfl rfl ?_
        rcases opt_or (S.sz t) with hz2 | ⟨b, hz2⟩
        · refine am_ff (show ¬ (0 : Int32) ≤ (w.1 1 t) from by rw [b1 hz2]; decide) ?_
          refine am_go rfl ?_
          iterate 2 refine am_g0 rfl rfl ?_
          refine ⟨(some (.int (-11)), am_pi w 0 4 1), m_finds (x := 1) (by omega), ?_⟩
          refine am_to (lv' := [(0, .ref 0)]) (st' := [.int (-11)]) (w' := am_pi w 0 4 1) rfl rfl rfl ?_
          refine am_g0 rfl rfl ?_
          exact ⟨rfl, by unfold copyS; rw [hx, hy]; dsimp only; rw [hz, hz2], by unfold copyS; rw [hx, hy]; dsimp only; rw [hz, hz2]; exact RM_setF h⟩
        · obtain ⟨d1, d2, d3⟩ := b2 b hz2
          have hb60 := b6 b hz2
          refine am_tt (show (0 : Int32) ≤ (w.1 1 t) from by rw [d1]; exact nI_pos' (by omega)) ?_
          refine am_go rfl ?_
          iterate 2 refine am_g0 rfl rfl ?_
          refine am_glN (n := 4) (k := s) rfl rfl (by omega) (by decide) ?_
          iterate 3 refine am_g0 rfl rfl ?_
          refine am_glN (n := 4) (k := t) rfl rfl (by omega) (by decide) ?_
          refine am_g0 rfl rfl ?_
          by_cases hf : S.fm s = S.fm t
          · refine am_tt (show (w.1 1 s : Int32) = (w.1 1 t) from by rw [c1, d1, hf]) ?_
            refine am_go rfl ?_
            refine am_g0 rfl rfl ?_
            have no : ¬ (rngB i n a && rngB j n b) = true → copyS S (nI s) i (nI t) j n = (-12, S.setF 2) := fun z => by unfold copyS; rw [hx, hy]; dsimp only; rw [hz, hz2]; dsimp only; rw [if_pos hf, if_neg z]
            have no1 : ¬ rng i n a → copyS S (nI s) i (nI t) j n = (-12, S.setF 2) := fun q1 => no (fun z => q1 (rngB_t.mp (Bool.and_eq_true_iff.mp z).1))
            have no2 : ¬ rng j n b → copyS S (nI s) i (nI t) j n = (-12, S.setF 2) := fun q1 => no (fun z => q1 (rngB_t.mp (Bool.and_eq_true_iff.mp z).2))
            by_cases k1 : i < 0
            · refine am_tt (show (i : Int32) < 0 from k1) ?_
              rw [no1 (fun z => z.1 k1)]
              refine am_go rfl ?_
              iterate 2 refine am_g0 rfl rfl ?_
              refine ⟨(some (.int (-12)), am_pi w 0 4 2), m_finds (x := 2) (by omega), ?_⟩
              refine am_to (lv' := [(0, .ref 0)]) (st' := [.int (-12)]) (w' := am_pi w 0 4 2) rfl rfl rfl ?_
              refine am_g0 rfl rfl ?_
              exact ⟨rfl, rfl, RM_setF h⟩
            · refine am_ff (show ¬ (i : Int32) < 0 from k1) ?_
              iterate 2 refine am_g0 rfl rfl ?_
              by_cases k2 : j < 0
              · refine am_tt (show (j : Int32) < 0 from k2) ?_
                rw [no2 (fun z => z.1 k2)]
                refine am_go rfl ?_
                iterate 2 refine am_g0 rfl rfl ?_
                refine ⟨(some (.int (-12)), am_pi w 0 4 2), m_finds (x := 2) (by omega), ?_⟩
                refine am_to (lv' := [(0, .ref 0)]) (st' := [.int (-12)]) (w' := am_pi w 0 4 2) rfl rfl rfl ?_
                refine am_g0 rfl rfl ?_
                exact ⟨rfl, rfl, RM_setF h⟩
              · refine am_ff (show ¬ (j : Int32) < 0 from k2) ?_
                iterate 2 refine am_g0 rfl rfl ?_
                by_cases k3 : n < 0
                · refine am_tt (show (n : Int32) < 0 from k3) ?_
                  rw [no1 (fun z => z.2.1 k3)]
                  refine am_go rfl ?_
                  iterate 2 refine am_g0 rfl rfl ?_
                  refine ⟨(some (.int (-12)), am_pi w 0 4 2), m_finds (x := 2) (by omega), ?_⟩
                  refine am_to (lv' := [(0, .ref 0)]) (st' := [.int (-12)]) (w' := am_pi w 0 4 2) rfl rfl rfl ?_
                  refine am_g0 rfl rfl ?_
                  exact ⟨rfl, rfl, RM_setF h⟩
                · refine am_ff (show ¬ (n : Int32) < 0 from k3) ?_
                  iterate 8 refine am_g0 rfl rfl ?_
                  refine am_glN (n := 4) (k := s) rfl rfl (by omega) (by decide) ?_
                  refine am_top (y := nI a) (c2) ?_
                  iterate 3 refine am_g0 rfl rfl ?_
                  by_cases q1 : rng i n a
                  · refine am_ff (show ¬ (0 : Int32) < (lg_cmp (((i : Int32).toInt64) + ((n : Int32).toInt64)) ((nI a : Int32).toInt64)) from fun z => (rng64 ha60 k1 k3).mp z q1) ?_
                    iterate 8 refine am_g0 rfl rfl ?_
                    refine am_glN (n := 4) (k := t) rfl rfl (by omega) (by decide) ?_
                    refine am_top (y := nI b) (d2) ?_
                    iterate 3 refine am_g0 rfl rfl ?_
                    by_cases q2 : rng j n b
                    · refine am_tt (show (lg_cmp (((j : Int32).toInt64) + ((n : Int32).toInt64)) ((nI b : Int32).toInt64) : Int32) ≤ 0 from (rng64' hb60 k2 k3).mpr q2) ?_
                      have hS : copyS S (nI s) i (nI t) j n = (1, S.setH S.fm S.sz (cpyI S.it s i.toNatClampNeg t j.toNatClampNeg n.toNatClampNeg)) := by unfold copyS; rw [hx, hy]; dsimp only; rw [hz, hz2]; dsimp only; rw [if_pos hf, if_pos (by rw [rngB_t.mpr q1, rngB_t.mpr q2]; rfl)]
                      rw [hS]
                      obtain ⟨e1, e2, e3⟩ := q1
                      obtain ⟨e4, e5, e6⟩ := q2
                      obtain ⟨I, hI, rfl⟩ := nI_of e1
                      obtain ⟨J, hJ, rfl⟩ := nI_of e4
                      obtain ⟨N, hN, rfl⟩ := nI_of e2
                      rw [nI_toInt hI, nI_toInt hN] at e3
                      rw [nI_toInt hJ, nI_toInt hN] at e6
                      rw [nI_clamp hI, nI_clamp hJ, nI_clamp hN]
                      have two : ∀ z k : Nat, k + z = N → ∀ u : am_M, am_fx [3, 4] [] w u → (∀ e, e < N → u.1 4 e = S.it s (I + e)) → (∀ q, u.1 3 q = if 60 * t + J ≤ q ∧ q < 60 * t + J + k then S.it s (I + (q - (60 * t + J))) else w.1 3 q) → am_R shM mi_X12_copy (am_D shM (d - 1)) (fun o => o.1 = some (.int (1, S.setH S.fm S.sz (cpyI S.it s I t J N)).1) ∧ RM o.2 (1, S.setH S.fm S.sz (cpyI S.it s I t J N)).2) 157 [(0, .ref 0), (3, .int (nI t)), (4, .int (nI J)), (5, .int (nI N)), (6, .int (nI k))] [] u := by
                        intro z
                        induction z with
                        | zero =>
                          intro k hk u fu u4 u3
                          refine am_go rfl ?_
                          iterate 2 refine am_g0 rfl rfl ?_
                          refine am_tt (show (nI N : Int32) ≤ (nI k) from nI_le (by omega) (by omega)) ?_
                          refine am_go rfl ?_
                          refine am_g0 rfl rfl ?_
                          refine ⟨rfl, rfl, RM_setH h fu (by decide) (fun c hc => ?_)⟩
                          obtain ⟨m1, m2⟩ := h.2.1 c hc
                          show (S.sz c = none → u.1 1 c = -1) ∧ ∀ n, S.sz c = some n → u.1 1 c = nI (S.fm c) ∧ u.1 2 c = nI n ∧ ∀ i, i < n → u.1 3 (60 * c + i) = (if c = t ∧ J ≤ i ∧ i < J + N then S.it s (I + (i - J)) else S.it c i)
                          rw [fu.1 1 (by decide) (by decide), fu.1 2 (by decide) (by decide)]
                          refine ⟨m1, fun n hn => ?_⟩
                          obtain ⟨o1, o2, o3⟩ := m2 n hn
                          have hn60 := (g.1.2.2.2 c hc).2 n hn
                          refine ⟨o1, o2, fun e he => ?_⟩
                          rw [u3]
                          by_cases q : c = t ∧ J ≤ e ∧ e < J + N
                          · rw [if_pos q, if_pos (by omega), show 60 * c + e - (60 * t + J) = e - J by omega]
                          · rw [if_neg q, if_neg (by omega)]; exact o3 e he
                        | succ z ih =>
                          intro k hk u fu u4 u3
                          refine am_go rfl ?_
                          iterate 2 refine am_g0 rfl rfl ?_
                          refine am_ff (show ¬ (nI N : Int32) ≤ (nI k) from nI_ge (by omega) (by omega)) ?_
                          iterate 12 refine am_g0 rfl rfl ?_
                          refine am_glN (n := 60) (k := k) rfl rfl (by omega) (by decide) ?_
                          refine am_top (y := S.it s (I + k)) (u4 k (by omega)) ?_
                          refine am_gsE (n := 240) (k := 60 * t + J + k) rfl rfl (ix60b t J k) (by omega) (by decide) ?_
                          refine am_to (lv' := [(0, .ref 0), (3, .int (nI t)), (4, .int (nI J)), (5, .int (nI N)), (6, .int (nI k))]) (st' := []) (w' := am_pi u 3 (60 * t + J + k) (S.it s (I + k))) rfl rfl rfl ?_
                          iterate 2 refine am_g0 rfl rfl ?_
                          have this := ih (k + 1) (by omega) (am_pi u 3 (60 * t + J + k) (S.it s (I + k))) (fu.pc (by decide) (by decide)) (fun e he => by rw [am_pi_row (by omega)]; exact u4 e he) (fun q => if z : q = 60 * t + J + k then by rw [z, am_pi_at, if_pos (by omega), show 60 * t + J + k - (60 * t + J) = k by omega] else by rw [am_pi_ne (Or.inr z), u3]; by_cases z2 : 60 * t + J ≤ q ∧ q < 60 * t + J + k; rw [if_pos z2, if_pos (by omega)]; rw [if_neg z2, if_neg (by omega)])
                          rw [← nI_1] at this
                          exact am_kl this rfl
                      have one : ∀ z k : Nat, k + z = N → ∀ u : am_M, am_fx [4] [] w u → (∀ e, e < k → u.1 4 e = S.it s (I + e)) → am_R shM mi_X12_copy (am_D shM (d - 1)) (fun o => o.1 = some (.int (1, S.setH S.fm S.sz (cpyI S.it s I t J N)).1) ∧ RM o.2 (1, S.setH S.fm S.sz (cpyI S.it s I t J N)).2) 120 [(0, .ref 0), (1, .int (nI s)), (2, .int (nI I)), (3, .int (nI t)), (4, .int (nI J)), (5, .int (nI N)), (6, .int (nI k))] [] u := by
                        intro z
                        induction z with
                        | zero =>
                          intro k hk u fu u4
                          refine am_go rfl ?_
                          iterate 2 refine am_g0 rfl rfl ?_
                          refine am_tt (show (nI N : Int32) ≤ (nI k) from nI_le (by omega) (by omega)) ?_
                          refine am_go rfl ?_
                          refine am_g0 rfl rfl ?_
                          exact am_kl (two N 0 (by omega) u (fu.mono (by decide) (by decide)) (fun e he => u4 e (by omega)) (fun q => by rw [if_neg (by omega), fu.1 3 (by decide) (by decide)])) rfl
                        | succ z ih =>
                          intro k hk u fu u4
                          refine am_go rfl ?_
                          iterate 2 refine am_g0 rfl rfl ?_
                          refine am_ff (show ¬ (nI N : Int32) ≤ (nI k) from nI_ge (by omega) (by omega)) ?_
                          iterate 12 refine am_g0 rfl rfl ?_
                          refine am_glE (n := 240) (k := 60 * s + I + k) rfl rfl (ix60b s I k) (by omega) (by decide) ?_
                          refine am_top (y := S.it s (I + k)) (by rw [fu.1 3 (by decide) (by decide), Nat.add_assoc]; exact c3 _ (by omega)) ?_
                          refine am_gsN (n := 60) (k := k) rfl rfl (by omega) (by decide) ?_
                          refine am_to (lv' := [(0, .ref 0), (1, .int (nI s)), (2, .int (nI I)), (3, .int (nI t)), (4, .int (nI J)), (5, .int (nI N)), (6, .int (nI k))]) (st' := []) (w' := am_pi u 4 k (S.it s (I + k))) rfl rfl rfl ?_
                          iterate 2 refine am_g0 rfl rfl ?_
                          have this := ih (k + 1) (by omega) (am_pi u 4 k (S.it s (I + k))) (fu.pc (by decide) (by decide)) (fun e he => if z : e = k then by rw [z, am_pi_at] else by rw [am_pi_ne (Or.inr z)]; exact u4 e (by omega))
                          rw [← nI_1] at this
                          exact am_kl this rfl
                      refine am_go rfl ?_
                      refine am_g0 rfl rfl ?_
                      exact am_kl (one N 0 (by omega) w am_fx.rf (fun e he => absurd he (Nat.not_lt_zero e))) rfl
                    · refine am_ff (show ¬ (lg_cmp (((j : Int32).toInt64) + ((n : Int32).toInt64)) ((nI b : Int32).toInt64) : Int32) ≤ 0 from fun z => q2 ((rng64' hb60 k2 k3).mp z)) ?_
                      rw [no2 q2]
                      refine am_go rfl ?_
                      iterate 2 refine am_g0 rfl rfl ?_
                      refine ⟨(some (.int (-12)), am_pi w 0 4 2), m_finds (x := 2) (by omega), ?_⟩
                      refine am_to (lv' := [(0, .ref 0)]) (st' := [.int (-12)]) (w' := am_pi w 0 4 2) rfl rfl rfl ?_
                      refine am_g0 rfl rfl ?_
                      exact ⟨rfl, rfl, RM_setF h⟩
                  · refine am_tt (show (0 : Int32) < (lg_cmp (((i : Int32).toInt64) + ((n : Int32).toInt64)) ((nI a : Int32).toInt64)) from (rng64 ha60 k1 k3).mpr q1) ?_
                    rw [no1 q1]
                    refine am_go rfl ?_
                    iterate 2 refine am_g0 rfl rfl ?_
                    refine ⟨(some (.int (-12)), am_pi w 0 4 2), m_finds (x := 2) (by omega), ?_⟩
                    refine am_to (lv' := [(0, .ref 0)]) (st' := [.int (-12)]) (w' := am_pi w 0 4 2) rfl rfl rfl ?_
                    refine am_g0 rfl rfl ?_
                    exact ⟨rfl, rfl, RM_setF h⟩
          · refine am_ff (show ¬ (w.1 1 s : Int32) = (w.1 1 t) from by rw [c1, d1]; exact nne hf (by omega) (by omega)) ?_
            iterate 3 refine am_g0 rfl rfl ?_
            refine ⟨(some (.int (-14)), am_pi w 0 4 4), m_finds (x := 4) (by omega), ?_⟩
            refine am_to (lv' := [(0, .ref 0), (1, .int (nI s)), (2, .int i), (3, .int (nI t)), (4, .int j), (5, .int n)]) (st' := [.int (-14)]) (w' := am_pi w 0 4 4) rfl rfl rfl ?_
            refine am_g0 rfl rfl ?_
            have hS : copyS S (nI s) i (nI t) j n = (-14, S.setF 4) := by unfold copyS; rw [hx, hy]; dsimp only; rw [hz, hz2]; dsimp only; rw [if_neg hf]
            rw [hS]
            exact ⟨rfl, rfl, RM_setF h⟩
theorem m_read {d : Nat} {x : Int32} {w : am_M} {S : Sp} (hd : 6 ≤ d) (h : RM w S) (g : SG S) : ∃ o : am_O, (o.1 = some (.int (readS S x).1) ∧ RM o.2 (readS S x).2) ∧ am_D shM d mi_X12_read [.ref 0, .int x] w o := by
  have hr8 := g.1.2.1.1
  rcases dI_or x 4 (by decide) with hx | ⟨s, hs, rfl, hx⟩
  · refine am_dex (by omega) rfl rfl ?_
    iterate 2 refine am_g0 rfl rfl ?_
    refine ⟨(some (.int 0), w), m_isSheet_n (by omega) hx, ?_⟩
    refine am_to (lv' := [(0, .ref 0), (1, .int x)]) (st' := [.int 0]) (w' := w) rfl rfl rfl ?_
    iterate 3 refine am_g0 rfl rfl ?_
    exact ⟨rfl, by unfold readS; rw [hx], by unfold readS; rw [hx]; exact h⟩
  · obtain ⟨a1, a2⟩ := h.2.1 s hs
    obtain ⟨a5, a6⟩ := g.1.2.2.2 s hs
    refine am_dex (by omega) rfl rfl ?_
    iterate 2 refine am_g0 rfl rfl ?_
    refine ⟨(some (.int 1), w), m_isSheet_s (by omega) hs, ?_⟩
    refine am_to (lv' := [(0, .ref 0), (1, .int (nI s))]) (st' := [.int 1]) (w' := w) rfl rfl rfl ?_
    refine am_g0 rfl rfl ?_
    refine am_go rfl ?_
    iterate 2 refine am_g0 rfl rfl ?_
    refine am_glN (n := 4) (k := s) rfl rfl (by omega) (by decide) ?_
    refine am_g0 rfl rfl ?_
    rcases opt_or (S.sz s) with hz | ⟨n, hz⟩
    · refine am_ff (show ¬ (0 : Int32) ≤ (w.1 1 s) from by rw [a1 hz]; decide) ?_
      iterate 3 refine am_g0 rfl rfl ?_
      refine ⟨(some (.int (-11)), am_pi w 0 4 1), m_finds (x := 1) (by omega), ?_⟩
      refine am_to (lv' := [(0, .ref 0), (1, .int (nI s))]) (st' := [.int (-11)]) (w' := am_pi w 0 4 1) rfl rfl rfl ?_
      refine am_g0 rfl rfl ?_
      exact ⟨rfl, by unfold readS; rw [hx]; dsimp only; rw [hz], by unfold readS; rw [hx]; dsimp only; rw [hz]; exact RM_setF h⟩
    · obtain ⟨c1, c2, c3⟩ := a2 n hz
      have hn60 := a6 n hz
      have hS : readS S (nI s) = (nI (rdK S s n), S.setR (S.rn + rdK S s n) (rdR S s)) := by unfold readS; rw [hx]; dsimp only; rw [hz]
      rw [hS]
      refine am_tt (show (0 : Int32) ≤ (w.1 1 s) from by rw [c1]; exact nI_pos' (by omega)) ?_
      refine am_go rfl ?_
      iterate 3 refine am_g0 rfl rfl ?_
      have key : ∀ j i : Nat, i + j = n → S.rn + i ≤ 8 → ∀ u : am_M, RM u (S.setR (S.rn + i) (rdR S s)) → (∀ k, k < i → rdF S s k = false) → am_R shM mi_X12_read (am_D shM (d - 1)) (fun o => o.1 = some (.int (nI (rdK S s n), S.setR (S.rn + rdK S s n) (rdR S s)).1) ∧ RM o.2 (nI (rdK S s n), S.setR (S.rn + rdK S s n) (rdR S s)).2) 29 [(0, .ref 0), (1, .int (nI s)), (2, .int (nI i)), (3, .int 1)] [] u := by
        intro j
        induction j with
        | zero =>
          intro i hi hi8 u hu hf
          have e : rdK S s n = i := by rw [rdK_n (fun j hj => hf j (by omega))]; omega
          refine am_go rfl ?_
          iterate 5 refine am_g0 rfl rfl ?_
          refine am_glN (n := 4) (k := s) rfl rfl (by omega) (by decide) ?_
          refine am_top (y := nI n) (((hu.2.1 s hs).2 n hz).2.1) ?_
          refine am_g0 rfl rfl ?_
          refine am_tt (show (nI n : Int32) ≤ (nI i) from nI_le (by omega) (by omega)) ?_
          refine am_go rfl ?_
          refine am_g0 rfl rfl ?_
          exact ⟨rfl, by rw [e], by rw [e]; exact hu⟩
        | succ j ih =>
          intro i hi hi8 u hu hf
          refine am_go rfl ?_
          iterate 5 refine am_g0 rfl rfl ?_
          refine am_glN (n := 4) (k := s) rfl rfl (by omega) (by decide) ?_
          refine am_top (y := nI n) (((hu.2.1 s hs).2 n hz).2.1) ?_
          refine am_g0 rfl rfl ?_
          refine am_ff (show ¬ (nI n : Int32) ≤ (nI i) from nI_ge (by omega) (by omega)) ?_
          iterate 8 refine am_g0 rfl rfl ?_
          refine am_glE (n := 240) (k := 60 * s + i) rfl rfl (ix60 s i) (by omega) (by decide) ?_
          refine am_top (y := S.it s i) (((hu.2.1 s hs).2 n hz).2.2 i (by omega)) ?_
          refine am_g0 rfl rfl ?_
          obtain ⟨⟨r1, w1⟩, ⟨e1, f1⟩, hD1⟩ := m_rain (d := d - 1) (x := S.it s i) (by omega) hu hi8
          rcases dI_or (S.it s i) 30 (by decide) with hv | ⟨v, hv30, ev, hv⟩
          · have hR : rainS (S.setR (S.rn + i) (rdR S s)) (S.it s i) = (-2, S.setR (S.rn + i) (rdR S s)) := by unfold rainS; rw [hv]
            have e : rdK S s n = i := rdK_at (by omega) (by unfold rdF; rw [hv]; rfl) hf
            rw [hR] at e1 f1
            dsimp only at e1 f1
            subst e1
            refine ⟨(some (.int (-2)), w1), hD1, ?_⟩
            refine am_to (lv' := [(0, .ref 0), (1, .int (nI s)), (2, .int (nI i)), (3, .int 1)]) (st' := [.int (-2)]) (w' := w1) rfl rfl rfl ?_
            refine am_g0 rfl rfl ?_
            refine am_go rfl ?_
            refine am_go rfl ?_
            iterate 3 refine am_g0 rfl rfl ?_
            refine am_go rfl ?_
            refine am_go rfl ?_
            refine am_top (y := nI i) (Int32.add_zero _) ?_
            iterate 2 refine am_g0 rfl rfl ?_
            refine am_go rfl ?_
            refine am_g0 rfl rfl ?_
            refine am_go rfl ?_
            refine am_g0 rfl rfl ?_
            exact ⟨rfl, by rw [e], by rw [e]; exact f1⟩
          · by_cases h88 : S.rn + i = 8
            · have hR : rainS (S.setR (S.rn + i) (rdR S s)) (S.it s i) = (-4, S.setR (S.rn + i) (rdR S s)) := by unfold rainS; rw [hv]; dsimp only; rw [if_pos (show (S.setR (S.rn + i) (rdR S s)).rn = 8 from h88)]
              have e : rdK S s n = i := rdK_at (by omega) (by unfold rdF; rw [decide_eq_true h88]; exact Bool.or_true _) hf
              rw [hR] at e1 f1
              dsimp only at e1 f1
              subst e1
              refine ⟨(some (.int (-4)), w1), hD1, ?_⟩
              refine am_to (lv' := [(0, .ref 0), (1, .int (nI s)), (2, .int (nI i)), (3, .int 1)]) (st' := [.int (-4)]) (w' := w1) rfl rfl rfl ?_
              refine am_g0 rfl rfl ?_
              refine am_go rfl ?_
              refine am_go rfl ?_
              iterate 3 refine am_g0 rfl rfl ?_
              refine am_go rfl ?_
              refine am_go rfl ?_
              refine am_top (y := nI i) (Int32.add_zero _) ?_
              iterate 2 refine am_g0 rfl rfl ?_
              refine am_go rfl ?_
              refine am_g0 rfl rfl ?_
              refine am_go rfl ?_
              refine am_g0 rfl rfl ?_
              exact ⟨rfl, by rw [e], by rw [e]; exact f1⟩
            · have hR : rainS (S.setR (S.rn + i) (rdR S s)) (S.it s i) = (nI (S.rn + i + 1), S.setR (S.rn + (i + 1)) (rdR S s)) := by
                unfold rainS
                rw [hv]
                dsimp only
                rw [if_neg (show ¬ (S.setR (S.rn + i) (rdR S s)).rn = 8 from h88)]
                have eu : up1 (rdR S s) (S.rn + i) v = rdR S s := by
                  funext q
                  by_cases z : q = S.rn + i
                  · rw [z, up1_at]; unfold rdR; rw [if_neg (by omega), show S.rn + i - S.rn = i by omega, hv]
                  · rw [up1_ne z]
                show (nI (S.rn + i + 1), S.setR (S.rn + i + 1) (up1 (rdR S s) (S.rn + i) v)) = _
                rw [eu]
                rfl
              rw [hR] at e1 f1
              dsimp only at e1 f1
              subst e1
              refine ⟨(some (.int (nI (S.rn + i + 1))), w1), hD1, ?_⟩
              refine am_to (lv' := [(0, .ref 0), (1, .int (nI s)), (2, .int (nI i)), (3, .int 1)]) (st' := [.int (nI (S.rn + i + 1))]) (w' := w1) rfl rfl rfl ?_
              refine am_g0 rfl rfl ?_
              refine am_ff (show ¬ (nI (S.rn + i + 1) : Int32) < 0 from nI_pos (by omega)) ?_
              iterate 2 refine am_g0 rfl rfl ?_
              refine am_go rfl ?_
              iterate 5 refine am_g0 rfl rfl ?_
              refine am_go rfl ?_
              iterate 2 refine am_g0 rfl rfl ?_
              have this := ih (i + 1) (by omega) (by omega) w1 f1 (fun k hk => if z : k = i then by rw [z]; unfold rdF; rw [hv, decide_eq_false h88]; rfl else hf k (by omega))
              rw [← nI_1] at this
              exact am_kl this rfl
      exact am_kl (key n 0 (by omega) (by omega) w (RM_setR h am_fx.rf h.2.2.2.1.1 (fun i hi => by unfold rdR; rw [if_pos (show i < S.rn from hi)]; exact h.2.2.2.1.2 i hi)) (fun k hk => absurd hk (Nat.not_lt_zero k))) rfl
theorem m_write {d : Nat} {x y : Int32} {w : am_M} {S : Sp} (hd : 8 ≤ d) (h : RM w S) (g : SG S) : ∃ o : am_O, (o.1 = some (.int (writeS S x y).1) ∧ RM o.2 (writeS S x y).2) ∧ am_D shM d mi_X12_write [.ref 0, .int x, .int y] w o := by
  have hq := g.2.2.1
  obtain ⟨⟨r1, w1⟩, ⟨e1, f1⟩, hD1⟩ := m_find2 (d := d - 1) (by omega) h g
  dsimp only at e1 f1
  subst e1
  have hp14 : w1.1 0 14 = nI S.q := f1.2.1.2.1
  rcases dI_or x S.q (by omega) with hx | ⟨p, hp, rfl, hx⟩
  · refine am_dex (by omega) rfl rfl ?_
    iterate 2 refine am_g0 rfl rfl ?_
    refine ⟨(none, w1), hD1, ?_⟩
    refine am_to (lv' := [(0, .ref 0), (1, .int x), (2, .int y)]) (st' := []) (w' := w1) rfl rfl rfl ?_
    iterate 3 refine am_g0 rfl rfl ?_
    refine ⟨(some (.int 0), w1), m_isPerson_n (by omega) hq hp14 hx, ?_⟩
    refine am_to (lv' := [(0, .ref 0), (1, .int x), (2, .int y)]) (st' := [.int 0]) (w' := w1) rfl rfl rfl ?_
    refine am_g0 rfl rfl ?_
    refine am_go rfl ?_
    refine am_g0 rfl rfl ?_
    exact ⟨rfl, by unfold writeS; rw [hx], by unfold writeS; rw [hx]; exact f1.1⟩
  · rcases dI_or y 4 (by decide) with hy | ⟨s, hs, rfl, hy⟩
    · refine am_dex (by omega) rfl rfl ?_
      iterate 2 refine am_g0 rfl rfl ?_
      refine ⟨(none, w1), hD1, ?_⟩
      refine am_to (lv' := [(0, .ref 0), (1, .int (nI p)), (2, .int y)]) (st' := []) (w' := w1) rfl rfl rfl ?_
      iterate 3 refine am_g0 rfl rfl ?_
      refine ⟨(some (.int 1), w1), m_isPerson_s (by omega) hq hp14 hp, ?_⟩
      refine am_to (lv' := [(0, .ref 0), (1, .int (nI p)), (2, .int y)]) (st' := [.int 1]) (w' := w1) rfl rfl rfl ?_
      iterate 3 refine am_g0 rfl rfl ?_
      refine ⟨(some (.int 0), w1), m_isSheet_n (by omega) hy, ?_⟩
      refine am_to (lv' := [(0, .ref 0), (1, .int (nI p)), (2, .int y)]) (st' := [.int 0]) (w' := w1) rfl rfl rfl ?_
      refine am_g0 rfl rfl ?_
      refine am_go rfl ?_
      refine am_g0 rfl rfl ?_
      exact ⟨rfl, by unfold writeS; rw [hx, hy], by unfold writeS; rw [hx, hy]; exact f1.1⟩
    · obtain ⟨a1, a2⟩ := f1.1.2.1 s hs
      obtain ⟨a5, a6⟩ := g.1.2.2.2 s hs
      refine am_dex (by omega) rfl rfl ?_
      iterate 2 refine am_g0 rfl rfl ?_
      refine ⟨(none, w1), hD1, ?_⟩
      refine am_to (lv' := [(0, .ref 0), (1, .int (nI p)), (2, .int (nI s))]) (st' := []) (w' := w1) rfl rfl rfl ?_
      iterate 3 refine am_g0 rfl rfl ?_
      refine ⟨(some (.int 1), w1), m_isPerson_s (by omega) hq hp14 hp, ?_⟩
      refine am_to (lv' := [(0, .ref 0), (1, .int (nI p)), (2, .int (nI s))]) (st' := [.int 1]) (w' := w1) rfl rfl rfl ?_
      iterate 3 refine am_g0 rfl rfl ?_
      refine ⟨(some (.int 1), w1), m_isSheet_s (by omega) hs, ?_⟩
      refine am_to (lv' := [(0, .ref 0), (1, .int (nI p)), (2, .int (nI s))]) (st' := [.int 1]) (w' := w1) rfl rfl rfl ?_
      refine am_g0 rfl rfl ?_
      refine am_go rfl ?_
      iterate 2 refine am_g0 rfl rfl ?_
      refine am_glN (n := 4) (k := s) rfl rfl (by omega) (by decide) ?_
      refine am_g0 rfl rfl ?_
      rcases opt_or (S.sz s) with hz | ⟨n, hz⟩
      · refine am_ff (show ¬ (0 : Int32) ≤ (w1.1 1 s) from by rw [a1 hz]; decide) ?_
        iterate 3 refine am_g0 rfl rfl ?_
        refine ⟨(some (.int (-11)), am_pi w1 0 4 1), m_finds (x := 1) (by omega), ?_⟩
        refine am_to (lv' := [(0, .ref 0), (1, .int (nI p)), (2, .int (nI s))]) (st' := [.int (-11)]) (w' := am_pi w1 0 4 1) rfl rfl rfl ?_
        refine am_g0 rfl rfl ?_
        exact ⟨rfl, by unfold writeS; rw [hx, hy]; dsimp only; rw [hz], by unfold writeS; rw [hx, hy]; dsimp only; rw [hz]; exact RM_setF f1.1⟩
      · obtain ⟨c1, c2, c3⟩ := a2 n hz
        have hn60 := a6 n hz
        have hS : writeS S (nI p) (nI s) = (nI (mn30 n), S.setH S.fm S.sz (wrI S s p (mn30 n))) := by unfold writeS; rw [hx, hy]; dsimp only; rw [hz]
        rw [hS]
        have hmn : mn30 n ≤ 30 ∧ mn30 n ≤ n := by unfold mn30; split <;> omega
        refine am_tt (show (0 : Int32) ≤ (w1.1 1 s) from by rw [c1]; exact nI_pos' (by omega)) ?_
        refine am_go rfl ?_
        iterate 2 refine am_g0 rfl rfl ?_
        refine am_glN (n := 4) (k := s) rfl rfl (by omega) (by decide) ?_
        refine am_top (y := nI n) (c2) ?_
        iterate 2 refine am_g0 rfl rfl ?_
        refine ⟨(some (.int (if nI n < 30 then nI n else 30)), w1), m_lesser (by omega), ?_⟩
        refine am_to (lv' := [(0, .ref 0), (1, .int (nI p)), (2, .int (nI s))]) (st' := [.int (if nI n < 30 then nI n else 30)]) (w' := w1) rfl rfl rfl ?_
        refine am_top (y := nI (mn30 n)) (by unfold mn30; by_cases z : n < 30; rw [if_neg (show ¬ 30 < n by omega), if_pos (show nI n < (30 : Int32) from nI_lt (b := 30) z (by omega))]; rw [if_neg (show ¬ nI n < (30 : Int32) from nI_nlt (b := 30) (by omega) (by omega))]; by_cases z2 : 30 < n; rw [if_pos z2]; rfl; rw [if_neg z2, show n = 30 by omega]; rfl) ?_
        iterate 3 refine am_g0 rfl rfl ?_
        have key : ∀ j i : Nat, i + j = mn30 n → ∀ u : am_M, am_fx [3] [] w1 u → (∀ q, u.1 3 q = if 60 * s ≤ q ∧ q < 60 * s + i then cCut (nI (S.fm s)) (cellI S.V (prS S.pf p) (wet0 S) (q - 60 * s)) else w1.1 3 q) → am_R shM mi_X12_write (am_D shM (d - 1)) (fun o => o.1 = some (.int (nI (mn30 n), S.setH S.fm S.sz (wrI S s p (mn30 n))).1) ∧ RM o.2 (nI (mn30 n), S.setH S.fm S.sz (wrI S s p (mn30 n))).2) 52 [(0, .ref 0), (1, .int (nI p)), (2, .int (nI s)), (3, .int (nI (mn30 n))), (4, .int (nI i))] [] u := by
          intro j
          induction j with
          | zero =>
            intro i hi u fu u3
            refine am_go rfl ?_
            iterate 2 refine am_g0 rfl rfl ?_
            refine am_tt (show (nI (mn30 n) : Int32) ≤ (nI i) from nI_le (by omega) (by omega)) ?_
            refine am_go rfl ?_
            refine am_g0 rfl rfl ?_
            refine ⟨rfl, rfl, RM_setH f1.1 fu (by decide) (fun c hc => ?_)⟩
            obtain ⟨m1, m2⟩ := f1.1.2.1 c hc
            show (S.sz c = none → u.1 1 c = -1) ∧ ∀ v, S.sz c = some v → u.1 1 c = nI (S.fm c) ∧ u.1 2 c = nI v ∧ ∀ i, i < v → u.1 3 (60 * c + i) = (if c = s ∧ i < mn30 n then cCut (nI (S.fm s)) (cellI S.V (prS S.pf p) (wet0 S) i) else S.it c i)
            rw [fu.1 1 (by decide) (by decide), fu.1 2 (by decide) (by decide)]
            refine ⟨m1, fun v hv => ?_⟩
            obtain ⟨o1, o2, o3⟩ := m2 v hv
            have hv60 := (g.1.2.2.2 c hc).2 v hv
            refine ⟨o1, o2, fun e he => ?_⟩
            rw [u3]
            by_cases q : c = s ∧ e < mn30 n
            · rw [if_pos q, if_pos (by omega), show 60 * c + e - 60 * s = e by omega]
            · rw [if_neg q, if_neg (by omega)]; exact o3 e he
          | succ j ih =>
            intro i hi u fu u3
            refine am_go rfl ?_
            iterate 2 refine am_g0 rfl rfl ?_
            refine am_ff (show ¬ (nI (mn30 n) : Int32) ≤ (nI i) from nI_ge (by omega) (by omega)) ?_
            iterate 10 refine am_g0 rfl rfl ?_
            refine am_glN (n := 4) (k := s) rfl rfl (by omega) (by decide) ?_
            refine am_top (y := nI (S.fm s)) (by rw [fu.1 1 (by decide) (by decide)]; exact c1) ?_
            iterate 9 refine am_g0 rfl rfl ?_
            refine am_glE (n := 960) (k := 32 * i + 4 * p) rfl rfl (ix32 i p) (by omega) (by decide) ?_
            refine am_top (y := cellI S.V (prS S.pf p) (wet0 S) i) (by rw [fu.1 18 (by decide) (by decide)]; exact (f1.2.2.1 p hp).2.2 i (by omega) 0 (by omega)) ?_
            refine am_g0 rfl rfl ?_
            refine ⟨(some (.int (cCut (nI (S.fm s)) (cellI S.V (prS S.pf p) (wet0 S) i))), u), m_cut (by omega), ?_⟩
            refine am_to (lv' := [(0, .ref 0), (1, .int (nI p)), (2, .int (nI s)), (3, .int (nI (mn30 n))), (4, .int (nI i))]) (st' := [.int (cCut (nI (S.fm s)) (cellI S.V (prS S.pf p) (wet0 S) i)), .int (((60 : Int32) * (nI s)) + (nI i)), .ref 3]) (w' := u) rfl rfl rfl ?_
            refine am_gsE (n := 240) (k := 60 * s + i) rfl rfl (ix60 s i) (by omega) (by decide) ?_
            refine am_to (lv' := [(0, .ref 0), (1, .int (nI p)), (2, .int (nI s)), (3, .int (nI (mn30 n))), (4, .int (nI i))]) (st' := []) (w' := am_pi u 3 (60 * s + i) (cCut (nI (S.fm s)) (cellI S.V (prS S.pf p) (wet0 S) i))) rfl rfl rfl ?_
            iterate 2 refine am_g0 rfl rfl ?_
            have this := ih (i + 1) (by omega) (am_pi u 3 (60 * s + i) (cCut (nI (S.fm s)) (cellI S.V (prS S.pf p) (wet0 S) i))) (fu.pc (by decide) (by decide)) (fun q => if z : q = 60 * s + i then by rw [z, am_pi_at, if_pos (by omega), show 60 * s + i - 60 * s = i by omega] else by rw [am_pi_ne (Or.inr z), u3]; by_cases z2 : 60 * s ≤ q ∧ q < 60 * s + i; rw [if_pos z2, if_pos (by omega)]; rw [if_neg z2, if_neg (by omega)])
            rw [← nI_1] at this
            exact am_kl this rfl
        exact am_kl (key (mn30 n) 0 (by omega) w1 am_fx.rf (fun q => by rw [if_neg (by omega)])) rfl
