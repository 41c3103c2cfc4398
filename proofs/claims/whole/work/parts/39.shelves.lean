/-! shelves: the class -/
def seedN (x : Int32) : Nat → Int32
  | 0 => x
  | n + 1 => 1103515245 * seedN x n + 12345
def hi16 (x : Int32) : Nat := x.toBitVec.toNat / 65536
def lotN (x : Int32) (m k : Nat) : Nat := hi16 (seedN x k) % m
theorem hi16_lt (x : Int32) : hi16 x < 65536 := by unfold hi16; have := x.toBitVec.isLt; omega
theorem ushr16 (x : Int32) : (x.toUInt32 >>> ((16 : Int32).toUInt32 &&& Int32.toUInt32 31)).toInt32 = nI (hi16 x) := by
  apply Int32.toBitVec_inj.mp
  apply BitVec.eq_of_toNat_eq
  rw [pk_ushr x 16 16 (by decide), pk_tn (by have := hi16_lt x; omega)]
  unfold hi16
  rfl
theorem lotI {x y : Int32} {m : Nat} (hy : y = nI m) (h0 : 0 < m) (h8 : m ≤ 8) : (x.toUInt32 >>> ((16 : Int32).toUInt32 &&& Int32.toUInt32 31)).toInt32 - (x.toUInt32 >>> ((16 : Int32).toUInt32 &&& Int32.toUInt32 31)).toInt32 / y * y = nI (hi16 x % m) := by
  rw [ushr16, hy]
  exact pk_rem (by have := hi16_lt x; omega) h0 (by omega)
/-- wears what the lot gives -/
def shP (S : Sp) (x : Int32) (p : Nat) : Pr := if S.m = 0 then prS S.pf p else prW (prS S.pf p) (lotN x S.m (2 * p + 1)) (lotN x S.m (2 * p + 2))
def shelvesA (S : Sp) (x : Int32) (k : Nat) : Nat := cntN (fun p => decide (fin S.V (shP S x p) (wet0 S) = k + 1)) S.q
def shelvesQ (S : Sp) (x y : Int32) : Int32 := match dI y 2 with
  | some k => nI (shelvesA S x k)
  | none => -2
theorem shP_ok {S : Sp} {x : Int32} {p : Nat} (h : Pok (prS S.pf p)) (h8 : S.m ≤ 8) : Pok (shP S x p) := by
  unfold shP
  split
  · exact h
  · rename_i z
    exact ⟨h.1, Nat.lt_of_lt_of_le (Nat.mod_lt _ (by omega)) h8, Nat.lt_of_lt_of_le (Nat.mod_lt _ (by omega)) h8, h.2.2.2.1, h.2.2.2.2⟩
theorem d_shelves {d : Nat} {x y : Int32} {w : am_M} {S : Sp} (hd : 8 ≤ d) (h : RC w S) : ∃ o : am_O, (o.1 = some (.int (shelvesQ S x y)) ∧ RC o.2 S) ∧ am_D shC d mi_X11_shelves [.ref 0, .int x, .int y] w o := by
  have hq := h.q8
  have hm8 := h.1.M.2
  rcases dI_or y 2 (by decide) with hy | ⟨k, hk, rfl, hy⟩
  · refine am_dex (by omega) rfl rfl ?_
    iterate 3 refine am_g0 rfl rfl ?_
    refine ⟨(some (.int 0), w), d_isWn shC (n := 2) (by omega) hy, ?_⟩
    refine am_to (lv' := [(0, .ref 0), (1, .int x), (2, .int y)]) (st' := [.int 0]) (w' := w) rfl rfl rfl ?_
    iterate 3 refine am_g0 rfl rfl ?_
    exact ⟨rfl, by unfold shelvesQ; rw [hy], h⟩
  · refine am_dex (by omega) rfl rfl ?_
    iterate 3 refine am_g0 rfl rfl ?_
    refine ⟨(some (.int 1), w), d_isWs shC (n := 2) (by omega) hk (by decide), ?_⟩
    refine am_to (lv' := [(0, .ref 0), (1, .int x), (2, .int (nI k))]) (st' := [.int 1]) (w' := w) rfl rfl rfl ?_
    refine am_g0 rfl rfl ?_
    refine am_go rfl ?_
    iterate 4 refine am_g0 rfl rfl ?_
    refine ⟨(some (.int (wetF (w.1 19) (-1) (-1) S.rn)), w), d_wetSteps (by omega) h.1.1.2.1.1 h.1.2.2.2.2.2.1.1, ?_⟩
    refine am_to (lv' := [(0, .ref 0), (1, .int x), (2, .int (nI k))]) (st' := [.int (wetF (w.1 19) (-1) (-1) S.rn)]) (w' := w) rfl rfl rfl ?_
    have hwet := h.wet
    generalize wetF (w.1 19) (-1) (-1) S.rn = z at hwet ⊢
    iterate 7 refine am_g0 rfl rfl ?_
    have hS : shelvesQ S x (nI k) = nI (shelvesA S x k) := by unfold shelvesQ; rw [hy]
    rw [hS]
    unfold shelvesA
    have key : ∀ j i : Nat, i + j = S.q → ∀ m : am_M, RC m S → am_R shC mi_X11_shelves (am_D shC (d - 1)) (fun o => o.1 = some (.int (nI (cntN (fun p => decide (fin S.V (shP S x p) (wet0 S) = k + 1)) S.q))) ∧ RC o.2 S) 30 [(0, .ref 0), (2, .int (nI k)), (3, .int z), (4, .int (if S.m = 0 then x else seedN x (2 * i))), (5, .int (nI (cntN (fun p => decide (fin S.V (shP S x p) (wet0 S) = k + 1)) i))), (6, .int (nI i))] [] m := by
      intro j
      induction j with
      | zero =>
        intro i hi m hm
        refine am_go rfl ?_
        iterate 4 refine am_g0 rfl rfl ?_
        refine am_tt (show (m.1 16 1 : Int32) ≤ (nI i) from by rw [hm.1.P.1]; exact nI_le (by omega) (by omega)) ?_
        refine am_go rfl ?_
        refine am_g0 rfl rfl ?_
        exact ⟨rfl, by rw [show S.q = i by omega], hm⟩
      | succ j ih =>
        intro i hi m hm
        have hp : i < S.q := by omega
        have hok := h.1.P.ok hp
        have go : ∀ v : am_M, RC v S → wkP (v.1 52) (shP S x i) → am_R shC mi_X11_shelves (am_D shC (d - 1)) (fun o => o.1 = some (.int (nI (cntN (fun p => decide (fin S.V (shP S x p) (wet0 S) = k + 1)) S.q))) ∧ RC o.2 S) 119 [(0, .ref 0), (2, .int (nI k)), (3, .int z), (4, .int (if S.m = 0 then x else seedN x (2 * (i + 1)))), (5, .int (nI (cntN (fun p => decide (fin S.V (shP S x p) (wet0 S) = k + 1)) i))), (6, .int (nI i))] [] v := by
          intro v hv hPv
          have hPok := shP_ok (x := x) hok hm8
          refine am_go rfl ?_
          iterate 4 refine am_g0 rfl rfl ?_
          obtain ⟨⟨r2, w2⟩, ⟨e2, f2, g2, g3⟩, hD2⟩ := d_walk30 (d := d - 1) (by omega) hv.1.V hPv hPok hwet
          dsimp only at e2 f2 g2 g3
          subst e2
          refine ⟨(some (.int (nI (stopAt S.V (shP S x i) (wet0 S) 30) - 1)), w2), hD2, ?_⟩
          refine am_to (lv' := [(0, .ref 0), (2, .int (nI k)), (3, .int z), (4, .int (if S.m = 0 then x else seedN x (2 * (i + 1)))), (5, .int (nI (cntN (fun p => decide (fin S.V (shP S x p) (wet0 S) = k + 1)) i))), (6, .int (nI i))]) (st' := [.int (nI (stopAt S.V (shP S x i) (wet0 S) 30) - 1)]) (w' := w2) rfl rfl rfl ?_
          iterate 6 refine am_g0 rfl rfl ?_
          refine ⟨(some (.int (nI (k + 1))), w2), d_endK (by omega) hk, ?_⟩
          refine am_to (lv' := [(0, .ref 0), (2, .int (nI k)), (3, .int z), (4, .int (if S.m = 0 then x else seedN x (2 * (i + 1)))), (5, .int (nI (cntN (fun p => decide (fin S.V (shP S x p) (wet0 S) = k + 1)) i))), (6, .int (nI i))]) (st' := [.int (nI (k + 1)), .int (w2.1 52 8)]) (w' := w2) rfl rfl rfl ?_
          have hlt : fin S.V (shP S x i) (wet0 S) < 4 := fin_lt h.1.V.good hPok
          have this := ih (i + 1) (by omega) w2 (hv.f52 f2)
          rw [← nI_1 i] at this
          refine am_g0 rfl rfl ?_
          by_cases hf : fin S.V (shP S x i) (wet0 S) = k + 1
          · refine am_tt (show (w2.1 52 8 : Int32) = (nI (k + 1)) from by rw [g3, hf]) ?_
            refine am_g0 rfl rfl ?_
            refine am_go rfl ?_
            refine am_g0 rfl rfl ?_
            rw [cntN_t (g := (fun p => decide (fin S.V (shP S x p) (wet0 S) = k + 1))) (n := i) (decide_eq_true hf), ← nI_1 (cntN _ i)] at this
            exact am_kl this rfl
          · refine am_ff (show ¬ (w2.1 52 8 : Int32) = (nI (k + 1)) from by rw [g3]; exact nne hf (by omega) (by omega)) ?_
            refine am_go rfl ?_
            refine am_g0 rfl rfl ?_
            rw [cntN_f (g := (fun p => decide (fin S.V (shP S x p) (wet0 S) = k + 1))) (n := i) (decide_eq_false hf)] at this
            exact am_kl this rfl
        refine am_go rfl ?_
        iterate 4 refine am_g0 rfl rfl ?_
        refine am_ff (show ¬ (m.1 16 1 : Int32) ≤ (nI i) from by rw [hm.1.P.1]; exact nI_ge (by omega) (by omega)) ?_
        iterate 6 refine am_g0 rfl rfl ?_
        obtain ⟨⟨r1, w1⟩, ⟨e1, f1, g1⟩, hD1⟩ := d_wearR (d := d - 1) (by omega) hm hp
        dsimp only at e1 f1 g1
        subst e1
        refine ⟨(none, w1), hD1, ?_⟩
        refine am_to (lv' := [(0, .ref 0), (2, .int (nI k)), (3, .int z), (4, .int (if S.m = 0 then x else seedN x (2 * i))), (5, .int (nI (cntN (fun p => decide (fin S.V (shP S x p) (wet0 S) = k + 1)) i))), (6, .int (nI i))]) (st' := []) (w' := w1) rfl rfl rfl ?_
        have r1 := hm.f52 f1
        iterate 4 refine am_g0 rfl rfl ?_
        by_cases h0 : S.m = 0
        · refine am_tt (show (w1.1 12 3 : Int32) ≤ 0 from by rw [r1.1.M.1, h0]; decide) ?_
          have this := go w1 r1 (by unfold shP; rw [if_pos h0]; exact g1)
          rw [if_pos h0] at this ⊢
          exact am_kl this rfl
        · refine am_ff (show ¬ (w1.1 12 3 : Int32) ≤ 0 from by rw [r1.1.M.1]; exact nI_nle (by omega) (by omega)) ?_
          rw [if_neg h0]
          have hz : ∀ v : am_M, RC v S → ¬ v.1 12 3 = 0 := fun v hv => by rw [hv.1.M.1]; exact nI_ne0 (by omega) (by omega)
          iterate 2 refine am_g0 rfl rfl ?_
          refine ⟨(some (.int (seedN x (2 * i + 1))), w1), d_nextSeed (by omega), ?_⟩
          refine am_to (lv' := [(0, .ref 0), (2, .int (nI k)), (3, .int z), (4, .int (seedN x (2 * i))), (5, .int (nI (cntN (fun p => decide (fin S.V (shP S x p) (wet0 S) = k + 1)) i))), (6, .int (nI i))]) (st' := [.int (seedN x (2 * i + 1))]) (w' := w1) rfl rfl rfl ?_
          iterate 10 refine am_g0 rfl rfl ?_
          refine am_ff (hz _ r1) ?_
          refine am_top (y := nI (lotN x S.m (2 * i + 1))) (lotI r1.1.M.1 (by omega) hm8) ?_
          iterate 3 refine am_g0 rfl rfl ?_
          refine ⟨(some (.int (seedN x (2 * i + 2))), am_pi w1 52 3 (nI (lotN x S.m (2 * i + 1)))), d_nextSeed (by omega), ?_⟩
          refine am_to (lv' := [(0, .ref 0), (2, .int (nI k)), (3, .int z), (4, .int (seedN x (2 * i + 1))), (5, .int (nI (cntN (fun p => decide (fin S.V (shP S x p) (wet0 S) = k + 1)) i))), (6, .int (nI i))]) (st' := [.int (seedN x (2 * i + 2))]) (w' := am_pi w1 52 3 (nI (lotN x S.m (2 * i + 1)))) rfl rfl rfl ?_
          iterate 10 refine am_g0 rfl rfl ?_
          have r2 : RC (am_pi w1 52 3 (nI (lotN x S.m (2 * i + 1)))) S := r1.p52
          refine am_ff (hz _ r2) ?_
          refine am_top (y := nI (lotN x S.m (2 * i + 2))) (lotI r2.1.M.1 (by omega) hm8) ?_
          refine am_g0 rfl rfl ?_
          have this := go _ (r2.p52 (j := 4) (x := nI (lotN x S.m (2 * i + 2)))) (by unfold shP; rw [if_neg h0]; exact ⟨g1.1, rfl, rfl, g1.2.2.2.1, g1.2.2.2.2⟩)
          rw [if_neg h0] at this
          exact am_kl this rfl
    have this := key S.q 0 (by omega) w h
    rw [show (if S.m = 0 then x else seedN x (2 * 0)) = x by split <;> rfl] at this
    exact am_kl this rfl
