/-! the model reads the lasts -/
def mLs (m : am_M) (t : LaS) : Prop := m.1 0 10 = nI t.2.1 ∧ ∀ l, l < lsM t → m.1 8 l = nI (t.2.2.1 l) ∧ (t.2.2.2.1 l ≠ 0 → m.1 9 l = nI (t.2.2.2.1 l)) ∧ ∀ j, j < t.2.2.2.1 l → m.1 10 (4 * l + j) = nI (t.2.2.2.2 l j)
def mLa (w : am_M) (m : Nat) (kd ln : Nat → Nat) (lt : Nat → Nat → Nat) : Prop := w.1 0 10 = nI m ∧ ∀ l, l < m → w.1 8 l = nI (kd l) ∧ w.1 9 l = nI (ln l) ∧ ∀ j, j < ln l → w.1 10 (4 * l + j) = nI (lt l j)
theorem lsStep_f {v M y : Nat} {kd ln : Nat → Nat} {lt : Nat → Nat → Nat} (hy : y = ln M) : lsStep v (false, M, kd, ln, lt) = if v = 59 then (if y = 0 then none else some (true, M + 1, kd, ln, lt)) else match wayN v with
    | none => none
    | some a => if y < 4 then some (false, M, kd, up1 ln M (y + 1), up2 lt M y a) else none := by subst hy; rfl
set_option maxHeartbeats 2000000 in
theorem m_readsLasts {d n : Nat} {b : Nat → Nat} {w : am_M} (hd : 2 ≤ d) (hT : mTx w 1 n b) : ∃ o : am_O, (o.1 = some (.int (opI (lastsR b n).1)) ∧ am_fx [8, 9, 10] [10] w o.2 ∧ mLa o.2 (lastsR b n).2.1 (lastsR b n).2.2.1 (lastsR b n).2.2.2.1 (lastsR b n).2.2.2.2) ∧ am_D shM d mi_X12_readsLasts [.ref 0] w o := by
  obtain ⟨h6, hn, hb⟩ := hT
  have torn : ∀ (i : Nat) (m : am_M), am_fx [8, 9, 10] [10] w m → lastsR b n = (some i, 0, fun _ => 0, fun _ => 0, fun _ _ => 0) → am_fx [8, 9, 10] [10] w (am_pi m 0 10 0) ∧ mLa (am_pi m 0 10 0) (lastsR b n).2.1 (lastsR b n).2.2.1 (lastsR b n).2.2.2.1 (lastsR b n).2.2.2.2 := by
    intro i m hm e
    rw [e]
    exact ⟨hm.p0 (by decide), rfl, fun c hc => absurd hc (Nat.not_lt_zero c)⟩
  have tornE : ∀ i t, i < n → lsB b i = some t → lsStep (b i) t = none → lastsR b n = (some i, 0, fun _ => 0, fun _ => 0, fun _ _ => 0) := by
    intro i t hi h1 h2
    have h3 : lsB b (i + 1) = none := by rw [lsB, h1]; exact h2
    have h4 := ls_none h3 (n - (i + 1))
    have h5 := lsF_at h1 h3 (n - (i + 1))
    rw [show i + 1 + (n - (i + 1)) = n by omega] at h4 h5
    unfold lastsR
    rw [h4, h5]
  refine am_dex (by omega) rfl rfl ?_
  iterate 6 refine am_g0 rfl rfl ?_
  refine am_glN (n := 3) (k := 1) rfl rfl (by omega) (by decide) ?_
  refine am_top (y := nI n) (h6) ?_
  iterate 7 refine am_g0 rfl rfl ?_
  refine am_to (lv' := [(0, .ref 0), (1, .int (nI n)), (2, .int 0), (3, .int 0), (4, .int 0)]) (st' := []) (w' := am_pi w 0 10 0) rfl rfl rfl ?_
  generalize hw0 : am_pi w 0 10 0 = w0
  have f0 : am_fx [8, 9, 10] [10] w w0 := by rw [← hw0]; exact am_fx.rf.p0 (by decide)
  have key : ∀ j i : Nat, i + j = n → ∀ (m : am_M) (op : Bool) (M : Nat) (kd ln : Nat → Nat) (lt : Nat → Nat → Nat) (x : Int32) (y : Nat), lsB b i = some (op, M, kd, ln, lt) → am_fx [8, 9, 10] [10] w m → mLs m (op, M, kd, ln, lt) → x = (if op = true then 0 else 1) → (op = false → y = ln M) → y ≤ 4 → am_R shM mi_X12_readsLasts (am_D shM (d - 1)) (fun o => (o.1 = some (.int (opI (lastsR b n).1)) ∧ am_fx [8, 9, 10] [10] w o.2 ∧ mLa o.2 (lastsR b n).2.1 (lastsR b n).2.2.1 (lastsR b n).2.2.2.1 (lastsR b n).2.2.2.2)) 19 [(0, .ref 0), (1, .int (nI n)), (2, .int x), (3, .int (nI y)), (4, .int (nI i))] [] m := by
    intro j
    induction j with
    | zero =>
      intro i hi m op M kd ln lt x y ht hm hK hx hy hy4
      have hok := lsok_ls ht
      have ei : n = i := by omega
      subst ei
      refine am_go rfl ?_
      iterate 2 refine am_g0 rfl rfl ?_
      refine am_tt (show (nI n : Int32) ≤ (nI n) from Int32.le_refl _) ?_
      refine am_to (lv' := [(0, .ref 0), (1, .int (nI n)), (2, .int x), (3, .int (nI y)), (4, .int (nI n))]) (st' := []) (w' := m) rfl rfl rfl ?_
      refine am_go rfl ?_
      refine am_g0 rfl rfl ?_
      by_cases h0 : n = 0
      · refine am_tt (show (nI n : Int32) ≤ 0 from by rw [h0]; exact Int32.le_refl _) ?_
        refine am_to (lv' := [(0, .ref 0), (1, .int (nI n)), (2, .int x), (3, .int (nI y))]) (st' := []) (w' := m) rfl rfl rfl ?_
        refine am_go rfl ?_
        iterate 4 refine am_g0 rfl rfl ?_
        have hR : lastsR b n = (none, 0, fun _ => 0, fun _ => 0, fun _ _ => 0) := by unfold lastsR; rw [ht]; dsimp only; rw [if_pos h0]
        have e0 : (op, M, kd, ln, lt) = (true, 0, fun _ => 0, fun _ => 0, fun _ _ => 0) := by
          rw [h0] at ht
          exact (Option.some.inj ht).symm
        have eM : M = 0 := by injection e0 with _ e1; injection e1
        refine am_tt (show (nI n : Int32) ≤ 0 from by rw [h0]; exact Int32.le_refl _) ?_
        refine am_to (lv' := [(0, .ref 0), (1, .int (nI n))]) (st' := [.int (m.1 0 10), .ref 0]) (w' := m) rfl rfl rfl ?_
        refine am_go rfl ?_
        refine am_go rfl ?_
        iterate 3 refine am_g0 rfl rfl ?_
        rw [hR]
        refine ⟨rfl, rfl, hm.p0 (by decide), ?_, fun c hc => absurd hc (Nat.not_lt_zero c)⟩
        rw [am_pi_at, hK.1]
        show nI M + 0 = nI 0
        rw [eM]
        rfl
      · refine am_ff (show ¬ (nI n : Int32) ≤ 0 from nI_nle (by omega) (by omega)) ?_
        refine am_to (lv' := [(0, .ref 0), (1, .int (nI n)), (2, .int x), (3, .int (nI y))]) (st' := []) (w' := m) rfl rfl rfl ?_
        iterate 2 refine am_g0 rfl rfl ?_
        have no : (op = true ∨ ln M = 0) → am_R shM mi_X12_readsLasts (am_D shM (d - 1)) (fun o => (o.1 = some (.int (opI (lastsR b n).1)) ∧ am_fx [8, 9, 10] [10] w o.2 ∧ mLa o.2 (lastsR b n).2.1 (lastsR b n).2.2.1 (lastsR b n).2.2.2.1 (lastsR b n).2.2.2.2)) 263 [(0, .ref 0), (1, .int (nI n))] [] m := by
          intro h
          have e : lastsR b n = (some n, 0, fun _ => 0, fun _ => 0, fun _ _ => 0) := by unfold lastsR; rw [ht]; dsimp only; rw [if_neg h0, if_pos h]
          refine am_go rfl ?_
          iterate 4 refine am_g0 rfl rfl ?_
          exact ⟨rfl, by rw [e]; rfl, torn n m hm e⟩
        cases op with
        | true =>
          have hx : x = 0 := hx
          refine am_tt (show (x : Int32) = 0 from hx) ?_
          exact am_kl (no (Or.inl rfl)) rfl
        | false =>
          have hx : x = 1 := hx
          have hy := hy rfl
          refine am_ff (show ¬ (x : Int32) = 0 from by rw [hx]; decide) ?_
          refine am_to (lv' := [(0, .ref 0), (1, .int (nI n)), (2, .int x), (3, .int (nI y))]) (st' := []) (w' := m) rfl rfl rfl ?_
          iterate 2 refine am_g0 rfl rfl ?_
          by_cases y0 : y = 0
          · refine am_tt (show (nI y : Int32) = 0 from by rw [y0]; rfl) ?_
            exact am_kl (no (Or.inr (by omega))) rfl
          · refine am_ff (show ¬ (nI y : Int32) = 0 from nne (b := 0) y0 (by omega) (by omega)) ?_
            have hR : lastsR b n = (none, M + 1, kd, ln, lt) := by unfold lastsR; rw [ht]; dsimp only; rw [if_neg h0, if_neg (fun z => z.elim (by decide) (by omega))]
            refine am_go rfl ?_
            iterate 4 refine am_g0 rfl rfl ?_
            refine am_ff (show ¬ (nI n : Int32) ≤ 0 from nI_nle (by omega) (by omega)) ?_
            refine am_to (lv' := [(0, .ref 0), (1, .int (nI n))]) (st' := [.int (m.1 0 10), .ref 0]) (w' := m) rfl rfl rfl ?_
            iterate 2 refine am_g0 rfl rfl ?_
            refine am_go rfl ?_
            iterate 3 refine am_g0 rfl rfl ?_
            rw [hR]
            refine ⟨rfl, rfl, hm.p0 (by decide), ?_, fun l hl => ?_⟩
            · rw [am_pi_at, hK.1]; exact nI_1 M
            · rw [am_pi_row (by omega), am_pi_row (by omega), am_pi_row (by omega)]
              obtain ⟨a1, a2, a3⟩ := hK.2 l hl
              refine ⟨a1, a2 ?_, a3⟩
              by_cases e : l = M
              · show ln l ≠ 0
                rw [e]; omega
              · have hl : l < M + 1 := hl
                have := hok.2.2 l (by show l < M; omega)
                show ln l ≠ 0
                have : 1 ≤ ln l := this
                omega
    | succ j ih =>
      intro i hi m op M kd ln lt x y ht hm hK hx hy hy4
      have hok := lsok_ls ht
      have hbi := hb i (by omega)
      rw [Nat.mul_one] at hbi
      have hbm : m.1 5 (56 + i) = nI (b i) := by rw [hm.1 5 (by decide) (by decide)]; exact hbi.1
      have hnx : lsB b (i + 1) = lsStep (b i) (op, M, kd, ln, lt) := by rw [lsB, ht]; rfl
      have hTE := tornE i _ (by omega) ht
      generalize b i = v at hbi hbm hnx hTE
      have hM8 : lsM (op, M, kd, ln, lt) ≤ 8 := hok.1
      have no : lsStep v (op, M, kd, ln, lt) = none → am_R shM mi_X12_readsLasts (am_D shM (d - 1)) (fun o => (o.1 = some (.int (opI (lastsR b n).1)) ∧ am_fx [8, 9, 10] [10] w o.2 ∧ mLa o.2 (lastsR b n).2.1 (lastsR b n).2.2.1 (lastsR b n).2.2.2.1 (lastsR b n).2.2.2.2)) 143 [(0, .ref 0), (1, .int (nI n)), (2, .int x), (3, .int (nI y)), (4, .int (nI i)), (5, .int (nI v)), (6, .int 0), (7, .int 0), (8, .int 0)] [] m := by
        intro h
        have e := hTE h
        iterate 5 refine am_g0 rfl rfl ?_
        exact ⟨rfl, by rw [e]; rfl, torn i m hm e⟩
      refine am_go rfl ?_
      iterate 2 refine am_g0 rfl rfl ?_
      refine am_ff (show ¬ (nI n : Int32) ≤ (nI i) from nI_ge (by omega) (by omega)) ?_
      refine am_to (lv' := [(0, .ref 0), (1, .int (nI n)), (2, .int x), (3, .int (nI y)), (4, .int (nI i))]) (st' := []) (w' := m) rfl rfl rfl ?_
      iterate 5 refine am_g0 rfl rfl ?_
      refine am_glE (n := 168) (k := 56 + i) rfl rfl (nI_add 56 i) (by omega) (by decide) ?_
      refine am_top (y := nI v) (hbm) ?_
      iterate 3 refine am_g0 rfl rfl ?_
      cases op with
      | true =>
        have hx : x = 0 := hx
        have hM8 : M ≤ 8 := hM8
        unfold lsStep at hnx no
        rw [if_pos rfl] at hnx no
        refine am_tt (show (x : Int32) = 0 from hx) ?_
        refine am_to (lv' := [(0, .ref 0), (1, .int (nI n)), (2, .int x), (3, .int (nI y)), (4, .int (nI i)), (5, .int (nI v))]) (st' := []) (w' := m) rfl rfl rfl ?_
        iterate 3 refine am_g0 rfl rfl ?_
        have f76 : (match kindN v with | none => (none : Option LaS) | some k => if M < 8 then some (false, M, up1 kd M k, up1 ln M 0, lt) else none) = none → am_R shM mi_X12_readsLasts (am_D shM (d - 1)) (fun o => (o.1 = some (.int (opI (lastsR b n).1)) ∧ am_fx [8, 9, 10] [10] w o.2 ∧ mLa o.2 (lastsR b n).2.1 (lastsR b n).2.2.1 (lastsR b n).2.2.2.1 (lastsR b n).2.2.2.2)) 76 [(0, .ref 0), (1, .int (nI n)), (2, .int x), (3, .int (nI y)), (4, .int (nI i)), (5, .int (nI v))] [.int 0] m := by
          intro h
          refine am_go rfl ?_
          iterate 3 refine am_g0 rfl rfl ?_
          refine am_ff (show ¬ (x : Int32) = 1 from by rw [hx]; decide) ?_
          refine am_to (lv' := [(0, .ref 0), (1, .int (nI n)), (2, .int x), (3, .int (nI y)), (4, .int (nI i)), (5, .int (nI v)), (6, .int 0)]) (st' := []) (w' := m) rfl rfl rfl ?_
          refine am_go rfl ?_
          refine am_go rfl ?_
          iterate 3 refine am_g0 rfl rfl ?_
          refine am_ff (show ¬ (x : Int32) = 1 from by rw [hx]; decide) ?_
          refine am_to (lv' := [(0, .ref 0), (1, .int (nI n)), (2, .int x), (3, .int (nI y)), (4, .int (nI i)), (5, .int (nI v)), (6, .int 0), (7, .int 0)]) (st' := []) (w' := m) rfl rfl rfl ?_
          refine am_go rfl ?_
          refine am_go rfl ?_
          iterate 6 refine am_g0 rfl rfl ?_
          exact am_kl (no h) rfl
        have t76 : ∀ k, kindN v = some k → M < 8 → am_R shM mi_X12_readsLasts (am_D shM (d - 1)) (fun o => (o.1 = some (.int (opI (lastsR b n).1)) ∧ am_fx [8, 9, 10] [10] w o.2 ∧ mLa o.2 (lastsR b n).2.1 (lastsR b n).2.2.1 (lastsR b n).2.2.2.1 (lastsR b n).2.2.2.2)) 76 [(0, .ref 0), (1, .int (nI n)), (2, .int x), (3, .int (nI y)), (4, .int (nI i)), (5, .int (nI v))] [.int 1] m := by
          intro k hk hlt
          rw [hk] at hnx
          dsimp only at hnx
          rw [if_pos hlt] at hnx
          have st : am_R shM mi_X12_readsLasts (am_D shM (d - 1)) (fun o => (o.1 = some (.int (opI (lastsR b n).1)) ∧ am_fx [8, 9, 10] [10] w o.2 ∧ mLa o.2 (lastsR b n).2.1 (lastsR b n).2.2.1 (lastsR b n).2.2.2.1 (lastsR b n).2.2.2.2)) 187 [(0, .ref 0), (1, .int (nI n)), (4, .int (nI i)), (5, .int (nI v)), (7, .int 0), (8, .int 0)] [.int (nI k), .int (m.1 0 10), .ref 8] m := by
            refine am_gsE (n := 8) (k := M) rfl rfl (hK.1) (by omega) (by decide) ?_
            refine am_to (lv' := [(0, .ref 0), (1, .int (nI n)), (4, .int (nI i)), (5, .int (nI v)), (7, .int 0), (8, .int 0)]) (st' := []) (w' := am_pi m 8 M (nI k)) rfl rfl rfl ?_
            iterate 4 refine am_g0 rfl rfl ?_
            refine am_go rfl ?_
            refine am_g0 rfl rfl ?_
            refine am_go rfl ?_
            refine am_g0 rfl rfl ?_
            refine am_go rfl ?_
            refine am_g0 rfl rfl ?_
            have this := ih (i + 1) (by omega) (am_pi m 8 M (nI k)) false M _ _ _ 1 0 hnx (hm.pc (by decide) (by decide)) ⟨?_, ?_⟩ rfl (fun _ => (up1_at _ _ _).symm) (by omega)
            · rw [← nI_1 i] at this
              exact am_kl this rfl
            · rw [am_pi_row (by omega)]; exact hK.1
            · intro l hl
              have hl : l < M + 1 := hl
              rw [am_pi_row (show 9 ≠ 8 by omega), am_pi_row (show 10 ≠ 8 by omega)]
              show _ = nI (up1 kd M k l) ∧ (up1 ln M 0 l ≠ 0 → m.1 9 l = nI (up1 ln M 0 l)) ∧ ∀ j, j < up1 ln M 0 l → m.1 10 (4 * l + j) = nI (lt l j)
              by_cases e : l = M
              · rw [e, up1_at, up1_at, am_pi_at]
                exact ⟨rfl, fun z => absurd rfl z, fun j hj => absurd hj (Nat.not_lt_zero j)⟩
              · rw [up1_ne e, up1_ne e, am_pi_ne (Or.inr e)]
                exact hK.2 l (show l < M by omega)
          refine am_go rfl ?_
          iterate 3 refine am_g0 rfl rfl ?_
          refine am_ff (show ¬ (x : Int32) = 1 from by rw [hx]; decide) ?_
          refine am_to (lv' := [(0, .ref 0), (1, .int (nI n)), (2, .int x), (3, .int (nI y)), (4, .int (nI i)), (5, .int (nI v)), (6, .int 1)]) (st' := []) (w' := m) rfl rfl rfl ?_
          refine am_go rfl ?_
          refine am_go rfl ?_
          iterate 3 refine am_g0 rfl rfl ?_
          refine am_ff (show ¬ (x : Int32) = 1 from by rw [hx]; decide) ?_
          refine am_to (lv' := [(0, .ref 0), (1, .int (nI n)), (2, .int x), (3, .int (nI y)), (4, .int (nI i)), (5, .int (nI v)), (6, .int 1), (7, .int 0)]) (st' := []) (w' := m) rfl rfl rfl ?_
          refine am_go rfl ?_
          refine am_go rfl ?_
          iterate 2 refine am_g0 rfl rfl ?_
          refine am_go rfl ?_
          iterate 8 refine am_g0 rfl rfl ?_
          by_cases e1 : v = 112
          · have : k = 0 := by rw [e1] at hk; exact (Option.some.inj hk).symm
            subst this
            refine am_tt (show (nI v : Int32) = 112 from by rw [e1]; rfl) ?_
            refine am_to (lv' := [(0, .ref 0), (1, .int (nI n)), (2, .int x), (3, .int (nI y)), (4, .int (nI i)), (5, .int (nI v)), (6, .int 1), (7, .int 0), (8, .int 0)]) (st' := [.int (m.1 0 10), .ref 8]) (w' := m) rfl rfl rfl ?_
            iterate 2 refine am_g0 rfl rfl ?_
            exact am_kl st rfl
          · refine am_ff (show ¬ (nI v : Int32) = 112 from nne (b := 112) e1 (by omega) (by omega)) ?_
            refine am_to (lv' := [(0, .ref 0), (1, .int (nI n)), (2, .int x), (3, .int (nI y)), (4, .int (nI i)), (5, .int (nI v)), (6, .int 1), (7, .int 0), (8, .int 0)]) (st' := [.int (m.1 0 10), .ref 8]) (w' := m) rfl rfl rfl ?_
            refine am_go rfl ?_
            iterate 2 refine am_g0 rfl rfl ?_
            by_cases e2 : v = 100
            · have : k = 1 := by rw [e2] at hk; exact (Option.some.inj hk).symm
              subst this
              refine am_tt (show (nI v : Int32) = 100 from by rw [e2]; rfl) ?_
              refine am_to (lv' := [(0, .ref 0), (1, .int (nI n)), (4, .int (nI i)), (5, .int (nI v)), (7, .int 0), (8, .int 0)]) (st' := [.int (m.1 0 10), .ref 8]) (w' := m) rfl rfl rfl ?_
              iterate 2 refine am_g0 rfl rfl ?_
              exact am_kl st rfl
            · have : k = 2 := by
                unfold kindN at hk
                rw [if_neg e1, if_neg e2] at hk
                split at hk
                · exact (Option.some.inj hk).symm
                · cases hk
              subst this
              refine am_ff (show ¬ (nI v : Int32) = 100 from nne (b := 100) e2 (by omega) (by omega)) ?_
              refine am_to (lv' := [(0, .ref 0), (1, .int (nI n)), (4, .int (nI i)), (5, .int (nI v)), (7, .int 0), (8, .int 0)]) (st' := [.int (m.1 0 10), .ref 8]) (w' := m) rfl rfl rfl ?_
              refine am_go rfl ?_
              exact am_kl st rfl
        have at62 : ∀ k, kindN v = some k → am_R shM mi_X12_readsLasts (am_D shM (d - 1)) (fun o => (o.1 = some (.int (opI (lastsR b n).1)) ∧ am_fx [8, 9, 10] [10] w o.2 ∧ mLa o.2 (lastsR b n).2.1 (lastsR b n).2.2.1 (lastsR b n).2.2.2.1 (lastsR b n).2.2.2.2)) 62 [(0, .ref 0), (1, .int (nI n)), (2, .int x), (3, .int (nI y)), (4, .int (nI i)), (5, .int (nI v))] [] m := by
          intro k hk
          refine am_go rfl ?_
          iterate 3 refine am_g0 rfl rfl ?_
          by_cases h8 : M < 8
          · refine am_ff (show ¬ (8 : Int32) ≤ (m.1 0 10) from by rw [hK.1]; exact nI_ge (b := 8) h8 (by omega)) ?_
            refine am_to (lv' := [(0, .ref 0), (1, .int (nI n)), (2, .int x), (3, .int (nI y)), (4, .int (nI i)), (5, .int (nI v))]) (st' := []) (w' := m) rfl rfl rfl ?_
            iterate 2 refine am_g0 rfl rfl ?_
            exact am_kl (t76 k hk h8) rfl
          · refine am_tt (show (8 : Int32) ≤ (m.1 0 10) from by rw [hK.1]; exact nI_le (a := 8) (by show 8 ≤ M; omega) (by show M < _; omega)) ?_
            refine am_to (lv' := [(0, .ref 0), (1, .int (nI n)), (2, .int x), (3, .int (nI y)), (4, .int (nI i)), (5, .int (nI v))]) (st' := []) (w' := m) rfl rfl rfl ?_
            refine am_go rfl ?_
            exact am_kl (f76 (by rw [hk]; dsimp only; rw [if_neg h8])) rfl
        by_cases e1 : v = 112
        · refine am_tt (show (nI v : Int32) = 112 from by rw [e1]; rfl) ?_
          exact am_kl (at62 0 (by rw [e1]; rfl)) rfl
        · refine am_ff (show ¬ (nI v : Int32) = 112 from nne (b := 112) e1 (by omega) (by omega)) ?_
          refine am_to (lv' := [(0, .ref 0), (1, .int (nI n)), (2, .int x), (3, .int (nI y)), (4, .int (nI i)), (5, .int (nI v))]) (st' := []) (w' := m) rfl rfl rfl ?_
          iterate 3 refine am_g0 rfl rfl ?_
          by_cases e2 : v = 100
          · refine am_tt (show (nI v : Int32) = 100 from by rw [e2]; rfl) ?_
            exact am_kl (at62 1 (by rw [e2]; rfl)) rfl
          · refine am_ff (show ¬ (nI v : Int32) = 100 from nne (b := 100) e2 (by omega) (by omega)) ?_
            refine am_to (lv' := [(0, .ref 0), (1, .int (nI n)), (2, .int x), (3, .int (nI y)), (4, .int (nI i)), (5, .int (nI v))]) (st' := []) (w' := m) rfl rfl rfl ?_
            iterate 3 refine am_g0 rfl rfl ?_
            by_cases e3 : v = 116
            · refine am_tt (show (nI v : Int32) = 116 from by rw [e3]; rfl) ?_
              exact am_kl (at62 2 (by rw [e3]; rfl)) rfl
            · refine am_ff (show ¬ (nI v : Int32) = 116 from nne (b := 116) e3 (by omega) (by omega)) ?_
              refine am_to (lv' := [(0, .ref 0), (1, .int (nI n)), (2, .int x), (3, .int (nI y)), (4, .int (nI i)), (5, .int (nI v))]) (st' := []) (w' := m) rfl rfl rfl ?_
              refine am_go rfl ?_
              exact am_kl (f76 (by unfold kindN; rw [if_neg e1, if_neg e2, if_neg e3])) rfl
      | false =>
        have hx : x = 1 := hx
        have hM8 : M + 1 ≤ 8 := hM8
        have hy := hy rfl
        rw [lsStep_f hy] at hnx no
        refine am_ff (show ¬ (x : Int32) = 0 from by rw [hx]; decide) ?_
        refine am_to (lv' := [(0, .ref 0), (1, .int (nI n)), (2, .int x), (3, .int (nI y)), (4, .int (nI i)), (5, .int (nI v))]) (st' := []) (w' := m) rfl rfl rfl ?_
        refine am_go rfl ?_
        refine am_go rfl ?_
        iterate 3 refine am_g0 rfl rfl ?_
        refine am_tt (show (x : Int32) = 1 from hx) ?_
        refine am_to (lv' := [(0, .ref 0), (1, .int (nI n)), (2, .int x), (3, .int (nI y)), (4, .int (nI i)), (5, .int (nI v)), (6, .int 0)]) (st' := []) (w' := m) rfl rfl rfl ?_
        iterate 2 refine am_g0 rfl rfl ?_
        refine ⟨(some (.int (wrgI (wayN v))), m), m_wayOf (by omega) hbi.2, ?_⟩
        refine am_to (lv' := [(0, .ref 0), (1, .int (nI n)), (2, .int x), (3, .int (nI y)), (4, .int (nI i)), (5, .int (nI v)), (6, .int 0)]) (st' := [.int (wrgI (wayN v))]) (w' := m) rfl rfl rfl ?_
        iterate 2 refine am_g0 rfl rfl ?_
        by_cases e59 : v = 59
        · rw [if_pos e59] at hnx no
          refine am_tt (show (wrgI (wayN v) : Int32) = (-9) from by rw [e59]; rfl) ?_
          refine am_to (lv' := [(0, .ref 0), (1, .int (nI n)), (2, .int x), (3, .int (nI y)), (4, .int (nI i)), (5, .int (nI v)), (6, .int 0)]) (st' := []) (w' := m) rfl rfl rfl ?_
          refine am_go rfl ?_
          refine am_go rfl ?_
          iterate 3 refine am_g0 rfl rfl ?_
          refine am_tt (show (x : Int32) = 1 from hx) ?_
          refine am_to (lv' := [(0, .ref 0), (1, .int (nI n)), (2, .int x), (3, .int (nI y)), (4, .int (nI i)), (5, .int (nI v)), (6, .int 0), (7, .int 0)]) (st' := []) (w' := m) rfl rfl rfl ?_
          iterate 3 refine am_g0 rfl rfl ?_
          refine am_tt (show (nI v : Int32) = 59 from by rw [e59]; rfl) ?_
          refine am_to (lv' := [(0, .ref 0), (1, .int (nI n)), (2, .int x), (3, .int (nI y)), (4, .int (nI i)), (5, .int (nI v)), (6, .int 0), (7, .int 0)]) (st' := []) (w' := m) rfl rfl rfl ?_
          iterate 2 refine am_g0 rfl rfl ?_
          by_cases y0 : y = 0
          · refine am_tt (show (nI y : Int32) ≤ 0 from by rw [y0]; exact Int32.le_refl _) ?_
            refine am_to (lv' := [(0, .ref 0), (1, .int (nI n)), (2, .int x), (3, .int (nI y)), (4, .int (nI i)), (5, .int (nI v)), (6, .int 0), (7, .int 0)]) (st' := []) (w' := m) rfl rfl rfl ?_
            refine am_go rfl ?_
            refine am_go rfl ?_
            iterate 6 refine am_g0 rfl rfl ?_
            exact am_kl (no (by rw [if_pos y0])) rfl
          · rw [if_neg y0] at hnx
            refine am_ff (show ¬ (nI y : Int32) ≤ 0 from nI_nle (by omega) (by omega)) ?_
            iterate 2 refine am_g0 rfl rfl ?_
            refine am_go rfl ?_
            iterate 6 refine am_g0 rfl rfl ?_
            refine am_go rfl ?_
            refine am_g0 rfl rfl ?_
            refine am_go rfl ?_
            refine am_g0 rfl rfl ?_
            refine am_go rfl ?_
            iterate 6 refine am_g0 rfl rfl ?_
            refine am_top (y := nI (M + 1)) (by rw [hK.1]; exact nI_1 M) ?_
            iterate 3 refine am_g0 rfl rfl ?_
            refine am_go rfl ?_
            refine am_g0 rfl rfl ?_
            have this := ih (i + 1) (by omega) (am_pi m 0 10 (nI (M + 1))) true (M + 1) kd ln lt 0 y hnx (hm.p0 (by decide)) ⟨am_pi_at _ _ _ _, ?_⟩ rfl (fun z => by cases z) hy4
            · rw [← nI_1 i] at this
              exact am_kl this rfl
            · intro l hl
              rw [am_pi_row (by omega), am_pi_row (by omega), am_pi_row (by omega)]
              exact hK.2 l hl
        · rw [if_neg e59] at hnx no
          rcases opt_or (wayN v) with hc | ⟨a, hc⟩
          · refine am_tt (show (wrgI (wayN v) : Int32) = (-9) from by rw [hc]; rfl) ?_
            refine am_to (lv' := [(0, .ref 0), (1, .int (nI n)), (2, .int x), (3, .int (nI y)), (4, .int (nI i)), (5, .int (nI v)), (6, .int 0)]) (st' := []) (w' := m) rfl rfl rfl ?_
            refine am_go rfl ?_
            refine am_go rfl ?_
            iterate 3 refine am_g0 rfl rfl ?_
            refine am_tt (show (x : Int32) = 1 from hx) ?_
            refine am_to (lv' := [(0, .ref 0), (1, .int (nI n)), (2, .int x), (3, .int (nI y)), (4, .int (nI i)), (5, .int (nI v)), (6, .int 0), (7, .int 0)]) (st' := []) (w' := m) rfl rfl rfl ?_
            iterate 3 refine am_g0 rfl rfl ?_
            refine am_ff (show ¬ (nI v : Int32) = 59 from nne (b := 59) e59 (by omega) (by omega)) ?_
            refine am_to (lv' := [(0, .ref 0), (1, .int (nI n)), (2, .int x), (3, .int (nI y)), (4, .int (nI i)), (5, .int (nI v)), (6, .int 0), (7, .int 0)]) (st' := []) (w' := m) rfl rfl rfl ?_
            refine am_go rfl ?_
            refine am_go rfl ?_
            iterate 6 refine am_g0 rfl rfl ?_
            exact am_kl (no (by rw [hc])) rfl
          · have ha4 := wayN_lt hc
            rw [hc] at hnx no
            dsimp only at hnx no
            refine am_ff (show ¬ (wrgI (wayN v) : Int32) = (-9) from by rw [hc]; exact wr_ne (by omega)) ?_
            refine am_to (lv' := [(0, .ref 0), (1, .int (nI n)), (2, .int x), (3, .int (nI y)), (4, .int (nI i)), (5, .int (nI v)), (6, .int 0)]) (st' := []) (w' := m) rfl rfl rfl ?_
            iterate 3 refine am_g0 rfl rfl ?_
            by_cases h4 : y < 4
            · rw [if_pos h4] at hnx
              refine am_ff (show ¬ (4 : Int32) ≤ (nI y) from nI_ge (b := 4) h4 (by omega)) ?_
              refine am_to (lv' := [(0, .ref 0), (1, .int (nI n)), (2, .int x), (3, .int (nI y)), (4, .int (nI i)), (5, .int (nI v)), (6, .int 0)]) (st' := []) (w' := m) rfl rfl rfl ?_
              iterate 2 refine am_g0 rfl rfl ?_
              refine am_go rfl ?_
              iterate 3 refine am_g0 rfl rfl ?_
              refine am_tt (show (x : Int32) = 1 from hx) ?_
              refine am_to (lv' := [(0, .ref 0), (1, .int (nI n)), (2, .int x), (3, .int (nI y)), (4, .int (nI i)), (5, .int (nI v)), (6, .int 0), (7, .int 1)]) (st' := []) (w' := m) rfl rfl rfl ?_
              iterate 3 refine am_g0 rfl rfl ?_
              refine am_ff (show ¬ (nI v : Int32) = 59 from nne (b := 59) e59 (by omega) (by omega)) ?_
              refine am_to (lv' := [(0, .ref 0), (1, .int (nI n)), (2, .int x), (3, .int (nI y)), (4, .int (nI i)), (5, .int (nI v)), (6, .int 0), (7, .int 1)]) (st' := []) (w' := m) rfl rfl rfl ?_
              refine am_go rfl ?_
              refine am_go rfl ?_
              iterate 4 refine am_g0 rfl rfl ?_
              refine am_go rfl ?_
              refine am_g0 rfl rfl ?_
              refine am_go rfl ?_
              iterate 11 refine am_g0 rfl rfl ?_
              refine ⟨(some (.int (wrgI (wayN v))), m), m_wayOf (by omega) hbi.2, ?_⟩
              refine am_to (lv' := [(0, .ref 0), (1, .int (nI n)), (2, .int x), (3, .int (nI y)), (4, .int (nI i)), (5, .int (nI v)), (7, .int 1), (8, .int 0)]) (st' := [.int (wrgI (wayN v)), .int (((4 : Int32) * (m.1 0 10)) + (nI y)), .ref 10]) (w' := m) rfl rfl rfl ?_
              refine am_top (y := nI a) (by rw [hc]; rfl) ?_
              refine am_gsE (n := 32) (k := 4 * M + y) rfl rfl (by rw [hK.1, show (4 : Int32) = nI 4 from rfl, pk_mul, nI_add]) (by omega) (by decide) ?_
              refine am_to (lv' := [(0, .ref 0), (1, .int (nI n)), (2, .int x), (3, .int (nI y)), (4, .int (nI i)), (5, .int (nI v)), (7, .int 1), (8, .int 0)]) (st' := []) (w' := am_pi m 10 (4 * M + y) (nI a)) rfl rfl rfl ?_
              iterate 6 refine am_g0 rfl rfl ?_
              refine am_gsE (n := 8) (k := M) rfl rfl (by rw [am_pi_row (show 0 ≠ 10 by omega)]; exact hK.1) (by omega) (by decide) ?_
              refine am_to (lv' := [(0, .ref 0), (1, .int (nI n)), (2, .int x), (3, .int ((nI y) + 1)), (4, .int (nI i)), (5, .int (nI v)), (7, .int 1), (8, .int 0)]) (st' := []) (w' := am_pi (am_pi m 10 (4 * M + y) (nI a)) 9 M ((nI y) + 1)) rfl rfl rfl ?_
              refine am_go rfl ?_
              refine am_g0 rfl rfl ?_
              refine am_go rfl ?_
              refine am_g0 rfl rfl ?_
              have this := ih (i + 1) (by omega) (am_pi (am_pi m 10 (4 * M + y) (nI a)) 9 M (nI (y + 1))) false M kd _ _ x (y + 1) hnx ((hm.pc (by decide) (by decide)).pc (by decide) (by decide)) ⟨?_, ?_⟩ hx (fun _ => (up1_at _ _ _).symm) (by omega)
              · rw [← nI_1 i, ← nI_1 y] at this
                exact am_kl this rfl
              · rw [am_pi_row (by omega), am_pi_row (by omega)]; exact hK.1
              · intro l hl
                have hl : l < M + 1 := hl
                rw [am_pi_row (show 8 ≠ 9 by omega), am_pi_row (show 8 ≠ 10 by omega), am_pi_row (show 10 ≠ 9 by omega)]
                show _ = nI (kd l) ∧ (up1 ln M (y + 1) l ≠ 0 → _ = nI (up1 ln M (y + 1) l)) ∧ ∀ j, j < up1 ln M (y + 1) l → _ = nI (up2 lt M y a l j)
                obtain ⟨a1, a2, a3⟩ := hK.2 l hl
                refine ⟨a1, fun hz => ?_, fun j hj => ?_⟩
                · by_cases e : l = M
                  · rw [e, up1_at, am_pi_at]
                  · rw [up1_ne e] at hz ⊢
                    rw [am_pi_ne (Or.inr e), am_pi_row (by omega)]
                    exact a2 hz
                · unfold up2
                  by_cases e : l = M
                  · rw [e, up1_at] at hj
                    by_cases ej : j = y
                    · rw [if_pos ⟨e, ej⟩, e, ej, am_pi_at]
                    · rw [if_neg (fun z => ej z.2), am_pi_ne (Or.inr (by omega))]
                      exact a3 j (by show j < ln l; rw [e]; omega)
                  · rw [up1_ne e] at hj
                    have hl4 : ln l ≤ 4 := (hok.2.1 l (by show l < M + 1; omega)).2.1
                    rw [if_neg (fun z => e z.1), am_pi_ne (Or.inr (by omega))]
                    exact a3 j hj
            · refine am_tt (show (4 : Int32) ≤ (nI y) from nI_le (a := 4) (by omega) (by omega)) ?_
              refine am_to (lv' := [(0, .ref 0), (1, .int (nI n)), (2, .int x), (3, .int (nI y)), (4, .int (nI i)), (5, .int (nI v)), (6, .int 0)]) (st' := []) (w' := m) rfl rfl rfl ?_
              refine am_go rfl ?_
              refine am_go rfl ?_
              iterate 3 refine am_g0 rfl rfl ?_
              refine am_tt (show (x : Int32) = 1 from hx) ?_
              refine am_to (lv' := [(0, .ref 0), (1, .int (nI n)), (2, .int x), (3, .int (nI y)), (4, .int (nI i)), (5, .int (nI v)), (6, .int 0), (7, .int 0)]) (st' := []) (w' := m) rfl rfl rfl ?_
              iterate 3 refine am_g0 rfl rfl ?_
              refine am_ff (show ¬ (nI v : Int32) = 59 from nne (b := 59) e59 (by omega) (by omega)) ?_
              refine am_to (lv' := [(0, .ref 0), (1, .int (nI n)), (2, .int x), (3, .int (nI y)), (4, .int (nI i)), (5, .int (nI v)), (6, .int 0), (7, .int 0)]) (st' := []) (w' := m) rfl rfl rfl ?_
              refine am_go rfl ?_
              refine am_go rfl ?_
              iterate 6 refine am_g0 rfl rfl ?_
              exact am_kl (no (by rw [if_neg h4])) rfl
  exact am_kl (key n 0 (by omega) w0 true 0 _ _ _ 0 0 rfl f0 ⟨by rw [← hw0]; rfl, fun l hl => absurd hl (Nat.not_lt_zero l)⟩ rfl (fun z => by cases z) (by omega)) rfl
