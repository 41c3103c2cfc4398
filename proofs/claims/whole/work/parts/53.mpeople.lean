/-! the model reads the people -/
theorem m_figureOf {d v k : Nat} {w : am_M} (hd : 2 ≤ d) (hv : v < 256) (hk : k < 10) : am_D shM d mi_X12_figureOf [.int (nI v), .int (nI k)] w (some (.int (wrgI (if 48 ≤ v ∧ v ≤ 48 + k then some (v - 48) else none))), w) := by
  have e1 : (nI v).toInt64.toInt = v := by rw [i64_toInt, nI_toInt (by omega)]
  have e2 : ((48 : Int32) + nI k).toInt64.toInt = 48 + k := by rw [i64_toInt, show (48 : Int32) = nI 48 from rfl, nI_add, nI_toInt (by omega)]; omega
  refine am_def (by omega) rfl rfl ?_
  iterate 8 refine am_g0 rfl rfl ?_
  by_cases h : 48 ≤ v ∧ v ≤ 48 + k
  · refine ⟨(some (.int 1), w), m_in_t (by omega) (by rw [Int64.lt_iff_toInt_lt, e1]; show ¬ (v : Int) < 48; omega) (by rw [Int64.lt_iff_toInt_lt, e1, e2]; omega), ?_⟩
    refine am_to (lv' := [(0, .int (nI v)), (1, .int (nI k))]) (st' := [.int 1]) (w' := w) rfl rfl rfl ?_
    iterate 5 refine am_g0 rfl rfl ?_
    refine am_go rfl ?_
    exact ⟨rfl, by rw [if_pos h, show (48 : Int32) = nI 48 from rfl, pk_sub h.1]; rfl⟩
  · refine ⟨(some (.int 0), w), m_in_f (by omega) (by rw [Int64.lt_iff_toInt_lt, Int64.lt_iff_toInt_lt, e1, e2]; show (v : Int) < 48 ∨ _; omega), ?_⟩
    refine am_to (lv' := [(0, .int (nI v)), (1, .int (nI k))]) (st' := [.int 0]) (w' := w) rfl rfl rfl ?_
    refine am_g0 rfl rfl ?_
    refine am_go rfl ?_
    refine am_go rfl ?_
    exact ⟨rfl, by rw [if_neg h]; rfl⟩
theorem m_personOf {d k v : Nat} {w : am_M} (hd : 3 ≤ d) (hk : k < 7) (hv : v < 256) : am_D shM d mi_X12_personOf [.int (nI k), .int (nI v)] w (some (.int (wrgI (figN k v))), w) := by
  match k, hk with
  | 0, _ =>
    refine am_def (by omega) rfl rfl ?_
    iterate 2 refine am_g0 rfl rfl ?_
    refine ⟨40, Or.inr ⟨by decide, by decide, 39, rfl, rfl⟩, ?_⟩
    iterate 3 refine am_g0 rfl rfl ?_
    refine ⟨(some (.int (wrgI (figN 0 v))), w), m_figureOf (k := 3) (by omega) hv (by omega), ?_⟩
    refine am_to (lv' := [(0, .int 0), (1, .int (nI v))]) (st' := [.int (wrgI (figN 0 v))]) (w' := w) rfl rfl rfl ?_
    refine am_g0 rfl rfl ?_
    exact ⟨rfl, rfl⟩
  | 1, _ =>
    refine am_def (by omega) rfl rfl ?_
    iterate 2 refine am_g0 rfl rfl ?_
    refine ⟨46, Or.inr ⟨by decide, by decide, 45, rfl, rfl⟩, ?_⟩
    refine am_go rfl ?_
    iterate 2 refine am_g0 rfl rfl ?_
    refine ⟨(some (.int (wrgI (figN 1 v))), w), m_figureOf (k := 9) (by omega) hv (by omega), ?_⟩
    refine am_to (lv' := [(1, .int (nI v))]) (st' := [.int (wrgI (figN 1 v))]) (w' := w) rfl rfl rfl ?_
    refine am_g0 rfl rfl ?_
    exact ⟨rfl, rfl⟩
  | 2, _ =>
    refine am_def (by omega) rfl rfl ?_
    iterate 2 refine am_g0 rfl rfl ?_
    refine ⟨53, Or.inr ⟨by decide, by decide, 52, rfl, rfl⟩, ?_⟩
    refine am_go rfl ?_
    iterate 2 refine am_g0 rfl rfl ?_
    refine ⟨(some (.int (wrgI (figN 2 v))), w), m_figureOf (k := 7) (by omega) hv (by omega), ?_⟩
    refine am_to (lv' := [(1, .int (nI v))]) (st' := [.int (wrgI (figN 2 v))]) (w' := w) rfl rfl rfl ?_
    refine am_g0 rfl rfl ?_
    exact ⟨rfl, rfl⟩
  | 3, _ =>
    refine am_def (by omega) rfl rfl ?_
    iterate 2 refine am_g0 rfl rfl ?_
    refine ⟨53, Or.inr ⟨by decide, by decide, 52, rfl, rfl⟩, ?_⟩
    refine am_go rfl ?_
    iterate 2 refine am_g0 rfl rfl ?_
    refine ⟨(some (.int (wrgI (figN 3 v))), w), m_figureOf (k := 7) (by omega) hv (by omega), ?_⟩
    refine am_to (lv' := [(1, .int (nI v))]) (st' := [.int (wrgI (figN 3 v))]) (w' := w) rfl rfl rfl ?_
    refine am_g0 rfl rfl ?_
    exact ⟨rfl, rfl⟩
  | 4, _ =>
    refine am_def (by omega) rfl rfl ?_
    iterate 2 refine am_g0 rfl rfl ?_
    refine ⟨60, Or.inr ⟨by decide, by decide, 59, rfl, rfl⟩, ?_⟩
    refine am_go rfl ?_
    iterate 2 refine am_g0 rfl rfl ?_
    refine ⟨(some (.int (wrgI (figN 4 v))), w), m_figureOf (k := 5) (by omega) hv (by omega), ?_⟩
    refine am_to (lv' := [(1, .int (nI v))]) (st' := [.int (wrgI (figN 4 v))]) (w' := w) rfl rfl rfl ?_
    refine am_g0 rfl rfl ?_
    exact ⟨rfl, rfl⟩
  | 5, _ =>
    refine am_def (by omega) rfl rfl ?_
    iterate 2 refine am_g0 rfl rfl ?_
    refine ⟨66, Or.inr ⟨by decide, by decide, 65, rfl, rfl⟩, ?_⟩
    refine am_go rfl ?_
    refine am_g0 rfl rfl ?_
    refine ⟨(some (.int (wrgI (figN 5 v))), w), m_wayOf (by omega) hv, ?_⟩
    refine am_to (lv' := [(1, .int (nI v))]) (st' := [.int (wrgI (figN 5 v))]) (w' := w) rfl rfl rfl ?_
    refine am_g0 rfl rfl ?_
    exact ⟨rfl, rfl⟩
  | 6, _ =>
    refine am_def (by omega) rfl rfl ?_
    iterate 2 refine am_g0 rfl rfl ?_
    refine ⟨71, Or.inl ⟨by decide, rfl⟩, ?_⟩
    refine am_go rfl ?_
    iterate 2 refine am_g0 rfl rfl ?_
    by_cases h : v = 59
    · refine am_tt (show (nI v : Int32) = 59 from by rw [h]; rfl) ?_
      iterate 2 refine am_g0 rfl rfl ?_
      refine am_go rfl ?_
      exact ⟨rfl, by rw [h]; rfl⟩
    · refine am_ff (show ¬ (nI v : Int32) = 59 from nne (b := 59) h (by omega) (by omega)) ?_
      refine am_go rfl ?_
      refine am_go rfl ?_
      exact ⟨rfl, by unfold figN; rw [if_pos rfl, if_neg h]; rfl⟩
def mPe (w : am_M) (q : Nat) (pf : Nat → Nat → Nat) : Prop := w.1 0 14 = nI q ∧ ∀ p, p < q → ∀ j, j < 5 → w.1 11 (5 * p + j) = nI (pf p j)
/-- what a person's fields hold after so many of its signs -/
def mPp (m : am_M) (b : Nat → Nat) (p k : Nat) : Prop := (k = 1 → m.1 11 (5 * p) = nI (10 * (b (7 * p) - 48))) ∧ (2 ≤ k → m.1 11 (5 * p) = nI (pfB b p 0)) ∧ (3 ≤ k → m.1 11 (5 * p + 1) = nI (pfB b p 1)) ∧ (4 ≤ k → m.1 11 (5 * p + 2) = nI (pfB b p 2)) ∧ (5 ≤ k → m.1 11 (5 * p + 3) = nI (pfB b p 3)) ∧ (6 ≤ k → m.1 11 (5 * p + 4) = nI (pfB b p 4))
theorem figN_v {k v x : Nat} (hk : k < 5) (h : figN k v = some x) : x = v - 48 ∧ 48 ≤ v ∧ x < 10 := by
  unfold figN at h
  rw [if_neg (by omega), if_neg (by omega)] at h
  have := hiF_le k
  split at h
  · cases h; omega
  · cases h
set_option maxHeartbeats 2000000 in
theorem m_readsPeople {d n : Nat} {b : Nat → Nat} {w : am_M} (hd : 4 ≤ d) (hT : mTx w 2 n b) : ∃ o : am_O, (o.1 = some (.int (opI (peopleR b n).1)) ∧ am_fx [11] [14] w o.2 ∧ mPe o.2 (peopleR b n).2.1 (peopleR b n).2.2) ∧ am_D shM d mi_X12_readsPeople [.ref 0] w o := by
  obtain ⟨h6, hn, hb⟩ := hT
  have torn : ∀ (i : Nat) (m : am_M), am_fx [11] [14] w m → peopleR b n = (some i, 0, fun _ _ => 0) → am_fx [11] [14] w (am_pi m 0 14 0) ∧ mPe (am_pi m 0 14 0) (peopleR b n).2.1 (peopleR b n).2.2 := by
    intro i m hm e
    rw [e]
    exact ⟨hm.p0 (by decide), rfl, fun c hc => absurd hc (Nat.not_lt_zero c)⟩
  refine am_dex (by omega) rfl rfl ?_
  iterate 6 refine am_g0 rfl rfl ?_
  refine am_glN (n := 3) (k := 2) rfl rfl (by omega) (by decide) ?_
  refine am_top (y := nI n) (h6) ?_
  iterate 3 refine am_g0 rfl rfl ?_
  refine am_to (lv' := [(0, .ref 0), (1, .int (nI n)), (2, .int 0)]) (st' := []) (w' := am_pi w 0 14 0) rfl rfl rfl ?_
  generalize hw0 : am_pi w 0 14 0 = w0
  have f0 : am_fx [11] [14] w w0 := by rw [← hw0]; exact am_fx.rf.p0 (by decide)
  have key : ∀ j i : Nat, i + j = n → ∀ m : am_M, ppF b i = none → am_fx [11] [14] w m → m.1 0 14 = nI ((i + 1) / 7) → (∀ p, 7 * p < i → mPp m b p (i - 7 * p)) → am_R shM mi_X12_readsPeople (am_D shM (d - 1)) (fun o => (o.1 = some (.int (opI (peopleR b n).1)) ∧ am_fx [11] [14] w o.2 ∧ mPe o.2 (peopleR b n).2.1 (peopleR b n).2.2)) 14 [(0, .ref 0), (1, .int (nI n)), (2, .int (nI i))] [] m := by
    intro j
    induction j with
    | zero =>
      intro i hi m hF hm hq hK
      have ei : n = i := by omega
      subst ei
      refine am_go rfl ?_
      iterate 2 refine am_g0 rfl rfl ?_
      refine am_tt (show (nI n : Int32) ≤ (nI n) from Int32.le_refl _) ?_
      refine am_go rfl ?_
      refine am_g0 rfl rfl ?_
      by_cases h0 : n = 0
      · refine am_tt (show (nI n : Int32) ≤ 0 from by rw [h0]; exact Int32.le_refl _) ?_
        refine am_go rfl ?_
        refine am_g0 rfl rfl ?_
        have hR : peopleR b n = (none, 0, fun _ _ => 0) := by unfold peopleR; rw [hF]; dsimp only; rw [if_pos h0]
        rw [hR]
        exact ⟨rfl, rfl, hm, by rw [hq, h0], fun c hc => absurd hc (Nat.not_lt_zero c)⟩
      · refine am_ff (show ¬ (nI n : Int32) ≤ 0 from nI_nle (by omega) (by omega)) ?_
        iterate 3 refine am_g0 rfl rfl ?_
        refine am_top (y := nI (n % 7)) (pk_rem (d := 7) (by omega) (by omega) (by omega)) ?_
        iterate 2 refine am_g0 rfl rfl ?_
        by_cases h7 : n % 7 = 6
        · refine am_tt (show (nI (n % 7) : Int32) = 6 from by rw [h7]; rfl) ?_
          refine am_go rfl ?_
          refine am_g0 rfl rfl ?_
          have hR : peopleR b n = (none, (n + 1) / 7, pfB b) := by unfold peopleR; rw [hF]; dsimp only; rw [if_neg h0, if_pos h7]
          rw [hR]
          refine ⟨rfl, rfl, hm, hq, fun p hp j hj => ?_⟩
          have hp : p < (n + 1) / 7 := hp
          obtain ⟨_, a0, a1, a2, a3, a4⟩ := hK p (by omega)
          match j, hj with
          | 0, _ => exact a0 (by omega)
          | 1, _ => exact a1 (by omega)
          | 2, _ => exact a2 (by omega)
          | 3, _ => exact a3 (by omega)
          | 4, _ => exact a4 (by omega)
        · refine am_ff (show ¬ (nI (n % 7) : Int32) = 6 from nne (b := 6) h7 (by omega) (by omega)) ?_
          iterate 5 refine am_g0 rfl rfl ?_
          have e : peopleR b n = (some n, 0, fun _ _ => 0) := by unfold peopleR; rw [hF]; dsimp only; rw [if_neg h0, if_neg h7]
          exact ⟨rfl, by rw [e]; rfl, torn n m hm e⟩
    | succ j ih =>
      intro i hi m hF hm hq hK
      have hbi := hb i (by omega)
      have hbm : m.1 5 (112 + i) = nI (b i) := by rw [hm.1 5 (by decide) (by decide)]; exact hbi.1
      refine am_go rfl ?_
      iterate 2 refine am_g0 rfl rfl ?_
      refine am_ff (show ¬ (nI n : Int32) ≤ (nI i) from nI_ge (by omega) (by omega)) ?_
      iterate 3 refine am_g0 rfl rfl ?_
      refine am_top (y := nI (i % 7)) (pk_rem (d := 7) (by omega) (by omega) (by omega)) ?_
      iterate 7 refine am_g0 rfl rfl ?_
      refine am_glE (n := 168) (k := 112 + i) rfl rfl (nI_add 112 i) (by omega) (by decide) ?_
      refine am_top (y := nI (b i)) (hbm) ?_
      refine am_g0 rfl rfl ?_
      refine ⟨(some (.int (wrgI (figN (i % 7) (b i)))), m), m_personOf (by omega) (Nat.mod_lt _ (by omega)) hbi.2, ?_⟩
      refine am_to (lv' := [(0, .ref 0), (1, .int (nI n)), (2, .int (nI i)), (3, .int (nI (i % 7)))]) (st' := [.int (wrgI (figN (i % 7) (b i)))]) (w' := m) rfl rfl rfl ?_
      iterate 4 refine am_g0 rfl rfl ?_
      have hi7 : i % 7 < 7 := Nat.mod_lt _ (by omega)
      rcases opt_or (figN (i % 7) (b i)) with hc | ⟨x, hc⟩
      · refine am_tt (show (wrgI (figN (i % 7) (b i)) : Int32) = (-9) from by rw [hc]; rfl) ?_
        iterate 5 refine am_g0 rfl rfl ?_
        have e : peopleR b n = (some i, 0, fun _ _ => 0) := by
          have h5 := ppF_at hF hc (n - (i + 1))
          rw [show i + 1 + (n - (i + 1)) = n by omega] at h5
          unfold peopleR
          rw [h5]
        exact ⟨rfl, by rw [e]; rfl, torn i m hm e⟩
      · have hF2 : ppF b (i + 1) = none := by rw [ppF, hF, hc]
        have hx10 : x < 10 := by
          by_cases z : i % 7 < 5
          · exact (figN_v z hc).2.2
          · by_cases z5 : i % 7 = 5
            · rw [z5] at hc
              have := wayN_lt (show wayN (b i) = some x from hc)
              omega
            · have z6 : i % 7 = 6 := by omega
              rw [z6] at hc
              unfold figN at hc
              rw [if_pos rfl] at hc
              split at hc
              · cases hc; omega
              · cases hc
        refine am_ff (show ¬ (wrgI (figN (i % 7) (b i)) : Int32) = (-9) from by rw [hc]; exact wr_ne (by omega)) ?_
        refine am_to (lv' := [(0, .ref 0), (1, .int (nI n)), (2, .int (nI i)), (3, .int (nI (i % 7))), (4, .int (nI x))]) (st' := []) (w' := m) (by rw [hc]; rfl) rfl rfl ?_
        refine am_go rfl ?_
        iterate 3 refine am_g0 rfl rfl ?_
        refine am_top (y := nI (i / 7)) (pk_div (d := 7) (by omega) (by omega) (by omega)) ?_
        refine am_g0 rfl rfl ?_
        refine am_top (y := nI (5 * (i / 7))) (pk_mul 5 (i / 7)) ?_
        obtain ⟨p, hp⟩ : ∃ p, i / 7 = p := ⟨_, rfl⟩
        obtain ⟨k, hk⟩ : ∃ k, i % 7 = k := ⟨_, rfl⟩
        have hik : i = 7 * p + k := by omega
        rw [hk] at hc hi7 ⊢
        rw [hp]
        have rest : ∀ v : am_M, am_fx [11] [14] w v → v.1 0 14 = nI ((i + 1) / 7) → (∀ p', 7 * p' < i + 1 → mPp v b p' (i + 1 - 7 * p')) → k ≠ 5 → am_R shM mi_X12_readsPeople (am_D shM (d - 1)) (fun o => (o.1 = some (.int (opI (peopleR b n).1)) ∧ am_fx [11] [14] w o.2 ∧ mPe o.2 (peopleR b n).2.1 (peopleR b n).2.2)) 119 [(0, .ref 0), (1, .int (nI n)), (2, .int (nI i)), (3, .int (nI k))] [] v := by
          intro v hv hvq hvK h5
          refine am_go rfl ?_
          iterate 5 refine am_g0 rfl rfl ?_
          refine am_ff (show ¬ (nI k : Int32) = 5 from nne (b := 5) h5 (by omega) (by omega)) ?_
          refine am_go rfl ?_
          refine am_go rfl ?_
          refine am_top (y := nI ((i + 1 + 1) / 7)) (by rw [hvq, show (i + 1 + 1) / 7 = (i + 1) / 7 by omega]; exact Int32.add_zero _) ?_
          iterate 3 refine am_g0 rfl rfl ?_
          have this := ih (i + 1) (by omega) (am_pi v 0 14 (nI ((i + 1 + 1) / 7))) hF2 (hv.p0 (by decide)) (am_pi_at _ _ _ _) (fun p' hp' => by have := hvK p' hp'; unfold mPp at this ⊢; rw [am_pi_row (show 11 ≠ 0 by omega)]; exact this)
          rw [← nI_1] at this
          exact am_kl this rfl
        have rest5 : ∀ v : am_M, am_fx [11] [14] w v → v.1 0 14 = nI ((i + 1) / 7) → (∀ p', 7 * p' < i + 1 → mPp v b p' (i + 1 - 7 * p')) → k = 5 → am_R shM mi_X12_readsPeople (am_D shM (d - 1)) (fun o => (o.1 = some (.int (opI (peopleR b n).1)) ∧ am_fx [11] [14] w o.2 ∧ mPe o.2 (peopleR b n).2.1 (peopleR b n).2.2)) 119 [(0, .ref 0), (1, .int (nI n)), (2, .int (nI i)), (3, .int (nI k))] [] v := by
          intro v hv hvq hvK h5
          refine am_go rfl ?_
          iterate 5 refine am_g0 rfl rfl ?_
          refine am_tt (show (nI k : Int32) = 5 from by rw [h5]; rfl) ?_
          iterate 2 refine am_g0 rfl rfl ?_
          refine am_go rfl ?_
          refine am_top (y := nI ((i + 1 + 1) / 7)) (by rw [hvq, show (i + 1 + 1) / 7 = (i + 1) / 7 + 1 by omega]; exact nI_1 _) ?_
          iterate 3 refine am_g0 rfl rfl ?_
          have this := ih (i + 1) (by omega) (am_pi v 0 14 (nI ((i + 1 + 1) / 7))) hF2 (hv.p0 (by decide)) (am_pi_at _ _ _ _) (fun p' hp' => by have := hvK p' hp'; unfold mPp at this ⊢; rw [am_pi_row (show 11 ≠ 0 by omega)]; exact this)
          rw [← nI_1] at this
          exact am_kl this rfl
        have old : ∀ (y : Int32) (e : Nat), 5 * p ≤ e → ∀ p', p' < p → mPp (am_pi m 11 e y) b p' (i + 1 - 7 * p') := by
          intro y e he p' hp'
          have := hK p' (by omega)
          obtain ⟨a9, a0, a1, a2, a3, a4⟩ := this
          have g : ∀ j, j < 5 * p → (am_pi m 11 e y).1 11 j = m.1 11 j := fun j hj => am_pi_ne (Or.inr (by omega))
          refine ⟨fun z => by omega, fun _ => ?_, fun _ => ?_, fun _ => ?_, fun _ => ?_, fun _ => ?_⟩
          · rw [g _ (by omega)]; exact a0 (by omega)
          · rw [g _ (by omega)]; exact a1 (by omega)
          · rw [g _ (by omega)]; exact a2 (by omega)
          · rw [g _ (by omega)]; exact a3 (by omega)
          · rw [g _ (by omega)]; exact a4 (by omega)
        iterate 3 refine am_g0 rfl rfl ?_
        by_cases k0 : k = 0
        · refine am_tt (show (nI k : Int32) = 0 from by rw [k0]; rfl) ?_
          iterate 6 refine am_g0 rfl rfl ?_
          refine am_top (y := nI (10 * x)) (pk_mul 10 x) ?_
          refine am_gsN (n := 40) (k := (5 * p)) rfl rfl (by omega) (by decide) ?_
          refine am_to (lv' := [(0, .ref 0), (1, .int (nI n)), (2, .int (nI i)), (3, .int (nI k)), (4, .int (nI x)), (5, .int (nI (5 * p)))]) (st' := []) (w' := am_pi m 11 (5 * p) (nI (10 * x))) rfl rfl rfl ?_
          refine am_g0 rfl rfl ?_
          refine am_kl (rest _ (hm.pc (by decide) (by decide)) (by rw [am_pi_row (by omega)]; exact hq) (fun p' hp' => ?_) (by omega)) rfl
          by_cases e : p' = p
          · subst e
            rw [show i + 1 - 7 * p' = 1 by omega]
            have hx := (figN_v (by omega) hc).1
            refine ⟨fun _ => ?_, fun z => by omega, fun z => by omega, fun z => by omega, fun z => by omega, fun z => by omega⟩
            rw [am_pi_at, hx, show i = 7 * p' by omega]
          · exact old _ _ (by omega) p' (by omega)
        · refine am_ff (show ¬ (nI k : Int32) = 0 from nne (b := 0) k0 (by omega) (by omega)) ?_
          refine am_go rfl ?_
          iterate 2 refine am_g0 rfl rfl ?_
          have kp := hK p (by omega)
          rw [show i - 7 * p = k by omega] at kp
          obtain ⟨a9, a0, a1, a2, a3, a4⟩ := kp
          by_cases k1 : k = 1
          · have hx := (figN_v (by omega) hc).1
            refine am_tt (show (nI k : Int32) = 1 from by rw [k1]; rfl) ?_
            iterate 4 refine am_g0 rfl rfl ?_
            refine am_glN (n := 40) (k := (5 * p)) rfl rfl (by omega) (by decide) ?_
            refine am_top (y := nI (10 * (b (7 * p) - 48))) (a9 k1) ?_
            iterate 2 refine am_g0 rfl rfl ?_
            refine am_top (y := nI (pfB b p 0)) (by rw [nI_add, hx, show i = 7 * p + 1 by omega]; rfl) ?_
            refine am_gsN (n := 40) (k := (5 * p)) rfl rfl (by omega) (by decide) ?_
            refine am_to (lv' := [(0, .ref 0), (1, .int (nI n)), (2, .int (nI i)), (3, .int (nI k)), (4, .int (nI x)), (5, .int (nI (5 * p)))]) (st' := []) (w' := am_pi m 11 (5 * p) (nI (pfB b p 0))) rfl rfl rfl ?_
            refine am_g0 rfl rfl ?_
            refine am_kl (rest _ (hm.pc (by decide) (by decide)) (by rw [am_pi_row (by omega)]; exact hq) (fun p' hp' => ?_) (by omega)) rfl
            by_cases e : p' = p
            · subst e
              rw [show i + 1 - 7 * p' = 2 by omega]
              exact ⟨fun z => by omega, fun _ => am_pi_at _ _ _ _, fun z => by omega, fun z => by omega, fun z => by omega, fun z => by omega⟩
            · exact old _ _ (by omega) p' (by omega)
          · refine am_ff (show ¬ (nI k : Int32) = 1 from nne (b := 1) k1 (by omega) (by omega)) ?_
            refine am_go rfl ?_
            iterate 2 refine am_g0 rfl rfl ?_
            by_cases k6 : k = 6
            · refine am_tt (show (6 : Int32) ≤ (nI k) from nI_le (a := 6) (by omega) (by omega)) ?_
              refine am_kl (rest m hm hq (fun p' hp' => ?_) (by omega)) rfl
              obtain ⟨c9, c0, c1, c2, c3, c4⟩ := hK p' (by omega)
              exact ⟨fun z => by omega, fun _ => c0 (by omega), fun _ => c1 (by omega), fun _ => c2 (by omega), fun _ => c3 (by omega), fun _ => c4 (by omega)⟩
            · refine am_ff (show ¬ (6 : Int32) ≤ (nI k) from nI_ge (b := 6) (by omega) (by omega)) ?_
              iterate 7 refine am_g0 rfl rfl ?_
              refine am_top (y := nI (5 * p + k - 1)) (by rw [nI_add]; exact pk_sub (b := 1) (by omega)) ?_
              refine am_g0 rfl rfl ?_
              have hxv : x = pfB b p (k - 1) := by
                unfold pfB
                rw [if_neg (by omega)]
                by_cases k5 : k = 5
                · rw [if_pos (by omega), ← k5, ← hik]
                  rw [k5] at hc
                  have hw : wayN (b i) = some x := hc
                  rw [hw]
                · rw [if_neg (by omega), (figN_v (by omega) hc).1, show 7 * p + 1 + (k - 1) = i by omega]
              refine am_gsN (n := 40) (k := (5 * p + k - 1)) rfl rfl (by omega) (by decide) ?_
              refine am_to (lv' := [(0, .ref 0), (1, .int (nI n)), (2, .int (nI i)), (3, .int (nI k)), (4, .int (nI x)), (5, .int (nI (5 * p)))]) (st' := []) (w' := am_pi m 11 (5 * p + k - 1) (nI x)) rfl rfl rfl ?_
              have go : (∀ p', 7 * p' < i + 1 → mPp (am_pi m 11 (5 * p + k - 1) (nI x)) b p' (i + 1 - 7 * p')) := by
                intro p' hp'
                by_cases e : p' = p
                · subst e
                  rw [show i + 1 - 7 * p' = k + 1 by omega]
                  have g : ∀ j, j ≠ k - 1 → (am_pi m 11 (5 * p' + k - 1) (nI x)).1 11 (5 * p' + j) = m.1 11 (5 * p' + j) := fun j hj => am_pi_ne (Or.inr (by omega))
                  have gk : (am_pi m 11 (5 * p' + k - 1) (nI x)).1 11 (5 * p' + (k - 1)) = nI (pfB b p' (k - 1)) := by rw [show 5 * p' + (k - 1) = 5 * p' + k - 1 by omega, am_pi_at, hxv]
                  refine ⟨fun z => by omega, fun _ => ?_, fun _ => ?_, fun _ => ?_, fun _ => ?_, fun _ => ?_⟩
                  · have := g 0 (by omega)
                    rw [Nat.add_zero] at this
                    rw [this]; exact a0 (by omega)
                  · by_cases z : k = 2
                    · rw [z] at gk ⊢; exact gk
                    · rw [g 1 (by omega)]; exact a1 (by omega)
                  · by_cases z : k = 3
                    · rw [z] at gk ⊢; exact gk
                    · rw [g 2 (by omega)]; exact a2 (by omega)
                  · by_cases z : k = 4
                    · rw [z] at gk ⊢; exact gk
                    · rw [g 3 (by omega)]; exact a3 (by omega)
                  · by_cases z : k = 5
                    · rw [z] at gk ⊢; exact gk
                    · rw [g 4 (by omega)]; exact a4 (by omega)
                · exact old _ _ (by omega) p' (by omega)
              by_cases k5 : k = 5
              · exact am_kl (rest5 _ (hm.pc (by decide) (by decide)) (by rw [am_pi_row (by omega)]; exact hq) go k5) rfl
              · exact am_kl (rest _ (hm.pc (by decide) (by decide)) (by rw [am_pi_row (by omega)]; exact hq) go k5) rfl
  exact am_kl (key n 0 (by omega) w0 rfl f0 (by rw [← hw0]; rfl) (fun p hp => absurd hp (Nat.not_lt_zero _))) rfl
