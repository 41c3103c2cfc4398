/-! the model reads the town -/
/-- but these cells, and these slots of the model, have changed -/
def am_fx (C J : List Nat) (w w' : am_M) : Prop := (∀ a, a ∉ C → a ≠ 0 → w'.1 a = w.1 a) ∧ (∀ j, j ∉ J → w'.1 0 j = w.1 0 j) ∧ w'.2 = w.2
theorem am_fx.rf {C J : List Nat} {w : am_M} : am_fx C J w w := ⟨fun _ _ _ => rfl, fun _ _ => rfl, rfl⟩
theorem am_fx.tr {C J : List Nat} {w w' w'' : am_M} (h : am_fx C J w w') (h' : am_fx C J w' w'') : am_fx C J w w'' := ⟨fun a h1 h2 => (h'.1 a h1 h2).trans (h.1 a h1 h2), fun j hj => (h'.2.1 j hj).trans (h.2.1 j hj), h'.2.2.trans h.2.2⟩
theorem am_fx.pc {C J : List Nat} {w w' : am_M} {a j : Nat} {x : Int32} (h : am_fx C J w w') (ha : a ∈ C) (h0 : a ≠ 0) : am_fx C J w (am_pi w' a j x) := ⟨fun b h1 h2 => (am_pi_row (fun z => h1 (by rw [z]; exact ha))).trans (h.1 b h1 h2), fun i hi => (congrFun (am_pi_row (fun z => h0 z.symm)) i).trans (h.2.1 i hi), h.2.2⟩
theorem am_fx.p0 {C J : List Nat} {w w' : am_M} {j : Nat} {x : Int32} (h : am_fx C J w w') (hj : j ∈ J) : am_fx C J w (am_pi w' 0 j x) := ⟨fun b h1 h2 => (am_pi_row h2).trans (h.1 b h1 h2), fun i hi => (am_pi_ne (Or.inr (fun z => hi (by rw [z]; exact hj)))).trans (h.2.1 i hi), h.2.2⟩
theorem am_fx.mono {C J C' J' : List Nat} {w w' : am_M} (h : am_fx C J w w') (h1 : ∀ a, a ∈ C → a ∈ C') (h2 : ∀ a, a ∈ J → a ∈ J') : am_fx C' J' w w' := ⟨fun a h3 h4 => h.1 a (fun z => h3 (h1 a z)) h4, fun j hj => h.2.1 j (fun z => hj (h2 j z)), h.2.2⟩
def mTx (w : am_M) (t n : Nat) (b : Nat → Nat) : Prop := w.1 6 t = nI n ∧ n ≤ 55 ∧ ∀ i, i < n → w.1 5 (56 * t + i) = nI (b i) ∧ b i < 256
theorem mTx.fr {w w' : am_M} {t n : Nat} {b : Nat → Nat} (h : mTx w t n b) (e5 : w'.1 5 = w.1 5) (e6 : w'.1 6 = w.1 6) : mTx w' t n b := ⟨by rw [e6]; exact h.1, h.2.1, fun i hi => by rw [e5]; exact h.2.2 i hi⟩
def mTn (w : am_M) (n W : Nat) (K : Nat → Nat) : Prop := w.1 0 7 = nI n ∧ w.1 0 8 = nI W ∧ ∀ c, c < n → w.1 7 c = nI (K c)
theorem tw6 {b : Nat → Nat} : ∀ {i : Nat} {t : TS}, tw b i = some t → t.1 = 6 → t.2.1 = 0
  | 0, t, h, h6 => by cases h; cases h6
  | i + 1, t, h, h6 => by
    rw [tw] at h
    cases hz : tw b i with
    | none => rw [hz] at h; cases h
    | some u =>
      rw [hz] at h
      have h : twStep (b i) u = some t := h
      unfold twStep at h
      by_cases e6 : u.1 = 6
      · rw [if_pos e6] at h; cases h
      · rw [if_neg e6] at h
        by_cases e59 : b i = 59
        · rw [if_pos e59] at h
          split at h
          · cases h; rfl
          · cases h
        · rw [if_neg e59] at h
          split at h
          · cases h
          · by_cases hcd : u.2.1 < (if u.1 = 0 then 6 else u.2.2.1) ∧ u.2.2.2.1 < 36
            · rw [if_pos hcd] at h; cases h; exact absurd h6 e6
            · rw [if_neg hcd] at h; cases h
theorem wr_ne {k : Nat} (h : k < 1000) : ¬ nI k = -9 := fun z => absurd (nI_pos' (n := k) (by omega)) (by rw [z]; decide)
/-- the width as the model holds it -/
def mWd (r W : Nat) : Nat := if r = 0 then 0 else W
set_option maxHeartbeats 1000000 in
theorem m_readsTown {d n : Nat} {b : Nat → Nat} {w : am_M} (hd : 2 ≤ d) (hT : mTx w 0 n b) : ∃ o : am_O, (o.1 = some (.int (opI (townR b n).1)) ∧ am_fx [7] [7, 8] w o.2 ∧ mTn o.2 (townR b n).2.1 (townR b n).2.2.1 (townR b n).2.2.2) ∧ am_D shM d mi_X12_readsTown [.ref 0] w o := by
  obtain ⟨h6, hn, hb⟩ := hT
  have torn : ∀ (i : Nat) (m : am_M), am_fx [7] [7, 8] w m → townR b n = (some i, 0, 0, fun _ => 0) → am_fx [7] [7, 8] w (am_pi (am_pi m 0 7 0) 0 8 0) ∧ mTn (am_pi (am_pi m 0 7 0) 0 8 0) (townR b n).2.1 (townR b n).2.2.1 (townR b n).2.2.2 := by
    intro i m hm e
    rw [e]
    exact ⟨(hm.p0 (by decide)).p0 (by decide), rfl, rfl, fun c hc => absurd hc (Nat.not_lt_zero c)⟩
  have tornE : ∀ i t, i < n → tw b i = some t → twStep (b i) t = none → townR b n = (some i, 0, 0, fun _ => 0) := by
    intro i t hi h1 h2
    have h3 : tw b (i + 1) = none := by rw [tw, h1]; exact h2
    have h4 := tw_none h3 (n - (i + 1))
    have h5 := twF_at h1 h3 (n - (i + 1))
    rw [show i + 1 + (n - (i + 1)) = n by omega] at h4 h5
    unfold townR
    rw [h4, h5]
  refine am_dex (by omega) rfl rfl ?_
  iterate 9 refine am_g0 rfl rfl ?_
  refine am_glN (n := 3) (k := 0) rfl rfl (by omega) (by decide) ?_
  refine am_top (y := nI n) (h6) ?_
  iterate 7 refine am_g0 rfl rfl ?_
  refine am_to (lv' := [(0, .ref 0), (1, .int (nI n)), (2, .int 0), (3, .int 0), (4, .int 0)]) (st' := []) (w' := am_pi (am_pi w 0 7 0) 0 8 0) rfl rfl rfl ?_
  generalize hw0 : am_pi (am_pi w 0 7 0) 0 8 0 = w0
  have f0 : am_fx [7] [7, 8] w w0 := by rw [← hw0]; exact (am_fx.rf.p0 (by decide)).p0 (by decide)
  have key : ∀ j i : Nat, i + j = n → ∀ (m : am_M) (r c W z : Nat) (K : Nat → Nat), tw b i = some (r, c, W, z, K) → am_fx [7] [7, 8] w m → mTn m z (mWd r W) K → am_R shM mi_X12_readsTown (am_D shM (d - 1)) (fun o => o.1 = some (.int (opI (townR b n).1)) ∧ am_fx [7] [7, 8] w o.2 ∧ mTn o.2 (townR b n).2.1 (townR b n).2.2.1 (townR b n).2.2.2) 24 [(0, .ref 0), (1, .int (nI n)), (2, .int (nI r)), (3, .int (nI c)), (4, .int (nI i))] [] m := by
    intro j
    induction j with
    | zero =>
      intro i hi m r c W z K ht hm hK
      have hok := twok_tw ht
      obtain ⟨k1, k2, k3, k4, k5, k6, k7, k8⟩ := hok
      dsimp only at k1 k2 k3 k4 k5 k6 k7 k8
      have ei : n = i := by omega
      subst ei
      refine am_go rfl ?_
      iterate 2 refine am_g0 rfl rfl ?_
      refine am_tt (show (nI n : Int32) ≤ (nI n) from Int32.le_refl _) ?_
      refine am_go rfl ?_
      refine am_g0 rfl rfl ?_
      have good : (n = 0 ∨ (0 < c ∧ c = W)) → townR b n = (none, z, W, K) := fun h => by unfold townR; rw [ht]; dsimp only; rw [if_pos h]
      by_cases h0 : n = 0
      · refine am_tt (show (nI n : Int32) ≤ 0 from by rw [h0]; exact Int32.le_refl _) ?_
        refine am_go rfl ?_
        iterate 2 refine am_g0 rfl rfl ?_
        have e0 : (r, c, W, z, K) = (0, 0, 0, 0, fun _ => 0) := by
          rw [h0] at ht
          exact (Option.some.inj ht).symm
        cases e0
        have e : mWd 0 0 = 0 := rfl
        rw [good (Or.inl h0)]
        refine am_tt (show (nI n : Int32) ≤ 0 from by rw [h0]; exact Int32.le_refl _) ?_
        refine am_go rfl ?_
        refine am_go rfl ?_
        iterate 2 refine am_g0 rfl rfl ?_
        exact ⟨rfl, rfl, hm.p0 (by decide), by rw [am_pi_ne (by omega)]; exact hK.1, am_pi_at _ _ _ _, fun c hc => absurd hc (Nat.not_lt_zero c)⟩
      · refine am_ff (show ¬ (nI n : Int32) ≤ 0 from nI_nle (by omega) (by omega)) ?_
        iterate 2 refine am_g0 rfl rfl ?_
        have bad : ¬ (0 < c ∧ c = W) → townR b n = (some n, 0, 0, fun _ => 0) := fun h => by unfold townR; rw [ht]; dsimp only; rw [if_neg (fun z => z.elim h0 h)]
        have ok2 : (0 < c ∧ c = W) → am_R shM mi_X12_readsTown (am_D shM (d - 1)) (fun o => o.1 = some (.int (opI (townR b n).1)) ∧ am_fx [7] [7, 8] w o.2 ∧ mTn o.2 (townR b n).2.1 (townR b n).2.2.1 (townR b n).2.2.2) 184 [(0, .ref 0), (1, .int (nI n)), (3, .int (nI c))] [] m := by
          intro h
          rw [good (Or.inr h)]
          refine am_go rfl ?_
          iterate 2 refine am_g0 rfl rfl ?_
          refine am_ff (show ¬ (nI n : Int32) ≤ 0 from nI_nle (by omega) (by omega)) ?_
          iterate 2 refine am_g0 rfl rfl ?_
          refine am_go rfl ?_
          iterate 2 refine am_g0 rfl rfl ?_
          refine ⟨rfl, rfl, hm.p0 (by decide), by rw [am_pi_ne (by omega)]; exact hK.1, by rw [am_pi_at, h.2], fun c' hc' => by rw [am_pi_row (by omega)]; exact hK.2.2 c' hc'⟩
        have no2 : ¬ (0 < c ∧ c = W) → am_R shM mi_X12_readsTown (am_D shM (d - 1)) (fun o => o.1 = some (.int (opI (townR b n).1)) ∧ am_fx [7] [7, 8] w o.2 ∧ mTn o.2 (townR b n).2.1 (townR b n).2.2.1 (townR b n).2.2.2) 178 [(0, .ref 0), (1, .int (nI n))] [] m := by
          intro h
          have e := bad h
          refine am_go rfl ?_
          iterate 2 refine am_g0 rfl rfl ?_
          refine ⟨(some (.int (nI n)), am_pi (am_pi m 0 7 0) 0 8 0), m_torn (by omega), ?_⟩
          refine am_to (lv' := [(0, .ref 0), (1, .int (nI n))]) (st' := [.int (nI n)]) (w' := am_pi (am_pi m 0 7 0) 0 8 0) rfl rfl rfl ?_
          refine am_g0 rfl rfl ?_
          exact ⟨rfl, by rw [e]; rfl, torn n m hm e⟩
        by_cases hc0 : c = 0
        · refine am_tt (show (nI c : Int32) = 0 from by rw [hc0]; rfl) ?_
          exact am_kl (no2 (fun h => by omega)) rfl
        · refine am_ff (show ¬ (nI c : Int32) = 0 from nne (b := 0) hc0 (by omega) (by omega)) ?_
          iterate 4 refine am_g0 rfl rfl ?_
          by_cases hlt : c < mWd r W
          · refine am_ff (show ¬ (m.1 0 8 : Int32) ≤ (nI c) from by rw [hK.2.1]; exact nI_ge hlt (by unfold mWd; split <;> omega)) ?_
            exact am_kl (no2 (fun h => by unfold mWd at hlt; split at hlt <;> omega)) rfl
          · refine am_tt (show (m.1 0 8 : Int32) ≤ (nI c) from by rw [hK.2.1]; exact nI_le (by omega) (by omega)) ?_
            exact am_kl (ok2 ⟨by omega, by unfold mWd at hlt; split at hlt <;> omega⟩) rfl
    | succ j ih =>
      intro i hi m r c W z K ht hm hK
      have hok := twok_tw ht
      have h6' := tw6 ht
      have hbi := hb i (by omega)
      rw [Nat.mul_zero, Nat.zero_add] at hbi
      have hbm : m.1 5 i = nI (b i) := by rw [hm.1 5 (by decide) (by decide)]; exact hbi.1
      have hnx : tw b (i + 1) = twStep (b i) (r, c, W, z, K) := by rw [tw, ht]; rfl
      have hTE := tornE i _ (by omega) ht
      obtain ⟨k1, k2, k3, k4, k5, k6, k7, k8⟩ := hok
      dsimp only at k1 k2 k3 k4 k5 k6 k7 k8 h6'
      generalize b i = v at hbi hbm hnx hTE
      unfold twStep at hnx hTE
      dsimp only at hnx hTE
      refine am_go rfl ?_
      iterate 2 refine am_g0 rfl rfl ?_
      refine am_ff (show ¬ (nI n : Int32) ≤ (nI i) from nI_ge (by omega) (by omega)) ?_
      iterate 3 refine am_g0 rfl rfl ?_
      refine am_glN (n := 168) (k := i) rfl rfl (by omega) (by decide) ?_
      refine am_top (y := nI v) (hbm) ?_
      iterate 4 refine am_g0 rfl rfl ?_
      by_cases e59 : v = 59
      · rw [if_pos e59] at hnx hTE
        refine am_tt (show (nI v : Int32) = 59 from by rw [e59]; rfl) ?_
        iterate 2 refine am_g0 rfl rfl ?_
        have no : ¬ (r ≠ 6 ∧ 0 < c ∧ c = W) → am_R shM mi_X12_readsTown (am_D shM (d - 1)) (fun o => o.1 = some (.int (opI (townR b n).1)) ∧ am_fx [7] [7, 8] w o.2 ∧ mTn o.2 (townR b n).2.1 (townR b n).2.2.1 (townR b n).2.2.2) 65 [(0, .ref 0), (4, .int (nI i))] [] m := by
          intro h
          have e : townR b n = (some i, 0, 0, fun _ => 0) := hTE (by
            by_cases e6 : r = 6
            · rw [if_pos e6]
            · rw [if_neg e6, if_neg (fun z => h ⟨e6, z⟩)])
          refine am_go rfl ?_
          iterate 2 refine am_g0 rfl rfl ?_
          refine ⟨(some (.int (nI i)), am_pi (am_pi m 0 7 0) 0 8 0), m_torn (by omega), ?_⟩
          refine am_to (lv' := [(0, .ref 0), (4, .int (nI i))]) (st' := [.int (nI i)]) (w' := am_pi (am_pi m 0 7 0) 0 8 0) rfl rfl rfl ?_
          refine am_g0 rfl rfl ?_
          exact ⟨rfl, by rw [e]; rfl, torn i m hm e⟩
        have ok : (r ≠ 6 ∧ 0 < c ∧ c = W) → am_R shM mi_X12_readsTown (am_D shM (d - 1)) (fun o => o.1 = some (.int (opI (townR b n).1)) ∧ am_fx [7] [7, 8] w o.2 ∧ mTn o.2 (townR b n).2.1 (townR b n).2.2.1 (townR b n).2.2.2) 72 [(0, .ref 0), (1, .int (nI n)), (2, .int (nI r)), (3, .int (nI c)), (4, .int (nI i))] [] m := by
          intro h
          rw [if_neg h.1, if_pos h.2] at hnx
          refine am_go rfl ?_
          iterate 6 refine am_g0 rfl rfl ?_
          refine am_go rfl ?_
          refine am_g0 rfl rfl ?_
          have this := ih (i + 1) (by omega) (am_pi m 0 8 (nI c)) (r + 1) 0 W z K hnx (hm.p0 (by decide)) ⟨by rw [am_pi_ne (by omega)]; exact hK.1, by rw [am_pi_at]; unfold mWd; rw [if_neg (by omega), h.2.2], fun c' hc' => by rw [am_pi_row (by omega)]; exact hK.2.2 c' hc'⟩
          rw [← nI_1 r, ← nI_1 i] at this
          exact am_kl this rfl
        by_cases hc0 : c = 0
        · refine am_tt (show (nI c : Int32) = 0 from by rw [hc0]; rfl) ?_
          exact am_kl (no (fun h => by omega)) rfl
        · refine am_ff (show ¬ (nI c : Int32) = 0 from nne (b := 0) hc0 (by omega) (by omega)) ?_
          iterate 3 refine am_g0 rfl rfl ?_
          by_cases hw : mWd r W = 0
          · refine am_tt (show (m.1 0 8 : Int32) ≤ 0 from by rw [hK.2.1, hw]; exact Int32.le_refl _) ?_
            refine am_kl (ok ⟨fun z => hc0 (h6' z), by omega, ?_⟩) rfl
            unfold mWd at hw
            split at hw <;> omega
          · have hwb : mWd r W ≤ 6 := by unfold mWd; split <;> omega
            refine am_ff (show ¬ (m.1 0 8 : Int32) ≤ 0 from by rw [hK.2.1]; exact nI_nle (by omega) (by omega)) ?_
            iterate 4 refine am_g0 rfl rfl ?_
            by_cases hlt : c < mWd r W
            · refine am_ff (show ¬ (m.1 0 8 : Int32) ≤ (nI c) from by rw [hK.2.1]; exact nI_ge hlt (by omega)) ?_
              exact am_kl (no (fun h => by unfold mWd at hlt hw; split at hlt <;> omega)) rfl
            · refine am_tt (show (m.1 0 8 : Int32) ≤ (nI c) from by rw [hK.2.1]; exact nI_le (by omega) (by omega)) ?_
              exact am_kl (ok ⟨fun z => hc0 (h6' z), by omega, by unfold mWd at hlt hw; split at hlt <;> omega⟩) rfl
      · rw [if_neg e59] at hnx hTE
        refine am_ff (show ¬ (nI v : Int32) = 59 from nne (b := 59) e59 (by omega) (by omega)) ?_
        refine am_go rfl ?_
        refine am_g0 rfl rfl ?_
        refine ⟨(some (.int (wrgI (cellN v))), m), m_cellOf (by omega) hbi.2, ?_⟩
        refine am_to (lv' := [(0, .ref 0), (1, .int (nI n)), (2, .int (nI r)), (3, .int (nI c)), (4, .int (nI i)), (5, .int (nI v))]) (st' := [.int (wrgI (cellN v))]) (w' := m) rfl rfl rfl ?_
        iterate 4 refine am_g0 rfl rfl ?_
        have no : (if r = 6 then (none : Option TS) else (match cellN v with | none => none | some k => if c < (if r = 0 then 6 else W) ∧ z < 36 then some (r, c + 1, (if r = 0 then c + 1 else W), z + 1, fun i => if i = z then k else K i) else none)) = none → am_R shM mi_X12_readsTown (am_D shM (d - 1)) (fun o => o.1 = some (.int (opI (townR b n).1)) ∧ am_fx [7] [7, 8] w o.2 ∧ mTn o.2 (townR b n).2.1 (townR b n).2.2.1 (townR b n).2.2.2) 125 [(0, .ref 0), (4, .int (nI i))] [] m := by
          intro h
          have e : townR b n = (some i, 0, 0, fun _ => 0) := hTE h
          refine am_go rfl ?_
          iterate 2 refine am_g0 rfl rfl ?_
          refine ⟨(some (.int (nI i)), am_pi (am_pi m 0 7 0) 0 8 0), m_torn (by omega), ?_⟩
          refine am_to (lv' := [(0, .ref 0), (4, .int (nI i))]) (st' := [.int (nI i)]) (w' := am_pi (am_pi m 0 7 0) 0 8 0) rfl rfl rfl ?_
          refine am_g0 rfl rfl ?_
          exact ⟨rfl, by rw [e]; rfl, torn i m hm e⟩
        rcases opt_or (cellN v) with hc | ⟨k, hc⟩
        · refine am_tt (show (wrgI (cellN v) : Int32) = (-9) from by rw [hc]; rfl) ?_
          exact am_kl (no (by rw [hc]; split <;> rfl)) rfl
        · have hk4 := cellN_lt hc
          rw [hc] at hnx no
          dsimp only at hnx no
          refine am_ff (show ¬ (wrgI (cellN v) : Int32) = (-9) from by rw [hc]; exact wr_ne (by omega)) ?_
          refine am_to (lv' := [(0, .ref 0), (1, .int (nI n)), (2, .int (nI r)), (3, .int (nI c)), (4, .int (nI i)), (5, .int (nI v)), (6, .int (nI k))]) (st' := []) (w' := m) (by rw [hc]; rfl) rfl rfl ?_
          iterate 3 refine am_g0 rfl rfl ?_
          by_cases e6 : r = 6
          · refine am_tt (show (nI r : Int32) = 6 from by rw [e6]; rfl) ?_
            exact am_kl (no (by rw [if_pos e6])) rfl
          · rw [if_neg e6] at hnx no
            refine am_ff (show ¬ (nI r : Int32) = 6 from nne (b := 6) e6 (by omega) (by omega)) ?_
            iterate 4 refine am_g0 rfl rfl ?_
            have hbd : ∀ y : Int32, y = nI (if r = 0 then 6 else W) → am_R shM mi_X12_readsTown (am_D shM (d - 1)) (fun o => o.1 = some (.int (opI (townR b n).1)) ∧ am_fx [7] [7, 8] w o.2 ∧ mTn o.2 (townR b n).2.1 (townR b n).2.2.1 (townR b n).2.2.2) 122 [(0, .ref 0), (1, .int (nI n)), (2, .int (nI r)), (3, .int (nI c)), (4, .int (nI i)), (6, .int (nI k))] [.int y, .int (nI c)] m := by
              intro y hy
              have hB6 : (if r = 0 then 6 else W) ≤ 6 := by split <;> omega
              have hcB : c ≤ (if r = 0 then 6 else W) := by split <;> omega
              generalize hBB : (if r = 0 then 6 else W) = B at hy hnx no hB6 hcB
              refine am_go rfl ?_
              by_cases hcb : c = B
              · refine am_tt (show (nI c : Int32) = y from by rw [hy, hcb]) ?_
                exact am_kl (no (by rw [if_neg (fun z => by omega)])) rfl
              · refine am_ff (show ¬ (nI c : Int32) = y from by rw [hy]; exact nne hcb (by omega) (by omega)) ?_
                have hz36 : z < 36 := by
                  by_cases r0 : r = 0
                  · rw [r0] at k5; omega
                  · rw [if_neg r0] at hBB
                    have := Nat.mul_le_mul (show r ≤ 5 by omega) k3
                    omega
                rw [if_pos ⟨by omega, hz36⟩] at hnx
                refine am_go rfl ?_
                iterate 4 refine am_g0 rfl rfl ?_
                refine am_gsE (n := 36) (k := z) rfl rfl (hK.1) (by omega) (by decide) ?_
                refine am_to (lv' := [(0, .ref 0), (1, .int (nI n)), (2, .int (nI r)), (3, .int (nI c)), (4, .int (nI i)), (6, .int (nI k))]) (st' := []) (w' := am_pi m 7 z (nI k)) rfl rfl rfl ?_
                iterate 5 refine am_g0 rfl rfl ?_
                refine am_top (y := nI (z + 1)) (by rw [am_pi_ne (by omega), hK.1, nI_1]) ?_
                iterate 2 refine am_g0 rfl rfl ?_
                refine am_go rfl ?_
                refine am_g0 rfl rfl ?_
                have this := ih (i + 1) (by omega) _ r (c + 1) _ (z + 1) _ hnx ((hm.pc (a := 7) (j := z) (x := nI k) (by decide) (by decide)).p0 (j := 7) (x := nI (z + 1)) (by decide)) ⟨am_pi_at _ _ _ _, ?_, ?_⟩
                · rw [← nI_1 c, ← nI_1 i] at this
                  exact am_kl this rfl
                · rw [am_pi_ne (by omega), am_pi_row (by omega), hK.2.1]
                  unfold mWd
                  by_cases r0 : r = 0
                  · rw [if_pos r0, if_pos r0]
                  · rw [if_neg r0, if_neg r0, if_neg r0]
                · intro c' hc'
                  rw [am_pi_row (by omega)]
                  show _ = nI (if c' = z then k else K c')
                  by_cases e : c' = z
                  · rw [e, am_pi_at, if_pos rfl]
                  · rw [am_pi_ne (Or.inr e), if_neg e]; exact hK.2.2 c' (by omega)
            by_cases r0 : r = 0
            · refine am_tt (show (m.1 0 8 : Int32) = 0 from by rw [hK.2.1]; unfold mWd; rw [if_pos r0]; rfl) ?_
              iterate 2 refine am_g0 rfl rfl ?_
              exact am_kl (hbd 6 (by rw [if_pos r0]; rfl)) rfl
            · have := k7 r0
              refine am_ff (show ¬ (m.1 0 8 : Int32) = 0 from by rw [hK.2.1]; unfold mWd; rw [if_neg r0]; exact nI_ne0 (by omega) (by omega)) ?_
              refine am_go rfl ?_
              refine am_g0 rfl rfl ?_
              exact am_kl (hbd _ (by rw [hK.2.1]; unfold mWd; rw [if_neg r0, if_neg r0])) rfl
  refine am_kl (key n 0 (by omega) w0 0 0 0 0 (fun _ => 0) rfl f0 ⟨by rw [← hw0]; rfl, by rw [← hw0]; rfl, fun c hc => absurd hc (Nat.not_lt_zero c)⟩) rfl
