/-! the model and what both sides hold -/
def RMh (w : am_M) (S : Sp) : Prop := ∀ s, s < 4 → (S.sz s = none → w.1 1 s = -1) ∧ ∀ n, S.sz s = some n → w.1 1 s = nI (S.fm s) ∧ w.1 2 s = nI n ∧ ∀ i, i < n → w.1 3 (60 * s + i) = S.it s i
def RMr (w : am_M) (S : Sp) : Prop := w.1 0 16 = nI S.rn ∧ ∀ i, i < S.rn → w.1 12 i = nI (S.rs i)
def RMs (w : am_M) (S : Sp) : Prop := w.1 0 32 = nI S.sn ∧ ∀ i, i < S.sn → w.1 22 (3 * i) = nI (S.st i) ∧ w.1 22 (3 * i + 1) = nI (S.pe i) ∧ w.1 22 (3 * i + 2) = nI (S.ce i)
def RMt (w : am_M) (S : Sp) : Prop := ∀ t, t < 3 → w.1 6 t = nI (S.tl t) ∧ ∀ i, i < S.tl t → w.1 5 (56 * t + i) = nI (S.tb t i)
def RM (w : am_M) (S : Sp) : Prop := RMt w S ∧ RMh w S ∧ w.1 0 4 = S.fn ∧ RMr w S ∧ RMs w S ∧ w.1 0 18 = 0 ∧ w.1 0 19 = -1
/-- what holds of it by itself -/
def SG (S : Sp) : Prop := sok S ∧ Vok S.V ∧ S.q ≤ 8 ∧ ∀ p, p < S.q → Pok (prS S.pf p)
theorem RC.sg {w : am_M} {S : Sp} (h : RC w S) : SG S := ⟨h.1.1, h.1.V.ok, h.q8, fun _ hp => h.1.P.ok hp⟩
def SW (S : Sp) : Nat := (townR (S.tb 0) (S.tl 0)).2.2.1
theorem townR_w (b : Nat → Nat) (n : Nat) : ((townR b n).2.1 ≠ 0 → 1 ≤ (townR b n).2.2.1) ∧ (townR b n).2.2.1 ≤ 6 ∧ ∃ r, (townR b n).2.1 = r * (townR b n).2.2.1 := by
  unfold townR
  cases h : tw b n with
  | none => exact ⟨fun z => absurd rfl z, Nat.zero_le _, 0, rfl⟩
  | some t =>
    dsimp only
    obtain ⟨k1, k2, k3, k4, k5, k6, k7, k8⟩ := twok_tw h
    split
    · rename_i hc
      dsimp only
      refine ⟨fun z => ?_, k3, ?_⟩
      · rcases hc with e | e
        · rw [e] at h
          cases h
          exact absurd rfl z
        · omega
      · rcases hc with e | e
        · rw [e] at h
          cases h
          exact ⟨0, rfl⟩
        · exact ⟨t.1 + 1, by rw [Nat.succ_mul, k5, e.2]⟩
    · exact ⟨fun z => absurd rfl z, Nat.zero_le _, 0, rfl⟩
theorem RM.fr {w w' : am_M} {S : Sp} {C J : List Nat} (h : RM w S) (e : am_fx C J w w') (hC : ∀ a, a ∈ [1, 2, 3, 5, 6, 12, 22] → a ∉ C) (hJ : ∀ a, a ∈ [4, 16, 18, 19, 32] → a ∉ J) : RM w' S := by
  obtain ⟨h1, h2, h3, h4, h5, h6, h7⟩ := h
  have g : ∀ a, a ∈ [1, 2, 3, 5, 6, 12, 22] → w'.1 a = w.1 a := fun a ha => e.1 a (hC a ha) (fun z => by rw [z] at ha; exact absurd ha (by decide))
  have k : ∀ j, j ∈ [4, 16, 18, 19, 32] → w'.1 0 j = w.1 0 j := fun j hj => e.2.1 j (hJ j hj)
  refine ⟨fun t ht => by rw [g 6 (by decide), g 5 (by decide)]; exact h1 t ht, fun s hs => by rw [g 1 (by decide), g 2 (by decide), g 3 (by decide)]; exact h2 s hs, by rw [k 4 (by decide)]; exact h3, ⟨by rw [k 16 (by decide)]; exact h4.1, fun i hi => by rw [g 12 (by decide)]; exact h4.2 i hi⟩, ⟨by rw [k 32 (by decide)]; exact h5.1, fun i hi => by rw [g 22 (by decide)]; exact h5.2 i hi⟩, by rw [k 18 (by decide)]; exact h6, by rw [k 19 (by decide)]; exact h7⟩
theorem RM.tx {w : am_M} {S : Sp} (h : RM w S) (g : SG S) {t : Nat} (ht : t < 3) : mTx w t (S.tl t) (S.tb t) := ⟨(h.1 t ht).1, Nat.le_trans (g.1.1 t ht).1 (mxT_le t), fun i hi => ⟨(h.1 t ht).2 i hi, (g.1.1 t ht).2 i hi⟩⟩
theorem RM.W {w : am_M} {S : Sp} (h : RM w S) (g : SG S) : mW w (wet0 S) := by
  have g8 := g.1.2.1.1
  refine Or.inl ⟨h.2.2.2.2.2.2, S.rn, S.rs, g8, h.2.2.2.1.1, fun i hi => ⟨h.2.2.2.1.2 i hi, g.1.2.1.2 i hi⟩, fun s hs => ?_⟩
  rw [h.2.2.2.2.2.1]
  exact wetN_congr (fun i hi => (wetB_0 (by omega)).symm) s
/-- the town, the lasts, the people as read -/
def mRd (w : am_M) (S : Sp) : Prop := mV w S.V (SW S) ∧ mPe w S.q S.pf
theorem mRd.P {w : am_M} {S : Sp} (h : mRd w S) (g : SG S) : ∀ p, p < S.q → mPr w p (prS S.pf p) ∧ Pok (prS S.pf p) := fun p hp => ⟨⟨(h.2.2 p hp 0 (by omega)), h.2.2 p hp 1 (by omega), h.2.2 p hp 2 (by omega), h.2.2 p hp 3 (by omega), h.2.2 p hp 4 (by omega)⟩, g.2.2.2 p hp⟩
theorem mTn.fr {w w' : am_M} {n W : Nat} {K : Nat → Nat} (h : mTn w n W K) (e7 : w'.1 0 7 = w.1 0 7) (e8 : w'.1 0 8 = w.1 0 8) (e : w'.1 7 = w.1 7) : mTn w' n W K := ⟨e7.trans h.1, e8.trans h.2.1, fun c hc => by rw [e]; exact h.2.2 c hc⟩
theorem mLa.fr {w w' : am_M} {m : Nat} {kd ln : Nat → Nat} {lt : Nat → Nat → Nat} (h : mLa w m kd ln lt) (e : w'.1 0 10 = w.1 0 10) (e8 : w'.1 8 = w.1 8) (e9 : w'.1 9 = w.1 9) (e10 : w'.1 10 = w.1 10) : mLa w' m kd ln lt := ⟨e.trans h.1, fun l hl => by rw [e8, e9, e10]; exact h.2 l hl⟩
theorem mV_of {w : am_M} {S : Sp} (g : SG S) (h1 : mTn w S.V.1 (SW S) S.V.2.1) (h2 : mLa w S.V.2.2.2.1 S.V.2.2.2.2.1 S.V.2.2.2.2.2.1 S.V.2.2.2.2.2.2) : mV w S.V (SW S) := by
  obtain ⟨a, b, c⟩ := townR_w (S.tb 0) (S.tl 0)
  exact ⟨h1, rfl, a, b, c, g.2.1, h2⟩
theorem m_find {d : Nat} {w : am_M} {S : Sp} (hd : 6 ≤ d) (h : RM w S) (g : SG S) : ∃ o : am_O, (o.1 = none ∧ am_fx [7, 8, 9, 10, 11, 13, 14, 15, 16, 17, 18, 19, 20] [7, 8, 10, 14, 28, 29, 30] w o.2 ∧ mRd o.2 S ∧ mLv o.2 S.V (prS S.pf) (wet0 S) S.q) ∧ am_D shM d mi_X12_find [.ref 0] w o := by
  refine am_dex (by omega) rfl rfl ?_
  iterate 2 refine am_g0 rfl rfl ?_
  obtain ⟨⟨r1, w1⟩, ⟨e1, f1, g1⟩, hD1⟩ := m_readsTown (d := d - 1) (by omega) (h.tx g (t := 0) (by omega))
  dsimp only at e1 f1 g1
  subst e1
  refine ⟨(some (.int (opI (townR (S.tb 0) (S.tl 0)).1)), w1), hD1, ?_⟩
  refine am_to (lv' := [(0, .ref 0)]) (st' := [.int (opI (townR (S.tb 0) (S.tl 0)).1)]) (w' := w1) rfl rfl rfl ?_
  have r1 : RM w1 S := h.fr f1 (by decide) (by decide)
  iterate 3 refine am_g0 rfl rfl ?_
  obtain ⟨⟨r2, w2⟩, ⟨e2, f2, g2⟩, hD2⟩ := m_readsLasts (d := d - 1) (by omega) (r1.tx g (t := 1) (by omega))
  dsimp only at e2 f2 g2
  subst e2
  refine ⟨(some (.int (opI (lastsR (S.tb 1) (S.tl 1)).1)), w2), hD2, ?_⟩
  refine am_to (lv' := [(0, .ref 0)]) (st' := [.int (opI (lastsR (S.tb 1) (S.tl 1)).1)]) (w' := w2) rfl rfl rfl ?_
  have r2 : RM w2 S := r1.fr f2 (by decide) (by decide)
  iterate 3 refine am_g0 rfl rfl ?_
  obtain ⟨⟨r3, w3⟩, ⟨e3, f3, g3⟩, hD3⟩ := m_readsPeople (d := d - 1) (by omega) (r2.tx g (t := 2) (by omega))
  dsimp only at e3 f3 g3
  subst e3
  refine ⟨(some (.int (opI (peopleR (S.tb 2) (S.tl 2)).1)), w3), hD3, ?_⟩
  refine am_to (lv' := [(0, .ref 0)]) (st' := [.int (opI (peopleR (S.tb 2) (S.tl 2)).1)]) (w' := w3) rfl rfl rfl ?_
  have r3 : RM w3 S := r2.fr f3 (by decide) (by decide)
  have hV3 : mV w3 S.V (SW S) := mV_of g ((g1.fr (f2.2.1 7 (by decide)) (f2.2.1 8 (by decide)) (f2.1 7 (by decide) (by decide))).fr (f3.2.1 7 (by decide)) (f3.2.1 8 (by decide)) (f3.1 7 (by decide) (by decide))) (g2.fr (f3.2.1 10 (by decide)) (f3.1 8 (by decide) (by decide)) (f3.1 9 (by decide) (by decide)) (f3.1 10 (by decide) (by decide)))
  have hR3 : mRd w3 S := ⟨hV3, g3⟩
  iterate 3 refine am_g0 rfl rfl ?_
  obtain ⟨⟨r4, w4⟩, ⟨e4, f4, g4⟩, hD4⟩ := m_lives (d := d - 1) (by omega) hV3 (r3.W g) g3.1 g.2.2.1 (hR3.P g)
  dsimp only at e4 f4 g4
  subst e4
  refine ⟨(none, w4), hD4, ?_⟩
  refine am_to (lv' := [(0, .ref 0)]) (st' := []) (w' := w4) rfl rfl rfl ?_
  refine am_g0 rfl rfl ?_
  refine ⟨rfl, rfl, (((f1.mono (by decide) (by decide)).tr (f2.mono (by decide) (by decide))).tr (f3.mono (by decide) (by decide))).tr (f4.mono (by decide) (by decide)), ⟨?_, ?_⟩, g4⟩
  · exact hV3.fr (fun j hj => f4.2.1 j (by rcases hj with z | z | z <;> (rw [z]; decide))) (fun a h1 h2 => f4.1 a (by simp; omega) (by omega))
  · exact ⟨(f4.2.1 14 (by decide)).trans g3.1, fun p hp j hj => by rw [f4.1 11 (by decide) (by decide)]; exact g3.2 p hp j hj⟩
/-! texts -/
theorem ix56 (t i : Nat) : (56 : Int32) * nI t + nI i = nI (56 * t + i) := by rw [show (56 : Int32) = nI 56 from rfl, pk_mul, nI_add]
theorem RMt_up {w w' : am_M} {S : Sp} {t : Nat} {tl : Nat → Nat} {tb : Nat → Nat → Nat} (h : RM w S) (ht : t < 3) (e : am_fx [5, 6] [] w w') (h6 : ∀ k, k ≠ t → w'.1 6 k = w.1 6 k) (h5 : ∀ k i, k ≠ t → k < 3 → i < S.tl k → w'.1 5 (56 * k + i) = w.1 5 (56 * k + i)) (hl : ∀ k, k ≠ t → tl k = S.tl k ∧ tb k = S.tb k) (hc : w'.1 6 t = nI (tl t) ∧ ∀ i, i < tl t → w'.1 5 (56 * t + i) = nI (tb t i)) : RM w' (S.setT tl tb) := by
  obtain ⟨h1, h2, h3, h4, h5', h6', h7⟩ := h
  refine ⟨fun k hk => ?_, fun s hs => ?_, ?_, ⟨?_, fun i hi => ?_⟩, ⟨?_, fun i hi => ?_⟩, ?_, ?_⟩
  · show w'.1 6 k = nI (tl k) ∧ ∀ i, i < tl k → w'.1 5 (56 * k + i) = nI (tb k i)
    by_cases z : k = t
    · subst z; exact hc
    · rw [(hl k z).1, (hl k z).2, h6 k z]
      exact ⟨(h1 k hk).1, fun i hi => by rw [h5 k i z hk hi]; exact (h1 k hk).2 i hi⟩
  · rw [e.1 1 (by decide) (by decide), e.1 2 (by decide) (by decide), e.1 3 (by decide) (by decide)]; exact h2 s hs
  · rw [e.2.1 4 (by decide)]; exact h3
  · rw [e.2.1 16 (by decide)]; exact h4.1
  · rw [e.1 12 (by decide) (by decide)]; exact h4.2 i hi
  · rw [e.2.1 32 (by decide)]; exact h5'.1
  · rw [e.1 22 (by decide) (by decide)]; exact h5'.2 i hi
  · rw [e.2.1 18 (by decide)]; exact h6'
  · rw [e.2.1 19 (by decide)]; exact h7
theorem m_type {d : Nat} {x y : Int32} {w : am_M} {S : Sp} (hd : 4 ≤ d) (h : RM w S) (g : SG S) : ∃ o : am_O, (o.1 = some (.int (typeS S x y).1) ∧ RM o.2 (typeS S x y).2) ∧ am_D shM d mi_X12_type [.ref 0, .int x, .int y] w o := by
  rcases dI_or x 3 (by decide) with hx | ⟨t, ht, rfl, hx⟩
  · refine am_dex (by omega) rfl rfl ?_
    iterate 2 refine am_g0 rfl rfl ?_
    refine ⟨(some (.int 0), w), m_isText_n (by omega) hx, ?_⟩
    refine am_to (lv' := [(0, .ref 0), (1, .int x), (2, .int y)]) (st' := [.int 0]) (w' := w) rfl rfl rfl ?_
    refine am_g0 rfl rfl ?_
    refine am_go rfl ?_
    refine am_g0 rfl rfl ?_
    exact ⟨rfl, by unfold typeS; rw [hx], by unfold typeS; rw [hx]; exact h⟩
  · rcases dI_or y 256 (by decide) with hy | ⟨b, hb, rfl, hy⟩
    · refine am_dex (by omega) rfl rfl ?_
      iterate 2 refine am_g0 rfl rfl ?_
      refine ⟨(some (.int 1), w), m_isText_s (by omega) ht, ?_⟩
      refine am_to (lv' := [(0, .ref 0), (1, .int (nI t)), (2, .int y)]) (st' := [.int 1]) (w' := w) rfl rfl rfl ?_
      iterate 6 refine am_g0 rfl rfl ?_
      refine ⟨(some (.int 0), w), m_inn (n := 256) (by omega) (by omega) (by decide) hy, ?_⟩
      refine am_to (lv' := [(0, .ref 0), (1, .int (nI t)), (2, .int y)]) (st' := [.int 0]) (w' := w) rfl rfl rfl ?_
      refine am_g0 rfl rfl ?_
      refine am_go rfl ?_
      refine am_g0 rfl rfl ?_
      exact ⟨rfl, by unfold typeS; rw [hx, hy], by unfold typeS; rw [hx, hy]; exact h⟩
    · have ht6 := (h.1 t ht).1
      have htl := (g.1.1 t ht).1
      have hm := mxT_le t
      have rest : am_R shM mi_X12_type (am_D shM (d - 1)) (fun o => o.1 = some (.int (typeS S (nI t) (nI b)).1) ∧ RM o.2 (typeS S (nI t) (nI b)).2) 49 [(0, .ref 0), (1, .int (nI t)), (2, .int (nI b))] [.int (nI (mxT t)), .int (nI (S.tl t))] w := by
        refine am_go rfl ?_
        by_cases hf : S.tl t = mxT t
        · refine am_tt (show (nI (S.tl t) : Int32) = (nI (mxT t)) from by rw [hf]) ?_
          iterate 2 refine am_g0 rfl rfl ?_
          exact ⟨rfl, by unfold typeS; rw [hx, hy]; dsimp only; rw [if_pos hf], by unfold typeS; rw [hx, hy]; dsimp only; rw [if_pos hf]; exact h⟩
        · refine am_ff (show ¬ (nI (S.tl t) : Int32) = (nI (mxT t)) from nne hf (by omega) (by omega)) ?_
          have hS : typeS S (nI t) (nI b) = (nI (S.tl t + 1), S.setT (up1 S.tl t (S.tl t + 1)) (up2 S.tb t (S.tl t) b)) := by unfold typeS; rw [hx, hy]; dsimp only; rw [if_neg hf]
          rw [hS]
          refine am_go rfl ?_
          iterate 7 refine am_g0 rfl rfl ?_
          refine am_glN (n := 3) (k := t) rfl rfl (by omega) (by decide) ?_
          refine am_top (y := nI (S.tl t)) (ht6) ?_
          iterate 2 refine am_g0 rfl rfl ?_
          refine am_gsE (n := 168) (k := 56 * t + S.tl t) rfl rfl (ix56 t _) (by omega) (by decide) ?_
          refine am_to (lv' := [(0, .ref 0), (1, .int (nI t)), (2, .int (nI b))]) (st' := []) (w' := am_pi w 5 (56 * t + S.tl t) (nI b)) rfl rfl rfl ?_
          iterate 4 refine am_g0 rfl rfl ?_
          refine am_glN (n := 3) (k := t) rfl rfl (by omega) (by decide) ?_
          refine am_top (y := nI (S.tl t)) (by rw [am_pi_row (by omega)]; exact ht6) ?_
          iterate 2 refine am_g0 rfl rfl ?_
          refine am_top (y := nI (S.tl t + 1)) (nI_1 _) ?_
          refine am_gsN (n := 3) (k := t) rfl rfl (by omega) (by decide) ?_
          refine am_to (lv' := [(0, .ref 0), (1, .int (nI t)), (2, .int (nI b))]) (st' := []) (w' := am_pi (am_pi w 5 (56 * t + S.tl t) (nI b)) 6 t (nI (S.tl t + 1))) rfl rfl rfl ?_
          iterate 3 refine am_g0 rfl rfl ?_
          refine am_glN (n := 3) (k := t) rfl rfl (by omega) (by decide) ?_
          refine am_top (y := nI (S.tl t + 1)) (am_pi_at _ _ _ _) ?_
          refine am_g0 rfl rfl ?_
          refine ⟨rfl, rfl, RMt_up h ht ((am_fx.rf.pc (by decide) (by decide)).pc (by decide) (by decide)) (fun k hk => by rw [am_pi_ne (Or.inr hk), am_pi_row (by omega)]) (fun k i hk hk3 hi => ?_) (fun k hk => ⟨up1_ne hk, ?_⟩) ⟨?_, fun i hi => ?_⟩⟩
          · have := (g.1.1 k hk3).1
            have := mxT_le k
            rw [am_pi_row (by omega), am_pi_ne (Or.inr (by omega))]
          · funext i
            unfold up2
            rw [if_neg (fun z => hk z.1)]
          · rw [am_pi_at, up1_at]
          · rw [up1_at] at hi
            rw [am_pi_row (by omega)]
            unfold up2
            by_cases e : i = S.tl t
            · rw [if_pos ⟨rfl, e⟩, e, am_pi_at]
            · rw [if_neg (fun z => e z.2), am_pi_ne (Or.inr (by omega))]
              exact (h.1 t ht).2 i (by omega)
      refine am_dex (by omega) rfl rfl ?_
      iterate 2 refine am_g0 rfl rfl ?_
      refine ⟨(some (.int 1), w), m_isText_s (by omega) ht, ?_⟩
      refine am_to (lv' := [(0, .ref 0), (1, .int (nI t)), (2, .int (nI b))]) (st' := [.int 1]) (w' := w) rfl rfl rfl ?_
      iterate 6 refine am_g0 rfl rfl ?_
      refine ⟨(some (.int 1), w), m_ins (n := 256) (by omega) (by omega) (by decide) hb, ?_⟩
      refine am_to (lv' := [(0, .ref 0), (1, .int (nI t)), (2, .int (nI b))]) (st' := [.int 1]) (w' := w) rfl rfl rfl ?_
      refine am_g0 rfl rfl ?_
      refine am_go rfl ?_
      iterate 2 refine am_g0 rfl rfl ?_
      refine am_glN (n := 3) (k := t) rfl rfl (by omega) (by decide) ?_
      refine am_top (y := nI (S.tl t)) (ht6) ?_
      iterate 2 refine am_g0 rfl rfl ?_
      by_cases t0 : t = 0
      · refine am_tt (show (nI t : Int32) = 0 from by rw [t0]; rfl) ?_
        iterate 2 refine am_g0 rfl rfl ?_
        subst t0
        exact am_kl rest rfl
      · refine am_ff (show ¬ (nI t : Int32) = 0 from nne (b := 0) t0 (by omega) (by omega)) ?_
        refine am_go rfl ?_
        iterate 2 refine am_g0 rfl rfl ?_
        by_cases t1 : t = 1
        · refine am_tt (show (nI t : Int32) = 1 from by rw [t1]; rfl) ?_
          iterate 2 refine am_g0 rfl rfl ?_
          subst t1
          exact am_kl rest rfl
        · refine am_ff (show ¬ (nI t : Int32) = 1 from nne (b := 1) t1 (by omega) (by omega)) ?_
          refine am_go rfl ?_
          have t2 : t = 2 := by omega
          subst t2
          exact am_kl rest rfl
theorem m_wipe {d : Nat} {x : Int32} {w : am_M} {S : Sp} (hd : 4 ≤ d) (h : RM w S) (g : SG S) : ∃ o : am_O, (o.1 = some (.int (wipeS S x).1) ∧ RM o.2 (wipeS S x).2) ∧ am_D shM d mi_X12_wipe [.ref 0, .int x] w o := by
  rcases dI_or x 3 (by decide) with hx | ⟨t, ht, rfl, hx⟩
  · refine am_dex (by omega) rfl rfl ?_
    iterate 2 refine am_g0 rfl rfl ?_
    refine ⟨(some (.int 0), w), m_isText_n (by omega) hx, ?_⟩
    refine am_to (lv' := [(0, .ref 0), (1, .int x)]) (st' := [.int 0]) (w' := w) rfl rfl rfl ?_
    iterate 3 refine am_g0 rfl rfl ?_
    exact ⟨rfl, by unfold wipeS; rw [hx], by unfold wipeS; rw [hx]; exact h⟩
  · have hS : wipeS S (nI t) = (nI (S.tl t), S.setT (up1 S.tl t 0) S.tb) := by unfold wipeS; rw [hx]
    rw [hS]
    refine am_dex (by omega) rfl rfl ?_
    iterate 2 refine am_g0 rfl rfl ?_
    refine ⟨(some (.int 1), w), m_isText_s (by omega) ht, ?_⟩
    refine am_to (lv' := [(0, .ref 0), (1, .int (nI t))]) (st' := [.int 1]) (w' := w) rfl rfl rfl ?_
    refine am_g0 rfl rfl ?_
    refine am_go rfl ?_
    iterate 2 refine am_g0 rfl rfl ?_
    refine am_glN (n := 3) (k := t) rfl rfl (by omega) (by decide) ?_
    refine am_top (y := nI (S.tl t)) ((h.1 t ht).1) ?_
    iterate 5 refine am_g0 rfl rfl ?_
    refine am_gsN (n := 3) (k := t) rfl rfl (by omega) (by decide) ?_
    refine am_to (lv' := [(0, .ref 0), (1, .int (nI t)), (2, .int (nI (S.tl t)))]) (st' := []) (w' := am_pi w 6 t 0) rfl rfl rfl ?_
    iterate 2 refine am_g0 rfl rfl ?_
    exact ⟨rfl, rfl, RMt_up h ht (am_fx.rf.pc (by decide) (by decide)) (fun k hk => am_pi_ne (Or.inr hk)) (fun k i hk hk3 hi => by rw [am_pi_row (by omega)]) (fun k hk => ⟨up1_ne hk, rfl⟩) ⟨by rw [am_pi_at, up1_at]; rfl, fun i hi => by rw [up1_at] at hi; exact absurd hi (Nat.not_lt_zero i)⟩⟩
theorem m_undo {d : Nat} {x : Int32} {w : am_M} {S : Sp} (hd : 4 ≤ d) (h : RM w S) (g : SG S) : ∃ o : am_O, (o.1 = some (.int (undoS S x).1) ∧ RM o.2 (undoS S x).2) ∧ am_D shM d mi_X12_undo [.ref 0, .int x] w o := by
  rcases dI_or x 3 (by decide) with hx | ⟨t, ht, rfl, hx⟩
  · refine am_dex (by omega) rfl rfl ?_
    iterate 2 refine am_g0 rfl rfl ?_
    refine ⟨(some (.int 0), w), m_isText_n (by omega) hx, ?_⟩
    refine am_to (lv' := [(0, .ref 0), (1, .int x)]) (st' := [.int 0]) (w' := w) rfl rfl rfl ?_
    iterate 3 refine am_g0 rfl rfl ?_
    exact ⟨rfl, by unfold undoS; rw [hx], by unfold undoS; rw [hx]; exact h⟩
  · have htl := (g.1.1 t ht).1
    have hm := mxT_le t
    have ht6 := (h.1 t ht).1
    refine am_dex (by omega) rfl rfl ?_
    iterate 2 refine am_g0 rfl rfl ?_
    refine ⟨(some (.int 1), w), m_isText_s (by omega) ht, ?_⟩
    refine am_to (lv' := [(0, .ref 0), (1, .int (nI t))]) (st' := [.int 1]) (w' := w) rfl rfl rfl ?_
    refine am_g0 rfl rfl ?_
    refine am_go rfl ?_
    iterate 2 refine am_g0 rfl rfl ?_
    refine am_glN (n := 3) (k := t) rfl rfl (by omega) (by decide) ?_
    refine am_top (y := nI (S.tl t)) (ht6) ?_
    refine am_g0 rfl rfl ?_
    by_cases h0 : S.tl t = 0
    · refine am_tt (show (nI (S.tl t) : Int32) = 0 from by rw [h0]; rfl) ?_
      iterate 2 refine am_g0 rfl rfl ?_
      exact ⟨rfl, by unfold undoS; rw [hx]; dsimp only; rw [if_pos h0], by unfold undoS; rw [hx]; dsimp only; rw [if_pos h0]; exact h⟩
    · have hS : undoS S (nI t) = (nI (S.tl t - 1), S.setT (up1 S.tl t (S.tl t - 1)) S.tb) := by unfold undoS; rw [hx]; dsimp only; rw [if_neg h0]
      rw [hS]
      refine am_ff (show ¬ (nI (S.tl t) : Int32) = 0 from nne (b := 0) h0 (by omega) (by omega)) ?_
      refine am_go rfl ?_
      iterate 3 refine am_g0 rfl rfl ?_
      refine am_glN (n := 3) (k := t) rfl rfl (by omega) (by decide) ?_
      refine am_top (y := nI (S.tl t)) (ht6) ?_
      iterate 2 refine am_g0 rfl rfl ?_
      refine am_top (y := nI (S.tl t - 1)) (pk_sub (b := 1) (by omega)) ?_
      refine am_gsN (n := 3) (k := t) rfl rfl (by omega) (by decide) ?_
      refine am_to (lv' := [(0, .ref 0), (1, .int (nI t))]) (st' := []) (w' := am_pi w 6 t (nI (S.tl t - 1))) rfl rfl rfl ?_
      iterate 3 refine am_g0 rfl rfl ?_
      refine am_glN (n := 3) (k := t) rfl rfl (by omega) (by decide) ?_
      refine am_top (y := nI (S.tl t - 1)) (am_pi_at _ _ _ _) ?_
      refine am_g0 rfl rfl ?_
      exact ⟨rfl, rfl, RMt_up h ht (am_fx.rf.pc (by decide) (by decide)) (fun k hk => am_pi_ne (Or.inr hk)) (fun k i hk hk3 hi => by rw [am_pi_row (by omega)]) (fun k hk => ⟨up1_ne hk, rfl⟩) ⟨by rw [am_pi_at, up1_at], fun i hi => by rw [up1_at] at hi; rw [am_pi_row (by omega)]; exact (h.1 t ht).2 i (by omega)⟩⟩
