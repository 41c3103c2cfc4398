/-! the model: counts -/
theorem m_count {d : Nat} {x : Int32} {w : am_M} {S : Sp} (hd : 8 ≤ d) (h : RM w S) (g : SG S) : ∃ o : am_O, (o.1 = some (.int (countS S x)) ∧ mFi o.2 S) ∧ am_D shM d mi_X12_count [.ref 0, .int x] w o := by
  obtain ⟨⟨r1, w1⟩, ⟨e1, f1⟩, hD1⟩ := m_find2 (d := d - 1) (by omega) h g
  dsimp only at e1 f1
  subst e1
  obtain ⟨k1, k2, k3, k4, k5, k6, k7⟩ := f1.1
  rcases dI_or x 9 (by decide) with hx | ⟨k, hk, rfl, hx⟩
  · refine am_dex (by omega) rfl rfl ?_
    iterate 2 refine am_g0 rfl rfl ?_
    refine ⟨(none, w1), hD1, ?_⟩
    refine am_to (lv' := [(0, .ref 0), (1, .int x)]) (st' := []) (w' := w1) rfl rfl rfl ?_
    iterate 2 refine am_g0 rfl rfl ?_
    refine ⟨95, Or.inl ⟨?_, rfl⟩, ?_⟩
    · rcases dI_fi hx with z | z
      · exact Or.inl (by rw [Int32.lt_iff_toInt_lt] at z; exact z)
      · right
        rw [Int32.le_iff_toInt_le, nI_toInt (by omega)] at z
        omega
    · refine am_go rfl ?_
      refine am_g0 rfl rfl ?_
      exact ⟨rfl, by unfold countS; rw [hx], f1⟩
  · have hS : countS S (nI k) = countA S k := by unfold countS; rw [hx]
    rw [hS]
    match k, hk with
    | 0, _ =>
      refine am_dex (by omega) rfl rfl ?_
      iterate 2 refine am_g0 rfl rfl ?_
      refine ⟨(none, w1), hD1, ?_⟩
      refine am_to (lv' := [(0, .ref 0), (1, .int 0)]) (st' := []) (w' := w1) rfl rfl rfl ?_
      iterate 2 refine am_g0 rfl rfl ?_
      refine ⟨56, Or.inr ⟨by decide, by decide, 51, rfl, rfl⟩, ?_⟩
      iterate 3 refine am_g0 rfl rfl ?_
      exact ⟨rfl, by rw [show w1.1 0 7 = nI S.V.1 from f1.2.1.1.1.1]; rfl, f1⟩
    | 1, _ =>
      refine am_dex (by omega) rfl rfl ?_
      iterate 2 refine am_g0 rfl rfl ?_
      refine ⟨(none, w1), hD1, ?_⟩
      refine am_to (lv' := [(0, .ref 0), (1, .int 1)]) (st' := []) (w' := w1) rfl rfl rfl ?_
      iterate 2 refine am_g0 rfl rfl ?_
      refine ⟨61, Or.inr ⟨by decide, by decide, 56, rfl, rfl⟩, ?_⟩
      refine am_go rfl ?_
      iterate 2 refine am_g0 rfl rfl ?_
      exact ⟨rfl, by rw [show w1.1 0 10 = nI S.m from f1.2.1.1.2.2.2.2.2.2.1]; rfl, f1⟩
    | 2, _ =>
      refine am_dex (by omega) rfl rfl ?_
      iterate 2 refine am_g0 rfl rfl ?_
      refine ⟨(none, w1), hD1, ?_⟩
      refine am_to (lv' := [(0, .ref 0), (1, .int 2)]) (st' := []) (w' := w1) rfl rfl rfl ?_
      iterate 2 refine am_g0 rfl rfl ?_
      refine ⟨66, Or.inr ⟨by decide, by decide, 61, rfl, rfl⟩, ?_⟩
      refine am_go rfl ?_
      iterate 2 refine am_g0 rfl rfl ?_
      exact ⟨rfl, by rw [show w1.1 0 14 = nI S.q from f1.2.1.2.1]; rfl, f1⟩
    | 3, _ =>
      refine am_dex (by omega) rfl rfl ?_
      iterate 2 refine am_g0 rfl rfl ?_
      refine ⟨(none, w1), hD1, ?_⟩
      refine am_to (lv' := [(0, .ref 0), (1, .int 3)]) (st' := []) (w' := w1) rfl rfl rfl ?_
      iterate 2 refine am_g0 rfl rfl ?_
      refine ⟨71, Or.inr ⟨by decide, by decide, 66, rfl, rfl⟩, ?_⟩
      refine am_go rfl ?_
      iterate 4 refine am_g0 rfl rfl ?_
      refine am_glN (n := 3) (k := 0) rfl rfl (by omega) (by decide) ?_
      refine am_g0 rfl rfl ?_
      exact ⟨rfl, by rw [(k1 0 (by omega)).1]; rfl, f1⟩
    | 4, _ =>
      refine am_dex (by omega) rfl rfl ?_
      iterate 2 refine am_g0 rfl rfl ?_
      refine ⟨(none, w1), hD1, ?_⟩
      refine am_to (lv' := [(0, .ref 0), (1, .int 4)]) (st' := []) (w' := w1) rfl rfl rfl ?_
      iterate 2 refine am_g0 rfl rfl ?_
      refine ⟨71, Or.inr ⟨by decide, by decide, 66, rfl, rfl⟩, ?_⟩
      refine am_go rfl ?_
      iterate 4 refine am_g0 rfl rfl ?_
      refine am_glN (n := 3) (k := 1) rfl rfl (by omega) (by decide) ?_
      refine am_g0 rfl rfl ?_
      exact ⟨rfl, by rw [(k1 1 (by omega)).1]; rfl, f1⟩
    | 5, _ =>
      refine am_dex (by omega) rfl rfl ?_
      iterate 2 refine am_g0 rfl rfl ?_
      refine ⟨(none, w1), hD1, ?_⟩
      refine am_to (lv' := [(0, .ref 0), (1, .int 5)]) (st' := []) (w' := w1) rfl rfl rfl ?_
      iterate 2 refine am_g0 rfl rfl ?_
      refine ⟨71, Or.inr ⟨by decide, by decide, 66, rfl, rfl⟩, ?_⟩
      refine am_go rfl ?_
      iterate 4 refine am_g0 rfl rfl ?_
      refine am_glN (n := 3) (k := 2) rfl rfl (by omega) (by decide) ?_
      refine am_g0 rfl rfl ?_
      exact ⟨rfl, by rw [(k1 2 (by omega)).1]; rfl, f1⟩
    | 6, _ =>
      refine am_dex (by omega) rfl rfl ?_
      iterate 2 refine am_g0 rfl rfl ?_
      refine ⟨(none, w1), hD1, ?_⟩
      refine am_to (lv' := [(0, .ref 0), (1, .int 6)]) (st' := []) (w' := w1) rfl rfl rfl ?_
      iterate 2 refine am_g0 rfl rfl ?_
      refine ⟨80, Or.inr ⟨by decide, by decide, 75, rfl, rfl⟩, ?_⟩
      refine am_go rfl ?_
      iterate 2 refine am_g0 rfl rfl ?_
      exact ⟨rfl, by rw [k4.1]; rfl, f1⟩
    | 7, _ =>
      refine am_dex (by omega) rfl rfl ?_
      iterate 2 refine am_g0 rfl rfl ?_
      refine ⟨(none, w1), hD1, ?_⟩
      refine am_to (lv' := [(0, .ref 0), (1, .int 7)]) (st' := []) (w' := w1) rfl rfl rfl ?_
      iterate 2 refine am_g0 rfl rfl ?_
      refine ⟨85, Or.inr ⟨by decide, by decide, 80, rfl, rfl⟩, ?_⟩
      refine am_go rfl ?_
      iterate 2 refine am_g0 rfl rfl ?_
      exact ⟨rfl, by rw [k5.1]; rfl, f1⟩
    | 8, _ =>
      refine am_dex (by omega) rfl rfl ?_
      iterate 2 refine am_g0 rfl rfl ?_
      refine ⟨(none, w1), hD1, ?_⟩
      refine am_to (lv' := [(0, .ref 0), (1, .int 8)]) (st' := []) (w' := w1) rfl rfl rfl ?_
      iterate 2 refine am_g0 rfl rfl ?_
      refine ⟨90, Or.inr ⟨by decide, by decide, 85, rfl, rfl⟩, ?_⟩
      refine am_go rfl ?_
      iterate 2 refine am_g0 rfl rfl ?_
      exact ⟨rfl, by rw [k3]; rfl, f1⟩
