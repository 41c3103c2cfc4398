/-! the model: faults, cells, lasts, persons, rain, things seen -/
theorem m_readsText {d t : Nat} {w : am_M} {S : Sp} (hd : 5 ≤ d) (h : RM w S) (g : SG S) (ht : t < 3) : ∃ o : am_O, (o.1 = some (.int (opI (fltS S t))) ∧ am_fx [7, 8, 9, 10, 11] [7, 8, 10, 14] w o.2 ∧ (mRd w S → mRd o.2 S)) ∧ am_D shM d mi_X12_readsText [.ref 0, .int (nI t)] w o := by
  refine am_dex (by omega) rfl rfl ?_
  iterate 2 refine am_g0 rfl rfl ?_
  by_cases t0 : t = 0
  · refine am_tt (show (nI t : Int32) = 0 from by rw [t0]; rfl) ?_
    iterate 2 refine am_g0 rfl rfl ?_
    obtain ⟨⟨r1, w1⟩, ⟨e1, f1, g1⟩, hD1⟩ := m_readsTown (d := d - 1) (by omega) (h.tx g (t := 0) (by omega))
    dsimp only at e1 f1 g1
    subst e1
    refine ⟨(some (.int (opI (townR (S.tb 0) (S.tl 0)).1)), w1), hD1, ?_⟩
    refine am_to (lv' := [(0, .ref 0), (1, .int (nI t))]) (st' := [.int (opI (townR (S.tb 0) (S.tl 0)).1)]) (w' := w1) rfl rfl rfl ?_
    refine am_g0 rfl rfl ?_
    refine am_go rfl ?_
    refine ⟨rfl, by rw [t0]; rfl, f1.mono (by decide) (by decide), fun hr => ⟨mV_of g g1 ?_, ?_⟩⟩
    · exact hr.1.2.2.2.2.2.2.fr (f1.2.1 10 (by decide)) (f1.1 8 (by decide) (by decide)) (f1.1 9 (by decide) (by decide)) (f1.1 10 (by decide) (by decide))
    · exact ⟨(f1.2.1 14 (by decide)).trans hr.2.1, fun p hp j hj => by rw [f1.1 11 (by decide) (by decide)]; exact hr.2.2 p hp j hj⟩
  · refine am_ff (show ¬ (nI t : Int32) = 0 from nne (b := 0) t0 (by omega) (by omega)) ?_
    refine am_go rfl ?_
    iterate 2 refine am_g0 rfl rfl ?_
    by_cases t1 : t = 1
    · refine am_tt (show (nI t : Int32) = 1 from by rw [t1]; rfl) ?_
      iterate 2 refine am_g0 rfl rfl ?_
      obtain ⟨⟨r1, w1⟩, ⟨e1, f1, g1⟩, hD1⟩ := m_readsLasts (d := d - 1) (by omega) (h.tx g (t := 1) (by omega))
      dsimp only at e1 f1 g1
      subst e1
      refine ⟨(some (.int (opI (lastsR (S.tb 1) (S.tl 1)).1)), w1), hD1, ?_⟩
      refine am_to (lv' := [(0, .ref 0), (1, .int (nI t))]) (st' := [.int (opI (lastsR (S.tb 1) (S.tl 1)).1)]) (w' := w1) rfl rfl rfl ?_
      refine am_g0 rfl rfl ?_
      refine am_go rfl ?_
      refine ⟨rfl, by rw [t1]; rfl, f1.mono (by decide) (by decide), fun hr => ⟨mV_of g ?_ g1, ?_⟩⟩
      · exact hr.1.1.fr (f1.2.1 7 (by decide)) (f1.2.1 8 (by decide)) (f1.1 7 (by decide) (by decide))
      · exact ⟨(f1.2.1 14 (by decide)).trans hr.2.1, fun p hp j hj => by rw [f1.1 11 (by decide) (by decide)]; exact hr.2.2 p hp j hj⟩
    · have t2 : t = 2 := by omega
      refine am_ff (show ¬ (nI t : Int32) = 1 from nne (b := 1) t1 (by omega) (by omega)) ?_
      refine am_go rfl ?_
      refine am_g0 rfl rfl ?_
      obtain ⟨⟨r1, w1⟩, ⟨e1, f1, g1⟩, hD1⟩ := m_readsPeople (d := d - 1) (by omega) (h.tx g (t := 2) (by omega))
      dsimp only at e1 f1 g1
      subst e1
      refine ⟨(some (.int (opI (peopleR (S.tb 2) (S.tl 2)).1)), w1), hD1, ?_⟩
      refine am_to (lv' := [(0, .ref 0)]) (st' := [.int (opI (peopleR (S.tb 2) (S.tl 2)).1)]) (w' := w1) rfl rfl rfl ?_
      refine am_go rfl ?_
      refine ⟨rfl, by rw [t2]; rfl, f1.mono (by decide) (by decide), fun hr => ⟨?_, g1⟩⟩
      exact hr.1.fr (fun j hj => f1.2.1 j (by rcases hj with z | z | z <;> (rw [z]; decide))) (fun a h1 h2 => f1.1 a (by simp; omega) (by omega))
theorem m_fault {d : Nat} {x : Int32} {w : am_M} {S : Sp} (hd : 6 ≤ d) (h : RM w S) (g : SG S) : ∃ o : am_O, (o.1 = some (.int (faultS S x)) ∧ RM o.2 S) ∧ am_D shM d mi_X12_fault [.ref 0, .int x] w o := by
  rcases dI_or x 3 (by decide) with hx | ⟨t, ht, rfl, hx⟩
  · refine am_dex (by omega) rfl rfl ?_
    iterate 2 refine am_g0 rfl rfl ?_
    refine ⟨(some (.int 0), w), m_isText_n (by omega) hx, ?_⟩
    refine am_to (lv' := [(0, .ref 0), (1, .int x)]) (st' := [.int 0]) (w' := w) rfl rfl rfl ?_
    refine am_g0 rfl rfl ?_
    refine am_go rfl ?_
    refine am_go rfl ?_
    exact ⟨rfl, by unfold faultS; rw [hx], h⟩
  · refine am_dex (by omega) rfl rfl ?_
    iterate 2 refine am_g0 rfl rfl ?_
    refine ⟨(some (.int 1), w), m_isText_s (by omega) ht, ?_⟩
    refine am_to (lv' := [(0, .ref 0), (1, .int (nI t))]) (st' := [.int 1]) (w' := w) rfl rfl rfl ?_
    iterate 4 refine am_g0 rfl rfl ?_
    obtain ⟨⟨r1, w1⟩, ⟨e1, f1, g1⟩, hD1⟩ := m_readsText (d := d - 1) (by omega) h g ht
    dsimp only at e1 f1 g1
    subst e1
    refine ⟨(some (.int (opI (fltS S t))), w1), hD1, ?_⟩
    refine am_to (lv' := [(0, .ref 0), (1, .int (nI t))]) (st' := [.int (opI (fltS S t))]) (w' := w1) rfl rfl rfl ?_
    refine am_g0 rfl rfl ?_
    refine am_go rfl ?_
    exact ⟨rfl, by unfold faultS; rw [hx], h.fr f1 (by decide) (by decide)⟩
theorem m_cell {d : Nat} {x : Int32} {w : am_M} {S : Sp} (hd : 6 ≤ d) (h : RM w S) (g : SG S) : ∃ o : am_O, (o.1 = some (.int (cellS S x)) ∧ RM o.2 S) ∧ am_D shM d mi_X12_cell [.ref 0, .int x] w o := by
  have h36 := g.2.1.1
  rcases dI_or x 36 (by decide) with hx | ⟨c, hc, rfl, hx⟩
  · refine am_dex (by omega) rfl rfl ?_
    iterate 2 refine am_g0 rfl rfl ?_
    obtain ⟨⟨r1, w1⟩, ⟨e1, f1, g1⟩, hD1⟩ := m_readsTown (d := d - 1) (by omega) (h.tx g (t := 0) (by omega))
    dsimp only at e1 f1 g1
    subst e1
    refine ⟨(some (.int (opI (townR (S.tb 0) (S.tl 0)).1)), w1), hD1, ?_⟩
    refine am_to (lv' := [(0, .ref 0), (1, .int x)]) (st' := [.int (opI (townR (S.tb 0) (S.tl 0)).1)]) (w' := w1) rfl rfl rfl ?_
    iterate 6 refine am_g0 rfl rfl ?_
    refine ⟨(some (.int 0), w1), m_inn (n := 36) (by omega) (by omega) (by decide) hx, ?_⟩
    refine am_to (lv' := [(0, .ref 0), (1, .int x)]) (st' := [.int 0]) (w' := w1) rfl rfl rfl ?_
    iterate 3 refine am_g0 rfl rfl ?_
    refine am_go rfl ?_
    exact ⟨rfl, by unfold cellS; rw [hx], h.fr f1 (by decide) (by decide)⟩
  · refine am_dex (by omega) rfl rfl ?_
    iterate 2 refine am_g0 rfl rfl ?_
    obtain ⟨⟨r1, w1⟩, ⟨e1, f1, g1⟩, hD1⟩ := m_readsTown (d := d - 1) (by omega) (h.tx g (t := 0) (by omega))
    dsimp only at e1 f1 g1
    subst e1
    refine ⟨(some (.int (opI (townR (S.tb 0) (S.tl 0)).1)), w1), hD1, ?_⟩
    refine am_to (lv' := [(0, .ref 0), (1, .int (nI c))]) (st' := [.int (opI (townR (S.tb 0) (S.tl 0)).1)]) (w' := w1) rfl rfl rfl ?_
    have k1 : w1.1 0 7 = nI S.V.1 := g1.1
    have r1 := h.fr f1 (by decide) (by decide)
    have hS : cellS S (nI c) = kindA S c := by unfold cellS; rw [hx]
    rw [hS]
    iterate 6 refine am_g0 rfl rfl ?_
    refine ⟨(some (.int 1), w1), m_ins (n := 36) (by omega) (by omega) (by decide) hc, ?_⟩
    refine am_to (lv' := [(0, .ref 0), (1, .int (nI c))]) (st' := [.int 1]) (w' := w1) rfl rfl rfl ?_
    refine am_g0 rfl rfl ?_
    refine am_go rfl ?_
    iterate 3 refine am_g0 rfl rfl ?_
    by_cases hcV : c < S.V.1
    · refine am_ff (show ¬ (w1.1 0 7 : Int32) ≤ (nI c) from by rw [k1]; exact nI_ge hcV (by omega)) ?_
      iterate 3 refine am_g0 rfl rfl ?_
      refine am_glN (n := 36) (k := c) rfl rfl (by omega) (by decide) ?_
      refine am_top (y := nI (S.V.2.1 c)) (g1.2.2 c hcV) ?_
      refine am_g0 rfl rfl ?_
      refine am_go rfl ?_
      exact ⟨rfl, by unfold kindA; rw [if_pos hcV], r1⟩
    · refine am_tt (show (w1.1 0 7 : Int32) ≤ (nI c) from by rw [k1]; exact nI_le (by omega) (by omega)) ?_
      refine am_go rfl ?_
      refine am_go rfl ?_
      exact ⟨rfl, by unfold kindA; rw [if_neg hcV], r1⟩
theorem m_lastBy {d l j : Nat} {w : am_M} {S : Sp} (hd : 1 ≤ d) (g : SG S) (hL : mLa w S.V.2.2.2.1 S.V.2.2.2.2.1 S.V.2.2.2.2.2.1 S.V.2.2.2.2.2.2) (hl : l < S.V.2.2.2.1) (hj : j < 6) : am_D shM d mi_X12_lastBy [.ref 0, .int (nI l), .int (nI j)] w (some (.int (lastA S l j)), w) := by
  have h8 := g.2.1.2.2.2.1
  obtain ⟨b1, b2, b3, b4⟩ := g.2.1.2.2.2.2 l hl
  obtain ⟨c1, c2, c3⟩ := hL.2 l hl
  refine am_def (by omega) rfl rfl ?_
  iterate 2 refine am_g0 rfl rfl ?_
  by_cases j0 : j = 0
  · refine am_tt (show (nI j : Int32) = 0 from by rw [j0]; rfl) ?_
    iterate 3 refine am_g0 rfl rfl ?_
    refine am_glN (n := 8) (k := l) rfl rfl (by omega) (by decide) ?_
    refine am_top (y := nI (S.V.2.2.2.2.1 l)) (c1) ?_
    refine am_g0 rfl rfl ?_
    refine am_go rfl ?_
    exact ⟨rfl, by unfold lastA; rw [if_pos j0]⟩
  · refine am_ff (show ¬ (nI j : Int32) = 0 from nne (b := 0) j0 (by omega) (by omega)) ?_
    refine am_go rfl ?_
    iterate 2 refine am_g0 rfl rfl ?_
    by_cases j1 : j = 1
    · refine am_tt (show (nI j : Int32) = 1 from by rw [j1]; rfl) ?_
      iterate 3 refine am_g0 rfl rfl ?_
      refine am_glN (n := 8) (k := l) rfl rfl (by omega) (by decide) ?_
      refine am_top (y := nI (S.V.2.2.2.2.2.1 l)) (c2) ?_
      refine am_g0 rfl rfl ?_
      refine am_go rfl ?_
      exact ⟨rfl, by unfold lastA; rw [if_neg j0, if_pos j1]⟩
    · refine am_ff (show ¬ (nI j : Int32) = 1 from nne (b := 1) j1 (by omega) (by omega)) ?_
      refine am_go rfl ?_
      iterate 2 refine am_g0 rfl rfl ?_
      refine am_top (y := nI (j - 2)) (pk_sub (b := 2) (by omega)) ?_
      iterate 3 refine am_g0 rfl rfl ?_
      refine am_glN (n := 8) (k := l) rfl rfl (by omega) (by decide) ?_
      refine am_top (y := nI (S.V.2.2.2.2.2.1 l)) (c2) ?_
      refine am_g0 rfl rfl ?_
      by_cases hlt : j - 2 < S.V.2.2.2.2.2.1 l
      · refine am_ff (show ¬ (nI (S.V.2.2.2.2.2.1 l) : Int32) ≤ (nI (j - 2)) from nI_ge hlt (by omega)) ?_
        iterate 9 refine am_g0 rfl rfl ?_
        refine am_glE (n := 32) (k := 4 * l + (j - 2)) rfl rfl (by rw [ix4]; exact (pk_sub (b := 2) (by omega)).trans (congrArg nI (by omega))) (by omega) (by decide) ?_
        refine am_top (y := nI (S.V.2.2.2.2.2.2 l (j - 2))) (c3 _ hlt) ?_
        refine am_g0 rfl rfl ?_
        refine am_go rfl ?_
        exact ⟨rfl, by unfold lastA; rw [if_neg j0, if_neg j1, if_pos hlt]⟩
      · refine am_tt (show (nI (S.V.2.2.2.2.2.1 l) : Int32) ≤ (nI (j - 2)) from nI_le (by omega) (by omega)) ?_
        refine am_go rfl ?_
        refine am_go rfl ?_
        exact ⟨rfl, by unfold lastA; rw [if_neg j0, if_neg j1, if_neg hlt]⟩
theorem m_last {d : Nat} {x y : Int32} {w : am_M} {S : Sp} (hd : 6 ≤ d) (h : RM w S) (g : SG S) : ∃ o : am_O, (o.1 = some (.int (lastS S x y)) ∧ RM o.2 S) ∧ am_D shM d mi_X12_last [.ref 0, .int x, .int y] w o := by
  have h8 : S.m ≤ 8 := g.2.1.2.2.2.1
  rcases dI_or x S.m (by omega) with hx | ⟨l, hl, rfl, hx⟩
  · refine am_dex (by omega) rfl rfl ?_
    iterate 2 refine am_g0 rfl rfl ?_
    obtain ⟨⟨r1, w1⟩, ⟨e1, f1, g1⟩, hD1⟩ := m_readsLasts (d := d - 1) (by omega) (h.tx g (t := 1) (by omega))
    dsimp only at e1 f1 g1
    subst e1
    refine ⟨(some (.int (opI (lastsR (S.tb 1) (S.tl 1)).1)), w1), hD1, ?_⟩
    refine am_to (lv' := [(0, .ref 0), (1, .int x), (2, .int y)]) (st' := [.int (opI (lastsR (S.tb 1) (S.tl 1)).1)]) (w' := w1) rfl rfl rfl ?_
    iterate 4 refine am_g0 rfl rfl ?_
    refine ⟨(some (.int 0), w1), m_isLast_n (by omega) h8 g1.1 hx, ?_⟩
    refine am_to (lv' := [(0, .ref 0), (1, .int x), (2, .int y)]) (st' := [.int 0]) (w' := w1) rfl rfl rfl ?_
    refine am_g0 rfl rfl ?_
    refine am_go rfl ?_
    refine am_go rfl ?_
    exact ⟨rfl, by unfold lastS; rw [hx], h.fr f1 (by decide) (by decide)⟩
  · rcases dI_or y 6 (by decide) with hy | ⟨j, hj, rfl, hy⟩
    · refine am_dex (by omega) rfl rfl ?_
      iterate 2 refine am_g0 rfl rfl ?_
      obtain ⟨⟨r1, w1⟩, ⟨e1, f1, g1⟩, hD1⟩ := m_readsLasts (d := d - 1) (by omega) (h.tx g (t := 1) (by omega))
      dsimp only at e1 f1 g1
      subst e1
      refine ⟨(some (.int (opI (lastsR (S.tb 1) (S.tl 1)).1)), w1), hD1, ?_⟩
      refine am_to (lv' := [(0, .ref 0), (1, .int (nI l)), (2, .int y)]) (st' := [.int (opI (lastsR (S.tb 1) (S.tl 1)).1)]) (w' := w1) rfl rfl rfl ?_
      iterate 4 refine am_g0 rfl rfl ?_
      refine ⟨(some (.int 1), w1), m_isLast_s (by omega) h8 g1.1 hl, ?_⟩
      refine am_to (lv' := [(0, .ref 0), (1, .int (nI l)), (2, .int y)]) (st' := [.int 1]) (w' := w1) rfl rfl rfl ?_
      iterate 6 refine am_g0 rfl rfl ?_
      refine ⟨(some (.int 0), w1), m_inn (n := 6) (by omega) (by omega) (by decide) hy, ?_⟩
      refine am_to (lv' := [(0, .ref 0), (1, .int (nI l)), (2, .int y)]) (st' := [.int 0]) (w' := w1) rfl rfl rfl ?_
      refine am_g0 rfl rfl ?_
      refine am_go rfl ?_
      refine am_go rfl ?_
      exact ⟨rfl, by unfold lastS; rw [hx, hy], h.fr f1 (by decide) (by decide)⟩
    · refine am_dex (by omega) rfl rfl ?_
      iterate 2 refine am_g0 rfl rfl ?_
      obtain ⟨⟨r1, w1⟩, ⟨e1, f1, g1⟩, hD1⟩ := m_readsLasts (d := d - 1) (by omega) (h.tx g (t := 1) (by omega))
      dsimp only at e1 f1 g1
      subst e1
      refine ⟨(some (.int (opI (lastsR (S.tb 1) (S.tl 1)).1)), w1), hD1, ?_⟩
      refine am_to (lv' := [(0, .ref 0), (1, .int (nI l)), (2, .int (nI j))]) (st' := [.int (opI (lastsR (S.tb 1) (S.tl 1)).1)]) (w' := w1) rfl rfl rfl ?_
      iterate 4 refine am_g0 rfl rfl ?_
      refine ⟨(some (.int 1), w1), m_isLast_s (by omega) h8 g1.1 hl, ?_⟩
      refine am_to (lv' := [(0, .ref 0), (1, .int (nI l)), (2, .int (nI j))]) (st' := [.int 1]) (w' := w1) rfl rfl rfl ?_
      iterate 6 refine am_g0 rfl rfl ?_
      refine ⟨(some (.int 1), w1), m_ins (n := 6) (by omega) (by omega) (by decide) hj, ?_⟩
      refine am_to (lv' := [(0, .ref 0), (1, .int (nI l)), (2, .int (nI j))]) (st' := [.int 1]) (w' := w1) rfl rfl rfl ?_
      iterate 5 refine am_g0 rfl rfl ?_
      refine ⟨(some (.int (lastA S l j)), w1), m_lastBy (by omega) g g1 hl hj, ?_⟩
      refine am_to (lv' := [(0, .ref 0), (1, .int (nI l)), (2, .int (nI j))]) (st' := [.int (lastA S l j)]) (w' := w1) rfl rfl rfl ?_
      refine am_g0 rfl rfl ?_
      refine am_go rfl ?_
      exact ⟨rfl, by unfold lastS; rw [hx, hy], h.fr f1 (by decide) (by decide)⟩
theorem m_person {d : Nat} {x y : Int32} {w : am_M} {S : Sp} (hd : 6 ≤ d) (h : RM w S) (g : SG S) : ∃ o : am_O, (o.1 = some (.int (personS S x y)) ∧ RM o.2 S) ∧ am_D shM d mi_X12_person [.ref 0, .int x, .int y] w o := by
  have h8 := g.2.2.1
  rcases dI_or x S.q (by omega) with hx | ⟨p, hp, rfl, hx⟩
  · refine am_dex (by omega) rfl rfl ?_
    iterate 2 refine am_g0 rfl rfl ?_
    obtain ⟨⟨r1, w1⟩, ⟨e1, f1, g1⟩, hD1⟩ := m_readsPeople (d := d - 1) (by omega) (h.tx g (t := 2) (by omega))
    dsimp only at e1 f1 g1
    subst e1
    refine ⟨(some (.int (opI (peopleR (S.tb 2) (S.tl 2)).1)), w1), hD1, ?_⟩
    refine am_to (lv' := [(0, .ref 0), (1, .int x), (2, .int y)]) (st' := [.int (opI (peopleR (S.tb 2) (S.tl 2)).1)]) (w' := w1) rfl rfl rfl ?_
    iterate 4 refine am_g0 rfl rfl ?_
    refine ⟨(some (.int 0), w1), m_isPerson_n (by omega) h8 g1.1 hx, ?_⟩
    refine am_to (lv' := [(0, .ref 0), (1, .int x), (2, .int y)]) (st' := [.int 0]) (w' := w1) rfl rfl rfl ?_
    refine am_g0 rfl rfl ?_
    refine am_go rfl ?_
    refine am_go rfl ?_
    exact ⟨rfl, by unfold personS; rw [hx], h.fr f1 (by decide) (by decide)⟩
  · rcases dI_or y 5 (by decide) with hy | ⟨j, hj, rfl, hy⟩
    · refine am_dex (by omega) rfl rfl ?_
      iterate 2 refine am_g0 rfl rfl ?_
      obtain ⟨⟨r1, w1⟩, ⟨e1, f1, g1⟩, hD1⟩ := m_readsPeople (d := d - 1) (by omega) (h.tx g (t := 2) (by omega))
      dsimp only at e1 f1 g1
      subst e1
      refine ⟨(some (.int (opI (peopleR (S.tb 2) (S.tl 2)).1)), w1), hD1, ?_⟩
      refine am_to (lv' := [(0, .ref 0), (1, .int (nI p)), (2, .int y)]) (st' := [.int (opI (peopleR (S.tb 2) (S.tl 2)).1)]) (w' := w1) rfl rfl rfl ?_
      iterate 4 refine am_g0 rfl rfl ?_
      refine ⟨(some (.int 1), w1), m_isPerson_s (by omega) h8 g1.1 hp, ?_⟩
      refine am_to (lv' := [(0, .ref 0), (1, .int (nI p)), (2, .int y)]) (st' := [.int 1]) (w' := w1) rfl rfl rfl ?_
      iterate 6 refine am_g0 rfl rfl ?_
      refine ⟨(some (.int 0), w1), m_inn (n := 5) (by omega) (by omega) (by decide) hy, ?_⟩
      refine am_to (lv' := [(0, .ref 0), (1, .int (nI p)), (2, .int y)]) (st' := [.int 0]) (w' := w1) rfl rfl rfl ?_
      refine am_g0 rfl rfl ?_
      refine am_go rfl ?_
      refine am_go rfl ?_
      exact ⟨rfl, by unfold personS; rw [hx, hy], h.fr f1 (by decide) (by decide)⟩
    · refine am_dex (by omega) rfl rfl ?_
      iterate 2 refine am_g0 rfl rfl ?_
      obtain ⟨⟨r1, w1⟩, ⟨e1, f1, g1⟩, hD1⟩ := m_readsPeople (d := d - 1) (by omega) (h.tx g (t := 2) (by omega))
      dsimp only at e1 f1 g1
      subst e1
      refine ⟨(some (.int (opI (peopleR (S.tb 2) (S.tl 2)).1)), w1), hD1, ?_⟩
      refine am_to (lv' := [(0, .ref 0), (1, .int (nI p)), (2, .int (nI j))]) (st' := [.int (opI (peopleR (S.tb 2) (S.tl 2)).1)]) (w' := w1) rfl rfl rfl ?_
      iterate 4 refine am_g0 rfl rfl ?_
      refine ⟨(some (.int 1), w1), m_isPerson_s (by omega) h8 g1.1 hp, ?_⟩
      refine am_to (lv' := [(0, .ref 0), (1, .int (nI p)), (2, .int (nI j))]) (st' := [.int 1]) (w' := w1) rfl rfl rfl ?_
      iterate 6 refine am_g0 rfl rfl ?_
      refine ⟨(some (.int 1), w1), m_ins (n := 5) (by omega) (by omega) (by decide) hj, ?_⟩
      refine am_to (lv' := [(0, .ref 0), (1, .int (nI p)), (2, .int (nI j))]) (st' := [.int 1]) (w' := w1) rfl rfl rfl ?_
      iterate 8 refine am_g0 rfl rfl ?_
      refine am_glE (n := 40) (k := 5 * p + j) rfl rfl (ix5 p j) (by omega) (by decide) ?_
      refine am_top (y := nI (S.pf p j)) (g1.2 p hp j hj) ?_
      refine am_g0 rfl rfl ?_
      refine am_go rfl ?_
      exact ⟨rfl, by unfold personS; rw [hx, hy], h.fr f1 (by decide) (by decide)⟩
/-! rain -/
theorem RM_setR {w w' : am_M} {S : Sp} {n : Nat} {rs : Nat → Nat} (h : RM w S) (e : am_fx [12] [16] w w') (h1 : w'.1 0 16 = nI n) (h2 : ∀ i, i < n → w'.1 12 i = nI (rs i)) : RM w' (S.setR n rs) := by
  obtain ⟨a1, a2, a3, a4, a5, a6, a7⟩ := h
  exact ⟨fun t ht => by rw [e.1 6 (by decide) (by decide), e.1 5 (by decide) (by decide)]; exact a1 t ht, fun s hs => by rw [e.1 1 (by decide) (by decide), e.1 2 (by decide) (by decide), e.1 3 (by decide) (by decide)]; exact a2 s hs, by rw [e.2.1 4 (by decide)]; exact a3, ⟨h1, h2⟩, ⟨by rw [e.2.1 32 (by decide)]; exact a5.1, fun i hi => by rw [e.1 22 (by decide) (by decide)]; exact a5.2 i hi⟩, by rw [e.2.1 18 (by decide)]; exact a6, by rw [e.2.1 19 (by decide)]; exact a7⟩
theorem RM_setS {w w' : am_M} {S : Sp} {n : Nat} {st pe ce : Nat → Nat} (h : RM w S) (e : am_fx [22] [32] w w') (h1 : w'.1 0 32 = nI n) (h2 : ∀ i, i < n → w'.1 22 (3 * i) = nI (st i) ∧ w'.1 22 (3 * i + 1) = nI (pe i) ∧ w'.1 22 (3 * i + 2) = nI (ce i)) : RM w' (S.setS n st pe ce) := by
  obtain ⟨a1, a2, a3, a4, a5, a6, a7⟩ := h
  exact ⟨fun t ht => by rw [e.1 6 (by decide) (by decide), e.1 5 (by decide) (by decide)]; exact a1 t ht, fun s hs => by rw [e.1 1 (by decide) (by decide), e.1 2 (by decide) (by decide), e.1 3 (by decide) (by decide)]; exact a2 s hs, by rw [e.2.1 4 (by decide)]; exact a3, ⟨by rw [e.2.1 16 (by decide)]; exact a4.1, fun i hi => by rw [e.1 12 (by decide) (by decide)]; exact a4.2 i hi⟩, ⟨h1, h2⟩, by rw [e.2.1 18 (by decide)]; exact a6, by rw [e.2.1 19 (by decide)]; exact a7⟩
theorem RM_setF {w : am_M} {S : Sp} {x : Int32} (h : RM w S) : RM (am_pi w 0 4 x) (S.setF x) := by
  obtain ⟨a1, a2, a3, a4, a5, a6, a7⟩ := h
  exact ⟨a1, a2, rfl, a4, a5, a6, a7⟩
theorem m_rain {d : Nat} {x : Int32} {w : am_M} {S : Sp} (hd : 4 ≤ d) (h : RM w S) (h8 : S.rn ≤ 8) : ∃ o : am_O, (o.1 = some (.int (rainS S x).1) ∧ RM o.2 (rainS S x).2) ∧ am_D shM d mi_X12_rain [.ref 0, .int x] w o := by
  have hr := h.2.2.2.1
  rcases dI_or x 30 (by decide) with hx | ⟨s, hs, rfl, hx⟩
  · refine am_dex (by omega) rfl rfl ?_
    iterate 2 refine am_g0 rfl rfl ?_
    refine ⟨(some (.int 0), w), m_isStep_n (by omega) hx, ?_⟩
    refine am_to (lv' := [(0, .ref 0), (1, .int x)]) (st' := [.int 0]) (w' := w) rfl rfl rfl ?_
    iterate 3 refine am_g0 rfl rfl ?_
    exact ⟨rfl, by unfold rainS; rw [hx], by unfold rainS; rw [hx]; exact h⟩
  · refine am_dex (by omega) rfl rfl ?_
    iterate 2 refine am_g0 rfl rfl ?_
    refine ⟨(some (.int 1), w), m_isStep_s (by omega) hs, ?_⟩
    refine am_to (lv' := [(0, .ref 0), (1, .int (nI s))]) (st' := [.int 1]) (w' := w) rfl rfl rfl ?_
    refine am_g0 rfl rfl ?_
    refine am_go rfl ?_
    iterate 3 refine am_g0 rfl rfl ?_
    by_cases e8 : S.rn = 8
    · refine am_tt (show (w.1 0 16 : Int32) = 8 from by rw [hr.1, e8]; rfl) ?_
      iterate 2 refine am_g0 rfl rfl ?_
      exact ⟨rfl, by unfold rainS; rw [hx]; dsimp only; rw [if_pos e8], by unfold rainS; rw [hx]; dsimp only; rw [if_pos e8]; exact h⟩
    · have hS : rainS S (nI s) = (nI (S.rn + 1), S.setR (S.rn + 1) (up1 S.rs S.rn s)) := by unfold rainS; rw [hx]; dsimp only; rw [if_neg e8]
      rw [hS]
      refine am_ff (show ¬ (w.1 0 16 : Int32) = 8 from by rw [hr.1]; exact nne (b := 8) e8 (by omega) (by omega)) ?_
      refine am_go rfl ?_
      iterate 4 refine am_g0 rfl rfl ?_
      refine am_gsE (n := 8) (k := S.rn) rfl rfl (hr.1) (by omega) (by decide) ?_
      refine am_to (lv' := [(0, .ref 0), (1, .int (nI s))]) (st' := []) (w' := am_pi w 12 S.rn (nI s)) rfl rfl rfl ?_
      iterate 5 refine am_g0 rfl rfl ?_
      refine am_top (y := nI (S.rn + 1)) (by rw [am_pi_row (by omega), hr.1, nI_1]) ?_
      iterate 4 refine am_g0 rfl rfl ?_
      refine ⟨rfl, rfl, RM_setR h ((am_fx.rf.pc (by decide) (by decide)).p0 (by decide)) (am_pi_at _ _ _ _) (fun i hi => ?_)⟩
      rw [am_pi_row (by omega)]
      by_cases e : i = S.rn
      · rw [e, am_pi_at, up1_at]
      · rw [am_pi_ne (Or.inr e), up1_ne e]; exact hr.2 i (by omega)
theorem m_back {d : Nat} {w : am_M} {S : Sp} (hd : 4 ≤ d) (h : RM w S) (g : SG S) : ∃ o : am_O, (o.1 = some (.int (backS S).1) ∧ RM o.2 (backS S).2) ∧ am_D shM d mi_X12_back [.ref 0] w o := by
  have hr := h.2.2.2.1
  have h8 := g.1.2.1.1
  refine am_dex (by omega) rfl rfl ?_
  iterate 3 refine am_g0 rfl rfl ?_
  by_cases e0 : S.rn = 0
  · refine am_tt (show (w.1 0 16 : Int32) = 0 from by rw [hr.1, e0]; rfl) ?_
    iterate 2 refine am_g0 rfl rfl ?_
    exact ⟨rfl, by unfold backS; rw [if_pos e0], by unfold backS; rw [if_pos e0]; exact h⟩
  · have hS : backS S = (nI (S.rn - 1), S.setR (S.rn - 1) S.rs) := by unfold backS; rw [if_neg e0]
    rw [hS]
    refine am_ff (show ¬ (w.1 0 16 : Int32) = 0 from by rw [hr.1]; exact nne (b := 0) e0 (by omega) (by omega)) ?_
    refine am_go rfl ?_
    iterate 4 refine am_g0 rfl rfl ?_
    refine am_top (y := nI (S.rn - 1)) (by rw [hr.1]; exact pk_sub (b := 1) (by omega)) ?_
    iterate 4 refine am_g0 rfl rfl ?_
    exact ⟨rfl, rfl, RM_setR h (am_fx.rf.p0 (by decide)) (am_pi_at _ _ _ _) (fun i hi => by rw [am_pi_row (by omega)]; exact hr.2 i (by omega))⟩
/-! things seen -/
theorem m_forget {d : Nat} {w : am_M} {S : Sp} (hd : 4 ≤ d) (h : RM w S) (g : SG S) : ∃ o : am_O, (o.1 = some (.int (forgetS S).1) ∧ RM o.2 (forgetS S).2) ∧ am_D shM d mi_X12_forget [.ref 0] w o := by
  have hs := h.2.2.2.2.1
  refine am_dex (by omega) rfl rfl ?_
  iterate 8 refine am_g0 rfl rfl ?_
  rw [hs.1]
  exact ⟨rfl, rfl, RM_setS h (am_fx.rf.p0 (by decide)) (am_pi_at _ _ _ _) (fun i hi => absurd hi (Nat.not_lt_zero i))⟩
theorem ix3 (i : Nat) : (3 : Int32) * nI i = nI (3 * i) := pk_mul 3 i
theorem m_seen {d : Nat} {x y z : Int32} {w : am_M} {S : Sp} (hd : 4 ≤ d) (h : RM w S) (g : SG S) : ∃ o : am_O, (o.1 = some (.int (seenS S x y z).1) ∧ RM o.2 (seenS S x y z).2) ∧ am_D shM d mi_X12_seen [.ref 0, .int x, .int y, .int z] w o := by
  have hs := h.2.2.2.2.1
  have h8 := g.1.2.2.1.1
  rcases dI_or x 30 (by decide) with hx | ⟨a, ha, rfl, hx⟩
  · refine am_dex (by omega) rfl rfl ?_
    iterate 2 refine am_g0 rfl rfl ?_
    refine ⟨(some (.int 0), w), m_isStep_n (by omega) hx, ?_⟩
    refine am_to (lv' := [(0, .ref 0), (1, .int x), (2, .int y), (3, .int z)]) (st' := [.int 0]) (w' := w) rfl rfl rfl ?_
    refine am_g0 rfl rfl ?_
    refine am_go rfl ?_
    refine am_g0 rfl rfl ?_
    exact ⟨rfl, by unfold seenS; rw [hx], by unfold seenS; rw [hx]; exact h⟩
  · rcases dI_or y 8 (by decide) with hy | ⟨b, hb, rfl, hy⟩
    · refine am_dex (by omega) rfl rfl ?_
      iterate 2 refine am_g0 rfl rfl ?_
      refine ⟨(some (.int 1), w), m_isStep_s (by omega) ha, ?_⟩
      refine am_to (lv' := [(0, .ref 0), (1, .int (nI a)), (2, .int y), (3, .int z)]) (st' := [.int 1]) (w' := w) rfl rfl rfl ?_
      iterate 6 refine am_g0 rfl rfl ?_
      refine ⟨(some (.int 0), w), m_inn (n := 8) (by omega) (by omega) (by decide) hy, ?_⟩
      refine am_to (lv' := [(0, .ref 0), (1, .int (nI a)), (2, .int y), (3, .int z)]) (st' := [.int 0]) (w' := w) rfl rfl rfl ?_
      refine am_g0 rfl rfl ?_
      refine am_go rfl ?_
      refine am_g0 rfl rfl ?_
      exact ⟨rfl, by unfold seenS; rw [hx, hy], by unfold seenS; rw [hx, hy]; exact h⟩
    · rcases dI_or z 36 (by decide) with hz | ⟨c, hc, rfl, hz⟩
      · refine am_dex (by omega) rfl rfl ?_
        iterate 2 refine am_g0 rfl rfl ?_
        refine ⟨(some (.int 1), w), m_isStep_s (by omega) ha, ?_⟩
        refine am_to (lv' := [(0, .ref 0), (1, .int (nI a)), (2, .int (nI b)), (3, .int z)]) (st' := [.int 1]) (w' := w) rfl rfl rfl ?_
        iterate 6 refine am_g0 rfl rfl ?_
        refine ⟨(some (.int 1), w), m_ins (n := 8) (by omega) (by omega) (by decide) hb, ?_⟩
        refine am_to (lv' := [(0, .ref 0), (1, .int (nI a)), (2, .int (nI b)), (3, .int z)]) (st' := [.int 1]) (w' := w) rfl rfl rfl ?_
        iterate 6 refine am_g0 rfl rfl ?_
        refine ⟨(some (.int 0), w), m_inn (n := 36) (by omega) (by omega) (by decide) hz, ?_⟩
        refine am_to (lv' := [(0, .ref 0), (1, .int (nI a)), (2, .int (nI b)), (3, .int z)]) (st' := [.int 0]) (w' := w) rfl rfl rfl ?_
        refine am_g0 rfl rfl ?_
        refine am_go rfl ?_
        refine am_g0 rfl rfl ?_
        exact ⟨rfl, by unfold seenS; rw [hx, hy, hz], by unfold seenS; rw [hx, hy, hz]; exact h⟩
      · refine am_dex (by omega) rfl rfl ?_
        iterate 2 refine am_g0 rfl rfl ?_
        refine ⟨(some (.int 1), w), m_isStep_s (by omega) ha, ?_⟩
        refine am_to (lv' := [(0, .ref 0), (1, .int (nI a)), (2, .int (nI b)), (3, .int (nI c))]) (st' := [.int 1]) (w' := w) rfl rfl rfl ?_
        iterate 6 refine am_g0 rfl rfl ?_
        refine ⟨(some (.int 1), w), m_ins (n := 8) (by omega) (by omega) (by decide) hb, ?_⟩
        refine am_to (lv' := [(0, .ref 0), (1, .int (nI a)), (2, .int (nI b)), (3, .int (nI c))]) (st' := [.int 1]) (w' := w) rfl rfl rfl ?_
        iterate 6 refine am_g0 rfl rfl ?_
        refine ⟨(some (.int 1), w), m_ins (n := 36) (by omega) (by omega) (by decide) hc, ?_⟩
        refine am_to (lv' := [(0, .ref 0), (1, .int (nI a)), (2, .int (nI b)), (3, .int (nI c))]) (st' := [.int 1]) (w' := w) rfl rfl rfl ?_
        refine am_g0 rfl rfl ?_
        refine am_go rfl ?_
        iterate 3 refine am_g0 rfl rfl ?_
        by_cases e8 : S.sn = 8
        · refine am_tt (show (w.1 0 32 : Int32) = 8 from by rw [hs.1, e8]; rfl) ?_
          iterate 2 refine am_g0 rfl rfl ?_
          exact ⟨rfl, by unfold seenS; rw [hx, hy, hz]; dsimp only; rw [if_pos e8], by unfold seenS; rw [hx, hy, hz]; dsimp only; rw [if_pos e8]; exact h⟩
        · have hS : seenS S (nI a) (nI b) (nI c) = (nI (S.sn + 1), S.setS (S.sn + 1) (up1 S.st S.sn a) (up1 S.pe S.sn b) (up1 S.ce S.sn c)) := by unfold seenS; rw [hx, hy, hz]; dsimp only; rw [if_neg e8]
          rw [hS]
          have e0 : ∀ v : am_M, (∀ j, v.1 0 j = w.1 0 j) → v.1 0 32 = nI S.sn := fun v hv => (hv 32).trans hs.1
          refine am_ff (show ¬ (w.1 0 32 : Int32) = 8 from by rw [hs.1]; exact nne (b := 8) e8 (by omega) (by omega)) ?_
          refine am_go rfl ?_
          iterate 6 refine am_g0 rfl rfl ?_
          refine am_gsE (n := 24) (k := 3 * S.sn) rfl rfl (by rw [hs.1]; exact ix3 _) (by omega) (by decide) ?_
          refine am_to (lv' := [(0, .ref 0), (1, .int (nI a)), (2, .int (nI b)), (3, .int (nI c))]) (st' := []) (w' := am_pi w 22 (3 * S.sn) (nI a)) rfl rfl rfl ?_
          iterate 9 refine am_g0 rfl rfl ?_
          refine am_gsE (n := 24) (k := 3 * S.sn + 1) rfl rfl (by rw [am_pi_row (show 0 ≠ 22 by omega), hs.1, ix3]; exact nI_add _ 1) (by omega) (by decide) ?_
          refine am_to (lv' := [(0, .ref 0), (1, .int (nI a)), (2, .int (nI b)), (3, .int (nI c))]) (st' := []) (w' := am_pi (am_pi w 22 (3 * S.sn) (nI a)) 22 (3 * S.sn + 1) (nI b)) rfl rfl rfl ?_
          iterate 9 refine am_g0 rfl rfl ?_
          refine am_gsE (n := 24) (k := 3 * S.sn + 2) rfl rfl (by rw [am_pi_row (show 0 ≠ 22 by omega), am_pi_row (show 0 ≠ 22 by omega), hs.1, ix3]; exact nI_add _ 2) (by omega) (by decide) ?_
          refine am_to (lv' := [(0, .ref 0), (1, .int (nI a)), (2, .int (nI b)), (3, .int (nI c))]) (st' := []) (w' := am_pi (am_pi (am_pi w 22 (3 * S.sn) (nI a)) 22 (3 * S.sn + 1) (nI b)) 22 (3 * S.sn + 2) (nI c)) rfl rfl rfl ?_
          iterate 5 refine am_g0 rfl rfl ?_
          refine am_top (y := nI (S.sn + 1)) (by rw [am_pi_row (show 0 ≠ 22 by omega), am_pi_row (show 0 ≠ 22 by omega), am_pi_row (show 0 ≠ 22 by omega), hs.1, nI_1]) ?_
          iterate 4 refine am_g0 rfl rfl ?_
          refine ⟨rfl, rfl, RM_setS h ((((am_fx.rf.pc (by decide) (by decide)).pc (by decide) (by decide)).pc (by decide) (by decide)).p0 (by decide)) (am_pi_at _ _ _ _) (fun i hi => ?_)⟩
          rw [am_pi_row (show 22 ≠ 0 by omega)]
          by_cases e : i = S.sn
          · subst e
            rw [up1_at, up1_at, up1_at]
            refine ⟨?_, ?_, am_pi_at _ _ _ _⟩
            · rw [am_pi_ne (Or.inr (by omega)), am_pi_ne (Or.inr (by omega)), am_pi_at]
            · rw [am_pi_ne (Or.inr (by omega)), am_pi_at]
          · rw [up1_ne e, up1_ne e, up1_ne e]
            have e2 : ∀ k, k < 3 → (am_pi (am_pi (am_pi w 22 (3 * S.sn) (nI a)) 22 (3 * S.sn + 1) (nI b)) 22 (3 * S.sn + 2) (nI c)).1 22 (3 * i + k) = w.1 22 (3 * i + k) := fun k hk => by rw [am_pi_ne (Or.inr (by omega)), am_pi_ne (Or.inr (by omega)), am_pi_ne (Or.inr (by omega))]
            obtain ⟨c1, c2, c3⟩ := hs.2 i (by omega)
            exact ⟨(e2 0 (by omega)).trans c1, (e2 1 (by omega)).trans c2, (e2 2 (by omega)).trans c3⟩
