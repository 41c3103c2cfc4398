theorem RC_setS {w w1 : am_M} {S : Sp} {n : Nat} {st pe ce : Nat → Nat} (h : RC w S) (e : ∀ a, a < 20 ∨ 24 ≤ a → w1.1 a = w.1 a) (e2 : w1.2 = w.2) (hh : cSeen w1 n st pe ce) : RC w1 (S.setS n st pe ce) := by
  obtain ⟨⟨h1, h2, h3, h4, h5, h6, h7, h8, h9⟩, c1, c2, c3, c4⟩ := h
  have hq : S.q ≤ 8 := h5.1.2.1
  have k1 : cTr w1 (S.setS n st pe ce) := cTr_c rfl rfl rfl (c1.fr hq (fun a _ _ => e a (by omega)) (by rw [e 0 (by omega)]))
  have k2 : cPr w1 (S.setS n st pe ce) := cPr_c rfl rfl rfl (c2.fr (e _ (by omega)) (by rw [e 0 (by omega)]))
  have k3 : cDr w1 (S.setS n st pe ce) := cDr_c rfl rfl rfl (c3.fr (e _ (by omega)) (by rw [e 0 (by omega)]))
  have k4 : cSt w1 (S.setS n st pe ce) := cSt_c rfl rfl (c4.fr (e _ (by omega)) (by rw [e2]))
  refine ⟨⟨⟨h1.1, h1.2.1, ⟨hh.2.1, fun i hi => ⟨(hh.2.2 i hi).2.1, (hh.2.2 i hi).2.2.2.1, (hh.2.2 i hi).2.2.2.2.2⟩⟩, h1.2.2.2⟩, h2.fr (fun a _ _ => e a (by omega)), h3.fr (fun a _ _ => e a (by omega)), h4.fr (fun a _ _ => e a (by omega)) (by rw [e 8 (by omega)]), h5.fr (fun a _ _ => e a (by omega)) (by rw [e 8 (by omega)]), h6.fr (fun a _ _ => e a (by omega)), hh, h8.fr (fun a _ _ => e a (by omega)), by rw [e 0 (by omega)]; exact h9⟩, k1, k2, k3, k4⟩
