theorem RC_setF {w : am_M} {S : Sp} {x : Int32} (h : RC w S) : RC (am_pi w 0 16 x) (S.setF x) := by
  obtain ⟨⟨h1, h2, h3, h4, h5, h6, h7, h8, h9⟩, c1, c2, c3, c4⟩ := h
  have hq : S.q ≤ 8 := h5.1.2.1
  have e : ∀ a, 0 < a → (am_pi w 0 16 x).1 a = w.1 a := fun a ha => am_pi_row (by omega)
  have e0 : ∀ j, j ≠ 16 → (am_pi w 0 16 x).1 0 j = w.1 0 j := fun j hj => am_pi_ne (Or.inr hj)
  refine ⟨⟨h1, h2.fr (fun a _ _ => e a (by omega)), h3.fr (fun a _ _ => e a (by omega)), h4.fr (fun a _ _ => e a (by omega)) (by rw [e 8 (by omega)]), h5.fr (fun a _ _ => e a (by omega)) (by rw [e 8 (by omega)]), h6.fr (fun a _ _ => e a (by omega)), h7.fr (fun a _ _ => e a (by omega)), h8.fr (fun a _ _ => e a (by omega)), am_pi_at _ _ _ _⟩, cTr_c rfl rfl rfl (c1.fr hq (fun a _ _ => e a (by omega)) (e0 17 (by omega))), cPr_c rfl rfl rfl (c2.fr (e _ (by omega)) (e0 18 (by omega))), cDr_c rfl rfl rfl (c3.fr (e _ (by omega)) (e0 19 (by omega))), cSt_c rfl rfl (c4.fr (e _ (by omega)) rfl)⟩
