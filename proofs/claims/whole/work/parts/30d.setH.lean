theorem RC_setH {w w1 : am_M} {S : Sp} {fm : Nat → Nat} {sz : Nat → Option Nat} {it : Nat → Nat → Int32} (h : RC w S) (e : ∀ a, a < 25 ∨ 33 ≤ a → w1.1 a = w.1 a) (e2 : w1.2 = w.2) (hs : ∀ s, s < 4 → fm s < 3 ∧ ∀ n, sz s = some n → n ≤ 60) (hh : RCh w1 (S.setH fm sz it)) : RC w1 (S.setH fm sz it) := by
  obtain ⟨⟨h1, h2, h3, h4, h5, h6, h7, h8, h9⟩, c1, c2, c3, c4⟩ := h
  have hq : S.q ≤ 8 := h5.1.2.1
  have k1 : cTr w1 (S.setH fm sz it) := cTr_c rfl rfl rfl (c1.fr hq (fun a _ _ => e a (by omega)) (by rw [e 0 (by omega)]))
  have k2 : cPr w1 (S.setH fm sz it) := cPr_c rfl rfl rfl (c2.fr (e _ (by omega)) (by rw [e 0 (by omega)]))
  have k3 : cDr w1 (S.setH fm sz it) := cDr_c rfl rfl rfl (c3.fr (e _ (by omega)) (by rw [e 0 (by omega)]))
  have k4 : cSt w1 (S.setH fm sz it) := cSt_c rfl rfl (c4.fr (e _ (by omega)) (by rw [e2]))
  refine ⟨⟨⟨h1.1, h1.2.1, h1.2.2.1, hs⟩, h2.fr (fun a _ _ => e a (by omega)), h3.fr (fun a _ _ => e a (by omega)), h4.fr (fun a _ _ => e a (by omega)) (by rw [e 8 (by omega)]), h5.fr (fun a _ _ => e a (by omega)) (by rw [e 8 (by omega)]), h6.fr (fun a _ _ => e a (by omega)), h7.fr (fun a _ _ => e a (by omega)), hh, by rw [e 0 (by omega)]; exact h9⟩, k1, k2, k3, k4⟩
