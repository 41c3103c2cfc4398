/-! a run with any post ends in one answer that has it -/
section AME
variable {Φ : am_O → Prop}
theorem am_i1_e {st : List Value} {f : Int32 → List Value → Prop} {g : am_O → Int32 → List Value → Prop} (m : ∀ x r, f x r → ∃ o, Φ o ∧ g o x r) (h : am_i1 st f) : ∃ o, Φ o ∧ am_i1 st (g o) := by
  obtain ⟨x, r, rfl, h⟩ := am_i1_s h
  obtain ⟨o, h1, h2⟩ := m _ _ h
  exact ⟨o, h1, h2⟩
theorem am_i2_e {st : List Value} {f : Int32 → Int32 → List Value → Prop} {g : am_O → Int32 → Int32 → List Value → Prop} (m : ∀ x y r, f x y r → ∃ o, Φ o ∧ g o x y r) (h : am_i2 st f) : ∃ o, Φ o ∧ am_i2 st (g o) := by
  obtain ⟨x, y, r, rfl, h⟩ := am_i2_s h
  obtain ⟨o, h1, h2⟩ := m _ _ _ h
  exact ⟨o, h1, h2⟩
theorem am_l1_e {st : List Value} {f : Int64 → List Value → Prop} {g : am_O → Int64 → List Value → Prop} (m : ∀ x r, f x r → ∃ o, Φ o ∧ g o x r) (h : am_l1 st f) : ∃ o, Φ o ∧ am_l1 st (g o) := by
  obtain ⟨x, r, rfl, h⟩ := am_l1_s h
  obtain ⟨o, h1, h2⟩ := m _ _ h
  exact ⟨o, h1, h2⟩
theorem am_l2_e {st : List Value} {f : Int64 → Int64 → List Value → Prop} {g : am_O → Int64 → Int64 → List Value → Prop} (m : ∀ x y r, f x y r → ∃ o, Φ o ∧ g o x y r) (h : am_l2 st f) : ∃ o, Φ o ∧ am_l2 st (g o) := by
  obtain ⟨x, y, r, rfl, h⟩ := am_l2_s h
  obtain ⟨o, h1, h2⟩ := m _ _ _ h
  exact ⟨o, h1, h2⟩
theorem am_li_e {st : List Value} {f : Int64 → Int32 → List Value → Prop} {g : am_O → Int64 → Int32 → List Value → Prop} (m : ∀ x y r, f x y r → ∃ o, Φ o ∧ g o x y r) (h : am_li st f) : ∃ o, Φ o ∧ am_li st (g o) := by
  obtain ⟨x, y, r, rfl, h⟩ := am_li_s h
  obtain ⟨o, h1, h2⟩ := m _ _ _ h
  exact ⟨o, h1, h2⟩
theorem am_r1_e {st : List Value} {f : Nat → List Value → Prop} {g : am_O → Nat → List Value → Prop} (m : ∀ x r, f x r → ∃ o, Φ o ∧ g o x r) (h : am_r1 st f) : ∃ o, Φ o ∧ am_r1 st (g o) := by
  obtain ⟨x, r, rfl, h⟩ := am_r1_s h
  obtain ⟨o, h1, h2⟩ := m _ _ h
  exact ⟨o, h1, h2⟩
theorem am_ri_e {st : List Value} {f : Nat → Int32 → List Value → Prop} {g : am_O → Nat → Int32 → List Value → Prop} (m : ∀ x y r, f x y r → ∃ o, Φ o ∧ g o x y r) (h : am_ri st f) : ∃ o, Φ o ∧ am_ri st (g o) := by
  obtain ⟨x, y, r, rfl, h⟩ := am_ri_s h
  obtain ⟨o, h1, h2⟩ := m _ _ _ h
  exact ⟨o, h1, h2⟩
theorem am_rii_e {st : List Value} {f : Nat → Int32 → Int32 → List Value → Prop} {g : am_O → Nat → Int32 → Int32 → List Value → Prop} (m : ∀ x y z r, f x y z r → ∃ o, Φ o ∧ g o x y z r) (h : am_rii st f) : ∃ o, Φ o ∧ am_rii st (g o) := by
  obtain ⟨x, y, z, r, rfl, h⟩ := am_rii_s h
  obtain ⟨o, h1, h2⟩ := m _ _ _ _ h
  exact ⟨o, h1, h2⟩
theorem am_rl1_e {st : List Value} {f : Nat → Int64 → List Value → Prop} {g : am_O → Nat → Int64 → List Value → Prop} (m : ∀ x y r, f x y r → ∃ o, Φ o ∧ g o x y r) (h : am_rl1 st f) : ∃ o, Φ o ∧ am_rl1 st (g o) := by
  obtain ⟨x, y, r, rfl, h⟩ := am_rl1_s h
  obtain ⟨o, h1, h2⟩ := m _ _ _ h
  exact ⟨o, h1, h2⟩
theorem am_cp_e {st : List Value} {f : Nat → Int32 → Nat → Int32 → Int32 → List Value → Prop} {g : am_O → Nat → Int32 → Nat → Int32 → Int32 → List Value → Prop} (m : ∀ a b c d e r, f a b c d e r → ∃ o, Φ o ∧ g o a b c d e r) (h : am_cp st f) : ∃ o, Φ o ∧ am_cp st (g o) := by
  obtain ⟨a, b, c, d, e, r, rfl, h⟩ := am_cp_s h
  obtain ⟨o, h1, h2⟩ := m _ _ _ _ _ _ h
  exact ⟨o, h1, h2⟩
theorem am_v1_e {st : List Value} {f : Value → List Value → Prop} {g : am_O → Value → List Value → Prop} (m : ∀ x r, f x r → ∃ o, Φ o ∧ g o x r) (h : am_v1 st f) : ∃ o, Φ o ∧ am_v1 st (g o) := by
  unfold am_v1 at h
  split at h
  · exact m _ _ h
  · exact m _ _ h
  · exact h.elim
theorem am_v2_e {st : List Value} {f : Value → Value → List Value → Prop} {g : am_O → Value → Value → List Value → Prop} (m : ∀ x y r, f x y r → ∃ o, Φ o ∧ g o x y r) (h : am_v2 st f) : ∃ o, Φ o ∧ am_v2 st (g o) := by
  unfold am_v2 at h
  split at h
  · exact m _ _ _ h
  · exact m _ _ _ h
  · exact h.elim
theorem am_li1_e {lv : am_L} {i : Nat} {f : Int32 → Prop} {g : am_O → Int32 → Prop} (m : ∀ x, f x → ∃ o, Φ o ∧ g o x) (h : am_li1 lv i f) : ∃ o, Φ o ∧ am_li1 lv i (g o) := by
  obtain ⟨x, e, h⟩ := am_li1_s h
  obtain ⟨o, h1, h2⟩ := m _ h
  exact ⟨o, h1, by unfold am_li1; rw [e]; exact h2⟩
theorem am_ll1_e {lv : am_L} {i : Nat} {f : Int64 → Prop} {g : am_O → Int64 → Prop} (m : ∀ x, f x → ∃ o, Φ o ∧ g o x) (h : am_ll1 lv i f) : ∃ o, Φ o ∧ am_ll1 lv i (g o) := by
  obtain ⟨x, e, h⟩ := am_ll1_s h
  obtain ⟨o, h1, h2⟩ := m _ h
  exact ⟨o, h1, by unfold am_ll1; rw [e]; exact h2⟩
theorem am_lr1_e {lv : am_L} {i : Nat} {f : Nat → Prop} {g : am_O → Nat → Prop} (m : ∀ x, f x → ∃ o, Φ o ∧ g o x) (h : am_lr1 lv i f) : ∃ o, Φ o ∧ am_lr1 lv i (g o) := by
  obtain ⟨x, e, h⟩ := am_lr1_s h
  obtain ⟨o, h1, h2⟩ := m _ h
  exact ⟨o, h1, by unfold am_lr1; rw [e]; exact h2⟩
theorem am_test_e {b : Bool} {P : Prop} {g : am_O → Prop} (m : P → ∃ o, Φ o ∧ g o) (h : am_test b P) : ∃ o, Φ o ∧ am_test b (g o) := by
  obtain ⟨rfl, h⟩ := am_test_s h
  exact m h
theorem am_opt_e {α : Type} {x : Option α} {f : α → Prop} {g : am_O → α → Prop} (m : ∀ a, f a → ∃ o, Φ o ∧ g o a) (h : am_opt x f) : ∃ o, Φ o ∧ am_opt x (g o) := by
  obtain ⟨a, rfl, h⟩ := am_opt_s h
  exact m _ h
theorem am_ite_e {c : Prop} [Decidable c] {a b : Prop} {a' b' : am_O → Prop} (h1 : a → ∃ o, Φ o ∧ a' o) (h2 : b → ∃ o, Φ o ∧ b' o) (h : if c then a else b) : ∃ o, Φ o ∧ if c then a' o else b' o := by
  split at h
  · obtain ⟨o, g1, g2⟩ := h1 h
    exact ⟨o, g1, by rw [if_pos (by assumption)]; exact g2⟩
  · obtain ⟨o, g1, g2⟩ := h2 h
    exact ⟨o, g1, by rw [if_neg (by assumption)]; exact g2⟩
theorem am_getf_e {sh : List am_S} {ci j b : Nat} {w : am_M} {f : Value → Prop} {g : am_O → Value → Prop} (m : ∀ v, f v → ∃ o, Φ o ∧ g o v) (h : am_getf sh ci j b w f) : ∃ o, Φ o ∧ am_getf sh ci j b w (g o) := by
  unfold am_getf at h ⊢
  split at h
  · refine am_opt_e (fun v h => ?_) h
    split at h <;> exact m _ h
  · refine am_test_e (fun h => ?_) h
    split at h
    · exact m _ h
    · exact am_opt_e (fun _ => m _) h
    · exact m _ h
    · exact h.elim
set_option maxHeartbeats 2000000 in
theorem am_step_e {sh : List am_S} {mid : Nat} {call : Nat → List Value → am_M → am_O → Prop} {k : Nat → am_L → List Value → am_M → Prop} {k' : am_O → Nat → am_L → List Value → am_M → Prop} {pc : Nat} {e : Instr × Int32 × Nat × Nat} {lv : am_L} {st : List Value} {w : am_M}
    (m : ∀ a b c d, k a b c d → ∃ o, Φ o ∧ k' o a b c d) (h : am_step sh mid call Φ k pc e lv st w) : ∃ o, Φ o ∧ am_step sh mid call (fun r => r = o) (k' o) pc e lv st w := by
  obtain ⟨i, v, nx, tg⟩ := e
  unfold am_step at h ⊢
  dsimp only at h ⊢
  split at h
  all_goals first
    | exact m _ _ _ _ h
    | exact am_li1_e (fun _ => m _ _ _ _) h
    | exact am_ll1_e (fun _ => m _ _ _ _) h
    | exact am_lr1_e (fun _ => m _ _ _ _) h
    | exact am_i1_e (fun _ _ => m _ _ _ _) h
    | exact am_i2_e (fun _ _ _ => m _ _ _ _) h
    | exact am_l1_e (fun _ _ => m _ _ _ _) h
    | exact am_l2_e (fun _ _ _ => m _ _ _ _) h
    | exact am_li_e (fun _ _ _ => m _ _ _ _) h
    | exact am_r1_e (fun _ _ => m _ _ _ _) h
    | exact am_v1_e (fun _ _ => m _ _ _ _) h
    | exact am_v2_e (fun _ _ _ => m _ _ _ _) h
    | exact am_i2_e (fun _ _ _ => am_ite_e False.elim (m _ _ _ _)) h
    | exact am_l2_e (fun _ _ _ => am_ite_e False.elim (m _ _ _ _)) h
    | exact am_opt_e (fun _ => m _ _ _ _) h
    | exact False.elim h
    | skip
  · split at h
    · exact m _ _ _ _ h
    · exact am_opt_e (fun _ => m _ _ _ _) h
  · split at h <;> exact m _ _ _ _ h
  · refine am_i1_e (fun x r h => ?_) h
    split at h <;> exact am_ite_e (m _ _ _ _) (m _ _ _ _) h
  · refine am_i2_e (fun x y r h => ?_) h
    split at h <;> exact am_ite_e (m _ _ _ _) (m _ _ _ _) h
  · exact am_i1_e (fun x r ⟨t, h1, h2⟩ => by
      obtain ⟨o, g1, g2⟩ := m _ _ _ _ h2
      exact ⟨o, g1, t, h1, g2⟩) h
  · refine am_opt_e (fun q h => ?_) h
    obtain ⟨ci, j, nest⟩ := q
    exact am_r1_e (fun b r => am_getf_e (fun v => m _ _ _ _)) h
  · refine am_opt_e (fun q h => ?_) h
    obtain ⟨ci, j, nest⟩ := q
    dsimp only at h ⊢
    split at h
    · refine am_v2_e (fun a v r h => ?_) h
      split at h
      · refine am_test_e (fun h => ?_) h
        split at h
        · exact m _ _ _ _ h
        · obtain ⟨o, g1, g2⟩ := m _ _ _ _ h.2
          exact ⟨o, g1, h.1, g2⟩
      · exact h.elim
    · exact am_rl1_e (fun b v r => am_test_e (m _ _ _ _)) h
    · exact h.elim
  · refine am_opt_e (fun q h => ?_) h
    obtain ⟨j, nest⟩ := q
    dsimp only at h ⊢
    split at h <;> exact m _ _ _ _ h
  · refine am_ri_e (fun b i r h => ?_) h
    split at h
    · exact am_ite_e False.elim (m _ _ _ _) h
    · exact am_opt_e (fun l => am_ite_e False.elim (m _ _ _ _)) h
  · exact am_ri_e (fun b i r => am_opt_e (fun l => am_ite_e False.elim (m _ _ _ _))) h
  · exact am_rii_e (fun b i x r => am_opt_e (fun l => am_ite_e False.elim (m _ _ _ _))) h
  · refine am_ri_e (fun b i r => am_opt_e (fun q h => ?_)) h
    obtain ⟨t, l⟩ := q
    exact am_ite_e False.elim (am_opt_e (fun _ => m _ _ _ _)) h
  · exact am_r1_e (fun b r => am_opt_e (fun l => m _ _ _ _)) h
  · refine am_opt_e (fun q h => ?_) h
    obtain ⟨y, n, z, nest⟩ := q
    refine am_opt_e (fun q h => ?_) h
    obtain ⟨as, r0⟩ := q
    exact am_r1_e (fun b r => am_test_e (fun ⟨o1, h1, h2⟩ => by
      obtain ⟨o, g1, g2⟩ := am_test_e (m _ _ _ _) h2
      exact ⟨o, g1, o1, h1, g2⟩)) h
  · refine am_opt_e (fun q h => ?_) h
    obtain ⟨y, n, z, nest⟩ := q
    dsimp only at h ⊢
    split at h
    · refine am_opt_e (fun q h => ?_) h
      obtain ⟨as, r0⟩ := q
      exact am_test_e (fun ⟨o1, h1, h2⟩ => by
        obtain ⟨o, g1, g2⟩ := am_test_e (m _ _ _ _) h2
        exact ⟨o, g1, o1, h1, g2⟩) h
    · split at h
      · exact am_i2_e (fun x y r => am_test_e (m _ _ _ _)) h
      · exact am_i2_e (fun x y r => am_test_e (m _ _ _ _)) h
      · exact am_cp_e (fun _ _ _ _ _ r => am_test_e (am_opt_e (fun _ => am_opt_e (fun _ ⟨h1, h2, h3, h4, h5, h6⟩ => by
          obtain ⟨o, g1, g2⟩ := m _ _ _ _ h6
          exact ⟨o, g1, h1, h2, h3, h4, h5, g2⟩)))) h
      · exact h.elim
  · refine am_i1_e (fun x r h => ?_) h
    split at h
    · exact am_opt_e (fun t h => ⟨_, h.2, h.1, rfl⟩) h
    · exact h.elim
  · refine am_l1_e (fun x r h => ?_) h
    split at h
    · exact ⟨_, h.2, h.1, rfl⟩
    · exact h.elim
  · split at h
    · exact ⟨_, h.2, h.1, rfl⟩
    · exact h.elim
theorem am_ex {sh : List am_S} {mid : Nat} {call : Nat → List Value → am_M → am_O → Prop} {pc : Nat} {lv : am_L} {st : List Value} {w : am_M} (h : am_R sh mid call Φ pc lv st w) : ∃ o, Φ o ∧ am_R sh mid call (fun r => r = o) pc lv st w :=
  h (fun pc lv st w => ∃ o, Φ o ∧ am_R sh mid call (fun r => r = o) pc lv st w) fun pc lv st w e he hs => by
    obtain ⟨o, h1, h2⟩ := am_step_e (fun a b c d h => h) hs
    exact ⟨o, h1, am_go he h2⟩
/-- a method, by what its answer must be -/
theorem am_dex {sh : List am_S} {d mid : Nat} {as : List Value} {w : am_M} (hd : 1 ≤ d) (h1 : Nat.ble (am_cat as) (am_ml mid) = true) (h2 : Nat.blt mid 199 = true) (h : am_R sh mid (am_D sh (d - 1)) Φ 0 (am_in 0 as) [] w) : ∃ o, Φ o ∧ am_D sh d mid as w o := by
  obtain ⟨o, g1, g2⟩ := am_ex h
  exact ⟨o, g1, am_def hd h1 h2 g2⟩
end AME
