/-! Runs: the least predicate closed under the steps; it's monotone in the continuation -/
theorem am_i1_s {st : List Value} {f : Int32 → List Value → Prop} (h : am_i1 st f) : ∃ x r, st = .int x :: r ∧ f x r := by
  unfold am_i1 at h; split at h
  · exact ⟨_, _, rfl, h⟩
  · exact h.elim
theorem am_i2_s {st : List Value} {f : Int32 → Int32 → List Value → Prop} (h : am_i2 st f) : ∃ x y r, st = .int y :: .int x :: r ∧ f x y r := by
  unfold am_i2 at h; split at h
  · exact ⟨_, _, _, rfl, h⟩
  · exact h.elim
theorem am_l1_s {st : List Value} {f : Int64 → List Value → Prop} (h : am_l1 st f) : ∃ x r, st = .long x :: r ∧ f x r := by
  unfold am_l1 at h; split at h
  · exact ⟨_, _, rfl, h⟩
  · exact h.elim
theorem am_l2_s {st : List Value} {f : Int64 → Int64 → List Value → Prop} (h : am_l2 st f) : ∃ x y r, st = .long y :: .long x :: r ∧ f x y r := by
  unfold am_l2 at h; split at h
  · exact ⟨_, _, _, rfl, h⟩
  · exact h.elim
theorem am_li_s {st : List Value} {f : Int64 → Int32 → List Value → Prop} (h : am_li st f) : ∃ x y r, st = .int y :: .long x :: r ∧ f x y r := by
  unfold am_li at h; split at h
  · exact ⟨_, _, _, rfl, h⟩
  · exact h.elim
theorem am_r1_s {st : List Value} {f : Nat → List Value → Prop} (h : am_r1 st f) : ∃ b r, st = .ref b :: r ∧ f b r := by
  unfold am_r1 at h; split at h
  · exact ⟨_, _, rfl, h⟩
  · exact h.elim
theorem am_ri_s {st : List Value} {f : Nat → Int32 → List Value → Prop} (h : am_ri st f) : ∃ b i r, st = .int i :: .ref b :: r ∧ f b i r := by
  unfold am_ri at h; split at h
  · exact ⟨_, _, _, rfl, h⟩
  · exact h.elim
theorem am_rii_s {st : List Value} {f : Nat → Int32 → Int32 → List Value → Prop} (h : am_rii st f) : ∃ b i x r, st = .int x :: .int i :: .ref b :: r ∧ f b i x r := by
  unfold am_rii at h; split at h
  · exact ⟨_, _, _, _, rfl, h⟩
  · exact h.elim
theorem am_rl1_s {st : List Value} {f : Nat → Int64 → List Value → Prop} (h : am_rl1 st f) : ∃ b x r, st = .long x :: .ref b :: r ∧ f b x r := by
  unfold am_rl1 at h; split at h
  · exact ⟨_, _, _, rfl, h⟩
  · exact h.elim
theorem am_v1_s {st : List Value} {f : Value → List Value → Prop} (h : am_v1 st f) : ∃ v r, st = v :: r ∧ v.category = 1 ∧ f v r := by
  unfold am_v1 at h; split at h
  · exact ⟨_, _, rfl, rfl, h⟩
  · exact ⟨_, _, rfl, rfl, h⟩
  · exact h.elim
theorem am_v2_s {st : List Value} {f : Value → Value → List Value → Prop} (h : am_v2 st f) : ∃ a b r, st = b :: a :: r ∧ a.category = 1 ∧ b.category = 1 ∧ f a b r := by
  unfold am_v2 at h; split at h
  · exact ⟨_, _, _, rfl, rfl, rfl, h⟩
  · exact ⟨_, _, _, rfl, rfl, rfl, h⟩
  · exact h.elim
theorem am_cp_s {st : List Value} {f : Nat → Int32 → Nat → Int32 → Int32 → List Value → Prop} (h : am_cp st f) : ∃ a0 sp a dp n r, st = .int n :: .int dp :: .ref a :: .int sp :: .ref a0 :: r ∧ f a0 sp a dp n r := by
  unfold am_cp at h; split at h
  · exact ⟨_, _, _, _, _, _, rfl, h⟩
  · exact h.elim
theorem am_li1_s {lv : am_L} {i : Nat} {f : Int32 → Prop} (h : am_li1 lv i f) : ∃ x, am_lk lv i = some (.int x) ∧ f x := by
  unfold am_li1 at h; split at h
  · exact ⟨_, by assumption, h⟩
  · exact h.elim
theorem am_ll1_s {lv : am_L} {i : Nat} {f : Int64 → Prop} (h : am_ll1 lv i f) : ∃ x, am_lk lv i = some (.long x) ∧ f x := by
  unfold am_ll1 at h; split at h
  · exact ⟨_, by assumption, h⟩
  · exact h.elim
theorem am_lr1_s {lv : am_L} {i : Nat} {f : Nat → Prop} (h : am_lr1 lv i f) : ∃ x, am_lk lv i = some (.ref x) ∧ f x := by
  unfold am_lr1 at h; split at h
  · exact ⟨_, by assumption, h⟩
  · exact h.elim
theorem am_test_s {b : Bool} {P : Prop} (h : am_test b P) : b = true ∧ P := by
  unfold am_test at h; split at h
  · exact ⟨rfl, h⟩
  · exact h.elim
theorem am_opt_s {α : Type} {x : Option α} {f : α → Prop} (h : am_opt x f) : ∃ a, x = some a ∧ f a := by
  unfold am_opt at h; split at h
  · exact ⟨_, rfl, h⟩
  · exact h.elim
theorem am_i1_m {st : List Value} {f g : Int32 → List Value → Prop} (m : ∀ x r, f x r → g x r) (h : am_i1 st f) : am_i1 st g := by
  obtain ⟨x, r, rfl, h⟩ := am_i1_s h; exact m _ _ h
theorem am_i2_m {st : List Value} {f g : Int32 → Int32 → List Value → Prop} (m : ∀ x y r, f x y r → g x y r) (h : am_i2 st f) : am_i2 st g := by
  obtain ⟨x, y, r, rfl, h⟩ := am_i2_s h; exact m _ _ _ h
theorem am_l1_m {st : List Value} {f g : Int64 → List Value → Prop} (m : ∀ x r, f x r → g x r) (h : am_l1 st f) : am_l1 st g := by
  obtain ⟨x, r, rfl, h⟩ := am_l1_s h; exact m _ _ h
theorem am_l2_m {st : List Value} {f g : Int64 → Int64 → List Value → Prop} (m : ∀ x y r, f x y r → g x y r) (h : am_l2 st f) : am_l2 st g := by
  obtain ⟨x, y, r, rfl, h⟩ := am_l2_s h; exact m _ _ _ h
theorem am_li_m {st : List Value} {f g : Int64 → Int32 → List Value → Prop} (m : ∀ x y r, f x y r → g x y r) (h : am_li st f) : am_li st g := by
  obtain ⟨x, y, r, rfl, h⟩ := am_li_s h; exact m _ _ _ h
theorem am_r1_m {st : List Value} {f g : Nat → List Value → Prop} (m : ∀ x r, f x r → g x r) (h : am_r1 st f) : am_r1 st g := by
  obtain ⟨x, r, rfl, h⟩ := am_r1_s h; exact m _ _ h
theorem am_ri_m {st : List Value} {f g : Nat → Int32 → List Value → Prop} (m : ∀ x y r, f x y r → g x y r) (h : am_ri st f) : am_ri st g := by
  obtain ⟨x, y, r, rfl, h⟩ := am_ri_s h; exact m _ _ _ h
theorem am_rii_m {st : List Value} {f g : Nat → Int32 → Int32 → List Value → Prop} (m : ∀ x y z r, f x y z r → g x y z r) (h : am_rii st f) : am_rii st g := by
  obtain ⟨x, y, z, r, rfl, h⟩ := am_rii_s h; exact m _ _ _ _ h
theorem am_rl1_m {st : List Value} {f g : Nat → Int64 → List Value → Prop} (m : ∀ x y r, f x y r → g x y r) (h : am_rl1 st f) : am_rl1 st g := by
  obtain ⟨x, y, r, rfl, h⟩ := am_rl1_s h; exact m _ _ _ h
theorem am_v1_m {st : List Value} {f g : Value → List Value → Prop} (m : ∀ x r, f x r → g x r) (h : am_v1 st f) : am_v1 st g := by
  unfold am_v1 at h ⊢
  split at h
  · exact m _ _ h
  · exact m _ _ h
  · exact h.elim
theorem am_v2_m {st : List Value} {f g : Value → Value → List Value → Prop} (m : ∀ x y r, f x y r → g x y r) (h : am_v2 st f) : am_v2 st g := by
  unfold am_v2 at h ⊢
  split at h
  · exact m _ _ _ h
  · exact m _ _ _ h
  · exact h.elim
theorem am_cp_m {st : List Value} {f g : Nat → Int32 → Nat → Int32 → Int32 → List Value → Prop} (m : ∀ a b c d e r, f a b c d e r → g a b c d e r) (h : am_cp st f) : am_cp st g := by
  obtain ⟨_, _, _, _, _, r, rfl, h⟩ := am_cp_s h; exact m _ _ _ _ _ _ h
theorem am_li1_m {lv : am_L} {i : Nat} {f g : Int32 → Prop} (m : ∀ x, f x → g x) (h : am_li1 lv i f) : am_li1 lv i g := by
  obtain ⟨x, e, h⟩ := am_li1_s h; unfold am_li1; rw [e]; exact m _ h
theorem am_ll1_m {lv : am_L} {i : Nat} {f g : Int64 → Prop} (m : ∀ x, f x → g x) (h : am_ll1 lv i f) : am_ll1 lv i g := by
  obtain ⟨x, e, h⟩ := am_ll1_s h; unfold am_ll1; rw [e]; exact m _ h
theorem am_lr1_m {lv : am_L} {i : Nat} {f g : Nat → Prop} (m : ∀ x, f x → g x) (h : am_lr1 lv i f) : am_lr1 lv i g := by
  obtain ⟨x, e, h⟩ := am_lr1_s h; unfold am_lr1; rw [e]; exact m _ h
theorem am_test_m {b : Bool} {P Q : Prop} (m : P → Q) (h : am_test b P) : am_test b Q := by
  obtain ⟨rfl, h⟩ := am_test_s h; exact m h
theorem am_opt_m {α : Type} {x : Option α} {f g : α → Prop} (m : ∀ a, f a → g a) (h : am_opt x f) : am_opt x g := by
  obtain ⟨a, rfl, h⟩ := am_opt_s h; exact m _ h
theorem am_ite_m {c : Prop} [Decidable c] {a b a' b' : Prop} (h1 : a → a') (h2 : b → b') (h : if c then a else b) : if c then a' else b' := by
  split at h
  · rw [if_pos (by assumption)]; exact h1 h
  · rw [if_neg (by assumption)]; exact h2 h
theorem am_getf_m {sh : List am_S} {ci j b : Nat} {w : am_M} {f g : Value → Prop} (m : ∀ v, f v → g v) (h : am_getf sh ci j b w f) : am_getf sh ci j b w g := by
  unfold am_getf at h ⊢
  split at h
  · refine am_opt_m (fun v h => ?_) h
    split at h <;> exact m _ h
  · refine am_test_m (fun h => ?_) h
    split at h
    · exact m _ h
    · exact am_opt_m (fun _ => m _) h
    · exact m _ h
    · exact h
set_option maxHeartbeats 2000000 in
theorem am_step_m {sh : List am_S} {mid : Nat} {call : Nat → List Value → am_M → am_O → Prop} {post : am_O → Prop} {k k' : Nat → am_L → List Value → am_M → Prop} {pc : Nat} {e : Instr × Int32 × Nat × Nat} {lv : am_L} {st : List Value} {w : am_M}
    (m : ∀ a b c d, k a b c d → k' a b c d) (h : am_step sh mid call post k pc e lv st w) : am_step sh mid call post k' pc e lv st w := by
  obtain ⟨i, v, nx, tg⟩ := e
  unfold am_step at h ⊢
  dsimp only at h ⊢
  split at h
  all_goals first
    | exact m _ _ _ _ h
    | exact am_li1_m (fun _ => m _ _ _ _) h
    | exact am_ll1_m (fun _ => m _ _ _ _) h
    | exact am_lr1_m (fun _ => m _ _ _ _) h
    | exact am_i1_m (fun _ _ => m _ _ _ _) h
    | exact am_i2_m (fun _ _ _ => m _ _ _ _) h
    | exact am_l1_m (fun _ _ => m _ _ _ _) h
    | exact am_l2_m (fun _ _ _ => m _ _ _ _) h
    | exact am_li_m (fun _ _ _ => m _ _ _ _) h
    | exact am_r1_m (fun _ _ => m _ _ _ _) h
    | exact am_v1_m (fun _ _ => m _ _ _ _) h
    | exact am_v2_m (fun _ _ _ => m _ _ _ _) h
    | exact am_i2_m (fun _ _ _ => am_ite_m id (m _ _ _ _)) h
    | exact am_l2_m (fun _ _ _ => am_ite_m id (m _ _ _ _)) h
    | exact am_opt_m (fun _ => m _ _ _ _) h
    | exact h
    | skip
  · split at h
    · exact m _ _ _ _ h
    · exact am_opt_m (fun _ => m _ _ _ _) h
  · split at h <;> exact m _ _ _ _ h
  · refine am_i1_m (fun x r h => ?_) h
    split at h <;> exact am_ite_m (m _ _ _ _) (m _ _ _ _) h
  · refine am_i2_m (fun x y r h => ?_) h
    split at h <;> exact am_ite_m (m _ _ _ _) (m _ _ _ _) h
  · exact am_i1_m (fun x r ⟨t, h1, h2⟩ => ⟨t, h1, m _ _ _ _ h2⟩) h
  · refine am_opt_m (fun q h => ?_) h
    obtain ⟨ci, j, nest⟩ := q
    exact am_r1_m (fun b r => am_getf_m (fun v => m _ _ _ _)) h
  · refine am_opt_m (fun q h => ?_) h
    obtain ⟨ci, j, nest⟩ := q
    dsimp only at h ⊢
    split at h
    · refine am_v2_m (fun a v r h => ?_) h
      split at h
      · refine am_test_m (fun h => ?_) h
        split at h
        · exact m _ _ _ _ h
        · exact ⟨h.1, m _ _ _ _ h.2⟩
      · exact h
    · exact am_rl1_m (fun b v r => am_test_m (m _ _ _ _)) h
    · exact h
  · refine am_opt_m (fun q h => ?_) h
    obtain ⟨j, nest⟩ := q
    dsimp only at h ⊢
    split at h <;> exact m _ _ _ _ h
  · refine am_ri_m (fun b i r h => ?_) h
    split at h
    · exact am_ite_m id (m _ _ _ _) h
    · exact am_opt_m (fun l => am_ite_m id (m _ _ _ _)) h
  · exact am_ri_m (fun b i r => am_opt_m (fun l => am_ite_m id (m _ _ _ _))) h
  · exact am_rii_m (fun b i x r => am_opt_m (fun l => am_ite_m id (m _ _ _ _))) h
  · refine am_ri_m (fun b i r => am_opt_m (fun q h => ?_)) h
    obtain ⟨t, l⟩ := q
    exact am_ite_m id (am_opt_m (fun _ => m _ _ _ _)) h
  · exact am_r1_m (fun b r => am_opt_m (fun l => m _ _ _ _)) h
  · refine am_opt_m (fun q h => ?_) h
    obtain ⟨y, n, z, nest⟩ := q
    refine am_opt_m (fun q h => ?_) h
    obtain ⟨as, r0⟩ := q
    exact am_r1_m (fun b r => am_test_m (fun ⟨o, h1, h2⟩ => ⟨o, h1, am_test_m (m _ _ _ _) h2⟩)) h
  · refine am_opt_m (fun q h => ?_) h
    obtain ⟨y, n, z, nest⟩ := q
    dsimp only at h ⊢
    split at h
    · refine am_opt_m (fun q h => ?_) h
      obtain ⟨as, r0⟩ := q
      exact am_test_m (fun ⟨o, h1, h2⟩ => ⟨o, h1, am_test_m (m _ _ _ _) h2⟩) h
    · split at h
      · exact am_i2_m (fun x y r => am_test_m (m _ _ _ _)) h
      · exact am_i2_m (fun x y r => am_test_m (m _ _ _ _)) h
      · exact am_cp_m (fun _ _ _ _ _ r => am_test_m (am_opt_m (fun _ => am_opt_m (fun _ ⟨h1, h2, h3, h4, h5, h6⟩ => ⟨h1, h2, h3, h4, h5, m _ _ _ _ h6⟩)))) h
      · exact h
/-- the least predicate closed under the machine's steps -/
def am_R (sh : List am_S) (mid : Nat) (call : Nat → List Value → am_M → am_O → Prop) (post : am_O → Prop) (pc : Nat) (lv : am_L) (st : List Value) (w : am_M) : Prop :=
  ∀ P : Nat → am_L → List Value → am_M → Prop, (∀ pc lv st w e, am_at mid pc = some e → am_step sh mid call post P pc e (am_kill mid pc lv) st w → P pc lv st w) → P pc lv st w
theorem am_go {sh : List am_S} {mid : Nat} {call : Nat → List Value → am_M → am_O → Prop} {post : am_O → Prop} {pc : Nat} {lv : am_L} {st : List Value} {w : am_M} {e : Instr × Int32 × Nat × Nat}
    (he : am_at mid pc = some e) (h : am_step sh mid call post (am_R sh mid call post) pc e (am_kill mid pc lv) st w) : am_R sh mid call post pc lv st w := by
  intro P hP
  exact hP pc lv st w e he (am_step_m (fun a b c d h => h P hP) h)
/-- arguments as the first locals -/
def am_in : Nat → List Value → am_L
  | _, [] => []
  | n, v :: l => (n, v) :: am_in (n + v.category) l
/-- what a method does, to a depth of calls -/
def am_D (sh : List am_S) : Nat → Nat → List Value → am_M → am_O → Prop
  | 0, _, _, _, _ => False
  | d + 1, mid, as, w, o => am_D sh d mid as w o ∨ (Nat.ble (am_cat as) (am_ml mid) = true ∧ Nat.blt mid 199 = true ∧ am_R sh mid (am_D sh d) (fun r => r = o) 0 (am_in 0 as) [] w)
theorem am_D_le {sh : List am_S} {d d' mid : Nat} {as : List Value} {w : am_M} {o : am_O} (hd : d ≤ d') (h : am_D sh d mid as w o) : am_D sh d' mid as w o := by
  induction d' with
  | zero => have : d = 0 := by omega
            subst this; exact h
  | succ n ih =>
    by_cases e : d = n + 1
    · subst e; exact h
    · exact Or.inl (ih (by omega))
theorem am_by {c : Prop} {i : Decidable c} {a b : Prop} (t : c → a) (f : ¬ c → b) : @ite Prop c i a b := by
  by_cases h : c
  · rw [if_pos h]; exact t h
  · rw [if_neg h]; exact f h
theorem am_tt {c : Prop} {i : Decidable c} {a b : Prop} (h : c) (t : a) : @ite Prop c i a b := by rw [if_pos h]; exact t
theorem am_ff {c : Prop} {i : Decidable c} {a b : Prop} (h : ¬ c) (t : b) : @ite Prop c i a b := by rw [if_neg h]; exact t
