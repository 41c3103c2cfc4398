/-! match: who may have which last -/
abbrev Hd : Type := Nat → Option Nat
def szH (h : Hd) : Nat := cntN (fun l => (h l).isSome) 8
def okH (A : Nat → Nat → Bool) (k : Nat) (h : Hd) : Prop := (∀ l p, l < 8 → h l = some p → p < k ∧ A p l = true) ∧ ∀ l l' p, l < 8 → l' < 8 → h l = some p → h l' = some p → l = l'
def isMx (A : Nat → Nat → Bool) (k n : Nat) : Prop := (∃ h, okH A k h ∧ szH h = n) ∧ ∀ h, okH A k h → szH h ≤ n
theorem isMx_u {A : Nat → Nat → Bool} {k n n' : Nat} (h : isMx A k n) (h' : isMx A k n') : n = n' := by
  obtain ⟨⟨a, a1, a2⟩, a3⟩ := h
  obtain ⟨⟨b, b1, b2⟩, b3⟩ := h'
  have := a3 b b1
  have := b3 a a1
  omega
def upH (h : Hd) (l : Nat) (v : Option Nat) : Hd := fun i => if i = l then v else h i
theorem upH_at {h : Hd} {l : Nat} {v : Option Nat} : upH h l v l = v := by unfold upH; rw [if_pos rfl]
theorem upH_ne {h : Hd} {l i : Nat} {v : Option Nat} (e : i ≠ l) : upH h l v i = h i := by unfold upH; rw [if_neg e]
theorem cntN_one {g g' : Nat → Bool} : ∀ {n l : Nat}, l < n → g l = true → g' l = false → (∀ i, i ≠ l → g' i = g i) → cntN g n = cntN g' n + 1
  | n + 1, l, h, h1, h2, h3 => by
    by_cases e : l = n
    · subst e
      rw [cntN_t h1, cntN_f h2, cntN_congr (g := g) (g' := g') (fun k hk => (h3 k (by omega)).symm)]
    · have ih := cntN_one (n := n) (l := l) (by omega) h1 h2 h3
      rw [cntN, cntN, ih, h3 n (fun z => e z.symm)]
      split <;> rfl
theorem szH_put {h : Hd} {l p : Nat} (hl : l < 8) (hn : h l = none) : szH (upH h l (some p)) = szH h + 1 := by
  unfold szH
  refine cntN_one hl (by rw [upH_at]; rfl) (by rw [hn]; rfl) (fun i hi => by rw [upH_ne hi])
theorem szH_rm {h : Hd} {l q : Nat} (hl : l < 8) (hn : h l = some q) : szH h = szH (upH h l none) + 1 := by
  unfold szH
  refine cntN_one hl (by rw [hn]; rfl) (by rw [upH_at]; rfl) (fun i hi => by rw [upH_ne hi])
theorem okH_rm {A : Nat → Nat → Bool} {k : Nat} {h : Hd} (l : Nat) (hh : okH A k h) : okH A k (upH h l none) := by
  have key : ∀ i p, upH h l none i = some p → h i = some p := fun i p z => by
    by_cases e : i = l
    · rw [e, upH_at] at z; cases z
    · rw [upH_ne e] at z; exact z
  exact ⟨fun i p hi z => hh.1 i p hi (key i p z), fun i i' p hi hi' z z' => hh.2 i i' p hi hi' (key i p z) (key i' p z')⟩
theorem okH_put {A : Nat → Nat → Bool} {k : Nat} {h : Hd} {l p : Nat} (hh : okH A k h) (hp : p < k) (hA : A p l = true) (hno : ∀ i, i < 8 → i ≠ l → h i ≠ some p) : okH A k (upH h l (some p)) := by
  refine ⟨fun i q hi z => ?_, fun i i' q hi hi' z z' => ?_⟩
  · by_cases e : i = l
    · rw [e, upH_at] at z; cases z; rw [e]; exact ⟨hp, hA⟩
    · rw [upH_ne e] at z; exact hh.1 i q hi z
  · by_cases e : i = l
    · by_cases e' : i' = l
      · rw [e, e']
      · rw [e, upH_at] at z
        cases z
        rw [upH_ne e'] at z'
        exact absurd z' (hno i' hi' e')
    · by_cases e' : i' = l
      · rw [e', upH_at] at z'
        cases z'
        rw [upH_ne e] at z
        exact absurd z (hno i hi e)
      · rw [upH_ne e] at z
        rw [upH_ne e'] at z'
        exact hh.2 i i' q hi hi' z z'
theorem okH_mono {A : Nat → Nat → Bool} {k k' : Nat} {h : Hd} (hh : okH A k h) (hk : ∀ l p, l < 8 → h l = some p → p < k') : okH A k' h := ⟨fun l p hl z => ⟨hk l p hl z, (hh.1 l p hl z).2⟩, hh.2⟩
/-- one person more: at most one more -/
theorem mx_succ {A : Nat → Nat → Bool} {k n : Nat} (hk : ∀ h, okH A k h → szH h ≤ n) : ∀ h, okH A (k + 1) h → szH h ≤ n + 1 := by
  intro h hh
  rcases opt_or (firstN (fun l => decide (h l = some k)) 8) with z | ⟨l, z⟩
  · have := hk h (okH_mono hh (fun l p hl e => by
      have h1 := (hh.1 l p hl e).1
      have h2 := firstN_none z l hl
      have h3 : p ≠ k := fun q => by rw [q] at e; rw [decide_eq_true e] at h2; cases h2
      omega))
    omega
  · obtain ⟨hl, he, _⟩ := firstN_s z
    have he := of_decide_eq_true he
    rw [szH_rm hl he]
    have := hk (upH h l none) (okH_mono (okH_rm l hh) (fun i p hi e => by
      have e2 : i ≠ l := fun q => by rw [q, upH_at] at e; cases e
      rw [upH_ne e2] at e
      have h1 := (hh.1 i p hi e).1
      have h3 : p ≠ k := fun q => by rw [q] at e; exact e2 (hh.2 i l k hi hl e he)
      omega))
    omega
/-- none is to be had for one: what there is is the most -/
theorem mx_fail {A : Nat → Nat → Bool} {k n : Nat} {H : Hd} {T : Nat → Bool} (hH : okH A k H) (hk : ∀ h, okH A k h → szH h ≤ n) (c1 : ∀ l, l < 8 → T l = true → ∃ q, H l = some q ∧ ∀ l', l' < 8 → A q l' = true → T l' = true) (c2 : ∀ l, l < 8 → A k l = true → T l = true) : ∀ h, okH A (k + 1) h → szH h ≤ n := by
  intro h hh
  refine Nat.le_trans ?_ (hk (fun l => if T l = true then H l else h l) ⟨fun l p hl z => ?_, fun l l' p hl hl' z z' => ?_⟩)
  · refine cntN_mono (fun l hl z => ?_)
    dsimp only
    by_cases e : T l = true
    · obtain ⟨q, h1, _⟩ := c1 l hl e
      rw [if_pos e, h1]; rfl
    · rw [if_neg e]; exact z
  · dsimp only at z
    by_cases e : T l = true
    · rw [if_pos e] at z; exact hH.1 l p hl z
    · rw [if_neg e] at z
      obtain ⟨h1, h2⟩ := hh.1 l p hl z
      have h3 : p ≠ k := fun q => by rw [q] at h2; exact e (c2 l hl h2)
      exact ⟨by omega, h2⟩
  · dsimp only at z z'
    by_cases e : T l = true
    · by_cases e' : T l' = true
      · rw [if_pos e] at z; rw [if_pos e'] at z'; exact hH.2 l l' p hl hl' z z'
      · rw [if_pos e] at z; rw [if_neg e'] at z'
        obtain ⟨q, h1, h2⟩ := c1 l hl e
        rw [z] at h1
        cases h1
        exact absurd (h2 l' hl' (hh.1 l' p hl' z').2) e'
    · by_cases e' : T l' = true
      · rw [if_neg e] at z; rw [if_pos e'] at z'
        obtain ⟨q, h1, h2⟩ := c1 l' hl' e'
        rw [z'] at h1
        cases h1
        exact absurd (h2 l hl (hh.1 l p hl z).2) e
      · rw [if_neg e] at z; rw [if_neg e'] at z'; exact hh.2 l l' p hl hl' z z'
/-! by rows of lasts -/
def rmB (T : Nat → Bool) (l : Nat) : Nat → Bool := fun i => if i = l then false else T i
def dpL (F : Nat → Nat) (c : Nat → Bool) (v : Nat) : Nat → Nat
  | 0 => v
  | l + 1 => if c l then (if dpL F c v l < F l + 1 then F l + 1 else dpL F c v l) else dpL F c v l
def dpN (A : Nat → Nat → Bool) (m : Nat) : Nat → (Nat → Bool) → Nat
  | 0, _ => 0
  | k + 1, T => dpL (fun l => dpN A m k (rmB T l)) (fun l => T l && A k l) (dpN A m k T) m
theorem dpL_v {F : Nat → Nat} {c : Nat → Bool} {v : Nat} : ∀ n, v ≤ dpL F c v n
  | 0 => Nat.le_refl _
  | n + 1 => by
    have := dpL_v (F := F) (c := c) (v := v) n
    rw [dpL]; split
    · split <;> omega
    · exact this
theorem dpL_at {F : Nat → Nat} {c : Nat → Bool} {v : Nat} : ∀ {n l : Nat}, l < n → c l = true → F l + 1 ≤ dpL F c v n
  | n + 1, l, hl, hc => by
    rw [dpL]
    by_cases e : l = n
    · subst e; rw [if_pos hc]; split <;> omega
    · have := dpL_at (F := F) (c := c) (v := v) (n := n) (l := l) (by omega) hc
      split
      · split <;> omega
      · exact this
theorem dpL_or {F : Nat → Nat} {c : Nat → Bool} {v : Nat} : ∀ n, dpL F c v n = v ∨ ∃ l, l < n ∧ c l = true ∧ dpL F c v n = F l + 1
  | 0 => Or.inl rfl
  | n + 1 => by
    rw [dpL]
    have ih := dpL_or (F := F) (c := c) (v := v) n
    have old : dpL F c v n = v ∨ ∃ l, l < n + 1 ∧ c l = true ∧ dpL F c v n = F l + 1 := by
      rcases ih with z | ⟨l, h1, h2, h3⟩
      · exact Or.inl z
      · exact Or.inr ⟨l, by omega, h2, h3⟩
    by_cases hc : c n = true
    · rw [if_pos hc]
      split
      · exact Or.inr ⟨n, by omega, hc, rfl⟩
      · exact old
    · rw [if_neg hc]; exact old
theorem dpL_congr {F F' : Nat → Nat} {c c' : Nat → Bool} {v v' : Nat} (hv : v = v') : ∀ {n : Nat}, (∀ l, l < n → F l = F' l) → (∀ l, l < n → c l = c' l) → dpL F c v n = dpL F' c' v' n
  | 0, _, _ => hv
  | n + 1, h1, h2 => by rw [dpL, dpL, dpL_congr hv (fun l hl => h1 l (by omega)) (fun l hl => h2 l (by omega)), h1 n (by omega), h2 n (by omega)]
theorem dpN_congr {A : Nat → Nat → Bool} {m : Nat} : ∀ {k : Nat} {T T' : Nat → Bool}, (∀ l, l < m → T l = T' l) → dpN A m k T = dpN A m k T'
  | 0, _, _, _ => rfl
  | k + 1, T, T', h => by
    rw [dpN, dpN]
    exact dpL_congr (dpN_congr h) (fun l hl => dpN_congr (fun i hi => by unfold rmB; rw [h i hi])) (fun l hl => by rw [h l hl])
theorem dp_up {A : Nat → Nat → Bool} {m : Nat} : ∀ {k : Nat} {T : Nat → Bool} {h : Hd}, okH A k h → (∀ l, l < 8 → (h l).isSome = true → T l = true ∧ l < m) → szH h ≤ dpN A m k T
  | 0, T, h, hh, hT => by
    have : szH h = 0 := cntN_0 (fun l hl => by
      cases z : h l with
      | none => rfl
      | some p => exact absurd (hh.1 l p hl z).1 (Nat.not_lt_zero p))
    omega
  | k + 1, T, h, hh, hT => by
    rw [dpN]
    rcases opt_or (firstN (fun l => decide (h l = some k)) 8) with z | ⟨l, z⟩
    · refine Nat.le_trans (dp_up (k := k) (T := T) (okH_mono hh (fun l p hl e => ?_)) hT) (dpL_v m)
      have h1 := (hh.1 l p hl e).1
      have h2 := firstN_none z l hl
      have h3 : p ≠ k := fun q => by rw [q] at e; rw [decide_eq_true e] at h2; cases h2
      omega
    · obtain ⟨hl, he, _⟩ := firstN_s z
      have he := of_decide_eq_true he
      obtain ⟨t1, t2⟩ := hT l hl (by rw [he]; rfl)
      rw [szH_rm hl he]
      refine Nat.le_trans (Nat.succ_le_succ (dp_up (k := k) (T := rmB T l) (okH_mono (okH_rm l hh) (fun i p hi e => ?_)) (fun i hi e => ?_))) (dpL_at (F := fun l => dpN A m k (rmB T l)) t2 (by show (T l && A k l) = true; rw [t1, (hh.1 l k hl he).2]; rfl))
      · have e2 : i ≠ l := fun q => by rw [q, upH_at] at e; cases e
        rw [upH_ne e2] at e
        have h1 := (hh.1 i p hi e).1
        have h3 : p ≠ k := fun q => by rw [q] at e; exact e2 (hh.2 i l k hi hl e he)
        omega
      · have e2 : i ≠ l := fun q => by rw [q, upH_at] at e; cases e
        rw [upH_ne e2] at e
        unfold rmB
        rw [if_neg e2]
        exact hT i hi e
theorem dp_at {A : Nat → Nat → Bool} {m : Nat} (hm : m ≤ 8) : ∀ (k : Nat) (T : Nat → Bool), ∃ h, okH A k h ∧ (∀ l, l < 8 → (h l).isSome = true → T l = true ∧ l < m) ∧ szH h = dpN A m k T
  | 0, T => ⟨fun _ => none, ⟨fun _ _ _ z => (by cases z), fun _ _ _ _ _ z _ => (by cases z)⟩, fun _ _ z => (by cases z), cntN_0 (fun _ _ => rfl)⟩
  | k + 1, T => by
    rw [dpN]
    rcases dpL_or (F := fun l => dpN A m k (rmB T l)) (c := fun l => T l && A k l) (v := dpN A m k T) m with z | ⟨l, h1, h2, h3⟩
    · rw [z]
      obtain ⟨h, a1, a2, a3⟩ := dp_at hm k T
      exact ⟨h, okH_mono a1 (fun l p hl e => by have := (a1.1 l p hl e).1; omega), a2, a3⟩
    · rw [h3]
      simp only [Bool.and_eq_true] at h2
      obtain ⟨h, a1, a2, a3⟩ := dp_at hm k (rmB T l)
      have hn : h l = none := by
        cases z : h l with
        | none => rfl
        | some p =>
          have := (a2 l (by omega) (by rw [z]; rfl)).1
          unfold rmB at this
          rw [if_pos rfl] at this
          cases this
      refine ⟨upH h l (some k), okH_put (okH_mono a1 (fun i p hi e => by have := (a1.1 i p hi e).1; omega)) (by omega) h2.2 (fun i hi _ e => absurd (a1.1 i k hi e).1 (Nat.lt_irrefl k)), fun i hi e => ?_, by rw [szH_put (by omega) hn, a3]⟩
      by_cases z : i = l
      · rw [z]; exact ⟨h2.1, h1⟩
      · rw [upH_ne z] at e
        have := a2 i hi e
        unfold rmB at this
        rw [if_neg z] at this
        exact this
theorem dp_mx {A : Nat → Nat → Bool} {m q : Nat} (hm : m ≤ 8) (hq : q ≤ 8) (hA : ∀ p l, A p l = true → p < q ∧ l < m) : isMx A 8 (dpN A m q (fun l => decide (l < m))) := by
  obtain ⟨h, a1, a2, a3⟩ := dp_at (A := A) hm q (fun l => decide (l < m))
  refine ⟨⟨h, okH_mono a1 (fun l p hl e => by have := (a1.1 l p hl e).1; omega), a3⟩, fun h hh => dp_up (okH_mono hh (fun l p hl e => (hA p l (hh.1 l p hl e).2).1)) (fun l hl e => ?_)⟩
  cases z : h l with
  | none => rw [z] at e; cases e
  | some p => have := (hA p l (hh.1 l p hl z).2).2; exact ⟨decide_eq_true this, this⟩
