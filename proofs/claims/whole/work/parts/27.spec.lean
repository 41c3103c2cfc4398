/-! what both sides hold: texts, rains, things seen, sheets, finding; and what follows from it -/
/-- text lengths, bytes, rains, their steps, sightings: how many, steps, persons, cells; sheets: forms, sizes, items; finding -/
abbrev Sp : Type := (Nat → Nat) × (Nat → Nat → Nat) × (Nat × (Nat → Nat)) × (Nat × (Nat → Nat) × (Nat → Nat) × (Nat → Nat)) × ((Nat → Nat) × (Nat → Option Nat) × (Nat → Nat → Int32)) × Int32
abbrev Sp.tl (S : Sp) : Nat → Nat := S.1
abbrev Sp.tb (S : Sp) : Nat → Nat → Nat := S.2.1
abbrev Sp.rn (S : Sp) : Nat := S.2.2.1.1
abbrev Sp.rs (S : Sp) : Nat → Nat := S.2.2.1.2
abbrev Sp.sn (S : Sp) : Nat := S.2.2.2.1.1
abbrev Sp.st (S : Sp) : Nat → Nat := S.2.2.2.1.2.1
abbrev Sp.pe (S : Sp) : Nat → Nat := S.2.2.2.1.2.2.1
abbrev Sp.ce (S : Sp) : Nat → Nat := S.2.2.2.1.2.2.2
abbrev Sp.fm (S : Sp) : Nat → Nat := S.2.2.2.2.1.1
abbrev Sp.sz (S : Sp) : Nat → Option Nat := S.2.2.2.2.1.2.1
abbrev Sp.it (S : Sp) : Nat → Nat → Int32 := S.2.2.2.2.1.2.2
abbrev Sp.fn (S : Sp) : Int32 := S.2.2.2.2.2
def mxT (t : Nat) : Nat := if t = 0 then 41 else if t = 1 then 47 else 55
theorem mxT_le (t : Nat) : mxT t ≤ 55 := by unfold mxT; split; omega; split; omega; omega
/-- the town's and the lasts' world -/
def wdS (b0 : Nat → Nat) (n0 : Nat) (b1 : Nat → Nat) (n1 : Nat) : Wd := ((townR b0 n0).2.1, (townR b0 n0).2.2.2, nxS (townR b0 n0).2.1 (townR b0 n0).2.2.1 (townR b0 n0).2.2.2, (lastsR b1 n1).2.1, (lastsR b1 n1).2.2.1, (lastsR b1 n1).2.2.2.1, (lastsR b1 n1).2.2.2.2)
def Sp.V (S : Sp) : Wd := wdS (S.tb 0) (S.tl 0) (S.tb 1) (S.tl 1)
def Sp.q (S : Sp) : Nat := (peopleR (S.tb 2) (S.tl 2)).2.1
def Sp.pf (S : Sp) : Nat → Nat → Nat := (peopleR (S.tb 2) (S.tl 2)).2.2
def Sp.m (S : Sp) : Nat := (lastsR (S.tb 1) (S.tl 1)).2.1
def fltS (S : Sp) (t : Nat) : Option Nat := if t = 0 then (townR (S.tb 0) (S.tl 0)).1 else if t = 1 then (lastsR (S.tb 1) (S.tl 1)).1 else (peopleR (S.tb 2) (S.tl 2)).1
/-- it rains in a step by the rains that aren't left out -/
def wetN (rs : Nat → Nat) (ex : Nat → Bool) : Nat → Nat → Bool
  | 0, _ => false
  | n + 1, s => wetN rs ex n s || (decide (rs n = s) && !ex n)
def wet0 (S : Sp) : Nat → Bool := wetN S.rs (fun _ => false) S.rn
def sokT (S : Sp) : Prop := ∀ t, t < 3 → S.tl t ≤ mxT t ∧ ∀ i, i < S.tl t → S.tb t i < 256
def sokR (S : Sp) : Prop := S.rn ≤ 8 ∧ ∀ i, i < S.rn → S.rs i < 30
def sokS (S : Sp) : Prop := S.sn ≤ 8 ∧ ∀ i, i < S.sn → S.st i < 30 ∧ S.pe i < 8 ∧ S.ce i < 36
def sokH (S : Sp) : Prop := ∀ s, s < 4 → S.fm s < 3 ∧ ∀ n, S.sz s = some n → n ≤ 60
def sok (S : Sp) : Prop := sokT S ∧ sokR S ∧ sokS S ∧ sokH S
/-- the first of n that has it -/
def firstN (f : Nat → Bool) : Nat → Option Nat
  | 0 => none
  | n + 1 => match firstN f n with
    | some i => some i
    | none => if f n then some n else none
theorem firstN_s {f : Nat → Bool} : ∀ {n i : Nat}, firstN f n = some i → i < n ∧ f i = true ∧ ∀ j, j < i → f j = false
  | 0, i, h => by cases h
  | n + 1, i, h => by
    rw [firstN] at h
    cases hz : firstN f n with
    | some g =>
      rw [hz] at h
      cases h
      obtain ⟨h1, h2, h3⟩ := firstN_s hz
      exact ⟨by omega, h2, h3⟩
    | none =>
      rw [hz] at h
      dsimp only at h
      cases hf : f n with
      | true =>
        rw [hf, if_pos rfl] at h
        cases h
        refine ⟨by omega, hf, fun j hj => ?_⟩
        cases hj2 : f j with
        | false => rfl
        | true => exact absurd (firstN_n hz j hj) (by rw [hj2]; decide)
      | false => rw [hf] at h; cases h
where
  firstN_n {f : Nat → Bool} : ∀ {n : Nat}, firstN f n = none → ∀ i, i < n → f i = false
  | 0, _, i, hi => absurd hi (Nat.not_lt_zero i)
  | n + 1, h, i, hi => by
    rw [firstN] at h
    cases hz : firstN f n with
    | some g => rw [hz] at h; cases h
    | none =>
      rw [hz] at h
      dsimp only at h
      cases hf : f n with
      | true => rw [hf] at h; cases h
      | false =>
        by_cases e : i = n
        · subst e; exact hf
        · exact firstN_n hz i (by omega)
theorem firstN_none {f : Nat → Bool} {n : Nat} : firstN f n = none → ∀ i, i < n → f i = false := firstN_s.firstN_n
theorem firstN_ex {f : Nat → Bool} {n : Nat} (h : ∀ i, i < n → f i = false) : firstN f n = none := by
  cases hz : firstN f n with
  | none => rfl
  | some i => obtain ⟨h1, h2, h3⟩ := firstN_s hz; rw [h i h1] at h2; cases h2
theorem firstN_at {f : Nat → Bool} {n i : Nat} (hi : i < n) (hf : f i = true) (h : ∀ j, j < i → f j = false) : firstN f n = some i := by
  cases hz : firstN f n with
  | none => rw [firstN_none hz i hi] at hf; cases hf
  | some k =>
    obtain ⟨h1, h2, h3⟩ := firstN_s hz
    rcases Nat.lt_trichotomy k i with z | z | z
    · rw [h k z] at h2; cases h2
    · rw [z]
    · rw [h3 i z] at hf; cases hf
theorem firstN_congr {f g : Nat → Bool} {n : Nat} (h : ∀ i, i < n → f i = g i) : firstN f n = firstN g n := by
  induction n with
  | zero => rfl
  | succ n ih => rw [firstN, firstN, ih (fun i hi => h i (by omega)), h n (by omega)]
/-- bits of those that have it -/
def bitsS (f : Nat → Bool) : Nat → Int32
  | 0 => 0
  | n + 1 => if f n then bitsS f n ||| ((1 : Int32) <<< (nI n &&& 31)) else bitsS f n
theorem bitsS_congr {f g : Nat → Bool} {n : Nat} (h : ∀ i, i < n → f i = g i) : bitsS f n = bitsS g n := by
  induction n with
  | zero => rfl
  | succ n ih => rw [bitsS, bitsS, ih (fun i hi => h i (by omega)), h n (by omega)]
theorem allB_congr {f g : Nat → Bool} {n : Nat} (h : ∀ i, i < n → f i = g i) : allB f n = allB g n := by
  induction n with
  | zero => rfl
  | succ n ih => rw [allB, allB, ih (fun i hi => h i (by omega)), h n (by omega)]
/-! lives -/
/-- the state behind the last step -/
def fin (V : Wd) (P : Pr) (wet : Nat → Bool) : Nat := (lifeQ V P wet 30).2.1
/-- one more than the step in which one has come; 31 -/
def comS (V : Wd) (P : Pr) (wet : Nat → Bool) : Nat := if fin V P wet = 1 then stopAt V P wet 30 else 31
/-- the cell behind a step, as told -/
def cellI (V : Wd) (P : Pr) (wet : Nat → Bool) (s : Nat) : Int32 := plc (lifeQ V P wet (s + 1))
def rowI (V : Wd) (P : Pr) (wet : Nat → Bool) (s j : Nat) : Int32 := if j = 0 then plc (lifeQ V P wet (s + 1)) else if j = 1 then nI (lifeQ V P wet (s + 1)).2.1 else if j = 2 then nI (lifeQ V P wet (s + 1)).2.2.1 else wbI (lifeB V P wet s)
theorem life_congr {V : Wd} {P : Pr} {w1 w2 : Nat → Bool} : ∀ {k : Nat}, (∀ s, s < k → w1 s = w2 s) → lifeQ V P w1 k = lifeQ V P w2 k
  | 0, _ => rfl
  | k + 1, h => by rw [lifeQ, lifeQ, life_congr (fun s hs => h s (by omega)), h k (by omega)]
theorem stop_congr {V : Wd} {P : Pr} {w1 w2 : Nat → Bool} : ∀ {k : Nat}, (∀ s, s < k → w1 s = w2 s) → stopAt V P w1 k = stopAt V P w2 k
  | 0, _ => rfl
  | k + 1, h => by
    have e := stop_congr (V := V) (P := P) (k := k) (fun s hs => h s (by omega))
    rw [stopAt, stopAt, e, life_congr (fun s hs => h s (by have := (life_stop V P w2 k).2.1; omega))]
theorem end_congr {V : Wd} {P : Pr} {w1 w2 : Nat → Bool} : ∀ {k : Nat}, (∀ s, s < k → w1 s = w2 s) → endS V P w1 k = endS V P w2 k
  | 0, _ => rfl
  | k + 1, h => by rw [endS, endS, end_congr (fun s hs => h s (by omega)), life_congr (k := k) (fun s hs => h s (by omega)), life_congr (k := k + 1) h]
theorem lifeB_congr {V : Wd} {P : Pr} {w1 w2 : Nat → Bool} {k : Nat} (h : ∀ s, s < k + 1 → w1 s = w2 s) : lifeB V P w1 k = lifeB V P w2 k := by
  unfold lifeB
  rw [life_congr (fun s hs => h s (by omega)), h k (by omega)]
theorem trOK.congr {w : am_M} {T R : Nat} {V : Wd} {P : Pr} {w1 w2 : Nat → Bool} (h : trOK w T R V P w1) (e : ∀ s, s < 30 → w1 s = w2 s) : trOK w T R V P w2 := by
  obtain ⟨h1, h2, h3⟩ := h
  refine ⟨fun s hs => ?_, ?_, ?_⟩
  · rw [← life_congr (k := s + 1) (fun s hs => e s (by omega)), ← lifeB_congr (k := s) (fun s hs => e s (by omega))]
    exact h1 s hs
  · rw [← life_congr e]; exact h2
  · rw [← end_congr e]; exact h3
theorem trOK.row {w : am_M} {T R : Nat} {V : Wd} {P : Pr} {wet : Nat → Bool} (h : trOK w T R V P wet) {s j : Nat} (hs : s < 30) (hj : j < 4) : w.1 R (j * 30 + s) = rowI V P wet s j := by
  obtain ⟨h1, h2, h3, h4⟩ := h.1 s hs
  rcases (show j = 0 ∨ j = 1 ∨ j = 2 ∨ j = 3 by omega) with e | e | e | e <;> subst e
  · rw [Nat.zero_mul, Nat.zero_add]; exact h1
  · exact h2
  · exact h3
  · exact h4
/-! wet steps -/
theorem bit_or (x y : Int32) (c : Int32) : ((x ||| y) >>> c) &&& 1 = ((x >>> c) &&& 1) ||| ((y >>> c) &&& 1) := by
  apply Int32.toBitVec_inj.mp
  simp only [Int32.toBitVec_and, Int32.toBitVec_or, Int32.toBitVec_shiftRight]
  apply BitVec.eq_of_getLsbD_eq
  intro i hi
  simp only [BitVec.getLsbD_and, BitVec.getLsbD_or, BitVec.getLsbD_sshiftRight, BitVec.getLsbD_sshiftRight']
  cases BitVec.getLsbD (Int32.toBitVec 1) i
  · simp
  · simp
    split <;> cases decide (32 ≤ i) <;> simp
theorem bit_one : ∀ k, k < 32 → ∀ s, s < 32 → (((1 : Int32) <<< (nI k &&& 31)) >>> (nI s &&& 31)) &&& 1 = if s = k then 1 else 0 := by decide +kernel
theorem bit_01 (x : Int32) : x &&& 1 = 0 ∨ x &&& 1 = 1 := by
  rw [pk_and x 1 (by decide)]
  rcases (show x.toBitVec.toNat % 2 ^ 1 = 0 ∨ x.toBitVec.toNat % 2 ^ 1 = 1 by omega) with e | e <;> rw [e]
  · exact Or.inl rfl
  · exact Or.inr rfl
theorem wetB_or {x : Int32} {k s : Nat} (hk : k < 32) (hs : s < 32) : wetB (x ||| ((1 : Int32) <<< (nI k &&& 31))) s = (wetB x s || decide (k = s)) := by
  unfold wetB
  rw [bit_or, bit_one k hk s hs]
  by_cases e : s = k
  · rw [if_pos e, show decide (k = s) = true from decide_eq_true e.symm, Bool.or_true]
    rcases bit_01 (x >>> (nI s &&& 31)) with z | z <;> rw [z] <;> decide
  · rw [if_neg e, show decide (k = s) = false from decide_eq_false (fun z => e z.symm), Bool.or_false]
    rcases bit_01 (x >>> (nI s &&& 31)) with z | z <;> rw [z] <;> decide
theorem wetB_0 {s : Nat} (hs : s < 32) : wetB 0 s = false := by
  have : ∀ s, s < 32 → wetB 0 s = false := by decide +kernel
  exact this s hs
def exI (a b : Int32) : Nat → Bool := fun i => decide (nI i = a) || decide (nI i = b)
theorem wet_eq {f : Nat → Int32} {rs : Nat → Nat} (a b : Int32) : ∀ {n : Nat}, (∀ i, i < n → f i = nI (rs i) ∧ rs i < 30) → ∀ s, s < 30 → wetB (wetF f a b n) s = wetN rs (exI a b) n s
  | 0, _, s, hs => wetB_0 (by omega)
  | n + 1, h, s, hs => by
    have ih := wet_eq a b (n := n) (fun i hi => h i (by omega)) s hs
    obtain ⟨h1, h2⟩ := h n (by omega)
    rw [wetF, wetN]
    by_cases ea : nI n = a
    · rw [if_pos ea, ih]; unfold exI; rw [decide_eq_true ea]; simp
    · rw [if_neg ea]
      by_cases eb : nI n = b
      · rw [if_pos eb, ih]; unfold exI; rw [decide_eq_true eb]; simp
      · rw [if_neg eb, h1, wetB_or (by omega) (by omega), ih]
        unfold exI
        rw [decide_eq_false ea, decide_eq_false eb]
        simp
theorem bits_wet {f : Nat → Bool} : ∀ {n : Nat}, n ≤ 32 → ∀ s, s < 32 → wetB (bitsS f n) s = (decide (s < n) && f s)
  | 0, _, s, hs => by rw [bitsS, wetB_0 hs, decide_eq_false (Nat.not_lt_zero s)]; rfl
  | n + 1, h, s, hs => by
    have ih := bits_wet (f := f) (n := n) (by omega) s hs
    rw [bitsS]
    cases hf : f n with
    | true =>
      rw [if_pos rfl, wetB_or (by omega) hs, ih]
      by_cases e : n = s
      · subst e; rw [decide_eq_true rfl, decide_eq_true (Nat.lt_succ_self n), hf]; simp
      · rw [decide_eq_false e, Bool.or_false]
        by_cases z : s < n
        · rw [decide_eq_true z, decide_eq_true (show s < n + 1 by omega)]
        · rw [decide_eq_false z, decide_eq_false (show ¬ s < n + 1 by omega)]
    | false =>
      rw [if_neg (by decide), ih]
      by_cases e : n = s
      · subst e; rw [decide_eq_false (Nat.lt_irrefl n), hf]; simp
      · by_cases z : s < n
        · rw [decide_eq_true z, decide_eq_true (show s < n + 1 by omega)]
        · rw [decide_eq_false z, decide_eq_false (show ¬ s < n + 1 by omega)]
