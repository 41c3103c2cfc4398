/-! DeadLasts' small ones; sheets; rains; sightings; traces -/
theorem d_refusal {d : Nat} {x : Int32} {w : am_M} (hd : 1 ≤ d) : am_D shC d mi_X11_refusal [.ref 0, .int x] w (some (.int ((-10) - x)), am_pi w 0 16 x) := by
  refine am_def hd rfl rfl ?_
  iterate 7 refine am_go rfl ?_
  exact ⟨rfl, rfl⟩
theorem d_endState {d : Nat} {x : Int32} {w : am_M} (hd : 1 ≤ d) : am_D shC d mi_X11_endState [.int x] w (some (.int (if x = 0 then 1 else 2)), w) := by
  refine am_def hd rfl rfl ?_
  iterate 2 refine am_go rfl ?_
  refine am_by (fun h => ?_) (fun h => ?_)
  · iterate 3 refine am_go rfl ?_
    exact ⟨rfl, by rw [if_pos h]⟩
  · iterate 2 refine am_go rfl ?_
    exact ⟨rfl, by rw [if_neg h]⟩
theorem d_nextSeed {d : Nat} {x : Int32} {w : am_M} (hd : 1 ≤ d) : am_D shC d mi_X11_nextSeed [.int x] w (some (.int (1103515245 * x + 12345)), w) := by
  refine am_def hd rfl rfl ?_
  iterate 6 refine am_go rfl ?_
  exact ⟨rfl, rfl⟩
/-- what was found is no longer kept -/
def cOut (w : am_M) : am_M := am_pi (am_pi (am_pi (am_pi w 0 17 1) 0 18 (-1)) 0 19 (-2)) 53 3 (-1)
theorem d_outdate {d : Nat} {w : am_M} (hd : 1 ≤ d) : am_D shC d mi_X11_outdate [.ref 0] w (none, cOut w) := by
  refine am_def hd rfl rfl ?_
  iterate 3 refine am_go rfl ?_
  refine ⟨Or.inr rfl, ?_⟩
  iterate 11 refine am_go rfl ?_
  exact ⟨rfl, rfl⟩
/-! a sheet: cell 25+s, its items 29+s -/
theorem d_isLost {d s : Nat} {w : am_M} (hd : 1 ≤ d) (hs : s < 4) : am_D shC d mi_X4_isLost [.ref (25 + s)] w (some (.int (if w.1 (25 + s) 2 = -1 then 1 else 0)), w) := by
  obtain ⟨s1, s2, s3⟩ := sh_S s hs
  refine am_def hd rfl rfl ?_
  iterate 2 refine am_go rfl ?_
  refine am_ys s1 ?_
  iterate 2 refine am_go rfl ?_
  refine am_by (fun h => ?_) (fun h => ?_)
  · iterate 3 refine am_go rfl ?_
    exact ⟨rfl, by rw [if_pos h]⟩
  · iterate 2 refine am_go rfl ?_
    exact ⟨rfl, by rw [if_neg h]⟩
/-- the first n places of a row are 0 -/
def cZero (w : am_M) (k : Nat) : Nat → am_M
  | 0 => w
  | n + 1 => am_pi (cZero w k n) k n 0
theorem cZero_at (w : am_M) (k : Nat) : ∀ n a b, (cZero w k n).1 a b = if a = k ∧ b < n then 0 else w.1 a b
  | 0, a, b => by simp [cZero]
  | n + 1, a, b => by
    simp only [cZero, am_pi]
    by_cases h : a = k ∧ b = n
    · simp [h]
    · rw [if_neg h, cZero_at w k n a b]
      by_cases h2 : a = k ∧ b < n
      · rw [if_pos h2, if_pos ⟨h2.1, by omega⟩]
      · rw [if_neg h2, if_neg (fun q => h2 ⟨q.1, by have : ¬ b = n := fun z => h ⟨q.1, z⟩; omega⟩)]
theorem cZero_2 (w : am_M) (k : Nat) : ∀ n, (cZero w k n).2 = w.2
  | 0 => rfl
  | n + 1 => cZero_2 w k n
theorem d_renew {d s : Nat} {f n : Int32} {w : am_M} (hd : 1 ≤ d) (hs : s < 4) : am_D shC d mi_X4_renew [.ref (25 + s), .int f, .int n] w (none, cZero (am_pi (am_pi w (25 + s) 1 f) (25 + s) 2 n) (29 + s) 60) := by
  obtain ⟨s1, s2, s3⟩ := sh_S s hs
  refine am_def hd rfl rfl ?_
  iterate 3 refine am_go rfl ?_
  refine am_ys (by rw [s1]; rfl) ?_
  iterate 3 refine am_go rfl ?_
  refine am_ys (by rw [s1]; rfl) ?_
  iterate 2 refine am_go rfl ?_
  generalize am_pi (am_pi w (25 + s) 1 f) (25 + s) 2 n = w1
  have key : ∀ j i : Nat, i + j = 60 → am_R shC mi_X4_renew (am_D shC (d - 1)) (fun r => r = (none, cZero w1 (29 + s) 60)) 12 [(0, .ref (25 + s)), (3, .int (nI i))] [] (cZero w1 (29 + s) i) := by
    intro j
    induction j with
    | zero =>
      intro i hi
      have e : i = 60 := by omega
      iterate 3 refine am_go rfl ?_
      refine am_tt (show nI 60 ≤ nI i from nI_le (by omega) (by omega)) ?_
      refine am_go rfl ?_
      exact ⟨rfl, by rw [e]⟩
    | succ j ih =>
      intro i hi
      iterate 3 refine am_go rfl ?_
      refine am_ff (show ¬ nI 60 ≤ nI i from nI_ge (by omega) (by decide)) ?_
      iterate 2 refine am_go rfl ?_
      refine am_ys s1 (am_oi s2 ?_)
      iterate 2 refine am_go rfl ?_
      refine am_gsN rfl s3 (by omega) (by decide) ?_
      iterate 2 refine am_go rfl ?_
      have := ih (i + 1) (by omega)
      rw [← nI_1] at this
      exact this
  exact am_kl (key 60 0 (by omega)) rfl
/-- the finding if item i is treated as of a form -/
def cFind (w : am_M) (s : Nat) (f i : Int32) : Int32 := if w.1 (25 + s) 2 = -1 then 1 else if f = w.1 (25 + s) 1 then (if i < 0 ∨ w.1 (25 + s) 2 ≤ i then 2 else 0) else 3
theorem d_findingOf {d s : Nat} {f i : Int32} {w : am_M} (hd : 2 ≤ d) (hs : s < 4) : am_D shC d mi_X4_findingOf [.ref (25 + s), .int f, .int i] w (some (.int (cFind w s f i)), w) := by
  obtain ⟨s1, s2, s3⟩ := sh_S s hs
  refine am_def (by omega) rfl rfl ?_
  iterate 2 refine am_go rfl ?_
  refine am_ys (by show (true && (true && am_isb shC (25 + s) 4)) = true; rw [s1]; rfl) ?_
  refine ⟨_, d_isLost (by omega) hs, ?_⟩
  by_cases h : w.1 (25 + s) 2 = -1
  · rw [if_pos h]
    iterate 3 refine am_go rfl ?_
    exact ⟨rfl, by unfold cFind; rw [if_pos h]⟩
  · rw [if_neg h]
    iterate 4 refine am_go rfl ?_
    refine am_ys s1 ?_
    refine am_go rfl ?_
    refine am_by (fun h2 => ?_) (fun h2 => ?_)
    · iterate 3 refine am_go rfl ?_
      refine am_ys s1 ?_
      refine am_go rfl ?_
      by_cases h3 : i < 0 ∨ w.1 (25 + s) 2 ≤ i
      · refine ⟨_, d_isWithin_f shC (by omega) h3 w, ?_⟩
        iterate 3 refine am_go rfl ?_
        exact ⟨rfl, by unfold cFind; rw [if_neg h, if_pos h2, if_pos h3]⟩
      · have h4 : ∃ k n, k < n ∧ n < 2 ^ 31 ∧ i = nI k ∧ w.1 (25 + s) 2 = nI n := by
          have h5 : ¬ i < 0 := fun z => h3 (Or.inl z)
          have h6 : ¬ w.1 (25 + s) 2 ≤ i := fun z => h3 (Or.inr z)
          obtain ⟨k, hk, rfl⟩ := nI_of h5
          have h7 : ¬ w.1 (25 + s) 2 < 0 := fun z => h6 (by
            have h8 := nI_pos' hk
            rw [Int32.lt_iff_toInt_lt] at z
            rw [Int32.le_iff_toInt_le] at h8 ⊢
            omega)
          obtain ⟨n, hn, e⟩ := nI_of h7
          refine ⟨k, n, ?_, hn, rfl, e⟩
          rcases Nat.lt_or_ge k n with z | z
          · exact z
          · exact absurd (by rw [e]; exact nI_le z hk) h6
        obtain ⟨k, n, hkn, hn, rfl, e⟩ := h4
        rw [e]
        refine ⟨_, d_isWithin_t shC (by omega) hkn hn w, ?_⟩
        iterate 4 refine am_go rfl ?_
        exact ⟨rfl, by unfold cFind; rw [if_neg h, if_pos h2, if_neg h3]⟩
    · iterate 2 refine am_go rfl ?_
      exact ⟨rfl, by unfold cFind; rw [if_neg h, if_neg h2]⟩
/-- cut to a form -/
def cCut (f v : Int32) : Int32 := if f = 0 then v.toInt8.toInt32 else if f = 1 then v.toInt16.toInt32 else v
theorem d_put {d s k : Nat} {v : Int32} {w : am_M} (hd : 1 ≤ d) (hs : s < 4) (hk : k < 60) : am_D shC d mi_X4_put [.ref (25 + s), .int (nI k), .int v] w (none, am_pi w (29 + s) k (cCut (w.1 (25 + s) 1) v)) := by
  obtain ⟨s1, s2, s3⟩ := sh_S s hs
  refine am_def hd rfl rfl ?_
  iterate 2 refine am_go rfl ?_
  refine am_ys s1 (am_oi s2 ?_)
  iterate 3 refine am_go rfl ?_
  refine am_ys s1 ?_
  refine am_go rfl ?_
  refine am_by (fun h => ?_) (fun h => ?_)
  · iterate 3 refine am_go rfl ?_
    refine am_gsN rfl s3 hk (by decide) ?_
    refine am_go rfl ?_
    exact ⟨rfl, by unfold cCut; rw [if_pos h]⟩
  · iterate 2 refine am_go rfl ?_
    refine am_ys s1 ?_
    iterate 2 refine am_go rfl ?_
    refine am_by (fun h2 => ?_) (fun h2 => ?_)
    · iterate 3 refine am_go rfl ?_
      refine am_gsN rfl s3 hk (by decide) ?_
      refine am_go rfl ?_
      exact ⟨rfl, by unfold cCut; rw [if_neg h, if_pos h2]⟩
    · refine am_go rfl ?_
      refine am_gsN rfl s3 hk (by decide) ?_
      refine am_go rfl ?_
      exact ⟨rfl, by unfold cCut; rw [if_neg h, if_neg h2]⟩
/-! rains: cell 18, steps 19 -/
theorem d_radd_f {d n : Nat} {x : Int32} {w : am_M} (hd : 1 ≤ d) (hn : w.1 18 1 = nI n) (h : n = 8) : am_D shC d mi_X3_add [.ref 18, .int x] w (some (.int 0), w) := by
  subst h
  refine am_def hd rfl rfl ?_
  iterate 4 refine am_go rfl ?_
  refine am_ff (by rw [hn]; decide) ?_
  iterate 2 refine am_go rfl ?_
  exact ⟨rfl, rfl⟩
theorem d_radd_t {d n : Nat} {x : Int32} {w : am_M} (hd : 1 ≤ d) (hn : w.1 18 1 = nI n) (h : n < 8) : am_D shC d mi_X3_add [.ref 18, .int x] w (some (.int 1), am_pi (am_pi w 19 n x) 18 1 (nI (n + 1))) := by
  refine am_def hd rfl rfl ?_
  iterate 4 refine am_go rfl ?_
  refine am_tt (by rw [hn]; exact nI_lt (b := 8) h (by decide)) ?_
  iterate 5 refine am_go rfl ?_
  rw [hn]
  refine am_gsN (n := 8) rfl rfl h (by decide) ?_
  iterate 8 refine am_go rfl ?_
  refine ⟨rfl, ?_⟩
  show (_, am_pi (am_pi w 19 n x) 18 1 ((am_pi w 19 n x).1 18 1 + 1)) = _
  rw [am_pi_ne (Or.inl (by omega)), hn, nI_1]
/-- the steps in which it rains, as bits, but for two of the rains -/
def wetF (f : Nat → Int32) (a b : Int32) : Nat → Int32
  | 0 => 0
  | n + 1 => if nI n = a then wetF f a b n else if nI n = b then wetF f a b n else wetF f a b n ||| ((1 : Int32) <<< (f n &&& 31))
theorem d_wetSteps {d n : Nat} {a b : Int32} {w : am_M} (hd : 1 ≤ d) (hn : n ≤ 8) (hs : w.1 18 1 = nI n) : am_D shC d mi_X3_wetSteps [.ref 18, .int a, .int b] w (some (.int (wetF (w.1 19) a b n)), w) := by
  refine am_def hd rfl rfl ?_
  iterate 4 refine am_go rfl ?_
  have key : ∀ j i : Nat, i + j = n → am_R shC mi_X3_wetSteps (am_D shC (d - 1)) (fun r => r = (some (.int (wetF (w.1 19) a b n)), w)) 5 [(0, .ref 18), (1, .int a), (2, .int b), (3, .int (wetF (w.1 19) a b i)), (4, .int (nI i))] [] w := by
    intro j
    induction j with
    | zero =>
      intro i hi
      have : i = n := by omega
      subst this
      iterate 4 refine am_go rfl ?_
      refine am_tt (by show w.1 18 1 ≤ nI i; rw [hs]; exact nI_le (Nat.le_refl _) (by omega)) ?_
      iterate 2 refine am_go rfl ?_
      exact ⟨rfl, rfl⟩
    | succ j ih =>
      intro i hi
      have hlt : i < n := by omega
      iterate 4 refine am_go rfl ?_
      refine am_ff (by show ¬ w.1 18 1 ≤ nI i; rw [hs]; exact nI_ge hlt (by omega)) ?_
      iterate 3 refine am_go rfl ?_
      have go : ∀ v, v = wetF (w.1 19) a b (i + 1) → am_R shC mi_X3_wetSteps (am_D shC (d - 1)) (fun r => r = (some (.int (wetF (w.1 19) a b n)), w)) 38 [(0, .ref 18), (1, .int a), (2, .int b), (3, .int v), (4, .int (nI i))] [] w := by
        intro v hv
        subst hv
        iterate 2 refine am_go rfl ?_
        have := ih (i + 1) (by omega)
        rw [← nI_1] at this
        exact this
      refine am_by (fun h => ?_) (fun h => ?_)
      · exact go _ (by rw [wetF, if_pos h])
      · iterate 3 refine am_go rfl ?_
        refine am_by (fun h2 => ?_) (fun h2 => ?_)
        · exact go _ (by rw [wetF, if_neg h, if_pos h2])
        · iterate 5 refine am_go rfl ?_
          refine am_glN (n := 8) rfl rfl (by omega) (by decide) ?_
          iterate 3 refine am_go rfl ?_
          exact go _ (by rw [wetF, if_neg h, if_neg h2])
  exact key n 0 (by omega)
