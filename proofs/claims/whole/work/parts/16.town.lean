/-! what the class' town, lasts, people hold; reading them -/
/-- town: n cells of kinds K, nx c a the cell to which way a leads -/
def cTown (w : am_M) (n : Nat) (K : Nat → Nat) (nx : Nat → Nat → Nat) : Prop := w.1 9 2 = nI n ∧ n ≤ 36 ∧ (∀ c, c < n → w.1 10 c = nI (K c) ∧ K c < 4) ∧ ∀ c, c < n → ∀ a, a < 4 → w.1 11 (c * 4 + a) = nI (nx c a) ∧ nx c a < n ∧ (K c ≠ 1 → K (nx c a) ≠ 1)
/-- lasts: m of them, of kind kd, with ln letters lt -/
def cLasts (w : am_M) (m : Nat) (kd ln : Nat → Nat) (lt : Nat → Nat → Nat) : Prop := w.1 12 3 = nI m ∧ m ≤ 8 ∧ ∀ l, l < m → w.1 13 l = nI (kd l) ∧ kd l < 3 ∧ w.1 14 l = nI (ln l) ∧ 1 ≤ ln l ∧ ln l ≤ 4 ∧ ∀ j, j < ln l → w.1 15 (4 * l + j) = nI (lt l j) ∧ lt l j < 4
/-- people: q of them, their five fields -/
def cPeople (w : am_M) (q : Nat) (pf : Nat → Nat → Nat) : Prop := w.1 16 1 = nI q ∧ q ≤ 8 ∧ ∀ p, p < q → (∀ j, j < 5 → w.1 17 (5 * p + j) = nI (pf p j)) ∧ pf p 0 < 40 ∧ pf p 1 < 8 ∧ pf p 2 < 8 ∧ pf p 3 < 6 ∧ pf p 4 < 4
/-- what one is on a cell of a kind -/
def stOf (k : Nat) : Nat := if k = 0 then 0 else if k = 1 then 3 else if k = 2 then 1 else 2
theorem d_stateOn_t {d n c : Nat} {K : Nat → Nat} {nx : Nat → Nat → Nat} {w : am_M} (hd : 1 ≤ d) (hT : cTown w n K nx) (hc : c < n) : am_D shC d mi_X8_stateOn [.ref 9, .int (nI c)] w (some (.int (nI (stOf (K c)))), w) := by
  obtain ⟨h1, h2, h3, h4⟩ := hT
  refine am_def hd rfl rfl ?_
  iterate 2 refine am_go rfl ?_
  refine am_ff (nI_pos (by omega)) ?_
  iterate 4 refine am_go rfl ?_
  refine am_tt (by rw [h1]; exact nI_lt hc (by omega)) ?_
  iterate 4 refine am_go rfl ?_
  refine am_glN (n := 36) rfl rfl (by omega) (by decide) ?_
  rw [(h3 c hc).1]
  have hk := (h3 c hc).2
  refine am_glS (l := [0, 3, 1, 2]) (x := nI (stOf (K c))) rfl rfl rfl ?_ (by decide) ?_
  · rcases (show K c = 0 ∨ K c = 1 ∨ K c = 2 ∨ K c = 3 by omega) with e | e | e | e <;> rw [e] <;> rfl
  · refine am_go rfl ?_
    exact ⟨rfl, rfl⟩
theorem d_stateOn_f {d n : Nat} {K : Nat → Nat} {nx : Nat → Nat → Nat} {x : Int32} {w : am_M} (hd : 1 ≤ d) (hT : cTown w n K nx) (hc : x < 0 ∨ nI n ≤ x) : am_D shC d mi_X8_stateOn [.ref 9, .int x] w (some (.int 3), w) := by
  obtain ⟨h1, h2, h3, h4⟩ := hT
  refine am_def hd rfl rfl ?_
  iterate 2 refine am_go rfl ?_
  refine am_by (fun h => ?_) (fun h => ?_)
  · iterate 3 refine am_go rfl ?_
    exact ⟨rfl, rfl⟩
  · iterate 4 refine am_go rfl ?_
    refine am_ff (by rw [h1]; exact fun z => absurd (hc.resolve_left h) (by rw [Int32.not_le]; exact z)) ?_
    iterate 3 refine am_go rfl ?_
    exact ⟨rfl, rfl⟩
theorem d_nextOf {d n c a : Nat} {K : Nat → Nat} {nx : Nat → Nat → Nat} {w : am_M} (hd : 1 ≤ d) (hT : cTown w n K nx) (hc : c < n) (ha : a < 4) : am_D shC d mi_X8_nextOf [.ref 9, .int (nI c), .int (nI a)] w (some (.int (nI (nx c a))), w) := by
  obtain ⟨h1, h2, h3, h4⟩ := hT
  refine am_def hd rfl rfl ?_
  iterate 2 refine am_go rfl ?_
  refine am_ff (nI_pos (by omega)) ?_
  iterate 4 refine am_go rfl ?_
  refine am_tt (by rw [h1]; exact nI_lt hc (by omega)) ?_
  iterate 7 refine am_go rfl ?_
  refine am_top (y := nI (c * 4 + a)) (by rw [show (4 : Int32) = nI 4 from rfl, pk_mul, nI_add]) ?_
  refine am_glN (n := 144) rfl rfl (by omega) (by decide) ?_
  rw [(h4 c hc a ha).1]
  refine am_go rfl ?_
  exact ⟨rfl, rfl⟩
/-- the way of a last of kind k with n letters f, gone by so many times -/
def wayS (k n : Nat) (f : Nat → Nat) (t : Nat) : Nat := if k = 1 ∧ t % 3 = 2 then (f (t % n) + 2) % 4 else if k = 2 then (f (t % n) + t / n) % 4 else f (t % n)
theorem wayS_lt {k n : Nat} {f : Nat → Nat} {t : Nat} (h : f (t % n) < 4) : wayS k n f t < 4 := by
  unfold wayS
  split
  · omega
  · split
    · omega
    · exact h
theorem d_wayOf {d m l t : Nat} {kd ln : Nat → Nat} {lt : Nat → Nat → Nat} {w : am_M} (hd : 1 ≤ d) (hL : cLasts w m kd ln lt) (hl : l < m) (ht : t < 1000) : am_D shC d mi_X0_wayOf [.ref 12, .int (nI l), .int (nI t)] w (some (.int (nI (wayS (kd l) (ln l) (lt l) t))), w) := by
  obtain ⟨h1, h2, h3⟩ := hL
  obtain ⟨e1, e2, e3, e4, e5, e6⟩ := h3 l hl
  have hmod : t % ln l < ln l := Nat.mod_lt _ (by omega)
  have e7 := e6 _ hmod
  refine am_def hd rfl rfl ?_
  iterate 3 refine am_go rfl ?_
  refine am_glN (n := 8) rfl rfl (by omega) (by decide) ?_
  rw [e3]
  iterate 3 refine am_go rfl ?_
  refine am_tt (show 0 < nI (ln l) from nI_lt (a := 0) (by omega) (by omega)) ?_
  iterate 7 refine am_go rfl ?_
  refine am_go rfl ?_
  refine am_ff (nI_ne0 (by omega) (by omega)) ?_
  refine am_top (y := nI (t % ln l)) (pk_rem (by omega) (by omega) (by omega)) ?_
  refine am_go rfl ?_
  refine am_top (y := nI (4 * l + t % ln l)) (by rw [show (4 : Int32) = nI 4 from rfl, pk_mul, nI_add, Nat.mul_comm]) ?_
  refine am_glN (n := 32) rfl rfl (by omega) (by decide) ?_
  rw [e7.1]
  iterate 4 refine am_go rfl ?_
  refine am_glN (n := 8) rfl rfl (by omega) (by decide) ?_
  rw [e1]
  iterate 2 refine am_go rfl ?_
  have rest : am_R shC mi_X0_wayOf (am_D shC (d - 1)) (fun r => r = (some (.int (nI (if kd l = 2 then (lt l (t % ln l) + t / ln l) % 4 else lt l (t % ln l)))), w)) 51 [(0, .ref 12), (1, .int (nI l)), (2, .int (nI t)), (3, .int (nI (ln l))), (4, .int (nI (lt l (t % ln l))))] [] w := by
    iterate 3 refine am_go rfl ?_
    refine am_glN (n := 8) rfl rfl (by omega) (by decide) ?_
    rw [e1]
    iterate 2 refine am_go rfl ?_
    by_cases hk : kd l = 2
    · refine am_tt (show nI (kd l) = 2 by rw [hk]; rfl) ?_
      rw [if_pos hk]
      iterate 4 refine am_go rfl ?_
      refine am_ff (nI_ne0 (by omega) (by omega)) ?_
      refine am_top (y := nI (t / ln l)) (pk_div (by omega) (by omega) (by omega)) ?_
      iterate 2 refine am_go rfl ?_
      refine am_top2 (y := nI (lt l (t % ln l) + t / ln l)) (nI_add _ _) ?_
      refine am_go rfl ?_
      have hdv : t / ln l ≤ t := Nat.div_le_self _ _
      refine am_top (y := nI ((lt l (t % ln l) + t / ln l) % 4)) (pk_rem (d := 4) (by omega) (by omega) (by omega)) ?_
      refine am_go rfl ?_
      exact ⟨rfl, rfl⟩
    · refine am_ff (show ¬ nI (kd l) = 2 from fun z => hk ((nI_eq (b := 2) (by omega) (by omega)).mp z)) ?_
      rw [if_neg hk]
      iterate 2 refine am_go rfl ?_
      exact ⟨rfl, rfl⟩
  unfold wayS
  by_cases hk : kd l = 1
  · refine am_tt (show nI (kd l) = 1 by rw [hk]; rfl) ?_
    iterate 3 refine am_go rfl ?_
    refine am_top (y := nI (t % 3)) (pk_rem (d := 3) (by omega) (by omega) (by omega)) ?_
    iterate 2 refine am_go rfl ?_
    by_cases h3 : t % 3 = 2
    · refine am_tt (show nI (t % 3) = 2 by rw [h3]; rfl) ?_
      rw [if_pos ⟨hk, h3⟩]
      iterate 4 refine am_go rfl ?_
      refine am_top2 (y := nI (lt l (t % ln l) + 2)) (nI_add _ 2) ?_
      refine am_go rfl ?_
      refine am_top (y := nI ((lt l (t % ln l) + 2) % 4)) (pk_rem (d := 4) (by omega) (by omega) (by omega)) ?_
      refine am_go rfl ?_
      exact ⟨rfl, rfl⟩
    · refine am_ff (show ¬ nI (t % 3) = 2 from fun z => h3 ((nI_eq (b := 2) (by omega) (by omega)).mp z)) ?_
      rw [if_neg (fun z => h3 z.2)]
      exact rest
  · refine am_ff (show ¬ nI (kd l) = 1 from fun z => hk ((nI_eq (b := 1) (by omega) (by omega)).mp z)) ?_
    rw [if_neg (fun z => hk z.1)]
    exact rest
theorem d_ptold {d q p j : Nat} {pf : Nat → Nat → Nat} {w : am_M} (hd : 1 ≤ d) (hP : cPeople w q pf) (hp : p < q) (hj : j < 5) : am_D shC d mi_X2_told [.ref 16, .int (nI p), .int (nI j)] w (some (.int (nI (pf p j))), w) := by
  obtain ⟨h1, h2, h3⟩ := hP
  refine am_def hd rfl rfl ?_
  iterate 7 refine am_go rfl ?_
  refine am_top (y := nI (5 * p + j)) (by rw [show (5 : Int32) = nI 5 from rfl, pk_mul, nI_add, Nat.mul_comm]) ?_
  refine am_glN (n := 40) rfl rfl (by omega) (by decide) ?_
  rw [(h3 p hp).1 j hj]
  refine am_go rfl ?_
  exact ⟨rfl, rfl⟩
