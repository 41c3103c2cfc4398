/-! the model: where each is when -/
theorem mtO_s {F : Nat → Nat → Bool} {q a : Nat} (h : mt1 F q = some a) : ∃ b, mt2 F q a = some b ∧ mtO F q = some (a, b) := by
  obtain ⟨h1, h2, h3⟩ := firstN_s h
  rcases opt_or (mt2 F q a) with z | ⟨b, z⟩
  · rw [z] at h2; cases h2
  · refine ⟨b, z, ?_⟩
    unfold mtO
    rw [h]
    dsimp only
    rw [z]
theorem mtO_n {F : Nat → Nat → Bool} {q : Nat} (h : mt1 F q = none) : mtO F q = none := by unfold mtO; rw [h]
theorem metG_eq {F : Nat → Nat → Nat → Bool} {q : Nat} : ∀ n, metG F q n = match firstN (fun s => (mt1 (F s) q).isSome) n with
    | some s => (match mtO (F s) q with
      | some (a, b) => some (s, a, b)
      | none => none)
    | none => none
  | 0 => rfl
  | n + 1 => by
    rw [metG, metG_eq n, firstN]
    rcases opt_or (firstN (fun s => (mt1 (F s) q).isSome) n) with z | ⟨s, z⟩
    · rw [z]
      dsimp only
      rcases opt_or (mt1 (F n) q) with y | ⟨a, y⟩
      · rw [mtO_n y, y]; rfl
      · obtain ⟨b, _, hb⟩ := mtO_s y
        rw [hb, y]
        show some (n, a, b) = match (if (some a).isSome = true then some n else none) with
          | some s => (match mtO (F s) q with
            | some (a, b) => some (s, a, b)
            | none => none)
          | none => none
        rw [if_pos (show (some a).isSome = true from rfl)]
        dsimp only
        rw [hb]
    · rw [z]
      dsimp only
      obtain ⟨_, h2, _⟩ := firstN_s z
      rcases opt_or (mt1 (F s) q) with y | ⟨a, y⟩
      · rw [y] at h2; cases h2
      · obtain ⟨b, _, hb⟩ := mtO_s y
        rw [hb]
section
variable {S : Sp} {s : Nat}
theorem metO_t {p : Nat} (hz : (lifeQ S.V (prS S.pf p) (wet0 S) (s + 1)).2.1 = 0) : metO S s p = firstN (fun q => !decide (q = p) && decide ((lifeQ S.V (prS S.pf q) (wet0 S) (s + 1)).2.1 = 0) && decide (cellI S.V (prS S.pf q) (wet0 S) s = cellI S.V (prS S.pf p) (wet0 S) s)) S.q := by unfold metO; rw [if_pos hz]
theorem met_ex {a b : Nat} (ha : a < S.q) (hb : b < S.q) (hne : a ≠ b) (h : mtF S.V (prS S.pf) (wet0 S) s a b = true) : (metO S s a).isSome = true := by
  unfold mtF at h
  simp only [Bool.and_eq_true, decide_eq_true_eq] at h
  obtain ⟨h1, h2, h3⟩ := h
  rw [metO_t h1]
  rcases opt_or (firstN (fun q => !decide (q = a) && decide ((lifeQ S.V (prS S.pf q) (wet0 S) (s + 1)).2.1 = 0) && decide (cellI S.V (prS S.pf q) (wet0 S) s = cellI S.V (prS S.pf a) (wet0 S) s)) S.q) with z | ⟨c, z⟩
  · have := firstN_none z b hb
    rw [decide_eq_false (fun q => hne q.symm), decide_eq_true h2, decide_eq_true h3.symm] at this
    cases this
  · rw [z]; rfl
theorem mtF_sym {a b : Nat} (h : mtF S.V (prS S.pf) (wet0 S) s a b = true) : mtF S.V (prS S.pf) (wet0 S) s b a = true := by
  unfold mtF at h ⊢
  simp only [Bool.and_eq_true, decide_eq_true_eq] at h ⊢
  exact ⟨h.2.1, h.1, h.2.2.symm⟩
theorem metO_s {p k : Nat} (h : metO S s p = some k) : k < S.q ∧ k ≠ p ∧ mtF S.V (prS S.pf) (wet0 S) s p k = true ∧ ∀ j, j < k → j ≠ p → mtF S.V (prS S.pf) (wet0 S) s p j = false := by
  unfold metO at h
  split at h
  · rename_i hz
    obtain ⟨h1, h2, h3⟩ := firstN_s h
    simp only [Bool.and_eq_true, decide_eq_true_eq, Bool.not_eq_true', decide_eq_false_iff_not] at h2
    refine ⟨h1, h2.1.1, ?_, fun j hj hp => ?_⟩
    · unfold mtF
      rw [decide_eq_true hz, decide_eq_true h2.1.2, decide_eq_true h2.2.symm]; rfl
    · have h3j := h3 j hj
      cases hF : mtF S.V (prS S.pf) (wet0 S) s p j with
      | false => rfl
      | true =>
        unfold mtF at hF
        simp only [Bool.and_eq_true, decide_eq_true_eq] at hF
        rw [decide_eq_false hp, decide_eq_true hF.2.1, decide_eq_true hF.2.2.symm] at h3j
        cases h3j
  · cases h
theorem metP_eq : metP S s = mt1 (mtF S.V (prS S.pf) (wet0 S) s) S.q ∧ ∀ p, metP S s = some p → metO S s p = mt2 (mtF S.V (prS S.pf) (wet0 S) s) S.q p := by
  have one : ∀ p, metP S s = some p → p < S.q ∧ ∃ k, metO S s p = some k ∧ mt2 (mtF S.V (prS S.pf) (wet0 S) s) S.q p = some k := by
    intro p hp
    obtain ⟨h1, h2, h3⟩ := firstN_s hp
    rcases opt_or (metO S s p) with z | ⟨k, z⟩
    · rw [z] at h2; cases h2
    · obtain ⟨a1, a2, a3, a4⟩ := metO_s z
      have hpk : p < k := by
        rcases Nat.lt_trichotomy k p with y | y | y
        · have := h3 k y
          rw [met_ex a1 h1 a2 (mtF_sym a3)] at this
          cases this
        · exact absurd y a2
        · exact y
      refine ⟨h1, k, z, firstN_at a1 (by rw [decide_eq_true hpk, a3]; rfl) (fun j hj => ?_)⟩
      by_cases e : p < j
      · rw [decide_eq_true e, a4 j hj (by omega)]; rfl
      · rw [decide_eq_false e]; rfl
  have none2 : ∀ a, a < S.q → (metO S s a).isSome = false → (mt2 (mtF S.V (prS S.pf) (wet0 S) s) S.q a).isSome = false := by
    intro a ha hn
    rcases opt_or (mt2 (mtF S.V (prS S.pf) (wet0 S) s) S.q a) with z | ⟨b, z⟩
    · rw [z]; rfl
    · obtain ⟨h1, h2, _⟩ := firstN_s z
      simp only [Bool.and_eq_true, decide_eq_true_eq] at h2
      rw [met_ex ha h1 (by omega) h2.2] at hn
      cases hn
  refine ⟨?_, fun p hp => ?_⟩
  · rcases opt_or (metP S s) with z | ⟨p, z⟩
    · rw [z]
      exact (firstN_ex (fun a ha => none2 a ha (firstN_none z a ha))).symm
    · rw [z]
      obtain ⟨h1, k, h2, h3⟩ := one p z
      obtain ⟨_, _, h4⟩ := firstN_s z
      exact (firstN_at h1 (by rw [h3]; rfl) (fun a ha => none2 a (by omega) (h4 a ha))).symm
  · obtain ⟨h1, k, h2, h3⟩ := one p hp
    rw [h2, h3]
end
theorem met_eq {w : am_M} {S : Sp} (h : metI w (metG (mtF S.V (prS S.pf) (wet0 S)) S.q 30)) : w.1 0 28 = metA S 0 ∧ w.1 0 29 = metA S 1 ∧ w.1 0 30 = metA S 2 := by
  rw [metG_eq] at h
  have e : metT S = firstN (fun s => (mt1 (mtF S.V (prS S.pf) (wet0 S) s) S.q).isSome) 30 := firstN_congr (fun s hs => by rw [metP_eq.1])
  rw [← e] at h
  rcases opt_or (metT S) with z | ⟨s, z⟩
  · rw [z] at h
    unfold metA
    rw [z]
    exact h
  · rw [z] at h
    dsimp only at h
    obtain ⟨_, h2, _⟩ := firstN_s z
    rcases opt_or (metP S s) with y | ⟨p, y⟩
    · rw [y] at h2; cases h2
    · have y1 := y
      rw [metP_eq.1] at y1
      obtain ⟨b, hb, hO⟩ := mtO_s y1
      rw [hO] at h
      have hM := metP_eq.2 p y
      rw [hb] at hM
      unfold metA
      rw [z]
      dsimp only
      rw [y]
      dsimp only
      rw [hM]
      exact h
/-! calls -/
def mFi (w : am_M) (S : Sp) : Prop := RM w S ∧ mRd w S ∧ mLv w S.V (prS S.pf) (wet0 S) S.q
theorem m_find2 {d : Nat} {w : am_M} {S : Sp} (hd : 6 ≤ d) (h : RM w S) (g : SG S) : ∃ o : am_O, (o.1 = none ∧ mFi o.2 S) ∧ am_D shM d mi_X12_find [.ref 0] w o := by
  obtain ⟨o, ⟨h1, h2, h3, h4⟩, hD⟩ := m_find hd h g
  exact ⟨o, ⟨h1, h.fr h2 (by decide) (by decide), h3, h4⟩, hD⟩
theorem ix324 (s p j : Nat) : (32 : Int32) * nI s + (4 : Int32) * nI p + nI j = nI (32 * s + 4 * p + j) := by rw [ix32, nI_add]
theorem m_at {d : Nat} {x y z : Int32} {w : am_M} {S : Sp} (hd : 8 ≤ d) (h : RM w S) (g : SG S) : ∃ o : am_O, (o.1 = some (.int (atS S x y z)) ∧ RM o.2 S) ∧ am_D shM d mi_X12_at [.ref 0, .int x, .int y, .int z] w o := by
  have hq := g.2.2.1
  obtain ⟨⟨r1, w1⟩, ⟨e1, f1⟩, hD1⟩ := m_find2 (d := d - 1) (by omega) h g
  dsimp only at e1 f1
  subst e1
  have hp14 : w1.1 0 14 = nI S.q := f1.2.1.2.1
  rcases dI_or x 30 (by decide) with hx | ⟨a, ha, rfl, hx⟩
  · refine am_dex (by omega) rfl rfl ?_
    iterate 2 refine am_g0 rfl rfl ?_
    refine ⟨(none, w1), hD1, ?_⟩
    refine am_to (lv' := [(0, .ref 0), (1, .int x), (2, .int y), (3, .int z)]) (st' := []) (w' := w1) rfl rfl rfl ?_
    iterate 2 refine am_g0 rfl rfl ?_
    refine ⟨(some (.int 0), w1), m_isStep_n (by omega) hx, ?_⟩
    refine am_to (lv' := [(0, .ref 0), (1, .int x), (2, .int y), (3, .int z)]) (st' := [.int 0]) (w' := w1) rfl rfl rfl ?_
    refine am_g0 rfl rfl ?_
    refine am_go rfl ?_
    refine am_go rfl ?_
    exact ⟨rfl, by unfold atS; rw [hx], f1.1⟩
  · rcases dI_or y S.q (by omega) with hy | ⟨p, hp, rfl, hy⟩
    · refine am_dex (by omega) rfl rfl ?_
      iterate 2 refine am_g0 rfl rfl ?_
      refine ⟨(none, w1), hD1, ?_⟩
      refine am_to (lv' := [(0, .ref 0), (1, .int (nI a)), (2, .int y), (3, .int z)]) (st' := []) (w' := w1) rfl rfl rfl ?_
      iterate 2 refine am_g0 rfl rfl ?_
      refine ⟨(some (.int 1), w1), m_isStep_s (by omega) ha, ?_⟩
      refine am_to (lv' := [(0, .ref 0), (1, .int (nI a)), (2, .int y), (3, .int z)]) (st' := [.int 1]) (w' := w1) rfl rfl rfl ?_
      iterate 4 refine am_g0 rfl rfl ?_
      refine ⟨(some (.int 0), w1), m_isPerson_n (by omega) hq hp14 hy, ?_⟩
      refine am_to (lv' := [(0, .ref 0), (1, .int (nI a)), (2, .int y), (3, .int z)]) (st' := [.int 0]) (w' := w1) rfl rfl rfl ?_
      refine am_g0 rfl rfl ?_
      refine am_go rfl ?_
      refine am_go rfl ?_
      exact ⟨rfl, by unfold atS; rw [hx, hy], f1.1⟩
    · rcases dI_or z 4 (by decide) with hz | ⟨j, hj, rfl, hz⟩
      · refine am_dex (by omega) rfl rfl ?_
        iterate 2 refine am_g0 rfl rfl ?_
        refine ⟨(none, w1), hD1, ?_⟩
        refine am_to (lv' := [(0, .ref 0), (1, .int (nI a)), (2, .int (nI p)), (3, .int z)]) (st' := []) (w' := w1) rfl rfl rfl ?_
        iterate 2 refine am_g0 rfl rfl ?_
        refine ⟨(some (.int 1), w1), m_isStep_s (by omega) ha, ?_⟩
        refine am_to (lv' := [(0, .ref 0), (1, .int (nI a)), (2, .int (nI p)), (3, .int z)]) (st' := [.int 1]) (w' := w1) rfl rfl rfl ?_
        iterate 4 refine am_g0 rfl rfl ?_
        refine ⟨(some (.int 1), w1), m_isPerson_s (by omega) hq hp14 hp, ?_⟩
        refine am_to (lv' := [(0, .ref 0), (1, .int (nI a)), (2, .int (nI p)), (3, .int z)]) (st' := [.int 1]) (w' := w1) rfl rfl rfl ?_
        iterate 6 refine am_g0 rfl rfl ?_
        refine ⟨(some (.int 0), w1), m_inn (n := 4) (by omega) (by omega) (by decide) hz, ?_⟩
        refine am_to (lv' := [(0, .ref 0), (1, .int (nI a)), (2, .int (nI p)), (3, .int z)]) (st' := [.int 0]) (w' := w1) rfl rfl rfl ?_
        refine am_g0 rfl rfl ?_
        refine am_go rfl ?_
        refine am_go rfl ?_
        exact ⟨rfl, by unfold atS; rw [hx, hy, hz], f1.1⟩
      · refine am_dex (by omega) rfl rfl ?_
        iterate 2 refine am_g0 rfl rfl ?_
        refine ⟨(none, w1), hD1, ?_⟩
        refine am_to (lv' := [(0, .ref 0), (1, .int (nI a)), (2, .int (nI p)), (3, .int (nI j))]) (st' := []) (w' := w1) rfl rfl rfl ?_
        iterate 2 refine am_g0 rfl rfl ?_
        refine ⟨(some (.int 1), w1), m_isStep_s (by omega) ha, ?_⟩
        refine am_to (lv' := [(0, .ref 0), (1, .int (nI a)), (2, .int (nI p)), (3, .int (nI j))]) (st' := [.int 1]) (w' := w1) rfl rfl rfl ?_
        iterate 4 refine am_g0 rfl rfl ?_
        refine ⟨(some (.int 1), w1), m_isPerson_s (by omega) hq hp14 hp, ?_⟩
        refine am_to (lv' := [(0, .ref 0), (1, .int (nI a)), (2, .int (nI p)), (3, .int (nI j))]) (st' := [.int 1]) (w' := w1) rfl rfl rfl ?_
        iterate 6 refine am_g0 rfl rfl ?_
        refine ⟨(some (.int 1), w1), m_ins (n := 4) (by omega) (by omega) (by decide) hj, ?_⟩
        refine am_to (lv' := [(0, .ref 0), (1, .int (nI a)), (2, .int (nI p)), (3, .int (nI j))]) (st' := [.int 1]) (w' := w1) rfl rfl rfl ?_
        iterate 12 refine am_g0 rfl rfl ?_
        refine am_glE (n := 960) (k := 32 * a + 4 * p + j) rfl rfl (ix324 a p j) (by omega) (by decide) ?_
        refine am_top (y := rowI S.V (prS S.pf p) (wet0 S) a j) ((f1.2.2.1 p hp).2.2 a ha j hj) ?_
        refine am_g0 rfl rfl ?_
        refine am_go rfl ?_
        exact ⟨rfl, by unfold atS; rw [hx, hy, hz], f1.1⟩
theorem m_ends {d : Nat} {x y : Int32} {w : am_M} {S : Sp} (hd : 8 ≤ d) (h : RM w S) (g : SG S) : ∃ o : am_O, (o.1 = some (.int (endsS S x y)) ∧ RM o.2 S) ∧ am_D shM d mi_X12_ends [.ref 0, .int x, .int y] w o := by
  have hq := g.2.2.1
  obtain ⟨⟨r1, w1⟩, ⟨e1, f1⟩, hD1⟩ := m_find2 (d := d - 1) (by omega) h g
  dsimp only at e1 f1
  subst e1
  have hp14 : w1.1 0 14 = nI S.q := f1.2.1.2.1
  rcases dI_or x S.q (by omega) with hx | ⟨p, hp, rfl, hx⟩
  · refine am_dex (by omega) rfl rfl ?_
    iterate 2 refine am_g0 rfl rfl ?_
    refine ⟨(none, w1), hD1, ?_⟩
    refine am_to (lv' := [(0, .ref 0), (1, .int x), (2, .int y)]) (st' := []) (w' := w1) rfl rfl rfl ?_
    iterate 3 refine am_g0 rfl rfl ?_
    refine ⟨(some (.int 0), w1), m_isPerson_n (by omega) hq hp14 hx, ?_⟩
    refine am_to (lv' := [(0, .ref 0), (1, .int x), (2, .int y)]) (st' := [.int 0]) (w' := w1) rfl rfl rfl ?_
    refine am_g0 rfl rfl ?_
    refine am_go rfl ?_
    refine am_go rfl ?_
    exact ⟨rfl, by unfold endsS; rw [hx], f1.1⟩
  · rcases dI_or y 2 (by decide) with hy | ⟨k, hk, rfl, hy⟩
    · refine am_dex (by omega) rfl rfl ?_
      iterate 2 refine am_g0 rfl rfl ?_
      refine ⟨(none, w1), hD1, ?_⟩
      refine am_to (lv' := [(0, .ref 0), (1, .int (nI p)), (2, .int y)]) (st' := []) (w' := w1) rfl rfl rfl ?_
      iterate 3 refine am_g0 rfl rfl ?_
      refine ⟨(some (.int 1), w1), m_isPerson_s (by omega) hq hp14 hp, ?_⟩
      refine am_to (lv' := [(0, .ref 0), (1, .int (nI p)), (2, .int y)]) (st' := [.int 1]) (w' := w1) rfl rfl rfl ?_
      iterate 3 refine am_g0 rfl rfl ?_
      refine ⟨(some (.int 0), w1), m_isTwo_n (by omega) hy, ?_⟩
      refine am_to (lv' := [(0, .ref 0), (1, .int (nI p)), (2, .int y)]) (st' := [.int 0]) (w' := w1) rfl rfl rfl ?_
      refine am_g0 rfl rfl ?_
      refine am_go rfl ?_
      refine am_go rfl ?_
      exact ⟨rfl, by unfold endsS; rw [hx, hy], f1.1⟩
    · refine am_dex (by omega) rfl rfl ?_
      iterate 2 refine am_g0 rfl rfl ?_
      refine ⟨(none, w1), hD1, ?_⟩
      refine am_to (lv' := [(0, .ref 0), (1, .int (nI p)), (2, .int (nI k))]) (st' := []) (w' := w1) rfl rfl rfl ?_
      iterate 3 refine am_g0 rfl rfl ?_
      refine ⟨(some (.int 1), w1), m_isPerson_s (by omega) hq hp14 hp, ?_⟩
      refine am_to (lv' := [(0, .ref 0), (1, .int (nI p)), (2, .int (nI k))]) (st' := [.int 1]) (w' := w1) rfl rfl rfl ?_
      iterate 3 refine am_g0 rfl rfl ?_
      refine ⟨(some (.int 1), w1), m_isTwo_s (by omega) hk, ?_⟩
      refine am_to (lv' := [(0, .ref 0), (1, .int (nI p)), (2, .int (nI k))]) (st' := [.int 1]) (w' := w1) rfl rfl rfl ?_
      iterate 8 refine am_g0 rfl rfl ?_
      refine am_glE (n := 16) (k := 2 * p + k) rfl rfl (ix2 p k) (by omega) (by decide) ?_
      refine am_top (y := endsA S p k) ((f1.2.2.1 p hp).2.1 k hk) ?_
      refine am_g0 rfl rfl ?_
      refine am_go rfl ?_
      exact ⟨rfl, by unfold endsS; rw [hx, hy], f1.1⟩
theorem or0 (x : Int32) : x ||| 0 = x := Int32.or_zero
theorem m_whoBy {d q k : Nat} {st : Nat → Nat} {w : am_M} (hd : 1 ≤ d) (hq : w.1 0 14 = nI q) (hq8 : q ≤ 8) (hk : k < 2) (hs : ∀ p, p < q → w.1 14 p = nI (st p) ∧ st p < 4) : am_D shM d mi_X12_whoBy [.ref 0, .int (nI k)] w (some (.int (bitsS (fun p => decide (st p = k + 1)) q)), w) := by
  obtain ⟨f, hf⟩ : ∃ f : Nat → Bool, f = fun p => decide (st p = k + 1) := ⟨_, rfl⟩
  rw [← hf]
  refine am_def (by omega) rfl rfl ?_
  iterate 4 refine am_g0 rfl rfl ?_
  have key : ∀ j i : Nat, i + j = q → am_R shM mi_X12_whoBy (am_D shM (d - 1)) (fun r => r = (some (.int (bitsS f q)), w)) 4 [(0, .ref 0), (1, .int (nI k)), (2, .int (bitsS f i)), (3, .int (nI i))] [] w := by
    intro j
    induction j with
    | zero =>
      intro i hi
      refine am_go rfl ?_
      iterate 3 refine am_g0 rfl rfl ?_
      refine am_tt (show (w.1 0 14 : Int32) ≤ (nI i) from by rw [hq]; exact nI_le (by omega) (by omega)) ?_
      refine am_go rfl ?_
      refine am_g0 rfl rfl ?_
      exact ⟨rfl, by rw [show i = q by omega]⟩
    | succ j ih =>
      intro i hi
      obtain ⟨h1, h2⟩ := hs i (by omega)
      have this := ih (i + 1) (by omega)
      rw [← nI_1 i] at this
      refine am_go rfl ?_
      iterate 3 refine am_g0 rfl rfl ?_
      refine am_ff (show ¬ (w.1 0 14 : Int32) ≤ (nI i) from by rw [hq]; exact nI_ge (by omega) (by omega)) ?_
      iterate 4 refine am_g0 rfl rfl ?_
      refine am_glN (n := 8) (k := i) rfl rfl (by omega) (by decide) ?_
      refine am_top (y := nI (st i)) (h1) ?_
      iterate 4 refine am_g0 rfl rfl ?_
      by_cases e : st i = k + 1
      · refine am_tt (show (nI (st i) : Int32) = ((nI k) + 1) from by rw [e, nI_1]) ?_
        iterate 4 refine am_g0 rfl rfl ?_
        refine am_go rfl ?_
        iterate 3 refine am_g0 rfl rfl ?_
        rw [bitsS_t (by rw [hf]; exact decide_eq_true e)] at this
        exact am_kl this rfl
      · refine am_ff (show ¬ (nI (st i) : Int32) = ((nI k) + 1) from by rw [nI_1]; exact nne e (by omega) (by omega)) ?_
        refine am_go rfl ?_
        refine am_go rfl ?_
        refine am_top (y := bitsS f i) (or0 _) ?_
        iterate 3 refine am_g0 rfl rfl ?_
        rw [bitsS_f (by rw [hf]; exact decide_eq_false e)] at this
        exact am_kl this rfl
  exact am_kl (key q 0 (by omega)) rfl
theorem mLv.st {w : am_M} {V : Wd} {P : Nat → Pr} {wet : Nat → Bool} {q : Nat} (h : mLv w V P wet q) (hg : Vgood V) (hP : ∀ p, p < q → Pok (P p)) : ∀ p, p < q → w.1 14 p = nI (fin V (P p) wet) ∧ fin V (P p) wet < 4 := fun p hp => ⟨(h.1 p hp).1.2.1, fin_lt hg (hP p hp)⟩
theorem mFi.st {w : am_M} {S : Sp} (h : mFi w S) (g : SG S) : ∀ p, p < S.q → w.1 14 p = nI (fin S.V (prS S.pf p) (wet0 S)) ∧ fin S.V (prS S.pf p) (wet0 S) < 4 := h.2.2.st g.2.1.good g.2.2.2
theorem m_who {d : Nat} {x : Int32} {w : am_M} {S : Sp} (hd : 8 ≤ d) (h : RM w S) (g : SG S) : ∃ o : am_O, (o.1 = some (.int (whoS S x)) ∧ RM o.2 S) ∧ am_D shM d mi_X12_who [.ref 0, .int x] w o := by
  obtain ⟨⟨r1, w1⟩, ⟨e1, f1⟩, hD1⟩ := m_find2 (d := d - 1) (by omega) h g
  dsimp only at e1 f1
  subst e1
  rcases dI_or x 2 (by decide) with hx | ⟨k, hk, rfl, hx⟩
  · refine am_dex (by omega) rfl rfl ?_
    iterate 2 refine am_g0 rfl rfl ?_
    refine ⟨(none, w1), hD1, ?_⟩
    refine am_to (lv' := [(0, .ref 0), (1, .int x)]) (st' := []) (w' := w1) rfl rfl rfl ?_
    iterate 2 refine am_g0 rfl rfl ?_
    refine ⟨(some (.int 0), w1), m_isTwo_n (by omega) hx, ?_⟩
    refine am_to (lv' := [(0, .ref 0), (1, .int x)]) (st' := [.int 0]) (w' := w1) rfl rfl rfl ?_
    refine am_g0 rfl rfl ?_
    refine am_go rfl ?_
    refine am_go rfl ?_
    exact ⟨rfl, by unfold whoS; rw [hx], f1.1⟩
  · refine am_dex (by omega) rfl rfl ?_
    iterate 2 refine am_g0 rfl rfl ?_
    refine ⟨(none, w1), hD1, ?_⟩
    refine am_to (lv' := [(0, .ref 0), (1, .int (nI k))]) (st' := []) (w' := w1) rfl rfl rfl ?_
    iterate 2 refine am_g0 rfl rfl ?_
    refine ⟨(some (.int 1), w1), m_isTwo_s (by omega) hk, ?_⟩
    refine am_to (lv' := [(0, .ref 0), (1, .int (nI k))]) (st' := [.int 1]) (w' := w1) rfl rfl rfl ?_
    iterate 4 refine am_g0 rfl rfl ?_
    refine ⟨(some (.int (whoA S (wet0 S) k)), w1), m_whoBy (by omega) f1.2.1.2.1 g.2.2.1 hk (f1.st g), ?_⟩
    refine am_to (lv' := [(0, .ref 0), (1, .int (nI k))]) (st' := [.int (whoA S (wet0 S) k)]) (w' := w1) rfl rfl rfl ?_
    refine am_g0 rfl rfl ?_
    refine am_go rfl ?_
    exact ⟨rfl, by unfold whoS; rw [hx], f1.1⟩
theorem m_metBy {d k : Nat} {w : am_M} {S : Sp} (hd : 1 ≤ d) (hk : k < 3) (h : metI w (metG (mtF S.V (prS S.pf) (wet0 S)) S.q 30)) : am_D shM d mi_X12_metBy [.ref 0, .int (nI k)] w (some (.int (metA S k)), w) := by
  obtain ⟨h1, h2, h3⟩ := met_eq h
  match k, hk with
  | 0, _ =>
    refine am_def (by omega) rfl rfl ?_
    iterate 5 refine am_g0 rfl rfl ?_
    refine am_go rfl ?_
    exact ⟨rfl, by rw [h1]⟩
  | 1, _ =>
    refine am_def (by omega) rfl rfl ?_
    iterate 2 refine am_g0 rfl rfl ?_
    refine am_go rfl ?_
    iterate 5 refine am_g0 rfl rfl ?_
    refine am_go rfl ?_
    exact ⟨rfl, by rw [h2]⟩
  | 2, _ =>
    refine am_def (by omega) rfl rfl ?_
    iterate 2 refine am_g0 rfl rfl ?_
    refine am_go rfl ?_
    iterate 2 refine am_g0 rfl rfl ?_
    refine am_go rfl ?_
    refine am_g0 rfl rfl ?_
    refine am_go rfl ?_
    exact ⟨rfl, by rw [h3]⟩
theorem m_met {d : Nat} {x : Int32} {w : am_M} {S : Sp} (hd : 8 ≤ d) (h : RM w S) (g : SG S) : ∃ o : am_O, (o.1 = some (.int (metS S x)) ∧ RM o.2 S) ∧ am_D shM d mi_X12_met [.ref 0, .int x] w o := by
  obtain ⟨⟨r1, w1⟩, ⟨e1, f1⟩, hD1⟩ := m_find2 (d := d - 1) (by omega) h g
  dsimp only at e1 f1
  subst e1
  rcases dI_or x 3 (by decide) with hx | ⟨k, hk, rfl, hx⟩
  · refine am_dex (by omega) rfl rfl ?_
    iterate 2 refine am_g0 rfl rfl ?_
    refine ⟨(none, w1), hD1, ?_⟩
    refine am_to (lv' := [(0, .ref 0), (1, .int x)]) (st' := []) (w' := w1) rfl rfl rfl ?_
    iterate 5 refine am_g0 rfl rfl ?_
    refine ⟨(some (.int 0), w1), m_inn (n := 3) (by omega) (by omega) (by decide) hx, ?_⟩
    refine am_to (lv' := [(0, .ref 0), (1, .int x)]) (st' := [.int 0]) (w' := w1) rfl rfl rfl ?_
    refine am_g0 rfl rfl ?_
    refine am_go rfl ?_
    refine am_go rfl ?_
    exact ⟨rfl, by unfold metS; rw [hx], f1.1⟩
  · refine am_dex (by omega) rfl rfl ?_
    iterate 2 refine am_g0 rfl rfl ?_
    refine ⟨(none, w1), hD1, ?_⟩
    refine am_to (lv' := [(0, .ref 0), (1, .int (nI k))]) (st' := []) (w' := w1) rfl rfl rfl ?_
    iterate 5 refine am_g0 rfl rfl ?_
    refine ⟨(some (.int 1), w1), m_ins (n := 3) (by omega) (by omega) (by decide) hk, ?_⟩
    refine am_to (lv' := [(0, .ref 0), (1, .int (nI k))]) (st' := [.int 1]) (w' := w1) rfl rfl rfl ?_
    iterate 4 refine am_g0 rfl rfl ?_
    refine ⟨(some (.int (metA S k)), w1), m_metBy (by omega) hk f1.2.2.2.2, ?_⟩
    refine am_to (lv' := [(0, .ref 0), (1, .int (nI k))]) (st' := [.int (metA S k)]) (w' := w1) rfl rfl rfl ?_
    refine am_g0 rfl rfl ?_
    refine am_go rfl ?_
    exact ⟨rfl, by unfold metS; rw [hx], f1.1⟩
theorem m_worn {d : Nat} {x : Int32} {w : am_M} {S : Sp} (hd : 8 ≤ d) (h : RM w S) (g : SG S) : ∃ o : am_O, (o.1 = some (.int (wornS S x)) ∧ RM o.2 S) ∧ am_D shM d mi_X12_worn [.ref 0, .int x] w o := by
  have h8 : S.m ≤ 8 := g.2.1.2.2.2.1
  obtain ⟨⟨r1, w1⟩, ⟨e1, f1⟩, hD1⟩ := m_find2 (d := d - 1) (by omega) h g
  dsimp only at e1 f1
  subst e1
  have hm : w1.1 0 10 = nI S.m := f1.2.1.1.2.2.2.2.2.2.1
  rcases dI_or x S.m (by omega) with hx | ⟨l, hl, rfl, hx⟩
  · refine am_dex (by omega) rfl rfl ?_
    iterate 2 refine am_g0 rfl rfl ?_
    refine ⟨(none, w1), hD1, ?_⟩
    refine am_to (lv' := [(0, .ref 0), (1, .int x)]) (st' := []) (w' := w1) rfl rfl rfl ?_
    iterate 3 refine am_g0 rfl rfl ?_
    refine ⟨(some (.int 0), w1), m_isLast_n (by omega) h8 hm hx, ?_⟩
    refine am_to (lv' := [(0, .ref 0), (1, .int x)]) (st' := [.int 0]) (w' := w1) rfl rfl rfl ?_
    refine am_g0 rfl rfl ?_
    refine am_go rfl ?_
    refine am_go rfl ?_
    exact ⟨rfl, by unfold wornS; rw [hx], f1.1⟩
  · refine am_dex (by omega) rfl rfl ?_
    iterate 2 refine am_g0 rfl rfl ?_
    refine ⟨(none, w1), hD1, ?_⟩
    refine am_to (lv' := [(0, .ref 0), (1, .int (nI l))]) (st' := []) (w' := w1) rfl rfl rfl ?_
    iterate 3 refine am_g0 rfl rfl ?_
    refine ⟨(some (.int 1), w1), m_isLast_s (by omega) h8 hm hl, ?_⟩
    refine am_to (lv' := [(0, .ref 0), (1, .int (nI l))]) (st' := [.int 1]) (w' := w1) rfl rfl rfl ?_
    iterate 4 refine am_g0 rfl rfl ?_
    refine am_glN (n := 8) (k := l) rfl rfl (by omega) (by decide) ?_
    refine am_top (y := nI (wornA S l)) (f1.2.2.2.1 l (by omega)) ?_
    refine am_g0 rfl rfl ?_
    refine am_go rfl ?_
    exact ⟨rfl, by unfold wornS; rw [hx], f1.1⟩
theorem m_rifestNow {d m : Nat} {f : Nat → Nat} {w : am_M} (hd : 1 ≤ d) (hm : w.1 0 10 = nI m) (hm8 : m ≤ 8) (hf : ∀ l, l < 8 → w.1 20 l = nI (f l) ∧ f l < 1000) : am_D shM d mi_X12_rifestNow [.ref 0] w (some (.int (opI (rifB f m))), w) := by
  refine am_def (by omega) rfl rfl ?_
  iterate 4 refine am_g0 rfl rfl ?_
  have key : ∀ j i : Nat, i + j = m → am_R shM mi_X12_rifestNow (am_D shM (d - 1)) (fun r => r = (some (.int (opI (rifB f m))), w)) 4 [(0, .ref 0), (1, .int (opI (rifB f i))), (2, .int (nI i))] [] w := by
    intro j
    induction j with
    | zero =>
      intro i hi
      refine am_go rfl ?_
      iterate 3 refine am_g0 rfl rfl ?_
      refine am_tt (show (w.1 0 10 : Int32) ≤ (nI i) from by rw [hm]; exact nI_le (by omega) (by omega)) ?_
      refine am_go rfl ?_
      refine am_g0 rfl rfl ?_
      exact ⟨rfl, by rw [show i = m by omega]⟩
    | succ j ih =>
      intro i hi
      have this := ih (i + 1) (by omega)
      rw [← nI_1 i] at this
      refine am_go rfl ?_
      iterate 3 refine am_g0 rfl rfl ?_
      refine am_ff (show ¬ (w.1 0 10 : Int32) ≤ (nI i) from by rw [hm]; exact nI_ge (by omega) (by omega)) ?_
      iterate 3 refine am_g0 rfl rfl ?_
      rcases opt_or (rifB f i) with z | ⟨b, z⟩
      · rw [show rifB f (i + 1) = some i by rw [rifB, z]] at this
        refine am_tt (show (opI (rifB f i) : Int32) = (-1) from by rw [z]; rfl) ?_
        refine am_go rfl ?_
        refine am_g0 rfl rfl ?_
        refine am_go rfl ?_
        iterate 2 refine am_g0 rfl rfl ?_
        exact am_kl this rfl
      · have hb := rifB_lt z
        refine am_ff (show ¬ (opI (rifB f i) : Int32) = (-1) from by rw [z]; exact nI_m1 (by omega)) ?_
        refine am_to (lv' := [(0, .ref 0), (1, .int (nI b)), (2, .int (nI i))]) (st' := []) (w' := w) (by rw [z]; rfl) rfl rfl ?_
        iterate 3 refine am_g0 rfl rfl ?_
        refine am_glN (n := 8) (k := i) rfl rfl (by omega) (by decide) ?_
        refine am_top (y := nI (f i)) ((hf i (by omega)).1) ?_
        iterate 3 refine am_g0 rfl rfl ?_
        refine am_glN (n := 8) (k := b) rfl rfl (by omega) (by decide) ?_
        refine am_top (y := nI (f b)) ((hf b (by omega)).1) ?_
        refine am_g0 rfl rfl ?_
        have hb1 := (hf i (by omega)).2
        have hb2 := (hf b (by omega)).2
        by_cases hlt : f b < f i
        · rw [show rifB f (i + 1) = some i by rw [rifB, z]; dsimp only; rw [if_pos hlt]] at this
          refine am_ff (show ¬ (nI (f i) : Int32) ≤ (nI (f b)) from nI_ge hlt (by omega)) ?_
          refine am_go rfl ?_
          refine am_g0 rfl rfl ?_
          refine am_go rfl ?_
          iterate 2 refine am_g0 rfl rfl ?_
          exact am_kl this rfl
        · rw [show rifB f (i + 1) = some b by rw [rifB, z]; dsimp only; rw [if_neg hlt]] at this
          refine am_tt (show (nI (f i) : Int32) ≤ (nI (f b)) from nI_le (by omega) (by omega)) ?_
          refine am_go rfl ?_
          refine am_go rfl ?_
          iterate 2 refine am_g0 rfl rfl ?_
          exact am_kl this rfl
  exact am_kl (key m 0 (by omega)) rfl
theorem m_rifest {d : Nat} {w : am_M} {S : Sp} (hd : 8 ≤ d) (h : RM w S) (g : SG S) : ∃ o : am_O, (o.1 = some (.int (rifS S)) ∧ RM o.2 S) ∧ am_D shM d mi_X12_rifest [.ref 0] w o := by
  obtain ⟨⟨r1, w1⟩, ⟨e1, f1⟩, hD1⟩ := m_find2 (d := d - 1) (by omega) h g
  dsimp only at e1 f1
  subst e1
  refine am_dex (by omega) rfl rfl ?_
  iterate 2 refine am_g0 rfl rfl ?_
  refine ⟨(none, w1), hD1, ?_⟩
  refine am_to (lv' := [(0, .ref 0)]) (st' := []) (w' := w1) rfl rfl rfl ?_
  iterate 2 refine am_g0 rfl rfl ?_
  refine ⟨(some (.int (rifS S)), w1), m_rifestNow (f := wornA S) (by omega) f1.2.1.1.2.2.2.2.2.2.1 g.2.1.2.2.2.1 (fun l hl => ⟨f1.2.2.2.1 l hl, by have := wornA_le (S := S) (l := l) g.2.2.1; omega⟩), ?_⟩
  refine am_to (lv' := [(0, .ref 0)]) (st' := [.int (rifS S)]) (w' := w1) rfl rfl rfl ?_
  refine am_g0 rfl rfl ?_
  exact ⟨rfl, rfl, f1.1⟩
