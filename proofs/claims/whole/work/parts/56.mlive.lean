/-! the model: meetings, beginnings -/
def mt2 (F : Nat → Nat → Bool) (q a : Nat) : Option Nat := firstN (fun b => decide (a < b) && F a b) q
def mt1 (F : Nat → Nat → Bool) (q : Nat) : Option Nat := firstN (fun a => (mt2 F q a).isSome) q
def mtO (F : Nat → Nat → Bool) (q : Nat) : Option (Nat × Nat) := match mt1 F q with
  | some a => (match mt2 F q a with
    | some b => some (a, b)
    | none => none)
  | none => none
theorem m_meet_f {d s : Nat} {w : am_M} (hd : 1 ≤ d) (hm : w.1 0 28 ≠ -1) : am_D shM d mi_X12_meet [.ref 0, .int (nI s)] w (none, w) := by
  refine am_def (by omega) rfl rfl ?_
  iterate 2 refine am_g0 rfl rfl ?_
  refine am_go rfl ?_
  iterate 3 refine am_g0 rfl rfl ?_
  by_cases h : w.1 0 14 ≤ 0
  · refine am_tt (show (w.1 0 14 : Int32) ≤ 0 from h) ?_
    refine am_go rfl ?_
    exact ⟨rfl, rfl⟩
  · refine am_ff (show ¬ (w.1 0 14 : Int32) ≤ 0 from h) ?_
    iterate 4 refine am_g0 rfl rfl ?_
    refine am_ff (show ¬ (w.1 0 28 : Int32) = (-1) from hm) ?_
    refine am_go rfl ?_
    exact ⟨rfl, rfl⟩
theorem m_meet_t {d s q : Nat} {F : Nat → Nat → Bool} {w : am_M} (hd : 1 ≤ d) (hs : s < 30) (hm : w.1 0 28 = -1) (hq : w.1 0 14 = nI q) (hq8 : q ≤ 8) (hF : ∀ a b, a < q → b < q → (F a b = true ↔ w.1 14 a = 0 ∧ w.1 14 b = 0 ∧ w.1 13 a = w.1 13 b)) : ∃ o : am_O, (o.1 = none ∧ (match mtO F q with | some (a, b) => o.2 = am_pi (am_pi (am_pi w 0 28 (nI s)) 0 29 (nI a)) 0 30 (nI b) | none => o.2 = w)) ∧ am_D shM d mi_X12_meet [.ref 0, .int (nI s)] w o := by
  refine am_dex (by omega) rfl rfl ?_
  iterate 2 refine am_g0 rfl rfl ?_
  have key : ∀ j a : Nat, a + j = q → (∀ i, i < a → (mt2 F q i).isSome = false) → am_R shM mi_X12_meet (am_D shM (d - 1)) (fun o => o.1 = none ∧ (match mtO F q with | some (a, b) => o.2 = am_pi (am_pi (am_pi w 0 28 (nI s)) 0 29 (nI a)) 0 30 (nI b) | none => o.2 = w)) 2 [(0, .ref 0), (1, .int (nI s)), (2, .int (nI a))] [] w := by
    intro j
    induction j with
    | zero =>
      intro a ha hf
      refine am_go rfl ?_
      iterate 3 refine am_g0 rfl rfl ?_
      refine am_tt (show (w.1 0 14 : Int32) ≤ (nI a) from by rw [hq]; exact nI_le (by omega) (by omega)) ?_
      refine am_go rfl ?_
      refine ⟨rfl, rfl, ?_⟩
      have : mtO F q = none := by unfold mtO mt1; rw [firstN_ex (fun i hi => hf i (by omega))]
      rw [this]
    | succ j ih =>
      intro a ha hf
      refine am_go rfl ?_
      iterate 3 refine am_g0 rfl rfl ?_
      refine am_ff (show ¬ (w.1 0 14 : Int32) ≤ (nI a) from by rw [hq]; exact nI_ge (by omega) (by omega)) ?_
      iterate 4 refine am_g0 rfl rfl ?_
      refine am_tt (show (w.1 0 28 : Int32) = (-1) from hm) ?_
      iterate 3 refine am_g0 rfl rfl ?_
      refine am_top (y := nI (a + 1)) (nI_1 a) ?_
      refine am_g0 rfl rfl ?_
      have key2 : ∀ j b : Nat, b + j = q → a < b → (∀ i, i < b → (decide (a < i) && F a i) = false) → am_R shM mi_X12_meet (am_D shM (d - 1)) (fun o => o.1 = none ∧ (match mtO F q with | some (a, b) => o.2 = am_pi (am_pi (am_pi w 0 28 (nI s)) 0 29 (nI a)) 0 30 (nI b) | none => o.2 = w)) 22 [(0, .ref 0), (1, .int (nI s)), (2, .int (nI a)), (3, .int (nI b))] [] w := by
        intro j
        induction j with
        | zero =>
          intro b hb hab hf2
          refine am_go rfl ?_
          iterate 3 refine am_g0 rfl rfl ?_
          refine am_tt (show (w.1 0 14 : Int32) ≤ (nI b) from by rw [hq]; exact nI_le (by omega) (by omega)) ?_
          refine am_go rfl ?_
          refine am_g0 rfl rfl ?_
          have this := ih (a + 1) (by omega) (fun i hi => if e : i = a then by rw [e]; unfold mt2; rw [firstN_ex (fun k hk => hf2 k (by omega))]; rfl else hf i (by omega))
          rw [← nI_1] at this
          exact am_kl this rfl
        | succ j ih2 =>
          intro b hb hab hf2
          have hFb := hF a b (by omega) (by omega)
          have no : F a b = false → am_R shM mi_X12_meet (am_D shM (d - 1)) (fun o => o.1 = none ∧ (match mtO F q with | some (a, b) => o.2 = am_pi (am_pi (am_pi w 0 28 (nI s)) 0 29 (nI a)) 0 30 (nI b) | none => o.2 = w)) 86 [(0, .ref 0), (1, .int (nI s)), (2, .int (nI a)), (3, .int (nI b))] [] w := by
            intro h
            refine am_go rfl ?_
            refine am_g0 rfl rfl ?_
            have this := ih2 (b + 1) (by omega) (by omega) (fun i hi => if e : i = b then by rw [e, h, Bool.and_false] else hf2 i (by omega))
            rw [← nI_1] at this
            exact am_kl this rfl
          have neg : ¬ (w.1 14 a = 0 ∧ w.1 14 b = 0 ∧ w.1 13 a = w.1 13 b) → F a b = false := fun h => by
            cases z : F a b with
            | false => rfl
            | true => exact absurd (hFb.mp z) h
          refine am_go rfl ?_
          iterate 3 refine am_g0 rfl rfl ?_
          refine am_ff (show ¬ (w.1 0 14 : Int32) ≤ (nI b) from by rw [hq]; exact nI_ge (by omega) (by omega)) ?_
          iterate 4 refine am_g0 rfl rfl ?_
          refine am_tt (show (w.1 0 28 : Int32) = (-1) from hm) ?_
          iterate 3 refine am_g0 rfl rfl ?_
          refine am_glN (n := 8) (k := a) rfl rfl (by omega) (by decide) ?_
          refine am_g0 rfl rfl ?_
          by_cases h1 : w.1 14 a = 0
          · refine am_tt (show (w.1 14 a : Int32) = 0 from h1) ?_
            iterate 3 refine am_g0 rfl rfl ?_
            refine am_glN (n := 8) (k := b) rfl rfl (by omega) (by decide) ?_
            refine am_g0 rfl rfl ?_
            by_cases h2 : w.1 14 b = 0
            · refine am_tt (show (w.1 14 b : Int32) = 0 from h2) ?_
              iterate 3 refine am_g0 rfl rfl ?_
              refine am_glN (n := 8) (k := a) rfl rfl (by omega) (by decide) ?_
              iterate 3 refine am_g0 rfl rfl ?_
              refine am_glN (n := 8) (k := b) rfl rfl (by omega) (by decide) ?_
              refine am_g0 rfl rfl ?_
              by_cases h3 : w.1 13 a = w.1 13 b
              · refine am_tt (show (w.1 13 a : Int32) = (w.1 13 b) from h3) ?_
                iterate 9 refine am_g0 rfl rfl ?_
                have hz : mtO F q = some (a, b) := by
                  have e2 : mt2 F q a = some b := firstN_at (by omega) (by rw [decide_eq_true hab, hFb.mpr ⟨h1, h2, h3⟩]; rfl) hf2
                  have e1 : mt1 F q = some a := firstN_at (by omega) (by rw [e2]; rfl) hf
                  unfold mtO
                  rw [e1]
                  dsimp only
                  rw [e2]
                refine am_to (lv' := [(0, .ref 0), (1, .int (nI s)), (2, .int (nI a)), (3, .int (nI b))]) (st' := []) (w' := am_pi (am_pi (am_pi w 0 28 (nI s)) 0 29 (nI a)) 0 30 (nI b)) rfl rfl rfl ?_
                generalize hv : am_pi (am_pi (am_pi w 0 28 (nI s)) 0 29 (nI a)) 0 30 (nI b) = v
                have v28 : ¬ v.1 0 28 = -1 := by rw [← hv]; exact nI_m1 (by omega)
                have v14 : v.1 0 14 = nI q := by rw [← hv]; exact hq
                have outer : ∀ y : Int32, am_R shM mi_X12_meet (am_D shM (d - 1)) (fun o => o.1 = none ∧ (match mtO F q with | some (a, b) => o.2 = am_pi (am_pi (am_pi w 0 28 (nI s)) 0 29 (nI a)) 0 30 (nI b) | none => o.2 = w)) 2 [(0, .ref 0), (1, .int (nI s)), (2, .int y)] [] v := by
                  intro y
                  refine am_go rfl ?_
                  iterate 3 refine am_g0 rfl rfl ?_
                  by_cases h9 : v.1 0 14 ≤ y
                  · refine am_tt (show (v.1 0 14 : Int32) ≤ y from h9) ?_
                    refine am_go rfl ?_
                    exact ⟨rfl, rfl, by rw [hz]; exact hv.symm⟩
                  · refine am_ff (show ¬ (v.1 0 14 : Int32) ≤ y from h9) ?_
                    iterate 4 refine am_g0 rfl rfl ?_
                    refine am_ff (show ¬ (v.1 0 28 : Int32) = (-1) from v28) ?_
                    refine am_go rfl ?_
                    exact ⟨rfl, rfl, by rw [hz]; exact hv.symm⟩
                refine am_go rfl ?_
                refine am_g0 rfl rfl ?_
                refine am_go rfl ?_
                iterate 3 refine am_g0 rfl rfl ?_
                by_cases h9 : nI q ≤ nI b + 1
                · refine am_tt (show (v.1 0 14 : Int32) ≤ ((nI b) + 1) from by rw [v14]; exact h9) ?_
                  refine am_go rfl ?_
                  refine am_g0 rfl rfl ?_
                  exact am_kl (outer _) rfl
                · refine am_ff (show ¬ (v.1 0 14 : Int32) ≤ ((nI b) + 1) from by rw [v14]; exact h9) ?_
                  iterate 4 refine am_g0 rfl rfl ?_
                  refine am_ff (show ¬ (v.1 0 28 : Int32) = (-1) from v28) ?_
                  refine am_go rfl ?_
                  refine am_g0 rfl rfl ?_
                  exact am_kl (outer _) rfl
              · refine am_ff (show ¬ (w.1 13 a : Int32) = (w.1 13 b) from h3) ?_
                exact am_kl (no (neg (fun z => h3 z.2.2))) rfl
            · refine am_ff (show ¬ (w.1 14 b : Int32) = 0 from h2) ?_
              exact am_kl (no (neg (fun z => h2 z.2.1))) rfl
          · refine am_ff (show ¬ (w.1 14 a : Int32) = 0 from h1) ?_
            exact am_kl (no (neg (fun z => h1 z.1))) rfl
      exact am_kl (key2 (q - (a + 1)) (a + 1) (by omega) (by omega) (fun i hi => by rw [decide_eq_false (by omega)]; rfl)) rfl
  exact am_kl (key q 0 (by omega) (fun i hi => absurd hi (Nat.not_lt_zero i))) rfl
set_option maxHeartbeats 2000000 in
theorem m_begins {d q W : Nat} {V : Wd} {P : Nat → Pr} {w : am_M} (hd : 2 ≤ d) (hV : mV w V W) (hq : w.1 0 14 = nI q) (hq8 : q ≤ 8) (hP : ∀ p, p < q → mPr w p (P p) ∧ Pok (P p)) : ∃ o : am_O, (o.1 = none ∧ am_fx [13, 14, 15, 17, 19, 20] [28, 29, 30] w o.2 ∧ (∀ p, p < q → mQ o.2 p (beginS V (P p)) ∧ ∀ j, j < 2 → o.2.1 19 (2 * p + j) = -1) ∧ (∀ l, l < 8 → o.2.1 20 l = 0) ∧ o.2.1 0 28 = -1 ∧ o.2.1 0 29 = -1 ∧ o.2.1 0 30 = -1) ∧ am_D shM d mi_X12_begins [.ref 0] w o := by
  have hVok : Vok V := hV.2.2.2.2.2.1
  have hn36 := hVok.1
  have last : ∀ j i : Nat, i + j = 8 → ∀ m : am_M, am_fx [13, 14, 15, 17, 19, 20] [28, 29, 30] w m → (∀ p, p < q → mQ m p (beginS V (P p)) ∧ ∀ j, j < 2 → m.1 19 (2 * p + j) = -1) → (∀ l, l < i → m.1 20 l = 0) → am_R shM mi_X12_begins (am_D shM (d - 1)) (fun o => (o.1 = none ∧ am_fx [13, 14, 15, 17, 19, 20] [28, 29, 30] w o.2 ∧ (∀ p, p < q → mQ o.2 p (beginS V (P p)) ∧ ∀ j, j < 2 → o.2.1 19 (2 * p + j) = -1) ∧ (∀ l, l < 8 → o.2.1 20 l = 0) ∧ o.2.1 0 28 = -1 ∧ o.2.1 0 29 = -1 ∧ o.2.1 0 30 = -1)) 130 [(0, .ref 0), (1, .int (nI i))] [] m := by
    intro j
    induction j with
    | zero =>
      intro i hi m hm hA hB
      refine am_go rfl ?_
      iterate 2 refine am_g0 rfl rfl ?_
      refine am_tt (show (8 : Int32) ≤ (nI i) from nI_le (a := 8) (by omega) (by omega)) ?_
      refine am_go rfl ?_
      iterate 9 refine am_g0 rfl rfl ?_
      refine ⟨rfl, rfl, ((hm.p0 (by decide)).p0 (by decide)).p0 (by decide), fun p hp => ?_, fun l hl => ?_, rfl, rfl, rfl⟩
      · have e : ∀ a, a ≠ 0 → (am_pi (am_pi (am_pi m 0 28 (-1)) 0 29 (-1)) 0 30 (-1)).1 a = m.1 a := fun a ha => by rw [am_pi_row ha, am_pi_row ha, am_pi_row ha]
        show mQ (am_pi (am_pi (am_pi m 0 28 (-1)) 0 29 (-1)) 0 30 (-1)) p _ ∧ ∀ j, j < 2 → (am_pi (am_pi (am_pi m 0 28 (-1)) 0 29 (-1)) 0 30 (-1)).1 19 (2 * p + j) = -1
        unfold mQ
        rw [e 13 (by omega), e 14 (by omega), e 15 (by omega), e 17 (by omega), e 19 (by omega)]
        exact hA p hp
      · show (am_pi (am_pi (am_pi m 0 28 (-1)) 0 29 (-1)) 0 30 (-1)).1 20 l = 0
        rw [am_pi_row (by omega), am_pi_row (by omega), am_pi_row (by omega)]
        exact hB l (by omega)
    | succ j ih =>
      intro i hi m hm hA hB
      refine am_go rfl ?_
      iterate 2 refine am_g0 rfl rfl ?_
      refine am_ff (show ¬ (8 : Int32) ≤ (nI i) from nI_ge (b := 8) (by omega) (by omega)) ?_
      iterate 4 refine am_g0 rfl rfl ?_
      refine am_gsN (n := 8) (k := i) rfl rfl (by omega) (by decide) ?_
      refine am_to (lv' := [(0, .ref 0), (1, .int (nI i))]) (st' := []) (w' := am_pi m 20 i 0) rfl rfl rfl ?_
      iterate 2 refine am_g0 rfl rfl ?_
      have hA' : ∀ p, p < q → mQ (am_pi m 20 i 0) p (beginS V (P p)) ∧ ∀ j, j < 2 → (am_pi m 20 i 0).1 19 (2 * p + j) = -1 := by
        intro p hp
        unfold mQ
        rw [am_pi_row (by omega), am_pi_row (by omega), am_pi_row (by omega), am_pi_row (by omega), am_pi_row (by omega)]
        exact hA p hp
      have this := ih (i + 1) (by omega) (am_pi m 20 i 0) (hm.pc (by decide) (by decide)) hA' (fun l hl => if e : l = i then by rw [e, am_pi_at] else by rw [am_pi_ne (Or.inr e)]; exact hB l (by omega))
      rw [← nI_1] at this
      exact am_kl this rfl
  refine am_dex (by omega) rfl rfl ?_
  iterate 2 refine am_g0 rfl rfl ?_
  have key : ∀ j i : Nat, i + j = q → ∀ m : am_M, am_fx [13, 14, 15, 17, 19, 20] [28, 29, 30] w m → (∀ p, p < i → mQ m p (beginS V (P p)) ∧ ∀ j, j < 2 → m.1 19 (2 * p + j) = -1) → am_R shM mi_X12_begins (am_D shM (d - 1)) (fun o => (o.1 = none ∧ am_fx [13, 14, 15, 17, 19, 20] [28, 29, 30] w o.2 ∧ (∀ p, p < q → mQ o.2 p (beginS V (P p)) ∧ ∀ j, j < 2 → o.2.1 19 (2 * p + j) = -1) ∧ (∀ l, l < 8 → o.2.1 20 l = 0) ∧ o.2.1 0 28 = -1 ∧ o.2.1 0 29 = -1 ∧ o.2.1 0 30 = -1)) 2 [(0, .ref 0), (1, .int (nI i))] [] m := by
    intro j
    induction j with
    | zero =>
      intro i hi m hm hA
      refine am_go rfl ?_
      iterate 3 refine am_g0 rfl rfl ?_
      refine am_tt (show (m.1 0 14 : Int32) ≤ (nI i) from by rw [hm.2.1 14 (by decide), hq]; exact nI_le (by omega) (by omega)) ?_
      refine am_go rfl ?_
      refine am_g0 rfl rfl ?_
      exact am_kl (last 8 0 (by omega) m hm (fun p hp => hA p (by omega)) (fun l hl => absurd hl (Nat.not_lt_zero l))) rfl
    | succ j ih =>
      intro i hi m hm hA
      have hm14 : m.1 0 14 = nI q := by rw [hm.2.1 14 (by decide)]; exact hq
      obtain ⟨hPi, hPk⟩ := hP i (by omega)
      have hVm : mV m V W := hV.fr (fun j hj => hm.2.1 j (by rcases hj with z | z | z <;> (rw [z]; decide))) (fun a h1 h2 => hm.1 a (by simp; omega) (by omega))
      have hc : m.1 11 (5 * i) = nI (P i).1 := by rw [hm.1 11 (by decide) (by decide)]; exact hPi.1
      have hc40 := hPk.1
      obtain ⟨c, hcc⟩ : ∃ c, c = (P i).1 := ⟨_, rfl⟩
      rw [← hcc] at hc hc40
      -- what stands before settling
      have upd : ∀ (x : Int32) (st : Nat), beginS V (P i) = (c, st, 0, 0, 0) → plc (c, st, 0, 0, 0) = x → ∀ u : am_M, am_fx [13, 14, 15, 17, 19, 20] [28, 29, 30] w u → (∀ p, p ≠ i → ∀ a, a = 13 ∨ a = 14 ∨ a = 15 → u.1 a p = m.1 a p) → (∀ a e, a = 17 ∨ a = 19 → e ≠ 2 * i → e ≠ 2 * i + 1 → u.1 a e = m.1 a e) → u.1 13 i = x → u.1 14 i = nI st → u.1 15 i = 0 → u.1 17 (2 * i) = 0 → u.1 17 (2 * i + 1) = 0 → u.1 19 (2 * i) = -1 → u.1 19 (2 * i + 1) = -1 → am_R shM mi_X12_begins (am_D shM (d - 1)) (fun o => (o.1 = none ∧ am_fx [13, 14, 15, 17, 19, 20] [28, 29, 30] w o.2 ∧ (∀ p, p < q → mQ o.2 p (beginS V (P p)) ∧ ∀ j, j < 2 → o.2.1 19 (2 * p + j) = -1) ∧ (∀ l, l < 8 → o.2.1 20 l = 0) ∧ o.2.1 0 28 = -1 ∧ o.2.1 0 29 = -1 ∧ o.2.1 0 30 = -1)) 122 [(0, .ref 0), (1, .int (nI i))] [] u := by
        intro x st hB hx u hu u1 u2 a1 a2 a3 a4 a5 a6 a7
        refine am_go rfl ?_
        refine am_g0 rfl rfl ?_
        have this := ih (i + 1) (by omega) u hu (fun p hp => ?_)
        · rw [← nI_1 i] at this
          exact am_kl this rfl
        · by_cases e : p = i
          · subst e
            rw [hB]
            refine ⟨⟨by rw [a1, hx], a2, a3, a4, a5⟩, fun j hj => ?_⟩
            match j, hj with
            | 0, _ => exact a6
            | 1, _ => exact a7
          · obtain ⟨⟨b1, b2, b3, b4, b5⟩, b6⟩ := hA p (by omega)
            exact ⟨⟨by rw [u1 p e 13 (by omega)]; exact b1, by rw [u1 p e 14 (by omega)]; exact b2, by rw [u1 p e 15 (by omega)]; exact b3, by rw [u2 17 _ (by omega) (by omega) (by omega)]; exact b4, by rw [u2 17 _ (by omega) (by omega) (by omega)]; exact b5⟩, fun j hj => by rw [u2 19 _ (by omega) (by omega) (by omega)]; exact b6 j hj⟩
      have all : ∀ y : Int32, ∃ u : am_M, u = am_pi (am_pi (am_pi (am_pi (am_pi (am_pi (am_pi m 13 i y) 14 i 3) 15 i 0) 17 (2 * i) 0) 17 (2 * i + 1) 0) 19 (2 * i) (-1)) 19 (2 * i + 1) (-1) ∧ am_fx [13, 14, 15, 17, 19, 20] [28, 29, 30] w u ∧ (∀ p, p ≠ i → ∀ a, a = 13 ∨ a = 14 ∨ a = 15 → u.1 a p = m.1 a p) ∧ (∀ a e, a = 17 ∨ a = 19 → e ≠ 2 * i → e ≠ 2 * i + 1 → u.1 a e = m.1 a e) ∧ u.1 13 i = y ∧ u.1 14 i = 3 ∧ u.1 15 i = 0 ∧ u.1 17 (2 * i) = 0 ∧ u.1 17 (2 * i + 1) = 0 ∧ u.1 19 (2 * i) = -1 ∧ u.1 19 (2 * i + 1) = -1 := by
        intro y
        refine ⟨_, rfl, ((((((hm.pc (by decide) (by decide)).pc (by decide) (by decide)).pc (by decide) (by decide)).pc (by decide) (by decide)).pc (by decide) (by decide)).pc (by decide) (by decide)).pc (by decide) (by decide), fun p hp a ha => ?_, fun a e ha h1 h2 => ?_, ?_, ?_, ?_, ?_, ?_, ?_, ?_⟩
        · rw [am_pi_ne (Or.inl (by omega)), am_pi_ne (Or.inl (by omega)), am_pi_ne (Or.inl (by omega)), am_pi_ne (Or.inl (by omega)), am_pi_ne (Or.inr hp), am_pi_ne (Or.inr hp), am_pi_ne (Or.inr hp)]
        · rw [am_pi_ne (Or.inr h2), am_pi_ne (Or.inr h1), am_pi_ne (Or.inr h2), am_pi_ne (Or.inr h1), am_pi_ne (Or.inl (by omega)), am_pi_ne (Or.inl (by omega)), am_pi_ne (Or.inl (by omega))]
        · rw [am_pi_row (by omega), am_pi_row (by omega), am_pi_row (by omega), am_pi_row (by omega), am_pi_row (by omega), am_pi_row (by omega), am_pi_at]
        · rw [am_pi_row (by omega), am_pi_row (by omega), am_pi_row (by omega), am_pi_row (by omega), am_pi_row (by omega), am_pi_at]
        · rw [am_pi_row (by omega), am_pi_row (by omega), am_pi_row (by omega), am_pi_row (by omega), am_pi_at]
        · rw [am_pi_row (by omega), am_pi_row (by omega), am_pi_ne (Or.inr (by omega)), am_pi_at]
        · rw [am_pi_row (by omega), am_pi_row (by omega), am_pi_at]
        · rw [am_pi_ne (Or.inr (by omega)), am_pi_at]
        · rw [am_pi_at]
      have i2 : (2 : Int32) * nI i = nI (2 * i) := pk_mul 2 i
      refine am_go rfl ?_
      iterate 3 refine am_g0 rfl rfl ?_
      refine am_ff (show ¬ (m.1 0 14 : Int32) ≤ (nI i) from by rw [hm14]; exact nI_ge (by omega) (by omega)) ?_
      iterate 5 refine am_g0 rfl rfl ?_
      refine am_glE (n := 40) (k := 5 * i) rfl rfl (pk_mul 5 i) (by omega) (by decide) ?_
      refine am_top (y := nI c) (hc) ?_
      iterate 5 refine am_g0 rfl rfl ?_
      have off : ¬ (c < V.1 ∧ V.2.1 c ≠ 1) → am_R shM mi_X12_begins (am_D shM (d - 1)) (fun o => (o.1 = none ∧ am_fx [13, 14, 15, 17, 19, 20] [28, 29, 30] w o.2 ∧ (∀ p, p < q → mQ o.2 p (beginS V (P p)) ∧ ∀ j, j < 2 → o.2.1 19 (2 * p + j) = -1) ∧ (∀ l, l < 8 → o.2.1 20 l = 0) ∧ o.2.1 0 28 = -1 ∧ o.2.1 0 29 = -1 ∧ o.2.1 0 30 = -1)) 42 [(0, .ref 0), (1, .int (nI i)), (2, .int (nI c))] [.int 0] m := by
        intro hno
        obtain ⟨u, hu, fu, u1, u2, a1, a2, a3, a4, a5, a6, a7⟩ := all (-1)
        refine am_go rfl ?_
        iterate 5 refine am_g0 rfl rfl ?_
        refine am_go rfl ?_
        refine am_gsN (n := 8) (k := i) rfl rfl (by omega) (by decide) ?_
        refine am_to (lv' := [(0, .ref 0), (1, .int (nI i)), (3, .int 0)]) (st' := []) (w' := am_pi m 13 i (-1)) rfl rfl rfl ?_
        iterate 4 refine am_g0 rfl rfl ?_
        refine am_gsN (n := 8) (k := i) rfl rfl (by omega) (by decide) ?_
        refine am_to (lv' := [(0, .ref 0), (1, .int (nI i)), (3, .int 0)]) (st' := []) (w' := am_pi (am_pi m 13 i (-1)) 14 i 3) rfl rfl rfl ?_
        iterate 4 refine am_g0 rfl rfl ?_
        refine am_gsN (n := 8) (k := i) rfl rfl (by omega) (by decide) ?_
        refine am_to (lv' := [(0, .ref 0), (1, .int (nI i)), (3, .int 0)]) (st' := []) (w' := am_pi (am_pi (am_pi m 13 i (-1)) 14 i 3) 15 i 0) rfl rfl rfl ?_
        iterate 6 refine am_g0 rfl rfl ?_
        refine am_gsE (n := 16) (k := 2 * i) rfl rfl (i2) (by omega) (by decide) ?_
        refine am_to (lv' := [(0, .ref 0), (1, .int (nI i)), (3, .int 0)]) (st' := []) (w' := am_pi (am_pi (am_pi (am_pi m 13 i (-1)) 14 i 3) 15 i 0) 17 (2 * i) 0) rfl rfl rfl ?_
        iterate 8 refine am_g0 rfl rfl ?_
        refine am_gsE (n := 16) (k := 2 * i + 1) rfl rfl (ix2 i 1) (by omega) (by decide) ?_
        refine am_to (lv' := [(0, .ref 0), (1, .int (nI i)), (3, .int 0)]) (st' := []) (w' := am_pi (am_pi (am_pi (am_pi (am_pi m 13 i (-1)) 14 i 3) 15 i 0) 17 (2 * i) 0) 17 (2 * i + 1) 0) rfl rfl rfl ?_
        iterate 6 refine am_g0 rfl rfl ?_
        refine am_gsE (n := 16) (k := 2 * i) rfl rfl (i2) (by omega) (by decide) ?_
        refine am_to (lv' := [(0, .ref 0), (1, .int (nI i)), (3, .int 0)]) (st' := []) (w' := am_pi (am_pi (am_pi (am_pi (am_pi (am_pi m 13 i (-1)) 14 i 3) 15 i 0) 17 (2 * i) 0) 17 (2 * i + 1) 0) 19 (2 * i) (-1)) rfl rfl rfl ?_
        iterate 8 refine am_g0 rfl rfl ?_
        refine am_gsE (n := 16) (k := 2 * i + 1) rfl rfl (ix2 i 1) (by omega) (by decide) ?_
        refine am_to (lv' := [(0, .ref 0), (1, .int (nI i)), (3, .int 0)]) (st' := []) (w' := am_pi (am_pi (am_pi (am_pi (am_pi (am_pi (am_pi m 13 i (-1)) 14 i 3) 15 i 0) 17 (2 * i) 0) 17 (2 * i + 1) 0) 19 (2 * i) (-1)) 19 (2 * i + 1) (-1)) rfl rfl rfl ?_
        refine am_wm (w' := u) (hu.symm) ?_
        iterate 2 refine am_g0 rfl rfl ?_
        have hB : beginS V (P i) = (c, 3, 0, 0, 0) := by
          unfold beginS
          rw [← hcc]
          by_cases hcV : c < V.1
          · rw [if_pos hcV]
            have : V.2.1 c = 1 := Decidable.byContradiction fun z => hno ⟨hcV, z⟩
            rw [this]
            rfl
          · rw [if_neg hcV]
        exact am_kl (upd (-1) 3 hB rfl u fu u1 u2 a1 a2 a3 a4 a5 a6 a7) rfl
      by_cases hcV : c < V.1
      · refine am_ff (show ¬ (m.1 0 7 : Int32) ≤ (nI c) from by rw [hVm.1.1]; exact nI_ge hcV (by omega)) ?_
        iterate 3 refine am_g0 rfl rfl ?_
        refine am_glN (n := 36) (k := c) rfl rfl (by omega) (by decide) ?_
        refine am_top (y := nI (V.2.1 c)) (hVm.1.2.2 c hcV) ?_
        iterate 2 refine am_g0 rfl rfl ?_
        have hK4 := hVok.2.1 c hcV
        by_cases hK1 : V.2.1 c = 1
        · refine am_tt (show (nI (V.2.1 c) : Int32) = 1 from by rw [hK1]; rfl) ?_
          refine am_go rfl ?_
          exact am_kl (off (fun z => z.2 hK1)) rfl
        · obtain ⟨u, hu, fu, u1, u2, a1, a2, a3, a4, a5, a6, a7⟩ := all (nI c)
          have hVu : mV u V W := hV.fr (fun j hj => fu.2.1 j (by rcases hj with z | z | z <;> (rw [z]; decide))) (fun a h1 h2 => fu.1 a (by simp; omega) (by omega))
          have hst3 := stOf_3' hK4 hK1
          refine am_ff (show ¬ (nI (V.2.1 c) : Int32) = 1 from nne (b := 1) hK1 (by omega) (by omega)) ?_
          iterate 2 refine am_g0 rfl rfl ?_
          refine am_go rfl ?_
          iterate 7 refine am_g0 rfl rfl ?_
          refine am_gsN (n := 8) (k := i) rfl rfl (by omega) (by decide) ?_
          refine am_to (lv' := [(0, .ref 0), (1, .int (nI i)), (3, .int 1)]) (st' := []) (w' := am_pi m 13 i (nI c)) rfl rfl rfl ?_
          iterate 4 refine am_g0 rfl rfl ?_
          refine am_gsN (n := 8) (k := i) rfl rfl (by omega) (by decide) ?_
          refine am_to (lv' := [(0, .ref 0), (1, .int (nI i)), (3, .int 1)]) (st' := []) (w' := am_pi (am_pi m 13 i (nI c)) 14 i 3) rfl rfl rfl ?_
          iterate 4 refine am_g0 rfl rfl ?_
          refine am_gsN (n := 8) (k := i) rfl rfl (by omega) (by decide) ?_
          refine am_to (lv' := [(0, .ref 0), (1, .int (nI i)), (3, .int 1)]) (st' := []) (w' := am_pi (am_pi (am_pi m 13 i (nI c)) 14 i 3) 15 i 0) rfl rfl rfl ?_
          iterate 6 refine am_g0 rfl rfl ?_
          refine am_gsE (n := 16) (k := 2 * i) rfl rfl (i2) (by omega) (by decide) ?_
          refine am_to (lv' := [(0, .ref 0), (1, .int (nI i)), (3, .int 1)]) (st' := []) (w' := am_pi (am_pi (am_pi (am_pi m 13 i (nI c)) 14 i 3) 15 i 0) 17 (2 * i) 0) rfl rfl rfl ?_
          iterate 8 refine am_g0 rfl rfl ?_
          refine am_gsE (n := 16) (k := 2 * i + 1) rfl rfl (ix2 i 1) (by omega) (by decide) ?_
          refine am_to (lv' := [(0, .ref 0), (1, .int (nI i)), (3, .int 1)]) (st' := []) (w' := am_pi (am_pi (am_pi (am_pi (am_pi m 13 i (nI c)) 14 i 3) 15 i 0) 17 (2 * i) 0) 17 (2 * i + 1) 0) rfl rfl rfl ?_
          iterate 6 refine am_g0 rfl rfl ?_
          refine am_gsE (n := 16) (k := 2 * i) rfl rfl (i2) (by omega) (by decide) ?_
          refine am_to (lv' := [(0, .ref 0), (1, .int (nI i)), (3, .int 1)]) (st' := []) (w' := am_pi (am_pi (am_pi (am_pi (am_pi (am_pi m 13 i (nI c)) 14 i 3) 15 i 0) 17 (2 * i) 0) 17 (2 * i + 1) 0) 19 (2 * i) (-1)) rfl rfl rfl ?_
          iterate 8 refine am_g0 rfl rfl ?_
          refine am_gsE (n := 16) (k := 2 * i + 1) rfl rfl (ix2 i 1) (by omega) (by decide) ?_
          refine am_to (lv' := [(0, .ref 0), (1, .int (nI i)), (3, .int 1)]) (st' := []) (w' := am_pi (am_pi (am_pi (am_pi (am_pi (am_pi (am_pi m 13 i (nI c)) 14 i 3) 15 i 0) 17 (2 * i) 0) 17 (2 * i + 1) 0) 19 (2 * i) (-1)) 19 (2 * i + 1) (-1)) rfl rfl rfl ?_
          refine am_wm (w' := u) (hu.symm) ?_
          iterate 6 refine am_g0 rfl rfl ?_
          refine ⟨(none, am_pi u 14 i (nI (stOf (V.2.1 c)))), by rw [← mSet_n]; exact m_settles (d := d - 1) (by omega) hVu.1 hn36 hcV hK4 hK1 (by omega) a1, ?_⟩
          refine am_to (lv' := [(0, .ref 0), (1, .int (nI i)), (3, .int 1)]) (st' := []) (w' := am_pi u 14 i (nI (stOf (V.2.1 c)))) rfl rfl rfl ?_
          have hB : beginS V (P i) = (c, stOf (V.2.1 c), 0, 0, 0) := by unfold beginS; rw [← hcc, if_pos hcV]
          have hpl : plc (c, stOf (V.2.1 c), 0, 0, 0) = nI c := by unfold plc; rw [if_neg (show ¬ stOf (V.2.1 c) = 3 by omega)]
          exact am_kl (upd (nI c) _ hB hpl (am_pi u 14 i (nI (stOf (V.2.1 c)))) (fu.pc (by decide) (by decide)) (fun p hp a ha => by rw [am_pi_ne (Or.inr hp)]; exact u1 p hp a ha) (fun a e ha h1 h2 => by rw [am_pi_ne (Or.inl (by omega))]; exact u2 a e ha h1 h2) (by rw [am_pi_row (by omega)]; exact a1) (am_pi_at _ _ _ _) (by rw [am_pi_row (by omega)]; exact a3) (by rw [am_pi_row (by omega)]; exact a4) (by rw [am_pi_row (by omega)]; exact a5) (by rw [am_pi_row (by omega)]; exact a6) (by rw [am_pi_row (by omega)]; exact a7)) rfl
      · refine am_tt (show (m.1 0 7 : Int32) ≤ (nI c) from by rw [hVm.1.1]; exact nI_le (by omega) (by omega)) ?_
        refine am_go rfl ?_
        exact am_kl (off (fun z => hcV z.1)) rfl
  exact am_kl (key q 0 (by omega) w am_fx.rf (fun p hp => absurd hp (Nat.not_lt_zero p))) rfl
