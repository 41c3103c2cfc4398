/-! a walk till its end; things seen -/
/-- how many steps one walks of the first k -/
def stopAt (V : Wd) (P : Pr) (wet : Nat → Bool) : Nat → Nat
  | 0 => 0
  | k + 1 => if (lifeQ V P wet (stopAt V P wet k)).2.1 = 0 then stopAt V P wet k + 1 else stopAt V P wet k
theorem stopAt_stay {V : Wd} {P : Pr} {wet : Nat → Bool} {s : Nat} (h : stopAt V P wet s = s) (hz : (lifeQ V P wet s).2.1 ≠ 0) : ∀ k, stopAt V P wet (s + k) = s
  | 0 => h
  | k + 1 => by
    rw [show s + (k + 1) = (s + k) + 1 by omega, stopAt, stopAt_stay h hz k, if_neg hz]
/-- behind its end one stays as one is -/
theorem life_stay {V : Wd} {P : Pr} {wet : Nat → Bool} {s : Nat} (hz : (lifeQ V P wet s).2.1 ≠ 0) : ∀ k, lifeQ V P wet (s + k) = lifeQ V P wet s
  | 0 => rfl
  | k + 1 => by
    rw [show s + (k + 1) = (s + k) + 1 by omega, lifeQ, life_stay hz k]
    unfold goS
    rw [if_pos hz]
theorem life_stop (V : Wd) (P : Pr) (wet : Nat → Bool) : ∀ k, lifeQ V P wet (stopAt V P wet k) = lifeQ V P wet k ∧ stopAt V P wet k ≤ k ∧ (stopAt V P wet k ≠ k → (lifeQ V P wet (stopAt V P wet k)).2.1 ≠ 0)
  | 0 => ⟨rfl, Nat.le_refl _, fun h => absurd rfl h⟩
  | k + 1 => by
    obtain ⟨h1, h2, h3⟩ := life_stop V P wet k
    rw [stopAt]
    by_cases hz : (lifeQ V P wet (stopAt V P wet k)).2.1 = 0
    · have e : stopAt V P wet k = k := Decidable.byContradiction fun z => h3 z hz
      rw [if_pos hz, e]
      exact ⟨rfl, Nat.le_refl _, fun z => absurd rfl z⟩
    · rw [if_neg hz]
      refine ⟨?_, by omega, fun _ => hz⟩
      rw [h1]
      rw [h1] at hz
      exact (life_stay hz 1).symm
set_option maxHeartbeats 4000000 in
theorem d_walk {d e : Nat} {V : Wd} {P : Pr} {x : Int32} {w : am_M} (hd : 3 ≤ d) (hV : cV w V) (hP : wkP (w.1 52) P) (hPb : Pok P) (he : e ≤ 30) : ∃ o : am_O, (o.1 = some (.int (nI (stopAt V P (wetB x) e) - 1)) ∧ am_fr 52 w o.2 ∧ wkP (o.2.1 52) P ∧ ∃ b, wkQ (o.2.1 52) (lifeQ V P (wetB x) (stopAt V P (wetB x) e)) b) ∧ am_D shC d mi_X10_walk [.ref 52, .int x, .int (nI e)] w o := by
  have hg := hV.good
  refine am_dex (by omega) rfl rfl ?_
  iterate 2 refine am_g0 rfl rfl ?_
  obtain ⟨⟨r1, w1⟩, ⟨e1, f1, g1, g2⟩, hD⟩ := d_begin_52 (d := d - 1) (by omega) hV hP hPb.1
  dsimp only at e1 f1 g1 g2
  subst e1
  refine ⟨(none, w1), hD, ?_⟩
  refine am_to (lv' := [(0, .ref 52), (1, .int x), (2, .int (nI e))]) (st' := []) (w' := w1) rfl rfl rfl ?_
  iterate 2 refine am_g0 rfl rfl ?_
  have key : ∀ j s : Nat, s + j = e → ∀ m : am_M, am_fr 52 w m → wkP (m.1 52) P → (∃ bo, wkQ (m.1 52) (lifeQ V P (wetB x) s) bo) → stopAt V P (wetB x) s = s → am_R shC mi_X10_walk (am_D shC (d - 1)) (fun o => o.1 = some (.int (nI (stopAt V P (wetB x) e) - 1)) ∧ am_fr 52 w o.2 ∧ wkP (o.2.1 52) P ∧ ∃ b, wkQ (o.2.1 52) (lifeQ V P (wetB x) (stopAt V P (wetB x) e)) b) 6 [(0, .ref 52), (1, .int x), (2, .int (nI e)), (3, .int (nI s))] [] m := by
    intro j
    induction j with
    | zero =>
      intro s hs m hf hp hq hst
      have e9 : s = e := by omega
      refine am_go rfl ?_
      iterate 2 refine am_g0 rfl rfl ?_
      refine am_tt (show nI e ≤ nI s from nI_le (by omega) (by omega)) ?_
      refine am_go rfl ?_
      iterate 3 refine am_g0 rfl rfl ?_
      subst e9
      rw [hst]
      exact ⟨rfl, rfl, hf, hp, hq⟩
    | succ j ih =>
      intro s hs m hf hp hq hst
      obtain ⟨bo, hq⟩ := hq
      have hlow : ∀ a, a < 16 → m.1 a = w.1 a := fun a ha => hf.1 a (by omega)
      have hqo := qok_life (V := V) (P := P) (wetB x) hg hPb s
      have hs8 : m.1 52 8 = nI (lifeQ V P (wetB x) s).2.1 := hq.2.1
      refine am_go rfl ?_
      iterate 2 refine am_g0 rfl rfl ?_
      refine am_ff (show ¬ nI e ≤ nI s from nI_ge (by omega) (by omega)) ?_
      refine am_to (lv' := [(0, .ref 52), (1, .int x), (2, .int (nI e)), (3, .int (nI s))]) (st' := []) (w' := m) rfl rfl rfl ?_
      iterate 3 refine am_g0 rfl rfl ?_
      by_cases hz : (lifeQ V P (wetB x) s).2.1 = 0
      · refine am_tt (show m.1 52 8 = 0 by rw [hs8, hz]; rfl) ?_
        iterate 5 refine am_g0 rfl rfl ?_
        refine ⟨(some (.int (if wetB x s then 1 else 0)), m), (by
          have h9 := d_isBitOf shC (d := d - 1) (by omega) x (nI s) m
          have e9 : (if (x >>> (nI s &&& 31)) &&& 1 = 0 then (0 : Int32) else 1) = (if wetB x s then 1 else 0) := by
            unfold wetB
            by_cases z : (x >>> (nI s &&& 31)) &&& 1 = 0
            · simp [z]
            · simp [z]
          rw [e9] at h9
          exact h9), ?_⟩
        refine am_g0 rfl rfl ?_
        obtain ⟨⟨r2, w2⟩, ⟨e2, f2, g3, g4⟩, hD2⟩ := d_go_52 (d := d - 1) (r := wetB x s) (by omega) (hV.fr hlow) hp hPb hq hqo (by omega)
        dsimp only at e2 f2 g3 g4
        subst e2
        refine ⟨(none, w2), hD2, ?_⟩
        refine am_to (lv' := [(0, .ref 52), (1, .int x), (2, .int (nI e)), (3, .int (nI s))]) (st' := []) (w' := w2) rfl rfl rfl ?_
        iterate 2 refine am_g0 rfl rfl ?_
        have := ih (s + 1) (by omega) w2 (hf.tr f2) g3 ⟨_, g4⟩ (by rw [stopAt, hst, if_pos hz])
        rw [← nI_1] at this
        exact this
      · refine am_ff (show ¬ m.1 52 8 = 0 by rw [hs8]; exact nI_ne0 (by omega) (by have := hqo.1; omega)) ?_
        refine am_go rfl ?_
        iterate 3 refine am_g0 rfl rfl ?_
        have e9 : stopAt V P (wetB x) e = s := by
          rw [← hs]
          exact stopAt_stay hst hz (j + 1)
        rw [e9]
        exact ⟨rfl, rfl, hf, hp, bo, hq⟩
  exact am_kl (key e 0 (by omega) w1 f1 g1 ⟨none, g2⟩ rfl) rfl
/-! things seen -/
def cSeen (w : am_M) (n : Nat) (st pe ce : Nat → Nat) : Prop := w.1 20 3 = nI n ∧ n ≤ 8 ∧ ∀ i, i < n → w.1 21 i = nI (st i) ∧ st i < 30 ∧ w.1 22 i = nI (pe i) ∧ pe i < 8 ∧ w.1 23 i = nI (ce i) ∧ ce i < 36
theorem cSeen.fr {w w' : am_M} {n : Nat} {st pe ce : Nat → Nat} (h : cSeen w n st pe ce) (e : ∀ a, 20 ≤ a → a < 24 → w'.1 a = w.1 a) : cSeen w' n st pe ce := by
  obtain ⟨h1, h2, h3⟩ := h
  exact ⟨by rw [e 20 (by omega) (by omega)]; exact h1, h2, fun i hi => by rw [e 21 (by omega) (by omega), e 22 (by omega) (by omega), e 23 (by omega) (by omega)]; exact h3 i hi⟩
def allB (f : Nat → Bool) : Nat → Bool
  | 0 => true
  | n + 1 => allB f n && f n
theorem allB_t {f : Nat → Bool} : ∀ {n : Nat}, allB f n = true ↔ ∀ i, i < n → f i = true
  | 0 => ⟨fun _ i hi => absurd hi (Nat.not_lt_zero i), fun _ => rfl⟩
  | n + 1 => by
    simp only [allB, Bool.and_eq_true, allB_t (n := n)]
    exact ⟨fun ⟨h1, h2⟩ i hi => (Nat.lt_or_ge i n).elim (h1 i) (fun z => by rw [show i = n by omega]; exact h2), fun h => ⟨fun i hi => h i (by omega), h n (by omega)⟩⟩
theorem allB_f {f : Nat → Bool} {n i : Nat} (hi : i < n) (h : f i = false) : allB f n = false := by
  cases hz : allB f n with
  | false => rfl
  | true => rw [allB_t.mp hz i hi] at h; cases h
def b01 (b : Bool) : Int32 := if b then 1 else 0
theorem d_haveNobody {d n q : Nat} {st pe ce : Nat → Nat} {w : am_M} (hd : 1 ≤ d) (hS : cSeen w n st pe ce) (hq : q ≤ 8) : am_D shC d mi_X5_haveNobody [.ref 20, .int (nI q)] w (some (.int (b01 (!allB (fun i => decide (pe i < q)) n))), w) := by
  obtain ⟨h1, h2, h3⟩ := hS
  refine am_def (by omega) rfl rfl ?_
  iterate 2 refine am_g0 rfl rfl ?_
  have key : ∀ j s : Nat, s + j = n → (∀ i, i < s → pe i < q) → am_R shC mi_X5_haveNobody (am_D shC (d - 1)) (fun r => r = (some (.int (b01 (!allB (fun i => decide (pe i < q)) n))), w)) 2 [(0, .ref 20), (1, .int (nI q)), (2, .int (nI s))] [] w := by
    intro j
    induction j with
    | zero =>
      intro s hs hall
      refine am_go rfl ?_
      iterate 3 refine am_g0 rfl rfl ?_
      refine am_tt (show w.1 20 3 ≤ nI s by rw [h1]; exact nI_le (by omega) (by omega)) ?_
      refine am_go rfl ?_
      refine am_g0 rfl rfl ?_
      refine ⟨rfl, ?_⟩
      rw [allB_t.mpr (fun i hi => decide_eq_true (hall i (by omega)))]
      rfl
    | succ j ih =>
      intro s hs hall
      obtain ⟨s1, s2, s3, s4, s5, s6⟩ := h3 s (by omega)
      refine am_go rfl ?_
      iterate 3 refine am_g0 rfl rfl ?_
      refine am_ff (show ¬ w.1 20 3 ≤ nI s by rw [h1]; exact nI_ge (by omega) (by omega)) ?_
      iterate 3 refine am_g0 rfl rfl ?_
      refine am_glN (n := 8) rfl rfl (by omega) (by decide) ?_
      rw [s3]
      iterate 2 refine am_g0 rfl rfl ?_
      by_cases h : pe s < q
      · refine am_tt (nI_lt h (by omega)) ?_
        refine am_go rfl ?_
        refine am_g0 rfl rfl ?_
        have := ih (s + 1) (by omega) (fun i hi => (Nat.lt_or_ge i s).elim (hall i) (fun z => by rw [show i = s by omega]; exact h))
        rw [← nI_1] at this
        exact this
      · refine am_ff (nI_nlt (by omega) (by omega)) ?_
        iterate 2 refine am_g0 rfl rfl ?_
        refine ⟨rfl, ?_⟩
        rw [allB_f (i := s) (by omega) (decide_eq_false h)]
        rfl
  exact key n 0 (by omega) (fun i hi => absurd hi (Nat.not_lt_zero i))
/-- all that was seen of person p comes out so in a row F -/
def holdS (n : Nat) (st pe ce : Nat → Nat) (p : Nat) (F : Nat → Int32) : Bool := allB (fun i => decide (pe i = p → F (st i) = nI (ce i))) n
theorem d_holdFor {d n T R p : Nat} {st pe ce : Nat → Nat} {w : am_M} (hd : 2 ≤ d) (hS : cSeen w n st pe ce) (hp : p < 8) (hT : am_isb shC T 9 = true) (hR : am_tg shC T 0 = some R) (hL : am_ln shC R = some 120) : am_D shC d mi_X5_holdFor [.ref 20, .int (nI p), .ref T] w (some (.int (b01 (holdS n st pe ce p (w.1 R)))), w) := by
  obtain ⟨h1, h2, h3⟩ := hS
  refine am_def (by omega) rfl rfl ?_
  iterate 2 refine am_g0 rfl rfl ?_
  have key : ∀ j s : Nat, s + j = n → (∀ i, i < s → pe i = p → w.1 R (st i) = nI (ce i)) → am_R shC mi_X5_holdFor (am_D shC (d - 1)) (fun r => r = (some (.int (b01 (holdS n st pe ce p (w.1 R)))), w)) 2 [(0, .ref 20), (1, .int (nI p)), (2, .ref T), (3, .int (nI s))] [] w := by
    intro j
    induction j with
    | zero =>
      intro s hs hall
      refine am_go rfl ?_
      iterate 3 refine am_g0 rfl rfl ?_
      refine am_tt (show w.1 20 3 ≤ nI s by rw [h1]; exact nI_le (by omega) (by omega)) ?_
      refine am_go rfl ?_
      refine am_g0 rfl rfl ?_
      refine ⟨rfl, ?_⟩
      rw [holdS, allB_t.mpr (fun i hi => decide_eq_true (hall i (by omega)))]
      rfl
    | succ j ih =>
      intro s hs hall
      obtain ⟨s1, s2, s3, s4, s5, s6⟩ := h3 s (by omega)
      have next : (pe s = p → w.1 R (st s) = nI (ce s)) → am_R shC mi_X5_holdFor (am_D shC (d - 1)) (fun r => r = (some (.int (b01 (holdS n st pe ce p (w.1 R)))), w)) 42 [(0, .ref 20), (1, .int (nI p)), (2, .ref T), (3, .int (nI s))] [] w := by
        intro h
        refine am_go rfl ?_
        refine am_g0 rfl rfl ?_
        have := ih (s + 1) (by omega) (fun i hi => (Nat.lt_or_ge i s).elim (hall i) (fun z => by rw [show i = s by omega]; exact h))
        rw [← nI_1] at this
        exact this
      refine am_go rfl ?_
      iterate 3 refine am_g0 rfl rfl ?_
      refine am_ff (show ¬ w.1 20 3 ≤ nI s by rw [h1]; exact nI_ge (by omega) (by omega)) ?_
      iterate 3 refine am_g0 rfl rfl ?_
      refine am_glN (n := 8) rfl rfl (by omega) (by decide) ?_
      rw [s3]
      iterate 2 refine am_g0 rfl rfl ?_
      by_cases h : pe s = p
      · refine am_tt (show nI (pe s) = nI p by rw [h]) ?_
        iterate 4 refine am_g0 rfl rfl ?_
        refine am_glN (n := 8) rfl rfl (by omega) (by decide) ?_
        rw [s1]
        iterate 2 refine am_g0 rfl rfl ?_
        refine am_ys (show (true && (true && am_isb shC T 9)) = true by rw [hT]; rfl) ?_
        refine ⟨(some (.int (w.1 R (st s))), w), (by
          have := d_ttold (d := d - 1) (V := (0, fun _ => 0, fun _ _ => 0, 0, fun _ => 0, fun _ => 0, fun _ _ => 0)) (P := (0, 0, 0, 0, 0)) (wet := fun _ => false) (w := w) (s := st s) (j := 0) (by omega) hT hR hL s2 (by omega)
          rw [Nat.zero_mul, Nat.zero_add] at this
          exact this), ?_⟩
        refine am_to (lv' := [(0, .ref 20), (1, .int (nI p)), (2, .ref T), (3, .int (nI s))]) (st' := [.int (w.1 R (st s))]) (w' := w) rfl rfl rfl ?_
        iterate 3 refine am_g0 rfl rfl ?_
        refine am_glN (n := 8) rfl rfl (by omega) (by decide) ?_
        rw [s5]
        refine am_g0 rfl rfl ?_
        by_cases h4 : w.1 R (st s) = nI (ce s)
        · refine am_tt h4 ?_
          exact next (fun _ => h4)
        · refine am_ff h4 ?_
          iterate 2 refine am_g0 rfl rfl ?_
          refine ⟨rfl, ?_⟩
          rw [holdS, allB_f (i := s) (by omega) (decide_eq_false (fun z => h4 (z h)))]
          rfl
      · refine am_ff (show ¬ nI (pe s) = nI p from fun z => h ((nI_eq (by omega) (by omega)).mp z)) ?_
        exact next (fun z => absurd z h)
  exact key n 0 (by omega) (fun i hi => absurd hi (Nat.not_lt_zero i))
