/-! who meets whom, how often lasts are gone by, cells written: the class -/
def metO (S : Sp) (s p : Nat) : Option Nat := if (lifeQ S.V (prS S.pf p) (wet0 S) (s + 1)).2.1 = 0 then firstN (fun q => !decide (q = p) && decide ((lifeQ S.V (prS S.pf q) (wet0 S) (s + 1)).2.1 = 0) && decide (cellI S.V (prS S.pf q) (wet0 S) s = cellI S.V (prS S.pf p) (wet0 S) s)) S.q else none
def metP (S : Sp) (s : Nat) : Option Nat := firstN (fun p => (metO S s p).isSome) S.q
def metT (S : Sp) : Option Nat := firstN (fun s => (metP S s).isSome) 30
def metA (S : Sp) (k : Nat) : Int32 := match metT S with
  | none => -1
  | some s => (match metP S s with
    | none => -1
    | some p => (match metO S s p with
      | none => -1
      | some o => if k = 0 then nI s else if k = 1 then nI p else nI o))
def metS (S : Sp) (x : Int32) : Int32 := match dI x 3 with
  | some k => metA S k
  | none => -2
theorem d_told {d s j p : Nat} {w : am_M} {S : Sp} (hd : 1 ≤ d) (hq : S.q ≤ 8) (tr : ∀ p, p < S.q → trOK w (34 + p) (42 + p) S.V (prS S.pf p) (wet0 S)) (hp : p < S.q) (hs : s < 30) (hj : j < 4) : am_D shC d mi_X9_told [.ref (34 + p), .int (nI s), .int (nI j)] w (some (.int (rowI S.V (prS S.pf p) (wet0 S) s j)), w) := by
  obtain ⟨t1, t2, t3, t4⟩ := sh_Tr p (by omega)
  rw [← (tr p hp).row hs hj]
  exact d_ttold (V := S.V) (P := prS S.pf p) (wet := wet0 S) hd t1 t2 t3 hs hj
theorem d_metBy {d s p : Nat} {w : am_M} {S : Sp} (hd : 2 ≤ d) (h : RC w S) (tr : ∀ p, p < S.q → trOK w (34 + p) (42 + p) S.V (prS S.pf p) (wet0 S)) (hp : p < S.q) (hs : s < 30) : am_D shC d mi_X11_metBy [.ref 0, .int (nI s), .int (nI p)] w (some (.int (opI (metO S s p))), w) := by
  have hq := h.q8
  obtain ⟨t1, t2, t3, t4⟩ := sh_Tr p (by omega)
  refine am_def (by omega) rfl rfl ?_
  iterate 4 refine am_g0 rfl rfl ?_
  refine am_ff (show ¬ nI p < 0 from nI_pos (by omega)) (am_oi (a := 34 + p) (by rw [nI_clamp (by omega)]; exact t4) ?_)
  iterate 3 refine am_g0 rfl rfl ?_
  refine am_ys (show (true && (true && am_isb shC (34 + p) 9)) = true by rw [t1]; rfl) ?_
  refine ⟨(some (.int (nI (lifeQ S.V (prS S.pf p) (wet0 S) (s + 1)).2.1)), w), d_told (j := 1) (by omega) hq tr hp hs (by omega), ?_⟩
  refine am_to (lv' := [(0, .ref 0), (1, .int (nI s)), (2, .int (nI p))]) (st' := [.int (nI (lifeQ S.V (prS S.pf p) (wet0 S) (s + 1)).2.1)]) (w' := w) rfl rfl rfl ?_
  refine am_g0 rfl rfl ?_
  have hlt : (lifeQ S.V (prS S.pf p) (wet0 S) (s + 1)).2.1 < 4 := qlt h hp _ _
  by_cases h0 : (lifeQ S.V (prS S.pf p) (wet0 S) (s + 1)).2.1 = 0
  · refine am_tt (show (nI (lifeQ S.V (prS S.pf p) (wet0 S) (s + 1)).2.1 : Int32) = 0 from by rw [h0]; rfl) ?_
    refine am_go rfl ?_
    iterate 3 refine am_g0 rfl rfl ?_
    refine am_ff (show ¬ nI p < 0 from nI_pos (by omega)) (am_oi (a := 34 + p) (by rw [nI_clamp (by omega)]; exact t4) ?_)
    iterate 3 refine am_g0 rfl rfl ?_
    refine am_ys (show (true && (true && am_isb shC (34 + p) 9)) = true by rw [t1]; rfl) ?_
    refine ⟨(some (.int (cellI S.V (prS S.pf p) (wet0 S) s)), w), d_told (j := 0) (by omega) hq tr hp hs (by omega), ?_⟩
    refine am_to (lv' := [(0, .ref 0), (1, .int (nI s)), (2, .int (nI p))]) (st' := [.int (cellI S.V (prS S.pf p) (wet0 S) s)]) (w' := w) rfl rfl rfl ?_
    iterate 3 refine am_g0 rfl rfl ?_
    have key : ∀ j i : Nat, i + j = S.q → (∀ k, k < i → (!decide (k = p) && decide ((lifeQ S.V (prS S.pf k) (wet0 S) (s + 1)).2.1 = 0) && decide (cellI S.V (prS S.pf k) (wet0 S) s = cellI S.V (prS S.pf p) (wet0 S) s)) = false) → am_R shC mi_X11_metBy (am_D shC (d - 1)) (fun r => r = (some (.int (opI (metO S s p))), w)) 31 [(0, .ref 0), (1, .int (nI s)), (2, .int (nI p)), (3, .int (cellI S.V (prS S.pf p) (wet0 S) s)), (4, .int (nI i))] [] w := by
      intro j
      induction j with
      | zero =>
        intro i hi hf
        refine am_go rfl ?_
        iterate 4 refine am_g0 rfl rfl ?_
        refine am_tt (show (w.1 16 1 : Int32) ≤ (nI i) from by rw [h.1.P.1]; exact nI_le (by omega) (by omega)) ?_
        refine am_go rfl ?_
        refine am_g0 rfl rfl ?_
        exact ⟨rfl, by unfold metO; rw [if_pos h0, firstN_ex (fun k hk => hf k (by omega))]; rfl⟩
      | succ j ih =>
        intro i hi hf
        have next : (!decide (i = p) && decide ((lifeQ S.V (prS S.pf i) (wet0 S) (s + 1)).2.1 = 0) && decide (cellI S.V (prS S.pf i) (wet0 S) s = cellI S.V (prS S.pf p) (wet0 S) s)) = false → am_R shC mi_X11_metBy (am_D shC (d - 1)) (fun r => r = (some (.int (opI (metO S s p))), w)) 83 [(0, .ref 0), (1, .int (nI s)), (2, .int (nI p)), (3, .int (cellI S.V (prS S.pf p) (wet0 S) s)), (4, .int (nI i))] [] w := by
          intro hn
          refine am_go rfl ?_
          refine am_g0 rfl rfl ?_
          have this := ih (i + 1) (by omega) (fun k hk => if z : k = i then by rw [z]; exact hn else hf k (by omega))
          rw [← nI_1] at this
          exact am_kl this rfl
        refine am_go rfl ?_
        iterate 4 refine am_g0 rfl rfl ?_
        refine am_ff (show ¬ (w.1 16 1 : Int32) ≤ (nI i) from by rw [h.1.P.1]; exact nI_ge (by omega) (by omega)) ?_
        iterate 3 refine am_g0 rfl rfl ?_
        by_cases hip : i = p
        · refine am_tt (show (nI i : Int32) = (nI p) from by rw [hip]) ?_
          exact am_kl (next (by rw [decide_eq_true hip]; rfl)) rfl
        · refine am_ff (show ¬ (nI i : Int32) = (nI p) from nne hip (by omega) (by omega)) ?_
          obtain ⟨u1, u2, u3, u4⟩ := sh_Tr i (by omega)
          iterate 4 refine am_g0 rfl rfl ?_
          refine am_ff (show ¬ nI i < 0 from nI_pos (by omega)) (am_oi (a := 34 + i) (by rw [nI_clamp (by omega)]; exact u4) ?_)
          iterate 3 refine am_g0 rfl rfl ?_
          refine am_ys (show (true && (true && am_isb shC (34 + i) 9)) = true by rw [u1]; rfl) ?_
          refine ⟨(some (.int (nI (lifeQ S.V (prS S.pf i) (wet0 S) (s + 1)).2.1)), w), d_told (j := 1) (by omega) hq tr (by omega) hs (by omega), ?_⟩
          refine am_to (lv' := [(0, .ref 0), (1, .int (nI s)), (2, .int (nI p)), (3, .int (cellI S.V (prS S.pf p) (wet0 S) s)), (4, .int (nI i))]) (st' := [.int (nI (lifeQ S.V (prS S.pf i) (wet0 S) (s + 1)).2.1)]) (w' := w) rfl rfl rfl ?_
          refine am_g0 rfl rfl ?_
          have hlt2 : (lifeQ S.V (prS S.pf i) (wet0 S) (s + 1)).2.1 < 4 := qlt h (by omega) _ _
          by_cases h1 : (lifeQ S.V (prS S.pf i) (wet0 S) (s + 1)).2.1 = 0
          · refine am_tt (show (nI (lifeQ S.V (prS S.pf i) (wet0 S) (s + 1)).2.1 : Int32) = 0 from by rw [h1]; rfl) ?_
            iterate 4 refine am_g0 rfl rfl ?_
            refine am_ff (show ¬ nI i < 0 from nI_pos (by omega)) (am_oi (a := 34 + i) (by rw [nI_clamp (by omega)]; exact u4) ?_)
            iterate 3 refine am_g0 rfl rfl ?_
            refine am_ys (show (true && (true && am_isb shC (34 + i) 9)) = true by rw [u1]; rfl) ?_
            refine ⟨(some (.int (cellI S.V (prS S.pf i) (wet0 S) s)), w), d_told (j := 0) (by omega) hq tr (by omega) hs (by omega), ?_⟩
            refine am_to (lv' := [(0, .ref 0), (1, .int (nI s)), (2, .int (nI p)), (3, .int (cellI S.V (prS S.pf p) (wet0 S) s)), (4, .int (nI i))]) (st' := [.int (cellI S.V (prS S.pf i) (wet0 S) s)]) (w' := w) rfl rfl rfl ?_
            iterate 2 refine am_g0 rfl rfl ?_
            by_cases h2 : cellI S.V (prS S.pf i) (wet0 S) s = cellI S.V (prS S.pf p) (wet0 S) s
            · refine am_tt (show (cellI S.V (prS S.pf i) (wet0 S) s : Int32) = (cellI S.V (prS S.pf p) (wet0 S) s) from h2) ?_
              iterate 2 refine am_g0 rfl rfl ?_
              exact ⟨rfl, by unfold metO; rw [if_pos h0, firstN_at (show i < S.q by omega) (by rw [decide_eq_false hip, decide_eq_true h1, decide_eq_true h2]; rfl) hf]; rfl⟩
            · refine am_ff (show ¬ (cellI S.V (prS S.pf i) (wet0 S) s : Int32) = (cellI S.V (prS S.pf p) (wet0 S) s) from h2) ?_
              exact am_kl (next (by rw [decide_eq_false h2]; exact Bool.and_false _)) rfl
          · refine am_ff (show ¬ (nI (lifeQ S.V (prS S.pf i) (wet0 S) (s + 1)).2.1 : Int32) = 0 from nne (b := 0) h1 (by omega) (by omega)) ?_
            exact am_kl (next (by rw [decide_eq_false h1, Bool.and_false]; rfl)) rfl
    exact am_kl (key S.q 0 (by omega) (fun k hk => absurd hk (Nat.not_lt_zero k))) rfl
  · refine am_ff (show ¬ (nI (lifeQ S.V (prS S.pf p) (wet0 S) (s + 1)).2.1 : Int32) = 0 from nne (b := 0) h0 (by omega) (by omega)) ?_
    iterate 2 refine am_g0 rfl rfl ?_
    exact ⟨rfl, by unfold metO; rw [if_neg h0]; rfl⟩
theorem d_met {d : Nat} {x : Int32} {w : am_M} {S : Sp} (hd : 8 ≤ d) (h : RC w S) : ∃ o : am_O, (o.1 = some (.int (metS S x)) ∧ RC o.2 S) ∧ am_D shC d mi_X11_met [.ref 0, .int x] w o := by
  have hq := h.q8
  rcases dI_or x 3 (by decide) with hx | ⟨k, hk, rfl, hx⟩
  · refine am_dex (by omega) rfl rfl ?_
    iterate 3 refine am_g0 rfl rfl ?_
    refine ⟨(some (.int 0), w), d_isWn shC (n := 3) (by omega) hx, ?_⟩
    refine am_to (lv' := [(0, .ref 0), (1, .int x)]) (st' := [.int 0]) (w' := w) rfl rfl rfl ?_
    iterate 3 refine am_g0 rfl rfl ?_
    exact ⟨rfl, by unfold metS; rw [hx], h⟩
  · refine am_dex (by omega) rfl rfl ?_
    iterate 3 refine am_g0 rfl rfl ?_
    refine ⟨(some (.int 1), w), d_isWs shC (n := 3) (by omega) hk (by decide), ?_⟩
    refine am_to (lv' := [(0, .ref 0), (1, .int (nI k))]) (st' := [.int 1]) (w' := w) rfl rfl rfl ?_
    refine am_g0 rfl rfl ?_
    refine am_go rfl ?_
    refine am_g0 rfl rfl ?_
    obtain ⟨⟨r1, w1⟩, ⟨e1, g1, g2, g3⟩, hD1⟩ := d_retr (d := d - 1) (by omega) h
    dsimp only at e1 g1 g2 g3
    subst e1
    refine ⟨(none, w1), hD1, ?_⟩
    refine am_to (lv' := [(0, .ref 0), (1, .int (nI k))]) (st' := []) (w' := w1) rfl rfl rfl ?_
    iterate 2 refine am_g0 rfl rfl ?_
    have hS : metS S (nI k) = metA S k := by unfold metS; rw [hx]
    rw [hS]
    have key : ∀ j i : Nat, i + j = 30 → (∀ s, s < i → (metP S s).isSome = false) → am_R shC mi_X11_met (am_D shC (d - 1)) (fun o => o.1 = some (.int (metA S k)) ∧ RC o.2 S) 17 [(0, .ref 0), (1, .int (nI k)), (2, .int (nI i))] [] w1 := by
      intro j
      induction j with
      | zero =>
        intro i hi hf
        refine am_go rfl ?_
        iterate 2 refine am_g0 rfl rfl ?_
        refine am_tt (show (30 : Int32) ≤ (nI i) from nI_le (a := 30) (by omega) (by omega)) ?_
        refine am_go rfl ?_
        refine am_g0 rfl rfl ?_
        exact ⟨rfl, by unfold metA metT; rw [firstN_ex (fun s hs => hf s (by omega))], g1⟩
      | succ j ih =>
        intro i hi hf
        refine am_go rfl ?_
        iterate 2 refine am_g0 rfl rfl ?_
        refine am_ff (show ¬ (30 : Int32) ≤ (nI i) from nI_ge (b := 30) (by omega) (by omega)) ?_
        iterate 2 refine am_g0 rfl rfl ?_
        have key2 : ∀ j p : Nat, p + j = S.q → (∀ s, s < p → (metO S i s).isSome = false) → am_R shC mi_X11_met (am_D shC (d - 1)) (fun o => o.1 = some (.int (metA S k)) ∧ RC o.2 S) 25 [(0, .ref 0), (1, .int (nI k)), (2, .int (nI i)), (3, .int (nI p))] [] w1 := by
          intro j
          induction j with
          | zero =>
            intro p hp hf2
            refine am_go rfl ?_
            iterate 4 refine am_g0 rfl rfl ?_
            refine am_tt (show (w1.1 16 1 : Int32) ≤ (nI p) from by rw [g1.1.P.1]; exact nI_le (by omega) (by omega)) ?_
            refine am_go rfl ?_
            refine am_g0 rfl rfl ?_
            have this := ih (i + 1) (by omega) (fun s hs => if z : s = i then by rw [z]; unfold metP; rw [firstN_ex (fun p hp => hf2 p (by omega))]; rfl else hf s (by omega))
            rw [← nI_1] at this
            exact am_kl this rfl
          | succ j ih2 =>
            intro p hp hf2
            refine am_go rfl ?_
            iterate 4 refine am_g0 rfl rfl ?_
            refine am_ff (show ¬ (w1.1 16 1 : Int32) ≤ (nI p) from by rw [g1.1.P.1]; exact nI_ge (by omega) (by omega)) ?_
            iterate 4 refine am_g0 rfl rfl ?_
            refine ⟨(some (.int (opI (metO S i p))), w1), d_metBy (by omega) g1 g2 (by omega) (by omega), ?_⟩
            refine am_to (lv' := [(0, .ref 0), (1, .int (nI k)), (2, .int (nI i)), (3, .int (nI p))]) (st' := [.int (opI (metO S i p))]) (w' := w1) rfl rfl rfl ?_
            iterate 4 refine am_g0 rfl rfl ?_
            rcases opt_or (metO S i p) with ho | ⟨o, ho⟩
            · refine am_tt (show (opI (metO S i p) : Int32) = (-1) from by rw [ho]; rfl) ?_
              refine am_go rfl ?_
              refine am_g0 rfl rfl ?_
              have this := ih2 (p + 1) (by omega) (fun s hs => if z : s = p then by rw [z, ho]; rfl else hf2 s (by omega))
              rw [← nI_1] at this
              exact am_kl this rfl
            · have hoq : o < S.q := by
                unfold metO at ho
                split at ho
                · exact (firstN_s ho).1
                · cases ho
              refine am_ff (show ¬ (opI (metO S i p) : Int32) = (-1) from by rw [ho]; exact nI_m1 (by omega)) ?_
              iterate 2 refine am_g0 rfl rfl ?_
              have hP : metP S i = some p := firstN_at (by omega) (by rw [ho]; rfl) hf2
              have hT : metT S = some i := firstN_at (by omega) (by rw [hP]; rfl) hf
              have hA : metA S k = if k = 0 then nI i else if k = 1 then nI p else nI o := by unfold metA; rw [hT]; dsimp only; rw [hP]; dsimp only; rw [ho]
              rw [hA]
              by_cases k0 : k = 0
              · refine am_tt (show (nI k : Int32) = 0 from by rw [k0]; rfl) ?_
                iterate 2 refine am_g0 rfl rfl ?_
                refine am_go rfl ?_
                exact ⟨rfl, by rw [if_pos k0], g1⟩
              · refine am_ff (show ¬ (nI k : Int32) = 0 from nne (b := 0) k0 (by omega) (by omega)) ?_
                refine am_go rfl ?_
                iterate 2 refine am_g0 rfl rfl ?_
                by_cases k1 : k = 1
                · refine am_tt (show (nI k : Int32) = 1 from by rw [k1]; rfl) ?_
                  iterate 2 refine am_g0 rfl rfl ?_
                  refine am_go rfl ?_
                  exact ⟨rfl, by rw [if_neg k0, if_pos k1], g1⟩
                · refine am_ff (show ¬ (nI k : Int32) = 1 from nne (b := 1) k1 (by omega) (by omega)) ?_
                  refine am_go rfl ?_
                  refine am_go rfl ?_
                  exact ⟨rfl, by rw [if_neg k0, if_neg k1, ho]; rfl, g1⟩
        exact am_kl (key2 S.q 0 (by omega) (fun k hk => absurd hk (Nat.not_lt_zero k))) rfl
    exact am_kl (key 30 0 (by omega) (fun k hk => absurd hk (Nat.not_lt_zero k))) rfl
/-! how often a last is gone by -/
def sumN (f : Nat → Nat) : Nat → Nat
  | 0 => 0
  | n + 1 => sumN f n + f n
theorem sumN_le {f : Nat → Nat} {c : Nat} (h : ∀ i, f i ≤ c) : ∀ n, sumN f n ≤ n * c
  | 0 => by rw [sumN]; omega
  | n + 1 => by rw [sumN, Nat.succ_mul]; have := sumN_le h n; have := h n; omega
def tmS (V : Wd) (P : Pr) (wet : Nat → Bool) (l : Nat) : Nat := timesS (fun s => wbI (lifeB V P wet s)) (nI l) 30
def wornA (S : Sp) (l : Nat) : Nat := sumN (fun p => tmS S.V (prS S.pf p) (wet0 S) l) S.q
theorem tmS_le {V : Wd} {P : Pr} {wet : Nat → Bool} {l : Nat} : tmS V P wet l ≤ 30 := timesS_le _ _ _
theorem wornA_le {S : Sp} {l : Nat} (hq : S.q ≤ 8) : wornA S l ≤ 240 := by
  have := sumN_le (f := fun p => tmS S.V (prS S.pf p) (wet0 S) l) (c := 30) (fun i => tmS_le) S.q
  unfold wornA
  omega
def wornS (S : Sp) (x : Int32) : Int32 := match dI x S.m with
  | some l => nI (wornA S l)
  | none => -2
theorem times_congr {f g : Nat → Int32} {l : Int32} : ∀ {n : Nat}, (∀ i, i < n → f i = g i) → timesS f l n = timesS g l n
  | 0, _ => rfl
  | n + 1, h => by rw [timesS, timesS, times_congr (fun i hi => h i (by omega)), h n (by omega)]
theorem d_worn {d : Nat} {x : Int32} {w : am_M} {S : Sp} (hd : 7 ≤ d) (h : RC w S) : ∃ o : am_O, (o.1 = some (.int (wornS S x)) ∧ RC o.2 S) ∧ am_D shC d mi_X11_worn [.ref 0, .int x] w o := by
  have hq := h.q8
  have hm := h.1.M
  rcases dI_or x S.m (by omega) with hx | ⟨l, hl, rfl, hx⟩
  · refine am_dex (by omega) rfl rfl ?_
    iterate 4 refine am_g0 rfl rfl ?_
    refine am_top (y := nI S.m) (hm.1) ?_
    refine am_g0 rfl rfl ?_
    refine ⟨(some (.int 0), w), d_isWn shC (by omega) hx, ?_⟩
    refine am_to (lv' := [(0, .ref 0), (1, .int x)]) (st' := [.int 0]) (w' := w) rfl rfl rfl ?_
    iterate 3 refine am_g0 rfl rfl ?_
    exact ⟨rfl, by unfold wornS; rw [hx], h⟩
  · refine am_dex (by omega) rfl rfl ?_
    iterate 4 refine am_g0 rfl rfl ?_
    refine am_top (y := nI S.m) (hm.1) ?_
    refine am_g0 rfl rfl ?_
    refine ⟨(some (.int 1), w), d_isWs shC (by omega) hl (by omega), ?_⟩
    refine am_to (lv' := [(0, .ref 0), (1, .int (nI l))]) (st' := [.int 1]) (w' := w) rfl rfl rfl ?_
    refine am_g0 rfl rfl ?_
    refine am_go rfl ?_
    refine am_g0 rfl rfl ?_
    obtain ⟨⟨r1, w1⟩, ⟨e1, g1, g2, g3⟩, hD1⟩ := d_retr (d := d - 1) (by omega) h
    dsimp only at e1 g1 g2 g3
    subst e1
    refine ⟨(none, w1), hD1, ?_⟩
    refine am_to (lv' := [(0, .ref 0), (1, .int (nI l))]) (st' := []) (w' := w1) rfl rfl rfl ?_
    iterate 4 refine am_g0 rfl rfl ?_
    have hS : wornS S (nI l) = nI (wornA S l) := by unfold wornS; rw [hx]
    rw [hS]
    have key : ∀ j i : Nat, i + j = S.q → am_R shC mi_X11_worn (am_D shC (d - 1)) (fun o => o.1 = some (.int (nI (wornA S l))) ∧ RC o.2 S) 25 [(0, .ref 0), (1, .int (nI l)), (2, .int (nI (sumN (fun p => tmS S.V (prS S.pf p) (wet0 S) l) i))), (3, .int (nI i))] [] w1 := by
      intro j
      induction j with
      | zero =>
        intro i hi
        refine am_go rfl ?_
        iterate 4 refine am_g0 rfl rfl ?_
        refine am_tt (show (w1.1 16 1 : Int32) ≤ (nI i) from by rw [g1.1.P.1]; exact nI_le (by omega) (by omega)) ?_
        refine am_go rfl ?_
        refine am_g0 rfl rfl ?_
        exact ⟨rfl, by unfold wornA; rw [show S.q = i by omega], g1⟩
      | succ j ih =>
        intro i hi
        obtain ⟨t1, t2, t3, t4⟩ := sh_Tr i (by omega)
        refine am_go rfl ?_
        iterate 4 refine am_g0 rfl rfl ?_
        refine am_ff (show ¬ (w1.1 16 1 : Int32) ≤ (nI i) from by rw [g1.1.P.1]; exact nI_ge (by omega) (by omega)) ?_
        iterate 5 refine am_g0 rfl rfl ?_
        refine am_ff (show ¬ nI i < 0 from nI_pos (by omega)) (am_oi (a := 34 + i) (by rw [nI_clamp (by omega)]; exact t4) ?_)
        iterate 2 refine am_g0 rfl rfl ?_
        refine am_ys (show (true && (true && am_isb shC (34 + i) 9)) = true by rw [t1]; rfl) ?_
        refine ⟨(some (.int (nI (tmS S.V (prS S.pf i) (wet0 S) l))), w1), by have := d_timesBy (d := d - 1) (l := nI l) (w := w1) (by omega) t1 t2 t3; rw [times_congr (fun s hs => ((g2 i (by omega)).1 s hs).2.2.2)] at this; exact this, ?_⟩
        refine am_to (lv' := [(0, .ref 0), (1, .int (nI l)), (2, .int (nI (sumN (fun p => tmS S.V (prS S.pf p) (wet0 S) l) i))), (3, .int (nI i))]) (st' := [.int (nI (tmS S.V (prS S.pf i) (wet0 S) l)), .int (nI (sumN (fun p => tmS S.V (prS S.pf p) (wet0 S) l) i))]) (w' := w1) rfl rfl rfl ?_
        refine am_g0 rfl rfl ?_
        refine am_top (y := nI (sumN (fun p => tmS S.V (prS S.pf p) (wet0 S) l) (i + 1))) (nI_add _ _) ?_
        iterate 3 refine am_g0 rfl rfl ?_
        have this := ih (i + 1) (by omega)
        rw [← nI_1] at this
        exact am_kl this rfl
    exact am_kl (key S.q 0 (by omega)) rfl
def rifB (f : Nat → Nat) : Nat → Option Nat
  | 0 => none
  | n + 1 => match rifB f n with
    | none => some n
    | some b => if f b < f n then some n else some b
theorem rifB_lt {f : Nat → Nat} : ∀ {n b : Nat}, rifB f n = some b → b < n
  | 0, b, h => by cases h
  | n + 1, b, h => by
    rw [rifB] at h
    cases hz : rifB f n with
    | none => rw [hz] at h; cases h; omega
    | some c =>
      rw [hz] at h
      dsimp only at h
      have := rifB_lt hz
      split at h <;> cases h <;> omega
def rifS (S : Sp) : Int32 := opI (rifB (wornA S) S.m)
def rifM (f : Nat → Nat) : Option Nat → Int32
  | none => -1
  | some b => nI (f b)
theorem d_rifest {d : Nat} {w : am_M} {S : Sp} (hd : 8 ≤ d) (h : RC w S) : ∃ o : am_O, (o.1 = some (.int (rifS S)) ∧ RC o.2 S) ∧ am_D shC d mi_X11_rifest [.ref 0] w o := by
  have hq := h.q8
  refine am_dex (by omega) rfl rfl ?_
  iterate 6 refine am_g0 rfl rfl ?_
  have key : ∀ j i : Nat, i + j = S.m → ∀ m : am_M, RC m S → am_R shC mi_X11_rifest (am_D shC (d - 1)) (fun o => (o.1 = some (.int (rifS S)) ∧ RC o.2 S)) 6 [(0, .ref 0), (1, .int (opI (rifB (wornA S) i))), (2, .int (rifM (wornA S) (rifB (wornA S) i))), (3, .int (nI i))] [] m := by
    intro j
    induction j with
    | zero =>
      intro i hi m hm
      have hmm := hm.1.M
      refine am_go rfl ?_
      iterate 4 refine am_g0 rfl rfl ?_
      refine am_tt (show (m.1 12 3 : Int32) ≤ (nI i) from by rw [hmm.1]; exact nI_le (by omega) (by omega)) ?_
      refine am_go rfl ?_
      refine am_g0 rfl rfl ?_
      exact ⟨rfl, by unfold rifS; rw [show S.m = i by omega], hm⟩
    | succ j ih =>
      intro i hi m hm
      have hmm := hm.1.M
      refine am_go rfl ?_
      iterate 4 refine am_g0 rfl rfl ?_
      refine am_ff (show ¬ (m.1 12 3 : Int32) ≤ (nI i) from by rw [hmm.1]; exact nI_ge (by omega) (by omega)) ?_
      iterate 3 refine am_g0 rfl rfl ?_
      obtain ⟨⟨r1, w1⟩, ⟨e1, g1⟩, hD1⟩ := by have := d_worn (d := d - 1) (x := nI i) (by omega) hm; rw [show wornS S (nI i) = nI (wornA S i) by unfold wornS; rw [dI_t (by omega) (by omega)]] at this; exact this
      dsimp only at e1 g1
      subst e1
      refine ⟨(some (.int (nI (wornA S i))), w1), hD1, ?_⟩
      refine am_to (lv' := [(0, .ref 0), (1, .int (opI (rifB (wornA S) i))), (2, .int (rifM (wornA S) (rifB (wornA S) i))), (3, .int (nI i))]) (st' := [.int (nI (wornA S i))]) (w' := w1) rfl rfl rfl ?_
      iterate 4 refine am_g0 rfl rfl ?_
      have this := ih (i + 1) (by omega) w1 g1
      have hle : ∀ l, wornA S l ≤ 240 := fun l => wornA_le hq
      have h1 := hle i
      rcases opt_or (rifB (wornA S) i) with hb | ⟨b, hb⟩
      · refine am_ff (show ¬ (nI (wornA S i) : Int32) ≤ (rifM (wornA S) (rifB (wornA S) i)) from by rw [hb, Int32.not_le]; exact Int32.lt_of_lt_of_le (b := 0) (show (-1 : Int32) < 0 by decide) (nI_pos' (by omega))) ?_
        iterate 4 refine am_g0 rfl rfl ?_
        refine am_go rfl ?_
        refine am_g0 rfl rfl ?_
        rw [rifB, hb, ← nI_1] at this
        exact am_kl this rfl
      · have h2 := hle b
        by_cases hlt : wornA S b < wornA S i
        · refine am_ff (show ¬ (nI (wornA S i) : Int32) ≤ (rifM (wornA S) (rifB (wornA S) i)) from by rw [hb, Int32.not_le]; exact nI_lt hlt (by omega)) ?_
          iterate 4 refine am_g0 rfl rfl ?_
          refine am_go rfl ?_
          refine am_g0 rfl rfl ?_
          rw [rifB, hb] at this
          dsimp only at this
          rw [if_pos hlt, ← nI_1] at this
          exact am_kl this rfl
        · refine am_tt (show (nI (wornA S i) : Int32) ≤ (rifM (wornA S) (rifB (wornA S) i)) from by rw [hb]; exact nI_le (by omega) (by omega)) ?_
          refine am_go rfl ?_
          refine am_g0 rfl rfl ?_
          rw [hb]
          rw [rifB, hb] at this
          dsimp only at this
          rw [if_neg hlt, ← nI_1] at this
          exact am_kl this rfl
  exact am_kl (key S.m 0 (by omega) w h) rfl
/-! cells written on a sheet -/
def mn30 (n : Nat) : Nat := if 30 < n then 30 else n
def wrI (S : Sp) (s p n : Nat) : Nat → Nat → Int32 := fun c e => if c = s ∧ e < n then cCut (nI (S.fm s)) (cellI S.V (prS S.pf p) (wet0 S) e) else S.it c e
def writeS (S : Sp) (x y : Int32) : Int32 × Sp := match dI x S.q, dI y 4 with
  | some p, some s => (match S.sz s with
    | none => (-11, S.setF 1)
    | some n => (nI (mn30 n), S.setH S.fm S.sz (wrI S s p (mn30 n))))
  | _, _ => (-2, S)
theorem d_write {d : Nat} {x y : Int32} {w : am_M} {S : Sp} (hd : 8 ≤ d) (h : RC w S) : ∃ o : am_O, (o.1 = some (.int (writeS S x y).1) ∧ RC o.2 (writeS S x y).2) ∧ am_D shC d mi_X11_write [.ref 0, .int x, .int y] w o := by
  have hq := h.q8
  rcases dI_or x S.q (by omega) with hx | ⟨p, hp, rfl, hx⟩
  · refine am_dex (by omega) rfl rfl ?_
    iterate 4 refine am_g0 rfl rfl ?_
    refine am_top (y := nI S.q) (h.1.P.1) ?_
    refine am_g0 rfl rfl ?_
    refine ⟨(some (.int 0), w), d_isWn shC (by omega) hx, ?_⟩
    refine am_to (lv' := [(0, .ref 0), (1, .int x), (2, .int y)]) (st' := [.int 0]) (w' := w) rfl rfl rfl ?_
    refine am_g0 rfl rfl ?_
    refine am_go rfl ?_
    refine am_g0 rfl rfl ?_
    exact ⟨rfl, by unfold writeS; rw [hx], by unfold writeS; rw [hx]; exact h⟩
  · rcases dI_or y 4 (by decide) with hy | ⟨s, hs, rfl, hy⟩
    · refine am_dex (by omega) rfl rfl ?_
      iterate 4 refine am_g0 rfl rfl ?_
      refine am_top (y := nI S.q) (h.1.P.1) ?_
      refine am_g0 rfl rfl ?_
      refine ⟨(some (.int 1), w), d_isWs shC (by omega) hp (by omega), ?_⟩
      refine am_to (lv' := [(0, .ref 0), (1, .int (nI p)), (2, .int y)]) (st' := [.int 1]) (w' := w) rfl rfl rfl ?_
      iterate 4 refine am_g0 rfl rfl ?_
      refine ⟨(some (.int 0), w), d_isWn shC (n := 4) (by omega) hy, ?_⟩
      refine am_to (lv' := [(0, .ref 0), (1, .int (nI p)), (2, .int y)]) (st' := [.int 0]) (w' := w) rfl rfl rfl ?_
      refine am_g0 rfl rfl ?_
      refine am_go rfl ?_
      refine am_g0 rfl rfl ?_
      exact ⟨rfl, by unfold writeS; rw [hx, hy], by unfold writeS; rw [hx, hy]; exact h⟩
    · obtain ⟨s1, s2, s3⟩ := sh_S s hs
      refine am_dex (by omega) rfl rfl ?_
      iterate 4 refine am_g0 rfl rfl ?_
      refine am_top (y := nI S.q) (h.1.P.1) ?_
      refine am_g0 rfl rfl ?_
      refine ⟨(some (.int 1), w), d_isWs shC (by omega) hp (by omega), ?_⟩
      refine am_to (lv' := [(0, .ref 0), (1, .int (nI p)), (2, .int (nI s))]) (st' := [.int 1]) (w' := w) rfl rfl rfl ?_
      iterate 4 refine am_g0 rfl rfl ?_
      refine ⟨(some (.int 1), w), d_isWs shC (n := 4) (by omega) hs (by decide), ?_⟩
      refine am_to (lv' := [(0, .ref 0), (1, .int (nI p)), (2, .int (nI s))]) (st' := [.int 1]) (w' := w) rfl rfl rfl ?_
      refine am_g0 rfl rfl ?_
      refine am_go rfl ?_
      iterate 3 refine am_g0 rfl rfl ?_
      refine am_ff (show ¬ nI s < 0 from nI_pos (by omega)) (am_oi (a := 25 + s) (by rw [nI_clamp (by omega)]; exact sh_S4 s hs) ?_)
      iterate 3 refine am_g0 rfl rfl ?_
      refine am_ys (show (true && (true && am_isb shC (25 + s) 4)) = true by rw [s1]; rfl) ?_
      refine ⟨(some (.int (if w.1 (25 + s) 2 = -1 then 1 else 0)), w), d_isLost (by omega) hs, ?_⟩
      refine am_to (lv' := [(0, .ref 0), (1, .int (nI p)), (2, .int (nI s)), (3, .ref (25 + s))]) (st' := [.int (if w.1 (25 + s) 2 = -1 then 1 else 0)]) (w' := w) rfl rfl rfl ?_
      refine am_g0 rfl rfl ?_
      rcases opt_or (S.sz s) with hz | ⟨n, hz⟩
      · refine am_ff (show ¬ (if w.1 (25 + s) 2 = -1 then 1 else 0 : Int32) = 0 from by rw [if_pos ((h.szn hs).mpr hz)]; exact i10) ?_
        iterate 3 refine am_g0 rfl rfl ?_
        refine ⟨(some (.int ((-10) - 1)), am_pi w 0 16 1), d_refusal (by omega), ?_⟩
        refine am_to (lv' := [(0, .ref 0), (1, .int (nI p)), (2, .int (nI s)), (3, .ref (25 + s))]) (st' := [.int ((-10) - 1)]) (w' := am_pi w 0 16 1) rfl rfl rfl ?_
        refine am_g0 rfl rfl ?_
        exact ⟨rfl, by unfold writeS; rw [hx, hy]; dsimp only; rw [hz]; rfl, by unfold writeS; rw [hx, hy]; dsimp only; rw [hz]; exact RC_setF h⟩
      · refine am_tt (show (if w.1 (25 + s) 2 = -1 then 1 else 0 : Int32) = 0 from by rw [if_neg (fun z => by rw [(h.szn hs).mp z] at hz; cases hz)]) ?_
        have hn60 := (h.1.1.2.2.2 s hs).2 n hz
        refine am_go rfl ?_
        refine am_g0 rfl rfl ?_
        obtain ⟨⟨r1, w1⟩, ⟨e1, g1, g2, g3⟩, hD1⟩ := d_retr (d := d - 1) (by omega) h
        dsimp only at e1 g1 g2 g3
        subst e1
        refine ⟨(none, w1), hD1, ?_⟩
        refine am_to (lv' := [(0, .ref 0), (1, .int (nI p)), (3, .ref (25 + s))]) (st' := []) (w' := w1) rfl rfl rfl ?_
        obtain ⟨a1, a2⟩ := g1.1.2.2.2.2.2.2.2.1 s hs
        rw [hz] at a1
        have a3 : w1.1 (25 + s) 2 = nI n := a1
        iterate 2 refine am_g0 rfl rfl ?_
        refine am_ys s1 ?_
        iterate 2 refine am_g0 rfl rfl ?_
        refine am_top (y := nI (mn30 n)) (by rw [a3]; unfold mn30; by_cases z : 30 < n; rw [if_pos z, if_pos (show (30 : Int32) < nI n from nI_lt (a := 30) z (by omega))]; rfl; rw [if_neg z, if_neg (show ¬ (30 : Int32) < nI n from nI_nlt (b := n) (a := 30) (by omega) (by omega))]) ?_
        iterate 3 refine am_g0 rfl rfl ?_
        have hS : writeS S (nI p) (nI s) = (nI (mn30 n), S.setH S.fm S.sz (wrI S s p (mn30 n))) := by unfold writeS; rw [hx, hy]; dsimp only; rw [hz]
        rw [hS]
        have hmn : mn30 n ≤ 30 ∧ mn30 n ≤ n := by unfold mn30; split <;> omega
        have key : ∀ j i : Nat, i + j = mn30 n → ∀ m : am_M, (∀ a, a ≠ 29 + s → m.1 a = w1.1 a) → m.2 = w1.2 → (∀ k, m.1 (29 + s) k = if k < i then cCut (nI (S.fm s)) (cellI S.V (prS S.pf p) (wet0 S) k) else w1.1 (29 + s) k) → am_R shC mi_X11_write (am_D shC (d - 1)) (fun o => o.1 = some (.int (nI (mn30 n), S.setH S.fm S.sz (wrI S s p (mn30 n))).1) ∧ RC o.2 (nI (mn30 n), S.setH S.fm S.sz (wrI S s p (mn30 n))).2) 63 [(0, .ref 0), (1, .int (nI p)), (3, .ref (25 + s)), (4, .int (nI (mn30 n))), (5, .int (nI i))] [] m := by
          intro j
          induction j with
          | zero =>
            intro i hi m hm hm2 hr
            have ei : i = mn30 n := by omega
            refine am_go rfl ?_
            iterate 2 refine am_g0 rfl rfl ?_
            refine am_tt (show (nI (mn30 n) : Int32) ≤ (nI i) from nI_le (by omega) (by omega)) ?_
            refine am_go rfl ?_
            refine am_g0 rfl rfl ?_
            refine ⟨rfl, rfl, RC_setH g1 (fun a ha => hm a (by omega)) hm2 g1.1.1.2.2.2 (fun c hc => ?_)⟩
            obtain ⟨k1, k2⟩ := g1.1.2.2.2.2.2.2.2.1 c hc
            show m.1 (25 + c) 2 = opI (S.sz c) ∧ ∀ v, S.sz c = some v → m.1 (25 + c) 1 = nI (S.fm c) ∧ ∀ i, i < v → m.1 (29 + c) i = (if c = s ∧ i < mn30 n then cCut (nI (S.fm s)) (cellI S.V (prS S.pf p) (wet0 S) i) else S.it c i)
            rw [hm (25 + c) (by omega)]
            refine ⟨k1, fun v hv => ⟨(k2 v hv).1, fun e he => ?_⟩⟩
            by_cases z : c = s
            · subst z
              rw [hr, ei]
              by_cases z2 : e < mn30 n
              · rw [if_pos z2, if_pos ⟨rfl, z2⟩]
              · rw [if_neg z2, if_neg (fun q => z2 q.2)]; exact (k2 v hv).2 e he
            · rw [hm (29 + c) (by omega), if_neg (fun q => z q.1)]; exact (k2 v hv).2 e he
          | succ j ih =>
            intro i hi m hm hm2 hr
            obtain ⟨t1, t2, t3, t4⟩ := sh_Tr p (by omega)
            refine am_go rfl ?_
            iterate 2 refine am_g0 rfl rfl ?_
            refine am_ff (show ¬ (nI (mn30 n) : Int32) ≤ (nI i) from nI_ge (by omega) (by omega)) ?_
            iterate 6 refine am_g0 rfl rfl ?_
            refine am_ff (show ¬ nI p < 0 from nI_pos (by omega)) (am_oi (a := 34 + p) (by rw [nI_clamp (by omega)]; exact t4) ?_)
            iterate 3 refine am_g0 rfl rfl ?_
            refine am_ys (show (true && (true && am_isb shC (34 + p) 9)) = true by rw [t1]; rfl) ?_
            refine ⟨(some (.int (cellI S.V (prS S.pf p) (wet0 S) i)), m), d_told (j := 0) (by omega) hq (fun p hp => (g2 p hp).fr (hm _ (by omega)) (hm _ (by omega))) hp (by omega) (by omega), ?_⟩
            refine am_to (lv' := [(0, .ref 0), (1, .int (nI p)), (3, .ref (25 + s)), (4, .int (nI (mn30 n))), (5, .int (nI i))]) (st' := [.int (cellI S.V (prS S.pf p) (wet0 S) i), .int (nI i), .ref (25 + s)]) (w' := m) rfl rfl rfl ?_
            refine am_g0 rfl rfl ?_
            refine am_ys (show (true && (true && am_isb shC (25 + s) 4)) = true by rw [s1]; rfl) ?_
            refine ⟨(none, am_pi m (29 + s) i (cCut (m.1 (25 + s) 1) (cellI S.V (prS S.pf p) (wet0 S) i))), d_put (by omega) hs (by omega), ?_⟩
            refine am_to (lv' := [(0, .ref 0), (1, .int (nI p)), (3, .ref (25 + s)), (4, .int (nI (mn30 n))), (5, .int (nI i))]) (st' := []) (w' := am_pi m (29 + s) i (cCut (m.1 (25 + s) 1) (cellI S.V (prS S.pf p) (wet0 S) i))) rfl rfl rfl ?_
            iterate 2 refine am_g0 rfl rfl ?_
            have this := ih (i + 1) (by omega) (am_pi m (29 + s) i (cCut (m.1 (25 + s) 1) (cellI S.V (prS S.pf p) (wet0 S) i))) (fun a ha => by rw [am_pi_row ha]; exact hm a ha) hm2 (fun k => if z : k = i then by rw [z, am_pi_at, if_pos (by omega), hm (25 + s) (by omega), (a2 n hz).1] else by rw [am_pi_ne (Or.inr z), hr]; by_cases z2 : k < i; rw [if_pos z2, if_pos (by omega)]; rw [if_neg z2, if_neg (by omega)])
            rw [← nI_1] at this
            exact am_kl this rfl
        exact am_kl (key (mn30 n) 0 (by omega) w1 (fun _ _ => rfl) rfl (fun k => by rw [if_neg (Nat.not_lt_zero k)])) rfl
