/-! digest: the class -/
def mx (h v : Int64) : Int64 := 31 * h + v
def itN (F : Int64 → Nat → Int64) (h : Int64) : Nat → Int64
  | 0 => h
  | n + 1 => F (itN F h n) n
def digL (S : Sp) (h : Int64) (l : Nat) : Int64 := mx (itN (fun h j => mx h (lastS S (nI l) (nI j)).toInt64) h 6) (wornS S (nI l)).toInt64
def stepN (k : Nat) : Nat := if k = 0 then 0 else if k = 1 then 5 else if k = 2 then 12 else 29
def digW (S : Sp) (h : Int64) (p : Nat) : Int64 := itN (fun h k => itN (fun h j => mx h (atS S (nI (stepN k)) (nI p) (nI j)).toInt64) h 4) (itN (fun h j => mx h (personS S (nI p) (nI j)).toInt64) h 5) 4
def digP (S : Sp) (h : Int64) (p : Nat) : Int64 := mx (mx (mx (mx (mx (mx (itN (fun h j => mx h (pairQ S (nI p) (nI j)).toInt64) (mx (mx h (endsS S (nI p) 0).toInt64) (endsS S (nI p) 1).toInt64) 3) (solesS S (nI p)).toInt64) (woreQ S (nI p) 0).toInt64) (woreQ S (nI p) 1).toInt64) (askQ S (nI p)).toInt64) (stormQ S 5 5 (nI p) 0)) (stormQ S 5 5 (nI p) 1)
def dg1 (S : Sp) : Int64 := itN (fun h k => mx h (countS S (nI k)).toInt64) 17 8
def dg2 (S : Sp) : Int64 := itN (fun h k => mx h (faultS S (nI k)).toInt64) (dg1 S) 3
def dg3 (S : Sp) : Int64 := itN (fun h k => mx h (cellS S (nI k)).toInt64) (dg2 S) S.V.1
def dg4 (S : Sp) : Int64 := itN (digL S) (dg3 S) S.m
def dg5 (S : Sp) : Int64 := itN (fun h p => digP S (digW S h p) p) (dg4 S) S.q
def dg6 (S : Sp) : Int64 := mx (mx (dg5 S) (whoS S 0).toInt64) (whoS S 1).toInt64
def dg7 (S : Sp) : Int64 := itN (fun h k => mx h (metS S (nI k)).toInt64) (dg6 S) 3
def digS (S : Sp) : Int64 := mx (mx (mx (mx (mx (mx (mx (dg7 S) (rifS S).toInt64) (nI (matchN S)).toInt64) (dryQ S (-1)).toInt64) (dryQ S 0).toInt64) (neverS S).toInt64) (shelvesQ S 7 0).toInt64) (shelvesQ S 7 1).toInt64
theorem d_mixed {d : Nat} {h v : Int64} {w : am_M} (hd : 1 ≤ d) : am_D shC d mi_X11_mixed [.long h, .long v] w (some (.long (mx h v)), w) := by
  refine am_def (by omega) rfl rfl ?_
  iterate 6 refine am_g0 rfl rfl ?_
  exact ⟨rfl, rfl⟩
theorem d_mixedLast {d l : Nat} {h : Int64} {w : am_M} {S : Sp} (hd : 8 ≤ d) (r : RC w S) : ∃ o : am_O, (o.1 = some (.long (digL S h l)) ∧ RC o.2 S) ∧ am_D shC d mi_X11_mixedLast [.ref 0, .long h, .int (nI l)] w o := by
  obtain ⟨F, hF⟩ : ∃ F : Int64 → Nat → Int64, F = fun h j => mx h (lastS S (nI l) (nI j)).toInt64 := ⟨_, rfl⟩
  have hFe : ∀ x j, F x j = mx x (lastS S (nI l) (nI j)).toInt64 := fun x j => by rw [hF]
  have hS : digL S h l = mx (itN F h 6) (wornS S (nI l)).toInt64 := by rw [hF]; rfl
  rw [hS]
  refine am_dex (by omega) rfl rfl ?_
  iterate 4 refine am_g0 rfl rfl ?_
  have key : ∀ j i : Nat, i + j = 6 → am_R shC mi_X11_mixedLast (am_D shC (d - 1)) (fun o => o.1 = some (.long (mx (itN F h 6) (wornS S (nI l)).toInt64)) ∧ RC o.2 S) 6 [(0, .ref 0), (3, .int (nI l)), (4, .long (itN F h i)), (6, .int (nI i))] [] w := by
    intro j
    induction j with
    | zero =>
      intro i hi
      refine am_go rfl ?_
      iterate 2 refine am_g0 rfl rfl ?_
      refine am_tt (show (6 : Int32) ≤ (nI i) from nI_le (a := 6) (by omega) (by omega)) ?_
      refine am_go rfl ?_
      iterate 3 refine am_g0 rfl rfl ?_
      obtain ⟨⟨r1, w1⟩, ⟨e1, g1⟩, hD1⟩ := d_worn (d := d - 1) (by omega) r
      dsimp only at e1 g1
      subst e1
      refine ⟨(some (.int (wornS S (nI l))), w1), hD1, ?_⟩
      refine am_to (lv' := [(0, .ref 0), (3, .int (nI l)), (4, .long (itN F h i))]) (st' := [.int (wornS S (nI l)), .long (itN F h i)]) (w' := w1) rfl rfl rfl ?_
      iterate 2 refine am_g0 rfl rfl ?_
      refine ⟨(some (.long (mx (itN F h i) (wornS S (nI l)).toInt64)), w1), d_mixed (by omega), ?_⟩
      refine am_to (lv' := [(0, .ref 0), (3, .int (nI l)), (4, .long (itN F h i))]) (st' := [.long (mx (itN F h i) (wornS S (nI l)).toInt64)]) (w' := w1) rfl rfl rfl ?_
      refine am_g0 rfl rfl ?_
      exact ⟨rfl, by rw [show i = 6 by omega], g1⟩
    | succ j ih =>
      intro i hi
      have this := ih (i + 1) (by omega)
      rw [show itN F h (i + 1) = F (itN F h i) i from rfl, hFe, ← nI_1 i] at this
      refine am_go rfl ?_
      iterate 2 refine am_g0 rfl rfl ?_
      refine am_ff (show ¬ (6 : Int32) ≤ (nI i) from nI_ge (b := 6) (by omega) (by omega)) ?_
      iterate 5 refine am_g0 rfl rfl ?_
      refine ⟨(some (.int (lastS S (nI l) (nI i))), w), d_last (by omega) r, ?_⟩
      refine am_to (lv' := [(0, .ref 0), (3, .int (nI l)), (4, .long (itN F h i)), (6, .int (nI i))]) (st' := [.int (lastS S (nI l) (nI i)), .long (itN F h i)]) (w' := w) rfl rfl rfl ?_
      iterate 2 refine am_g0 rfl rfl ?_
      refine ⟨(some (.long (mx (itN F h i) (lastS S (nI l) (nI i)).toInt64)), w), d_mixed (by omega), ?_⟩
      refine am_to (lv' := [(0, .ref 0), (3, .int (nI l)), (4, .long (itN F h i)), (6, .int (nI i))]) (st' := [.long (mx (itN F h i) (lastS S (nI l) (nI i)).toInt64)]) (w' := w) rfl rfl rfl ?_
      iterate 3 refine am_g0 rfl rfl ?_
      exact am_kl this rfl
  exact am_kl (key 6 0 (by omega)) rfl
theorem d_mixedWalk {d p : Nat} {h : Int64} {w : am_M} {S : Sp} (hd : 9 ≤ d) (r : RC w S) : ∃ o : am_O, (o.1 = some (.long (digW S h p)) ∧ RC o.2 S) ∧ am_D shC d mi_X11_mixedWalk [.ref 0, .long h, .int (nI p)] w o := by
  obtain ⟨F, hF⟩ : ∃ F : Int64 → Nat → Int64, F = fun h j => mx h (personS S (nI p) (nI j)).toInt64 := ⟨_, rfl⟩
  have hFe : ∀ x j, F x j = mx x (personS S (nI p) (nI j)).toInt64 := fun x j => by rw [hF]
  obtain ⟨E, hE⟩ : ∃ E : Nat → Int64 → Nat → Int64, E = fun k h j => mx h (atS S (nI (stepN k)) (nI p) (nI j)).toInt64 := ⟨_, rfl⟩
  have hEe : ∀ k x j, E k x j = mx x (atS S (nI (stepN k)) (nI p) (nI j)).toInt64 := fun k x j => by rw [hE]
  obtain ⟨G, hG⟩ : ∃ G : Int64 → Nat → Int64, G = fun h k => itN (E k) h 4 := ⟨_, rfl⟩
  have hGe : ∀ x k, G x k = itN (E k) x 4 := fun x k => by rw [hG]
  have hS : digW S h p = itN G (itN F h 5) 4 := by rw [hG, hE, hF]; rfl
  rw [hS]
  have key2 : ∀ j k : Nat, k + j = 4 → ∀ m : am_M, RC m S → am_R shC mi_X11_mixedWalk (am_D shC (d - 1)) (fun o => o.1 = some (.long (itN G (itN F h 5) 4)) ∧ RC o.2 S) 46 [(0, .ref 0), (3, .int (nI p)), (4, .long (itN G (itN F h 5) k)), (6, .ref 1003), (7, .int 4), (8, .int (nI k))] [] m := by
    intro j
    induction j with
    | zero =>
      intro k hk m hm
      refine am_go rfl ?_
      iterate 2 refine am_g0 rfl rfl ?_
      refine am_tt (show (4 : Int32) ≤ (nI k) from nI_le (a := 4) (by omega) (by omega)) ?_
      refine am_go rfl ?_
      refine am_g0 rfl rfl ?_
      exact ⟨rfl, by rw [show k = 4 by omega], hm⟩
    | succ j ih =>
      intro k hk m hm
      have hrow : ([0, 5, 12, 29] : List Int32)[k]? = some (nI (stepN k)) := by
        have : ∀ k, k < 4 → ([0, 5, 12, 29] : List Int32)[k]? = some (nI (stepN k)) := by decide
        exact this k (by omega)
      have this := fun m hm => ih (k + 1) (by omega) m hm
      rw [show itN G (itN F h 5) (k + 1) = G (itN G (itN F h 5) k) k from rfl, hGe, ← nI_1 k] at this
      generalize itN G (itN F h 5) k = y at this ⊢
      refine am_go rfl ?_
      iterate 2 refine am_g0 rfl rfl ?_
      refine am_ff (show ¬ (4 : Int32) ≤ (nI k) from nI_ge (b := 4) (by omega) (by omega)) ?_
      iterate 2 refine am_g0 rfl rfl ?_
      refine am_glS (l := [0, 5, 12, 29]) (x := nI (stepN k)) rfl rfl rfl (hrow) (by decide) ?_
      iterate 3 refine am_g0 rfl rfl ?_
      have key3 : ∀ j i : Nat, i + j = 4 → ∀ m : am_M, RC m S → am_R shC mi_X11_mixedWalk (am_D shC (d - 1)) (fun o => o.1 = some (.long (itN G (itN F h 5) 4)) ∧ RC o.2 S) 63 [(0, .ref 0), (3, .int (nI p)), (4, .long (itN (E k) y i)), (6, .ref 1003), (7, .int 4), (8, .int (nI k)), (9, .int (nI (stepN k))), (10, .int (nI i))] [] m := by
        intro j
        induction j with
        | zero =>
          intro i hi m hm
          have e : i = 4 := by omega
          have this := this m hm
          rw [show itN (E k) y 4 = itN (E k) y i by rw [e]] at this
          refine am_go rfl ?_
          iterate 2 refine am_g0 rfl rfl ?_
          refine am_tt (show (4 : Int32) ≤ (nI i) from nI_le (a := 4) (by omega) (by omega)) ?_
          refine am_go rfl ?_
          refine am_g0 rfl rfl ?_
          exact am_kl this rfl
        | succ j ih3 =>
          intro i hi m hm
          have that := fun m hm => ih3 (i + 1) (by omega) m hm
          rw [show itN (E k) y (i + 1) = E k (itN (E k) y i) i from rfl, hEe, ← nI_1 i] at that
          refine am_go rfl ?_
          iterate 2 refine am_g0 rfl rfl ?_
          refine am_ff (show ¬ (4 : Int32) ≤ (nI i) from nI_ge (b := 4) (by omega) (by omega)) ?_
          iterate 6 refine am_g0 rfl rfl ?_
          obtain ⟨⟨r1, w1⟩, ⟨e1, g1⟩, hD1⟩ := d_at (d := d - 1) (by omega) hm
          dsimp only at e1 g1
          subst e1
          refine ⟨(some (.int (atS S (nI (stepN k)) (nI p) (nI i))), w1), hD1, ?_⟩
          refine am_to (lv' := [(0, .ref 0), (3, .int (nI p)), (4, .long (itN (E k) y i)), (6, .ref 1003), (7, .int 4), (8, .int (nI k)), (9, .int (nI (stepN k))), (10, .int (nI i))]) (st' := [.int (atS S (nI (stepN k)) (nI p) (nI i)), .long (itN (E k) y i)]) (w' := w1) rfl rfl rfl ?_
          iterate 2 refine am_g0 rfl rfl ?_
          refine ⟨(some (.long (mx (itN (E k) y i) (atS S (nI (stepN k)) (nI p) (nI i)).toInt64)), w1), d_mixed (by omega), ?_⟩
          refine am_to (lv' := [(0, .ref 0), (3, .int (nI p)), (4, .long (itN (E k) y i)), (6, .ref 1003), (7, .int 4), (8, .int (nI k)), (9, .int (nI (stepN k))), (10, .int (nI i))]) (st' := [.long (mx (itN (E k) y i) (atS S (nI (stepN k)) (nI p) (nI i)).toInt64)]) (w' := w1) rfl rfl rfl ?_
          iterate 3 refine am_g0 rfl rfl ?_
          exact am_kl (that w1 g1) rfl
      exact am_kl (key3 4 0 (by omega) m hm) rfl
  refine am_dex (by omega) rfl rfl ?_
  iterate 4 refine am_g0 rfl rfl ?_
  have key : ∀ j i : Nat, i + j = 5 → am_R shC mi_X11_mixedWalk (am_D shC (d - 1)) (fun o => o.1 = some (.long (itN G (itN F h 5) 4)) ∧ RC o.2 S) 6 [(0, .ref 0), (3, .int (nI p)), (4, .long (itN F h i)), (6, .int (nI i))] [] w := by
    intro j
    induction j with
    | zero =>
      intro i hi
      have e : i = 5 := by omega
      have k2 := key2 4 0 (by omega) w r
      rw [show itN G (itN F h 5) 0 = itN F h i by rw [e]; rfl] at k2
      refine am_go rfl ?_
      iterate 2 refine am_g0 rfl rfl ?_
      refine am_tt (show (5 : Int32) ≤ (nI i) from nI_le (a := 5) (by omega) (by omega)) ?_
      refine am_go rfl ?_
      iterate 6 refine am_g0 rfl rfl ?_
      exact am_kl k2 rfl
    | succ j ih =>
      intro i hi
      have this := ih (i + 1) (by omega)
      rw [show itN F h (i + 1) = F (itN F h i) i from rfl, hFe, ← nI_1 i] at this
      refine am_go rfl ?_
      iterate 2 refine am_g0 rfl rfl ?_
      refine am_ff (show ¬ (5 : Int32) ≤ (nI i) from nI_ge (b := 5) (by omega) (by omega)) ?_
      iterate 5 refine am_g0 rfl rfl ?_
      refine ⟨(some (.int (personS S (nI p) (nI i))), w), d_person (by omega) r, ?_⟩
      refine am_to (lv' := [(0, .ref 0), (3, .int (nI p)), (4, .long (itN F h i)), (6, .int (nI i))]) (st' := [.int (personS S (nI p) (nI i)), .long (itN F h i)]) (w' := w) rfl rfl rfl ?_
      iterate 2 refine am_g0 rfl rfl ?_
      refine ⟨(some (.long (mx (itN F h i) (personS S (nI p) (nI i)).toInt64)), w), d_mixed (by omega), ?_⟩
      refine am_to (lv' := [(0, .ref 0), (3, .int (nI p)), (4, .long (itN F h i)), (6, .int (nI i))]) (st' := [.long (mx (itN F h i) (personS S (nI p) (nI i)).toInt64)]) (w' := w) rfl rfl rfl ?_
      iterate 3 refine am_g0 rfl rfl ?_
      exact am_kl this rfl
  exact am_kl (key 5 0 (by omega)) rfl
theorem d_mixedPlans {d p : Nat} {h : Int64} {w : am_M} {S : Sp} (hd : 20 ≤ d) (r : RC w S) : ∃ o : am_O, (o.1 = some (.long (digP S h p)) ∧ RC o.2 S) ∧ am_D shC d mi_X11_mixedPlans [.ref 0, .long h, .int (nI p)] w o := by
  obtain ⟨F, hF⟩ : ∃ F : Int64 → Nat → Int64, F = fun h j => mx h (pairQ S (nI p) (nI j)).toInt64 := ⟨_, rfl⟩
  have hFe : ∀ x j, F x j = mx x (pairQ S (nI p) (nI j)).toInt64 := fun x j => by rw [hF]
  have hS : digP S h p = mx (mx (mx (mx (mx (mx (itN F (mx (mx h (endsS S (nI p) 0).toInt64) (endsS S (nI p) 1).toInt64) 3) (solesS S (nI p)).toInt64) (woreQ S (nI p) 0).toInt64) (woreQ S (nI p) 1).toInt64) (askQ S (nI p)).toInt64) (stormQ S 5 5 (nI p) 0)) (stormQ S 5 5 (nI p) 1) := by rw [hF]; rfl
  rw [hS]
  obtain ⟨y, hy⟩ : ∃ y, y = mx (mx h (endsS S (nI p) 0).toInt64) (endsS S (nI p) 1).toInt64 := ⟨_, rfl⟩
  rw [← hy]
  have key : ∀ j i : Nat, i + j = 3 → ∀ m : am_M, RC m S → am_R shC mi_X11_mixedPlans (am_D shC (d - 1)) (fun o => o.1 = some (.long (mx (mx (mx (mx (mx (mx (itN F y 3) (solesS S (nI p)).toInt64) (woreQ S (nI p) 0).toInt64) (woreQ S (nI p) 1).toInt64) (askQ S (nI p)).toInt64) (stormQ S 5 5 (nI p) 0)) (stormQ S 5 5 (nI p) 1))) ∧ RC o.2 S) 26 [(0, .ref 0), (3, .int (nI p)), (4, .long (itN F y i)), (6, .int (nI i))] [] m := by
    intro j
    induction j with
    | zero =>
      intro i hi m hm
      have e : i = 3 := by omega
      rw [show itN F y 3 = itN F y i by rw [e]]
      generalize itN F y i = z
      refine am_go rfl ?_
      iterate 2 refine am_g0 rfl rfl ?_
      refine am_tt (show (3 : Int32) ≤ (nI i) from nI_le (a := 3) (by omega) (by omega)) ?_
      refine am_go rfl ?_
      iterate 3 refine am_g0 rfl rfl ?_
      obtain ⟨⟨r1, w1⟩, ⟨e1, g1⟩, hD1⟩ := d_soles (d := d - 1) (by omega) hm
      dsimp only at e1 g1
      subst e1
      refine ⟨(some (.int (solesS S (nI p))), w1), hD1, ?_⟩
      refine am_to (lv' := [(0, .ref 0), (3, .int (nI p)), (4, .long z)]) (st' := [.int (solesS S (nI p)), .long z]) (w' := w1) rfl rfl rfl ?_
      iterate 2 refine am_g0 rfl rfl ?_
      refine ⟨(some (.long (mx z (solesS S (nI p)).toInt64)), w1), d_mixed (by omega), ?_⟩
      refine am_to (lv' := [(0, .ref 0), (3, .int (nI p)), (4, .long z)]) (st' := [.long (mx z (solesS S (nI p)).toInt64)]) (w' := w1) rfl rfl rfl ?_
      iterate 6 refine am_g0 rfl rfl ?_
      obtain ⟨⟨r2, w2⟩, ⟨e2, g2⟩, hD2⟩ := d_wore (d := d - 1) (by omega) g1
      dsimp only at e2 g2
      subst e2
      refine ⟨(some (.int (woreQ S (nI p) 0)), w2), hD2, ?_⟩
      refine am_to (lv' := [(0, .ref 0), (3, .int (nI p)), (4, .long (mx z (solesS S (nI p)).toInt64))]) (st' := [.int (woreQ S (nI p) 0), .long (mx z (solesS S (nI p)).toInt64)]) (w' := w2) rfl rfl rfl ?_
      iterate 2 refine am_g0 rfl rfl ?_
      refine ⟨(some (.long (mx (mx z (solesS S (nI p)).toInt64) (woreQ S (nI p) 0).toInt64)), w2), d_mixed (by omega), ?_⟩
      refine am_to (lv' := [(0, .ref 0), (3, .int (nI p)), (4, .long (mx z (solesS S (nI p)).toInt64))]) (st' := [.long (mx (mx z (solesS S (nI p)).toInt64) (woreQ S (nI p) 0).toInt64)]) (w' := w2) rfl rfl rfl ?_
      iterate 4 refine am_g0 rfl rfl ?_
      obtain ⟨⟨r3, w3⟩, ⟨e3, g3⟩, hD3⟩ := d_wore (d := d - 1) (by omega) g2
      dsimp only at e3 g3
      subst e3
      refine ⟨(some (.int (woreQ S (nI p) 1)), w3), hD3, ?_⟩
      refine am_to (lv' := [(0, .ref 0), (3, .int (nI p)), (4, .long (mx z (solesS S (nI p)).toInt64))]) (st' := [.int (woreQ S (nI p) 1), .long (mx (mx z (solesS S (nI p)).toInt64) (woreQ S (nI p) 0).toInt64)]) (w' := w3) rfl rfl rfl ?_
      iterate 2 refine am_g0 rfl rfl ?_
      refine ⟨(some (.long (mx (mx (mx z (solesS S (nI p)).toInt64) (woreQ S (nI p) 0).toInt64) (woreQ S (nI p) 1).toInt64)), w3), d_mixed (by omega), ?_⟩
      refine am_to (lv' := [(0, .ref 0), (3, .int (nI p)), (4, .long (mx z (solesS S (nI p)).toInt64))]) (st' := [.long (mx (mx (mx z (solesS S (nI p)).toInt64) (woreQ S (nI p) 0).toInt64) (woreQ S (nI p) 1).toInt64)]) (w' := w3) rfl rfl rfl ?_
      iterate 5 refine am_g0 rfl rfl ?_
      obtain ⟨⟨r4, w4⟩, ⟨e4, g4⟩, hD4⟩ := d_ask (d := d - 1) (by omega) g3
      dsimp only at e4 g4
      subst e4
      refine ⟨(some (.int (askQ S (nI p))), w4), hD4, ?_⟩
      refine am_to (lv' := [(0, .ref 0), (3, .int (nI p)), (4, .long (mx (mx (mx z (solesS S (nI p)).toInt64) (woreQ S (nI p) 0).toInt64) (woreQ S (nI p) 1).toInt64))]) (st' := [.int (askQ S (nI p)), .long (mx (mx (mx z (solesS S (nI p)).toInt64) (woreQ S (nI p) 0).toInt64) (woreQ S (nI p) 1).toInt64)]) (w' := w4) rfl rfl rfl ?_
      iterate 2 refine am_g0 rfl rfl ?_
      refine ⟨(some (.long (mx (mx (mx (mx z (solesS S (nI p)).toInt64) (woreQ S (nI p) 0).toInt64) (woreQ S (nI p) 1).toInt64) (askQ S (nI p)).toInt64)), w4), d_mixed (by omega), ?_⟩
      refine am_to (lv' := [(0, .ref 0), (3, .int (nI p)), (4, .long (mx (mx (mx z (solesS S (nI p)).toInt64) (woreQ S (nI p) 0).toInt64) (woreQ S (nI p) 1).toInt64))]) (st' := [.long (mx (mx (mx (mx z (solesS S (nI p)).toInt64) (woreQ S (nI p) 0).toInt64) (woreQ S (nI p) 1).toInt64) (askQ S (nI p)).toInt64)]) (w' := w4) rfl rfl rfl ?_
      iterate 8 refine am_g0 rfl rfl ?_
      obtain ⟨⟨r5, w5⟩, ⟨e5, g5⟩, hD5⟩ := d_storm (d := d - 1) (by omega) g4
      dsimp only at e5 g5
      subst e5
      refine ⟨(some (.long (stormQ S 5 5 (nI p) 0)), w5), hD5, ?_⟩
      refine am_to (lv' := [(0, .ref 0), (3, .int (nI p)), (4, .long (mx (mx (mx (mx z (solesS S (nI p)).toInt64) (woreQ S (nI p) 0).toInt64) (woreQ S (nI p) 1).toInt64) (askQ S (nI p)).toInt64))]) (st' := [.long (stormQ S 5 5 (nI p) 0), .long (mx (mx (mx (mx z (solesS S (nI p)).toInt64) (woreQ S (nI p) 0).toInt64) (woreQ S (nI p) 1).toInt64) (askQ S (nI p)).toInt64)]) (w' := w5) rfl rfl rfl ?_
      refine am_g0 rfl rfl ?_
      refine ⟨(some (.long (mx (mx (mx (mx (mx z (solesS S (nI p)).toInt64) (woreQ S (nI p) 0).toInt64) (woreQ S (nI p) 1).toInt64) (askQ S (nI p)).toInt64) (stormQ S 5 5 (nI p) 0))), w5), d_mixed (by omega), ?_⟩
      refine am_to (lv' := [(0, .ref 0), (3, .int (nI p)), (4, .long (mx (mx (mx (mx z (solesS S (nI p)).toInt64) (woreQ S (nI p) 0).toInt64) (woreQ S (nI p) 1).toInt64) (askQ S (nI p)).toInt64))]) (st' := [.long (mx (mx (mx (mx (mx z (solesS S (nI p)).toInt64) (woreQ S (nI p) 0).toInt64) (woreQ S (nI p) 1).toInt64) (askQ S (nI p)).toInt64) (stormQ S 5 5 (nI p) 0))]) (w' := w5) rfl rfl rfl ?_
      iterate 8 refine am_g0 rfl rfl ?_
      obtain ⟨⟨r6, w6⟩, ⟨e6, g6⟩, hD6⟩ := d_storm (d := d - 1) (by omega) g5
      dsimp only at e6 g6
      subst e6
      refine ⟨(some (.long (stormQ S 5 5 (nI p) 1)), w6), hD6, ?_⟩
      refine am_to (lv' := [(0, .ref 0), (3, .int (nI p)), (4, .long (mx (mx (mx (mx (mx z (solesS S (nI p)).toInt64) (woreQ S (nI p) 0).toInt64) (woreQ S (nI p) 1).toInt64) (askQ S (nI p)).toInt64) (stormQ S 5 5 (nI p) 0)))]) (st' := [.long (stormQ S 5 5 (nI p) 1), .long (mx (mx (mx (mx (mx z (solesS S (nI p)).toInt64) (woreQ S (nI p) 0).toInt64) (woreQ S (nI p) 1).toInt64) (askQ S (nI p)).toInt64) (stormQ S 5 5 (nI p) 0))]) (w' := w6) rfl rfl rfl ?_
      refine am_g0 rfl rfl ?_
      refine ⟨(some (.long (mx (mx (mx (mx (mx (mx z (solesS S (nI p)).toInt64) (woreQ S (nI p) 0).toInt64) (woreQ S (nI p) 1).toInt64) (askQ S (nI p)).toInt64) (stormQ S 5 5 (nI p) 0)) (stormQ S 5 5 (nI p) 1))), w6), d_mixed (by omega), ?_⟩
      refine am_to (lv' := [(0, .ref 0), (3, .int (nI p)), (4, .long (mx (mx (mx (mx (mx z (solesS S (nI p)).toInt64) (woreQ S (nI p) 0).toInt64) (woreQ S (nI p) 1).toInt64) (askQ S (nI p)).toInt64) (stormQ S 5 5 (nI p) 0)))]) (st' := [.long (mx (mx (mx (mx (mx (mx z (solesS S (nI p)).toInt64) (woreQ S (nI p) 0).toInt64) (woreQ S (nI p) 1).toInt64) (askQ S (nI p)).toInt64) (stormQ S 5 5 (nI p) 0)) (stormQ S 5 5 (nI p) 1))]) (w' := w6) rfl rfl rfl ?_
      refine am_g0 rfl rfl ?_
      exact ⟨rfl, rfl, g6⟩
    | succ j ih =>
      intro i hi m hm
      have this := fun m hm => ih (i + 1) (by omega) m hm
      rw [show itN F y (i + 1) = F (itN F y i) i from rfl, hFe, ← nI_1 i] at this
      refine am_go rfl ?_
      iterate 2 refine am_g0 rfl rfl ?_
      refine am_ff (show ¬ (3 : Int32) ≤ (nI i) from nI_ge (b := 3) (by omega) (by omega)) ?_
      iterate 5 refine am_g0 rfl rfl ?_
      obtain ⟨⟨r1, w1⟩, ⟨e1, g1⟩, hD1⟩ := d_pair (d := d - 1) (by omega) hm
      dsimp only at e1 g1
      subst e1
      refine ⟨(some (.int (pairQ S (nI p) (nI i))), w1), hD1, ?_⟩
      refine am_to (lv' := [(0, .ref 0), (3, .int (nI p)), (4, .long (itN F y i)), (6, .int (nI i))]) (st' := [.int (pairQ S (nI p) (nI i)), .long (itN F y i)]) (w' := w1) rfl rfl rfl ?_
      iterate 2 refine am_g0 rfl rfl ?_
      refine ⟨(some (.long (mx (itN F y i) (pairQ S (nI p) (nI i)).toInt64)), w1), d_mixed (by omega), ?_⟩
      refine am_to (lv' := [(0, .ref 0), (3, .int (nI p)), (4, .long (itN F y i)), (6, .int (nI i))]) (st' := [.long (mx (itN F y i) (pairQ S (nI p) (nI i)).toInt64)]) (w' := w1) rfl rfl rfl ?_
      iterate 3 refine am_g0 rfl rfl ?_
      exact am_kl (this w1 g1) rfl
  refine am_dex (by omega) rfl rfl ?_
  iterate 5 refine am_g0 rfl rfl ?_
  obtain ⟨⟨r1, w1⟩, ⟨e1, g1⟩, hD1⟩ := d_ends (d := d - 1) (by omega) r
  dsimp only at e1 g1
  subst e1
  refine ⟨(some (.int (endsS S (nI p) 0)), w1), hD1, ?_⟩
  refine am_to (lv' := [(0, .ref 0), (1, .long h), (3, .int (nI p))]) (st' := [.int (endsS S (nI p) 0), .long h]) (w' := w1) rfl rfl rfl ?_
  iterate 2 refine am_g0 rfl rfl ?_
  refine ⟨(some (.long (mx h (endsS S (nI p) 0).toInt64)), w1), d_mixed (by omega), ?_⟩
  refine am_to (lv' := [(0, .ref 0), (1, .long h), (3, .int (nI p))]) (st' := [.long (mx h (endsS S (nI p) 0).toInt64)]) (w' := w1) rfl rfl rfl ?_
  iterate 4 refine am_g0 rfl rfl ?_
  obtain ⟨⟨r2, w2⟩, ⟨e2, g2⟩, hD2⟩ := d_ends (d := d - 1) (by omega) g1
  dsimp only at e2 g2
  subst e2
  refine ⟨(some (.int (endsS S (nI p) 1)), w2), hD2, ?_⟩
  refine am_to (lv' := [(0, .ref 0), (1, .long h), (3, .int (nI p))]) (st' := [.int (endsS S (nI p) 1), .long (mx h (endsS S (nI p) 0).toInt64)]) (w' := w2) rfl rfl rfl ?_
  iterate 2 refine am_g0 rfl rfl ?_
  refine ⟨(some (.long (mx (mx h (endsS S (nI p) 0).toInt64) (endsS S (nI p) 1).toInt64)), w2), d_mixed (by omega), ?_⟩
  refine am_to (lv' := [(0, .ref 0), (1, .long h), (3, .int (nI p))]) (st' := [.long (mx (mx h (endsS S (nI p) 0).toInt64) (endsS S (nI p) 1).toInt64)]) (w' := w2) rfl rfl rfl ?_
  iterate 3 refine am_g0 rfl rfl ?_
  rw [← hy]
  exact am_kl (key 3 0 (by omega) w2 g2) rfl
set_option maxHeartbeats 2000000 in
theorem d_digest {d : Nat} {w : am_M} {S : Sp} (hd : 22 ≤ d) (r : RC w S) : ∃ o : am_O, (o.1 = some (.long (digS S)) ∧ RC o.2 S) ∧ am_D shC d mi_X11_digest [.ref 0] w o := by
  have hq := r.q8
  have hV36 : S.V.1 ≤ 36 := r.1.V.1.2.1
  have s186 : ∀ m : am_M, RC m S → am_R shC mi_X11_digest (am_D shC (d - 1)) (fun o => (o.1 = some (.long (digS S)) ∧ RC o.2 S)) 186 [(0, .ref 0), (1, .long (dg7 S))] [] m := by
    intro m hm
    have hS : digS S = mx (mx (mx (mx (mx (mx (mx (dg7 S) (rifS S).toInt64) (nI (matchN S)).toInt64) (dryQ S (-1)).toInt64) (dryQ S 0).toInt64) (neverS S).toInt64) (shelvesQ S 7 0).toInt64) (shelvesQ S 7 1).toInt64 := rfl
    rw [hS]
    generalize dg7 S = y
    refine am_go rfl ?_
    iterate 2 refine am_g0 rfl rfl ?_
    obtain ⟨⟨r1, w1⟩, ⟨e1, g1⟩, hD1⟩ := d_rifest (d := d - 1) (by omega) hm
    dsimp only at e1 g1
    subst e1
    refine ⟨(some (.int (rifS S)), w1), hD1, ?_⟩
    refine am_to (lv' := [(0, .ref 0), (1, .long y)]) (st' := [.int (rifS S), .long y]) (w' := w1) rfl rfl rfl ?_
    iterate 2 refine am_g0 rfl rfl ?_
    refine ⟨(some (.long (mx y (rifS S).toInt64)), w1), d_mixed (by omega), ?_⟩
    refine am_to (lv' := [(0, .ref 0), (1, .long y)]) (st' := [.long (mx y (rifS S).toInt64)]) (w' := w1) rfl rfl rfl ?_
    iterate 2 refine am_g0 rfl rfl ?_
    obtain ⟨⟨r2, w2⟩, ⟨e2, g2⟩, hD2⟩ := d_match (d := d - 1) (by omega) g1
    dsimp only at e2 g2
    subst e2
    refine ⟨(some (.int (nI (matchN S))), w2), hD2, ?_⟩
    refine am_to (lv' := [(0, .ref 0), (1, .long y)]) (st' := [.int (nI (matchN S)), .long (mx y (rifS S).toInt64)]) (w' := w2) rfl rfl rfl ?_
    iterate 2 refine am_g0 rfl rfl ?_
    refine ⟨(some (.long (mx (mx y (rifS S).toInt64) (nI (matchN S)).toInt64)), w2), d_mixed (by omega), ?_⟩
    refine am_to (lv' := [(0, .ref 0), (1, .long y)]) (st' := [.long (mx (mx y (rifS S).toInt64) (nI (matchN S)).toInt64)]) (w' := w2) rfl rfl rfl ?_
    iterate 5 refine am_g0 rfl rfl ?_
    obtain ⟨⟨r3, w3⟩, ⟨e3, g3⟩, hD3⟩ := d_dry (d := d - 1) (by omega) g2
    dsimp only at e3 g3
    subst e3
    refine ⟨(some (.int (dryQ S (-1))), w3), hD3, ?_⟩
    refine am_to (lv' := [(0, .ref 0), (1, .long (mx (mx y (rifS S).toInt64) (nI (matchN S)).toInt64))]) (st' := [.int (dryQ S (-1)), .long (mx (mx y (rifS S).toInt64) (nI (matchN S)).toInt64)]) (w' := w3) rfl rfl rfl ?_
    iterate 2 refine am_g0 rfl rfl ?_
    refine ⟨(some (.long (mx (mx (mx y (rifS S).toInt64) (nI (matchN S)).toInt64) (dryQ S (-1)).toInt64)), w3), d_mixed (by omega), ?_⟩
    refine am_to (lv' := [(0, .ref 0), (1, .long (mx (mx y (rifS S).toInt64) (nI (matchN S)).toInt64))]) (st' := [.long (mx (mx (mx y (rifS S).toInt64) (nI (matchN S)).toInt64) (dryQ S (-1)).toInt64)]) (w' := w3) rfl rfl rfl ?_
    iterate 3 refine am_g0 rfl rfl ?_
    obtain ⟨⟨r4, w4⟩, ⟨e4, g4⟩, hD4⟩ := d_dry (d := d - 1) (by omega) g3
    dsimp only at e4 g4
    subst e4
    refine ⟨(some (.int (dryQ S 0)), w4), hD4, ?_⟩
    refine am_to (lv' := [(0, .ref 0), (1, .long (mx (mx y (rifS S).toInt64) (nI (matchN S)).toInt64))]) (st' := [.int (dryQ S 0), .long (mx (mx (mx y (rifS S).toInt64) (nI (matchN S)).toInt64) (dryQ S (-1)).toInt64)]) (w' := w4) rfl rfl rfl ?_
    iterate 2 refine am_g0 rfl rfl ?_
    refine ⟨(some (.long (mx (mx (mx (mx y (rifS S).toInt64) (nI (matchN S)).toInt64) (dryQ S (-1)).toInt64) (dryQ S 0).toInt64)), w4), d_mixed (by omega), ?_⟩
    refine am_to (lv' := [(0, .ref 0), (1, .long (mx (mx y (rifS S).toInt64) (nI (matchN S)).toInt64))]) (st' := [.long (mx (mx (mx (mx y (rifS S).toInt64) (nI (matchN S)).toInt64) (dryQ S (-1)).toInt64) (dryQ S 0).toInt64)]) (w' := w4) rfl rfl rfl ?_
    iterate 4 refine am_g0 rfl rfl ?_
    obtain ⟨⟨r5, w5⟩, ⟨e5, g5⟩, hD5⟩ := d_never (d := d - 1) (by omega) g4
    dsimp only at e5 g5
    subst e5
    refine ⟨(some (.int (neverS S)), w5), hD5, ?_⟩
    refine am_to (lv' := [(0, .ref 0), (1, .long (mx (mx (mx (mx y (rifS S).toInt64) (nI (matchN S)).toInt64) (dryQ S (-1)).toInt64) (dryQ S 0).toInt64))]) (st' := [.int (neverS S), .long (mx (mx (mx (mx y (rifS S).toInt64) (nI (matchN S)).toInt64) (dryQ S (-1)).toInt64) (dryQ S 0).toInt64)]) (w' := w5) rfl rfl rfl ?_
    iterate 2 refine am_g0 rfl rfl ?_
    refine ⟨(some (.long (mx (mx (mx (mx (mx y (rifS S).toInt64) (nI (matchN S)).toInt64) (dryQ S (-1)).toInt64) (dryQ S 0).toInt64) (neverS S).toInt64)), w5), d_mixed (by omega), ?_⟩
    refine am_to (lv' := [(0, .ref 0), (1, .long (mx (mx (mx (mx y (rifS S).toInt64) (nI (matchN S)).toInt64) (dryQ S (-1)).toInt64) (dryQ S 0).toInt64))]) (st' := [.long (mx (mx (mx (mx (mx y (rifS S).toInt64) (nI (matchN S)).toInt64) (dryQ S (-1)).toInt64) (dryQ S 0).toInt64) (neverS S).toInt64)]) (w' := w5) rfl rfl rfl ?_
    iterate 6 refine am_g0 rfl rfl ?_
    obtain ⟨⟨r6, w6⟩, ⟨e6, g6⟩, hD6⟩ := d_shelves (d := d - 1) (by omega) g5
    dsimp only at e6 g6
    subst e6
    refine ⟨(some (.int (shelvesQ S 7 0)), w6), hD6, ?_⟩
    refine am_to (lv' := [(0, .ref 0), (1, .long (mx (mx (mx (mx (mx y (rifS S).toInt64) (nI (matchN S)).toInt64) (dryQ S (-1)).toInt64) (dryQ S 0).toInt64) (neverS S).toInt64))]) (st' := [.int (shelvesQ S 7 0), .long (mx (mx (mx (mx (mx y (rifS S).toInt64) (nI (matchN S)).toInt64) (dryQ S (-1)).toInt64) (dryQ S 0).toInt64) (neverS S).toInt64)]) (w' := w6) rfl rfl rfl ?_
    iterate 2 refine am_g0 rfl rfl ?_
    refine ⟨(some (.long (mx (mx (mx (mx (mx (mx y (rifS S).toInt64) (nI (matchN S)).toInt64) (dryQ S (-1)).toInt64) (dryQ S 0).toInt64) (neverS S).toInt64) (shelvesQ S 7 0).toInt64)), w6), d_mixed (by omega), ?_⟩
    refine am_to (lv' := [(0, .ref 0), (1, .long (mx (mx (mx (mx (mx y (rifS S).toInt64) (nI (matchN S)).toInt64) (dryQ S (-1)).toInt64) (dryQ S 0).toInt64) (neverS S).toInt64))]) (st' := [.long (mx (mx (mx (mx (mx (mx y (rifS S).toInt64) (nI (matchN S)).toInt64) (dryQ S (-1)).toInt64) (dryQ S 0).toInt64) (neverS S).toInt64) (shelvesQ S 7 0).toInt64)]) (w' := w6) rfl rfl rfl ?_
    iterate 4 refine am_g0 rfl rfl ?_
    obtain ⟨⟨r7, w7⟩, ⟨e7, g7⟩, hD7⟩ := d_shelves (d := d - 1) (by omega) g6
    dsimp only at e7 g7
    subst e7
    refine ⟨(some (.int (shelvesQ S 7 1)), w7), hD7, ?_⟩
    refine am_to (lv' := [(0, .ref 0), (1, .long (mx (mx (mx (mx (mx y (rifS S).toInt64) (nI (matchN S)).toInt64) (dryQ S (-1)).toInt64) (dryQ S 0).toInt64) (neverS S).toInt64))]) (st' := [.int (shelvesQ S 7 1), .long (mx (mx (mx (mx (mx (mx y (rifS S).toInt64) (nI (matchN S)).toInt64) (dryQ S (-1)).toInt64) (dryQ S 0).toInt64) (neverS S).toInt64) (shelvesQ S 7 0).toInt64)]) (w' := w7) rfl rfl rfl ?_
    iterate 2 refine am_g0 rfl rfl ?_
    refine ⟨(some (.long (mx (mx (mx (mx (mx (mx (mx y (rifS S).toInt64) (nI (matchN S)).toInt64) (dryQ S (-1)).toInt64) (dryQ S 0).toInt64) (neverS S).toInt64) (shelvesQ S 7 0).toInt64) (shelvesQ S 7 1).toInt64)), w7), d_mixed (by omega), ?_⟩
    refine am_to (lv' := [(0, .ref 0), (1, .long (mx (mx (mx (mx (mx y (rifS S).toInt64) (nI (matchN S)).toInt64) (dryQ S (-1)).toInt64) (dryQ S 0).toInt64) (neverS S).toInt64))]) (st' := [.long (mx (mx (mx (mx (mx (mx (mx y (rifS S).toInt64) (nI (matchN S)).toInt64) (dryQ S (-1)).toInt64) (dryQ S 0).toInt64) (neverS S).toInt64) (shelvesQ S 7 0).toInt64) (shelvesQ S 7 1).toInt64)]) (w' := w7) rfl rfl rfl ?_
    refine am_g0 rfl rfl ?_
    exact ⟨rfl, rfl, g7⟩
  obtain ⟨F7, hF7⟩ : ∃ F : Int64 → Nat → Int64, F = fun h k => mx h (metS S (nI k)).toInt64 := ⟨_, rfl⟩
  have hF7e : ∀ x j, F7 x j = mx x (metS S (nI j)).toInt64 := fun x j => by rw [hF7]
  have k164 : ∀ j i : Nat, i + j = 3 → ∀ m : am_M, RC m S → am_R shC mi_X11_digest (am_D shC (d - 1)) (fun o => (o.1 = some (.long (digS S)) ∧ RC o.2 S)) 164 [(0, .ref 0), (1, .long (itN F7 (dg6 S) i)), (3, .int (nI i))] [] m := by
    intro j
    induction j with
    | zero =>
      intro i hi m hm
      have e : dg7 S = itN F7 (dg6 S) i := by rw [hF7, show i = 3 by omega]; rfl
      have nx := s186 m hm
      rw [e] at nx
      refine am_go rfl ?_
      iterate 2 refine am_g0 rfl rfl ?_
      refine am_tt (show (3 : Int32) ≤ (nI i) from nI_le (a := 3) (by omega) (by omega)) ?_
      exact am_kl nx rfl
    | succ j ih =>
      intro i hi m hm
      have this := fun m hm => ih (i + 1) (by omega) m hm
      rw [show itN F7 (dg6 S) (i + 1) = F7 (itN F7 (dg6 S) i) i from rfl, hF7e, ← nI_1 i] at this
      generalize itN F7 (dg6 S) i = y at this ⊢
      refine am_go rfl ?_
      iterate 2 refine am_g0 rfl rfl ?_
      refine am_ff (show ¬ (3 : Int32) ≤ (nI i) from nI_ge (b := 3) (by omega) (by omega)) ?_
      iterate 4 refine am_g0 rfl rfl ?_
      obtain ⟨⟨r1, w1⟩, ⟨e1, g1⟩, hD1⟩ := d_met (d := d - 1) (by omega) hm
      dsimp only at e1 g1
      subst e1
      refine ⟨(some (.int (metS S (nI i))), w1), hD1, ?_⟩
      refine am_to (lv' := [(0, .ref 0), (1, .long y), (3, .int (nI i))]) (st' := [.int (metS S (nI i)), .long y]) (w' := w1) rfl rfl rfl ?_
      iterate 2 refine am_g0 rfl rfl ?_
      refine ⟨(some (.long (mx y (metS S (nI i)).toInt64)), w1), d_mixed (by omega), ?_⟩
      refine am_to (lv' := [(0, .ref 0), (1, .long y), (3, .int (nI i))]) (st' := [.long (mx y (metS S (nI i)).toInt64)]) (w' := w1) rfl rfl rfl ?_
      iterate 3 refine am_g0 rfl rfl ?_
      exact am_kl (this w1 g1) rfl
  have s142 : ∀ m : am_M, RC m S → am_R shC mi_X11_digest (am_D shC (d - 1)) (fun o => (o.1 = some (.long (digS S)) ∧ RC o.2 S)) 142 [(0, .ref 0), (1, .long (dg5 S))] [] m := by
    intro m hm
    have k := fun m hm => k164 3 0 (by omega) m hm
    rw [show itN F7 (dg6 S) 0 = mx (mx (dg5 S) (whoS S 0).toInt64) (whoS S 1).toInt64 from rfl] at k
    generalize dg5 S = y at k ⊢
    refine am_go rfl ?_
    iterate 3 refine am_g0 rfl rfl ?_
    obtain ⟨⟨r1, w1⟩, ⟨e1, g1⟩, hD1⟩ := d_who (d := d - 1) (by omega) hm
    dsimp only at e1 g1
    subst e1
    refine ⟨(some (.int (whoS S 0)), w1), hD1, ?_⟩
    refine am_to (lv' := [(0, .ref 0), (1, .long y)]) (st' := [.int (whoS S 0), .long y]) (w' := w1) rfl rfl rfl ?_
    iterate 2 refine am_g0 rfl rfl ?_
    refine ⟨(some (.long (mx y (whoS S 0).toInt64)), w1), d_mixed (by omega), ?_⟩
    refine am_to (lv' := [(0, .ref 0), (1, .long y)]) (st' := [.long (mx y (whoS S 0).toInt64)]) (w' := w1) rfl rfl rfl ?_
    iterate 3 refine am_g0 rfl rfl ?_
    obtain ⟨⟨r2, w2⟩, ⟨e2, g2⟩, hD2⟩ := d_who (d := d - 1) (by omega) g1
    dsimp only at e2 g2
    subst e2
    refine ⟨(some (.int (whoS S 1)), w2), hD2, ?_⟩
    refine am_to (lv' := [(0, .ref 0), (1, .long y)]) (st' := [.int (whoS S 1), .long (mx y (whoS S 0).toInt64)]) (w' := w2) rfl rfl rfl ?_
    iterate 2 refine am_g0 rfl rfl ?_
    refine ⟨(some (.long (mx (mx y (whoS S 0).toInt64) (whoS S 1).toInt64)), w2), d_mixed (by omega), ?_⟩
    refine am_to (lv' := [(0, .ref 0), (1, .long y)]) (st' := [.long (mx (mx y (whoS S 0).toInt64) (whoS S 1).toInt64)]) (w' := w2) rfl rfl rfl ?_
    iterate 3 refine am_g0 rfl rfl ?_
    exact am_kl (k w2 g2) rfl
  obtain ⟨F5, hF5⟩ : ∃ F : Int64 → Nat → Int64, F = fun h p => digP S (digW S h p) p := ⟨_, rfl⟩
  have hF5e : ∀ x j, F5 x j = digP S (digW S x j) j := fun x j => by rw [hF5]
  have k111 : ∀ j i : Nat, i + j = S.q → ∀ m : am_M, RC m S → am_R shC mi_X11_digest (am_D shC (d - 1)) (fun o => (o.1 = some (.long (digS S)) ∧ RC o.2 S)) 111 [(0, .ref 0), (1, .long (itN F5 (dg4 S) i)), (3, .int (nI i))] [] m := by
    intro j
    induction j with
    | zero =>
      intro i hi m hm
      have e : dg5 S = itN F5 (dg4 S) i := by rw [hF5, show i = S.q by omega]; rfl
      have nx := s142 m hm
      rw [e] at nx
      refine am_go rfl ?_
      iterate 4 refine am_g0 rfl rfl ?_
      refine am_tt (show (m.1 16 1 : Int32) ≤ (nI i) from by rw [hm.1.P.1]; exact nI_le (by omega) (by omega)) ?_
      exact am_kl nx rfl
    | succ j ih =>
      intro i hi m hm
      have this := fun m hm => ih (i + 1) (by omega) m hm
      rw [show itN F5 (dg4 S) (i + 1) = F5 (itN F5 (dg4 S) i) i from rfl, hF5e, ← nI_1 i] at this
      generalize itN F5 (dg4 S) i = y at this ⊢
      refine am_go rfl ?_
      iterate 4 refine am_g0 rfl rfl ?_
      refine am_ff (show ¬ (m.1 16 1 : Int32) ≤ (nI i) from by rw [hm.1.P.1]; exact nI_ge (by omega) (by omega)) ?_
      iterate 4 refine am_g0 rfl rfl ?_
      obtain ⟨⟨r1, w1⟩, ⟨e1, g1⟩, hD1⟩ := d_mixedWalk (d := d - 1) (by omega) hm
      dsimp only at e1 g1
      subst e1
      refine ⟨(some (.long (digW S y i)), w1), hD1, ?_⟩
      refine am_to (lv' := [(0, .ref 0), (1, .long y), (3, .int (nI i))]) (st' := [.long (digW S y i)]) (w' := w1) rfl rfl rfl ?_
      iterate 5 refine am_g0 rfl rfl ?_
      obtain ⟨⟨r2, w2⟩, ⟨e2, g2⟩, hD2⟩ := d_mixedPlans (d := d - 1) (by omega) g1
      dsimp only at e2 g2
      subst e2
      refine ⟨(some (.long (digP S (digW S y i) i)), w2), hD2, ?_⟩
      refine am_to (lv' := [(0, .ref 0), (1, .long (digW S y i)), (3, .int (nI i))]) (st' := [.long (digP S (digW S y i) i)]) (w' := w2) rfl rfl rfl ?_
      iterate 3 refine am_g0 rfl rfl ?_
      exact am_kl (this w2 g2) rfl
  obtain ⟨M, hM⟩ : ∃ M, S.m = M := ⟨_, rfl⟩
  have hM8 : M ≤ 8 := by rw [← hM]; exact r.1.M.2
  have hd4 : dg4 S = itN (digL S) (dg3 S) M := by rw [← hM]; rfl
  obtain ⟨F4, hF4⟩ : ∃ F : Int64 → Nat → Int64, F = digL S := ⟨_, rfl⟩
  have hF4e : ∀ x j, F4 x j = digL S x j := fun x j => by rw [hF4]
  have k85 : ∀ j i : Nat, i + j = M → ∀ m : am_M, RC m S → am_R shC mi_X11_digest (am_D shC (d - 1)) (fun o => (o.1 = some (.long (digS S)) ∧ RC o.2 S)) 85 [(0, .ref 0), (1, .long (itN F4 (dg3 S) i)), (3, .int (nI i))] [] m := by
    intro j
    induction j with
    | zero =>
      intro i hi m hm
      have e : dg4 S = itN F4 (dg3 S) i := by rw [hF4, show i = M by omega]; exact hd4
      have nx := k111 S.q 0 (by omega) m hm
      rw [show itN F5 (dg4 S) 0 = itN F4 (dg3 S) i from e] at nx
      refine am_go rfl ?_
      iterate 4 refine am_g0 rfl rfl ?_
      refine am_tt (show (m.1 12 3 : Int32) ≤ (nI i) from by rw [hm.1.M.1, hM]; exact nI_le (by omega) (by omega)) ?_
      refine am_go rfl ?_
      refine am_g0 rfl rfl ?_
      exact am_kl nx rfl
    | succ j ih =>
      intro i hi m hm
      have this := fun m hm => ih (i + 1) (by omega) m hm
      rw [show itN F4 (dg3 S) (i + 1) = F4 (itN F4 (dg3 S) i) i from rfl, hF4e, ← nI_1 i] at this
      generalize itN F4 (dg3 S) i = y at this ⊢
      refine am_go rfl ?_
      iterate 4 refine am_g0 rfl rfl ?_
      refine am_ff (show ¬ (m.1 12 3 : Int32) ≤ (nI i) from by rw [hm.1.M.1, hM]; exact nI_ge (by omega) (by omega)) ?_
      iterate 4 refine am_g0 rfl rfl ?_
      obtain ⟨⟨r1, w1⟩, ⟨e1, g1⟩, hD1⟩ := d_mixedLast (d := d - 1) (by omega) hm
      dsimp only at e1 g1
      subst e1
      refine ⟨(some (.long (digL S y i)), w1), hD1, ?_⟩
      refine am_to (lv' := [(0, .ref 0), (1, .long y), (3, .int (nI i))]) (st' := [.long (digL S y i)]) (w' := w1) rfl rfl rfl ?_
      iterate 3 refine am_g0 rfl rfl ?_
      exact am_kl (this w1 g1) rfl
  obtain ⟨F3, hF3⟩ : ∃ F : Int64 → Nat → Int64, F = fun h k => mx h (cellS S (nI k)).toInt64 := ⟨_, rfl⟩
  have hF3e : ∀ x j, F3 x j = mx x (cellS S (nI j)).toInt64 := fun x j => by rw [hF3]
  have k55 : ∀ j i : Nat, i + j = S.V.1 → ∀ m : am_M, RC m S → am_R shC mi_X11_digest (am_D shC (d - 1)) (fun o => (o.1 = some (.long (digS S)) ∧ RC o.2 S)) 55 [(0, .ref 0), (1, .long (itN F3 (dg2 S) i)), (3, .int (nI i))] [] m := by
    intro j
    induction j with
    | zero =>
      intro i hi m hm
      have e : dg3 S = itN F3 (dg2 S) i := by rw [hF3, show i = S.V.1 by omega]; rfl
      have nx := k85 M 0 (by omega) m hm
      rw [show itN F4 (dg3 S) 0 = itN F3 (dg2 S) i from e] at nx
      refine am_go rfl ?_
      iterate 4 refine am_g0 rfl rfl ?_
      refine am_tt (show (m.1 9 2 : Int32) ≤ (nI i) from by rw [show m.1 9 2 = nI S.V.1 from hm.1.V.1.1]; exact nI_le (by omega) (by omega)) ?_
      refine am_go rfl ?_
      refine am_g0 rfl rfl ?_
      exact am_kl nx rfl
    | succ j ih =>
      intro i hi m hm
      have this := fun m hm => ih (i + 1) (by omega) m hm
      rw [show itN F3 (dg2 S) (i + 1) = F3 (itN F3 (dg2 S) i) i from rfl, hF3e, ← nI_1 i] at this
      generalize itN F3 (dg2 S) i = y at this ⊢
      refine am_go rfl ?_
      iterate 4 refine am_g0 rfl rfl ?_
      refine am_ff (show ¬ (m.1 9 2 : Int32) ≤ (nI i) from by rw [show m.1 9 2 = nI S.V.1 from hm.1.V.1.1]; exact nI_ge (by omega) (by omega)) ?_
      iterate 4 refine am_g0 rfl rfl ?_
      refine ⟨(some (.int (cellS S (nI i))), m), d_cell (by omega) hm, ?_⟩
      refine am_to (lv' := [(0, .ref 0), (1, .long y), (3, .int (nI i))]) (st' := [.int (cellS S (nI i)), .long y]) (w' := m) rfl rfl rfl ?_
      iterate 2 refine am_g0 rfl rfl ?_
      refine ⟨(some (.long (mx y (cellS S (nI i)).toInt64)), m), d_mixed (by omega), ?_⟩
      refine am_to (lv' := [(0, .ref 0), (1, .long y), (3, .int (nI i))]) (st' := [.long (mx y (cellS S (nI i)).toInt64)]) (w' := m) rfl rfl rfl ?_
      iterate 3 refine am_g0 rfl rfl ?_
      exact am_kl (this m hm) rfl
  obtain ⟨F2, hF2⟩ : ∃ F : Int64 → Nat → Int64, F = fun h k => mx h (faultS S (nI k)).toInt64 := ⟨_, rfl⟩
  have hF2e : ∀ x j, F2 x j = mx x (faultS S (nI j)).toInt64 := fun x j => by rw [hF2]
  have k31 : ∀ j i : Nat, i + j = 3 → ∀ m : am_M, RC m S → am_R shC mi_X11_digest (am_D shC (d - 1)) (fun o => (o.1 = some (.long (digS S)) ∧ RC o.2 S)) 31 [(0, .ref 0), (1, .long (itN F2 (dg1 S) i)), (3, .int (nI i))] [] m := by
    intro j
    induction j with
    | zero =>
      intro i hi m hm
      have e : dg2 S = itN F2 (dg1 S) i := by rw [hF2, show i = 3 by omega]; rfl
      have nx := k55 S.V.1 0 (by omega) m hm
      rw [show itN F3 (dg2 S) 0 = itN F2 (dg1 S) i from e] at nx
      refine am_go rfl ?_
      iterate 2 refine am_g0 rfl rfl ?_
      refine am_tt (show (3 : Int32) ≤ (nI i) from nI_le (a := 3) (by omega) (by omega)) ?_
      refine am_go rfl ?_
      refine am_g0 rfl rfl ?_
      exact am_kl nx rfl
    | succ j ih =>
      intro i hi m hm
      have this := fun m hm => ih (i + 1) (by omega) m hm
      rw [show itN F2 (dg1 S) (i + 1) = F2 (itN F2 (dg1 S) i) i from rfl, hF2e, ← nI_1 i] at this
      generalize itN F2 (dg1 S) i = y at this ⊢
      refine am_go rfl ?_
      iterate 2 refine am_g0 rfl rfl ?_
      refine am_ff (show ¬ (3 : Int32) ≤ (nI i) from nI_ge (b := 3) (by omega) (by omega)) ?_
      iterate 4 refine am_g0 rfl rfl ?_
      refine ⟨(some (.int (faultS S (nI i))), m), d_fault (by omega) hm, ?_⟩
      refine am_to (lv' := [(0, .ref 0), (1, .long y), (3, .int (nI i))]) (st' := [.int (faultS S (nI i)), .long y]) (w' := m) rfl rfl rfl ?_
      iterate 2 refine am_g0 rfl rfl ?_
      refine ⟨(some (.long (mx y (faultS S (nI i)).toInt64)), m), d_mixed (by omega), ?_⟩
      refine am_to (lv' := [(0, .ref 0), (1, .long y), (3, .int (nI i))]) (st' := [.long (mx y (faultS S (nI i)).toInt64)]) (w' := m) rfl rfl rfl ?_
      iterate 3 refine am_g0 rfl rfl ?_
      exact am_kl (this m hm) rfl
  obtain ⟨F1, hF1⟩ : ∃ F : Int64 → Nat → Int64, F = fun h k => mx h (countS S (nI k)).toInt64 := ⟨_, rfl⟩
  have hF1e : ∀ x j, F1 x j = mx x (countS S (nI j)).toInt64 := fun x j => by rw [hF1]
  have k6 : ∀ j i : Nat, i + j = 8 → ∀ m : am_M, RC m S → am_R shC mi_X11_digest (am_D shC (d - 1)) (fun o => (o.1 = some (.long (digS S)) ∧ RC o.2 S)) 6 [(0, .ref 0), (1, .long (itN F1 17 i)), (3, .int (nI i))] [] m := by
    intro j
    induction j with
    | zero =>
      intro i hi m hm
      have e : dg1 S = itN F1 17 i := by rw [hF1, show i = 8 by omega]; rfl
      have nx := k31 3 0 (by omega) m hm
      rw [show itN F2 (dg1 S) 0 = itN F1 17 i from e] at nx
      refine am_go rfl ?_
      iterate 2 refine am_g0 rfl rfl ?_
      refine am_tt (show (8 : Int32) ≤ (nI i) from nI_le (a := 8) (by omega) (by omega)) ?_
      refine am_go rfl ?_
      refine am_g0 rfl rfl ?_
      exact am_kl nx rfl
    | succ j ih =>
      intro i hi m hm
      have this := fun m hm => ih (i + 1) (by omega) m hm
      rw [show itN F1 17 (i + 1) = F1 (itN F1 17 i) i from rfl, hF1e, ← nI_1 i] at this
      generalize itN F1 17 i = y at this ⊢
      refine am_go rfl ?_
      iterate 2 refine am_g0 rfl rfl ?_
      refine am_ff (show ¬ (8 : Int32) ≤ (nI i) from nI_ge (b := 8) (by omega) (by omega)) ?_
      iterate 4 refine am_g0 rfl rfl ?_
      refine ⟨(some (.int (countS S (nI i))), m), d_count (by omega) hm, ?_⟩
      refine am_to (lv' := [(0, .ref 0), (1, .long y), (3, .int (nI i))]) (st' := [.int (countS S (nI i)), .long y]) (w' := m) rfl rfl rfl ?_
      iterate 2 refine am_g0 rfl rfl ?_
      refine ⟨(some (.long (mx y (countS S (nI i)).toInt64)), m), d_mixed (by omega), ?_⟩
      refine am_to (lv' := [(0, .ref 0), (1, .long y), (3, .int (nI i))]) (st' := [.long (mx y (countS S (nI i)).toInt64)]) (w' := m) rfl rfl rfl ?_
      iterate 3 refine am_g0 rfl rfl ?_
      exact am_kl (this m hm) rfl
  refine am_dex (by omega) rfl rfl ?_
  iterate 4 refine am_g0 rfl rfl ?_
  exact am_kl (k6 8 0 (by omega) w r) rfl
