/-! the model walks one step -/
theorem ix2 (a b : Nat) : (2 : Int32) * nI a + nI b = nI (2 * a + b) := by rw [show (2 : Int32) = nI 2 from rfl, pk_mul, nI_add]
theorem ix4 (a b : Nat) : (4 : Int32) * nI a + nI b = nI (4 * a + b) := by rw [show (4 : Int32) = nI 4 from rfl, pk_mul, nI_add]
theorem ix5 (a b : Nat) : (5 : Int32) * nI a + nI b = nI (5 * a + b) := by rw [show (5 : Int32) = nI 5 from rfl, pk_mul, nI_add]
set_option maxHeartbeats 1000000 in
theorem m_wayBy {d k f l g W : Nat} {V : Wd} {w : am_M} (hd : 1 ≤ d) (hV : mV w V W) (hk : k < 8) (hf : f < 2) (hl : l < V.2.2.2.1) (hg : w.1 17 (2 * k + f) = nI g) (hg2 : g < 1000) : am_D shM d mi_X12_wayBy [.ref 0, .int (nI k), .int (nI f), .int (nI l)] w (some (.int (nI (wayS (V.2.2.2.2.1 l) (V.2.2.2.2.2.1 l) (V.2.2.2.2.2.2 l) g))), am_pi (am_pi w 17 (2 * k + f) (nI (g + 1))) 20 l (w.1 20 l + 1)) := by
  obtain ⟨_, _, _, _, _, hok, hL⟩ := hV
  have h8 := hok.2.2.2.1
  obtain ⟨b1, b2, b3, b4⟩ := hok.2.2.2.2 l hl
  obtain ⟨c1, c2, c3⟩ := hL.2 l hl
  generalize V.2.2.2.2.1 l = kd at b1 c1 ⊢
  generalize V.2.2.2.2.2.1 l = ln at b2 b3 b4 c2 c3 ⊢
  generalize V.2.2.2.2.2.2 l = lt at b4 c3 ⊢
  have hgm : g % ln < ln := Nat.mod_lt _ (by omega)
  have hlt := b4 _ hgm
  have hlm := c3 _ hgm
  generalize hw9 : am_pi (am_pi w 17 (2 * k + f) (nI (g + 1))) 20 l (w.1 20 l + 1) = w9
  have r9 : ∀ a, a ≠ 17 → a ≠ 20 → w9.1 a = w.1 a := fun a h1 h2 => by rw [← hw9, am_pi_row h2, am_pi_row h1]
  refine am_def (by omega) rfl rfl ?_
  iterate 7 refine am_g0 rfl rfl ?_
  refine am_glE (n := 16) (k := 2 * k + f) rfl rfl (ix2 k f) (by omega) (by decide) ?_
  refine am_top (y := nI g) (hg) ?_
  iterate 9 refine am_g0 rfl rfl ?_
  refine am_glE (n := 16) (k := 2 * k + f) rfl rfl (ix2 k f) (by omega) (by decide) ?_
  refine am_top (y := nI g) (hg) ?_
  iterate 2 refine am_g0 rfl rfl ?_
  refine am_top (y := nI (g + 1)) (nI_1 g) ?_
  refine am_gsE (n := 16) (k := 2 * k + f) rfl rfl (ix2 k f) (by omega) (by decide) ?_
  refine am_to (lv' := [(0, .ref 0), (1, .int (nI k)), (2, .int (nI f)), (3, .int (nI l)), (4, .int (nI g))]) (st' := []) (w' := am_pi w 17 (2 * k + f) (nI (g + 1))) rfl rfl rfl ?_
  iterate 4 refine am_g0 rfl rfl ?_
  refine am_glN (n := 8) (k := l) rfl rfl (by omega) (by decide) ?_
  refine am_top (y := w.1 20 l) (by rw [am_pi_row (by omega)]) ?_
  iterate 2 refine am_g0 rfl rfl ?_
  refine am_gsN (n := 8) (k := l) rfl rfl (by omega) (by decide) ?_
  refine am_to (lv' := [(0, .ref 0), (1, .int (nI k)), (2, .int (nI f)), (3, .int (nI l)), (4, .int (nI g))]) (st' := []) (w' := am_pi (am_pi w 17 (2 * k + f) (nI (g + 1))) 20 l ((w.1 20 l) + 1)) rfl rfl rfl ?_
  refine am_wm (w' := w9) (hw9) ?_
  iterate 9 refine am_g0 rfl rfl ?_
  refine am_glN (n := 8) (k := l) rfl rfl (by omega) (by decide) ?_
  refine am_top (y := nI ln) (by rw [r9 9 (by omega) (by omega)]; exact c2) ?_
  refine am_g0 rfl rfl ?_
  refine am_ff (nI_ne0 (by omega) (by omega)) ?_
  refine am_top (y := nI (g % ln)) (pk_rem (by omega) (by omega) (by omega)) ?_
  refine am_g0 rfl rfl ?_
  refine am_glE (n := 32) (k := 4 * l + g % ln) rfl rfl (ix4 l _) (by omega) (by decide) ?_
  refine am_top (y := nI (lt (g % ln))) (by rw [r9 10 (by omega) (by omega)]; exact hlm) ?_
  iterate 4 refine am_g0 rfl rfl ?_
  refine am_glN (n := 8) (k := l) rfl rfl (by omega) (by decide) ?_
  refine am_top (y := nI kd) (by rw [r9 8 (by omega) (by omega)]; exact c1) ?_
  iterate 2 refine am_g0 rfl rfl ?_
  by_cases k1 : kd = 1
  · refine am_tt (show (nI kd : Int32) = 1 from by rw [k1]; rfl) ?_
    iterate 3 refine am_g0 rfl rfl ?_
    refine am_top (y := nI (g % 3)) (pk_rem (d := 3) (by omega) (by omega) (by omega)) ?_
    iterate 2 refine am_g0 rfl rfl ?_
    by_cases g3 : g % 3 = 2
    · refine am_tt (show (nI (g % 3) : Int32) = 2 from by rw [g3]; rfl) ?_
      iterate 3 refine am_g0 rfl rfl ?_
      refine am_top (y := nI (lt (g % ln) + 2)) (nI_add _ 2) ?_
      iterate 2 refine am_g0 rfl rfl ?_
      refine am_top (y := nI ((lt (g % ln) + 2) % 4)) (pk_rem (d := 4) (by omega) (by omega) (by omega)) ?_
      refine am_g0 rfl rfl ?_
      refine am_go rfl ?_
      exact ⟨rfl, by unfold wayS; rw [if_pos ⟨k1, g3⟩]⟩
    · refine am_ff (show ¬ (nI (g % 3) : Int32) = 2 from nne (b := 2) g3 (by omega) (by omega)) ?_
      refine am_go rfl ?_
      refine am_go rfl ?_
      exact ⟨rfl, by unfold wayS; rw [if_neg (fun z => g3 z.2), if_neg (by omega)]⟩
  · refine am_ff (show ¬ (nI kd : Int32) = 1 from nne (b := 1) k1 (by omega) (by omega)) ?_
    refine am_go rfl ?_
    iterate 2 refine am_g0 rfl rfl ?_
    refine am_glN (n := 8) (k := l) rfl rfl (by omega) (by decide) ?_
    refine am_top (y := nI kd) (by rw [r9 8 (by omega) (by omega)]; exact c1) ?_
    iterate 2 refine am_g0 rfl rfl ?_
    by_cases k2 : kd = 2
    · refine am_tt (show (nI kd : Int32) = 2 from by rw [k2]; rfl) ?_
      iterate 5 refine am_g0 rfl rfl ?_
      refine am_glN (n := 8) (k := l) rfl rfl (by omega) (by decide) ?_
      refine am_top (y := nI ln) (by rw [r9 9 (by omega) (by omega)]; exact c2) ?_
      refine am_g0 rfl rfl ?_
      refine am_ff (nI_ne0 (by omega) (by omega)) ?_
      refine am_top (y := nI (g / ln)) (pk_div (by omega) (by omega) (by omega)) ?_
      have hdl := Nat.div_le_self g ln
      refine am_g0 rfl rfl ?_
      refine am_top (y := nI (lt (g % ln) + g / ln)) (nI_add _ _) ?_
      iterate 2 refine am_g0 rfl rfl ?_
      refine am_top (y := nI ((lt (g % ln) + g / ln) % 4)) (pk_rem (d := 4) (by omega) (by omega) (by omega)) ?_
      refine am_g0 rfl rfl ?_
      refine am_go rfl ?_
      exact ⟨rfl, by unfold wayS; rw [if_neg (fun z => k1 z.1), if_pos k2]⟩
    · refine am_ff (show ¬ (nI kd : Int32) = 2 from nne (b := 2) k2 (by omega) (by omega)) ?_
      refine am_go rfl ?_
      refine am_go rfl ?_
      exact ⟨rfl, by unfold wayS; rw [if_neg (fun z => k1 z.1), if_neg k2]⟩
/-- one is in a state, from a step on -/
def mSet (m : am_M) (p : Nat) (x : Int32) (st : Nat) : am_M := if st ≠ 0 ∧ x ≠ -1 then am_pi (am_pi m 14 p (nI st)) 19 (2 * p + (st - 1)) x else am_pi m 14 p (nI st)
theorem stOf_c {k : Nat} (h : k < 4) (h1 : k ≠ 1) : stOf k = (if k = 2 then 1 else if k = 3 then 2 else 0) := by
  match k, h with
  | 0, _ => rfl
  | 1, _ => exact absurd rfl h1
  | 2, _ => rfl
  | 3, _ => rfl
theorem m_settles {d p c n W : Nat} {K : Nat → Nat} {x : Int32} {w : am_M} (hd : 1 ≤ d) (hT : mTn w n W K) (hn : n ≤ 36) (hc : c < n) (hK : K c < 4) (hK1 : K c ≠ 1) (hp : p < 8) (ha : w.1 13 p = nI c) : am_D shM d mi_X12_settles [.ref 0, .int (nI p), .int x] w (none, mSet w p x (stOf (K c))) := by
  have hst : stOf (K c) < 3 := by rw [stOf_c hK hK1]; split; omega; split <;> omega
  have rest : ∀ st, st < 3 → stOf (K c) = st → am_R shM mi_X12_settles (am_D shM (d - 1)) (fun r => r = (none, mSet w p x (stOf (K c)))) 36 [(0, .ref 0), (1, .int (nI p)), (2, .int x)] [.int (nI st), .int (nI p), .ref 14] w := by
    intro st hst e
    rw [e]
    refine am_gsN (n := 8) (k := p) rfl rfl (by omega) (by decide) ?_
    refine am_to (lv' := [(0, .ref 0), (1, .int (nI p)), (2, .int x)]) (st' := []) (w' := am_pi w 14 p (nI st)) rfl rfl rfl ?_
    iterate 3 refine am_g0 rfl rfl ?_
    refine am_glN (n := 8) (k := p) rfl rfl (by omega) (by decide) ?_
    refine am_top (y := nI st) (am_pi_at _ _ _ _) ?_
    refine am_g0 rfl rfl ?_
    by_cases h0 : st = 0
    · refine am_tt (show (nI st : Int32) ≤ 0 from by rw [h0]; exact Int32.le_refl _) ?_
      refine am_go rfl ?_
      exact ⟨rfl, by unfold mSet; rw [if_neg (fun z => z.1 h0)]⟩
    · refine am_ff (show ¬ (nI st : Int32) ≤ 0 from nI_nle (by omega) (by omega)) ?_
      iterate 3 refine am_g0 rfl rfl ?_
      by_cases hx : x = -1
      · refine am_tt (show (x : Int32) = (-1) from hx) ?_
        refine am_go rfl ?_
        exact ⟨rfl, by unfold mSet; rw [if_neg (fun z => z.2 hx)]⟩
      · refine am_ff (show ¬ (x : Int32) = (-1) from hx) ?_
        iterate 8 refine am_g0 rfl rfl ?_
        refine am_glN (n := 8) (k := p) rfl rfl (by omega) (by decide) ?_
        refine am_top (y := nI st) (am_pi_at _ _ _ _) ?_
        refine am_g0 rfl rfl ?_
        refine am_top (y := nI (2 * p + st)) (ix2 p st) ?_
        iterate 2 refine am_g0 rfl rfl ?_
        refine am_top (y := nI (2 * p + (st - 1))) ((pk_sub (b := 1) (by omega)).trans (congrArg nI (by omega))) ?_
        refine am_g0 rfl rfl ?_
        refine am_gsN (n := 16) (k := (2 * p + (st - 1))) rfl rfl (by omega) (by decide) ?_
        refine am_to (lv' := [(0, .ref 0), (1, .int (nI p)), (2, .int x)]) (st' := []) (w' := am_pi (am_pi w 14 p (nI st)) 19 (2 * p + (st - 1)) x) rfl rfl rfl ?_
        refine am_go rfl ?_
        exact ⟨rfl, by unfold mSet; rw [if_pos ⟨h0, hx⟩]⟩
  have hs := stOf_c hK hK1
  generalize stOf (K c) = st0 at rest hs hst
  refine am_def (by omega) rfl rfl ?_
  iterate 5 refine am_g0 rfl rfl ?_
  refine am_glN (n := 8) (k := p) rfl rfl (by omega) (by decide) ?_
  refine am_top (y := nI c) (ha) ?_
  refine am_glN (n := 36) (k := c) rfl rfl (by omega) (by decide) ?_
  refine am_top (y := nI (K c)) (hT.2.2 c hc) ?_
  iterate 7 refine am_g0 rfl rfl ?_
  by_cases k2 : K c = 2
  · rw [if_pos k2] at hs
    refine am_tt (show (nI (K c) : Int32) = 2 from by rw [k2]; rfl) ?_
    iterate 2 refine am_g0 rfl rfl ?_
    exact am_kl (rest 1 (by omega) hs) rfl
  · rw [if_neg k2] at hs
    refine am_ff (show ¬ (nI (K c) : Int32) = 2 from nne (b := 2) k2 (by omega) (by omega)) ?_
    refine am_go rfl ?_
    iterate 2 refine am_g0 rfl rfl ?_
    by_cases k3 : K c = 3
    · rw [if_pos k3] at hs
      refine am_tt (show (nI (K c) : Int32) = 3 from by rw [k3]; rfl) ?_
      iterate 2 refine am_g0 rfl rfl ?_
      exact am_kl (rest 2 (by omega) hs) rfl
    · rw [if_neg k3] at hs
      refine am_ff (show ¬ (nI (K c) : Int32) = 3 from nne (b := 3) k3 (by omega) (by omega)) ?_
      refine am_go rfl ?_
      exact am_kl (rest 0 (by omega) hs) rfl
/-! one person's step -/
def mPr (w : am_M) (p : Nat) (P : Pr) : Prop := w.1 11 (5 * p) = nI P.1 ∧ w.1 11 (5 * p + 1) = nI P.2.1 ∧ w.1 11 (5 * p + 2) = nI P.2.2.1 ∧ w.1 11 (5 * p + 3) = nI P.2.2.2.1 ∧ w.1 11 (5 * p + 4) = nI P.2.2.2.2
def mQ (w : am_M) (p : Nat) (q : Qs) : Prop := w.1 13 p = plc q ∧ w.1 14 p = nI q.2.1 ∧ w.1 15 p = nI q.2.2.1 ∧ w.1 17 (2 * p) = nI q.2.2.2.1 ∧ w.1 17 (2 * p + 1) = nI q.2.2.2.2
def am_fw (p : Nat) (w w' : am_M) : Prop := (∀ a, a < 13 ∨ a = 18 ∨ 20 < a → w'.1 a = w.1 a) ∧ (∀ a j, 13 ≤ a → a ≤ 16 → j ≠ p → w'.1 a j = w.1 a j) ∧ (∀ a j, a = 17 ∨ a = 19 → j ≠ 2 * p → j ≠ 2 * p + 1 → w'.1 a j = w.1 a j) ∧ w'.2 = w.2
theorem am_fw.rf {p : Nat} {w : am_M} : am_fw p w w := ⟨fun _ _ => rfl, fun _ _ _ _ _ => rfl, fun _ _ _ _ _ => rfl, rfl⟩
theorem am_fw.p1 {p a : Nat} {w w' : am_M} {x : Int32} (h : am_fw p w w') (h1 : 13 ≤ a) (h2 : a ≤ 16) : am_fw p w (am_pi w' a p x) := ⟨fun b hb => (am_pi_row (by omega)).trans (h.1 b hb), fun b j hb hb2 hj => (am_pi_ne (Or.inr hj)).trans (h.2.1 b j hb hb2 hj), fun b j hb hj hj2 => (am_pi_ne (Or.inl (by omega))).trans (h.2.2.1 b j hb hj hj2), h.2.2.2⟩
theorem am_fw.p2 {p a j : Nat} {w w' : am_M} {x : Int32} (h : am_fw p w w') (h1 : a = 17 ∨ a = 19) (h2 : j = 2 * p ∨ j = 2 * p + 1) : am_fw p w (am_pi w' a j x) := ⟨fun b hb => (am_pi_row (by omega)).trans (h.1 b hb), fun b i hb hb2 hj => (am_pi_ne (Or.inl (by omega))).trans (h.2.1 b i hb hb2 hj), fun b i hb hj hj2 => (am_pi_ne (Or.inr (by omega))).trans (h.2.2.1 b i hb hj hj2), h.2.2.2⟩
theorem am_fw.p3 {p j : Nat} {w w' : am_M} {x : Int32} (h : am_fw p w w') : am_fw p w (am_pi w' 20 j x) := ⟨fun b hb => (am_pi_row (by omega)).trans (h.1 b hb), fun b i hb hb2 hj => (am_pi_ne (Or.inl (by omega))).trans (h.2.1 b i hb hb2 hj), fun b i hb hj hj2 => (am_pi_ne (Or.inl (by omega))).trans (h.2.2.1 b i hb hj hj2), h.2.2.2⟩
theorem am_fw.V {p W : Nat} {w w' : am_M} {V : Wd} (h : am_fw p w w') (hV : mV w V W) : mV w' V W := hV.fr (fun j _ => by rw [h.1 0 (by omega)]) (fun a h1 h2 => h.1 a (by omega))
theorem am_fw.W {p : Nat} {w w' : am_M} {wet : Nat → Bool} (h : am_fw p w w') (hW : mW w wet) : mW w' wet := hW.fr (by rw [h.1 0 (by omega)]) (by rw [h.1 0 (by omega)]) (by rw [h.1 0 (by omega)]) (h.1 12 (by omega))
/-- what went by a last -/
def wnT (b : Option Nat) (l : Nat) : Int32 := match b with
  | some k => if l = k then 1 else 0
  | none => 0
def wkO (w : am_M) (p s : Nat) (q : Qs) (b : Option Nat) (o : am_O) : Prop := o.1 = none ∧ am_fw p w o.2 ∧ mQ o.2 p q ∧ o.2.1 16 p = wbI b ∧ (∀ j, j < 2 → o.2.1 19 (2 * p + j) = if q.2.1 = j + 1 then nI s else w.1 19 (2 * p + j)) ∧ ∀ l, l < 8 → o.2.1 20 l = w.1 20 l + wnT b l
theorem stOf_3' {k : Nat} (h : k < 4) (h1 : k ≠ 1) : stOf k < 3 := by rw [stOf_c h h1]; split; omega; split <;> omega
theorem mSet_o {m : am_M} {p st a : Nat} {x : Int32} (h1 : a ≠ 14) (h2 : a ≠ 19) : (mSet m p x st).1 a = m.1 a := by
  unfold mSet
  split
  · rw [am_pi_row h2, am_pi_row h1]
  · rw [am_pi_row h1]
theorem mSet_14 {m : am_M} {p st : Nat} {x : Int32} : (mSet m p x st).1 14 p = nI st := by
  unfold mSet
  split
  · rw [am_pi_row (by omega), am_pi_at]
  · rw [am_pi_at]
theorem mSet_19 {m : am_M} {p st j : Nat} {x : Int32} (hx : x ≠ -1) : (mSet m p x st).1 19 (2 * p + j) = if st = j + 1 then x else m.1 19 (2 * p + j) := by
  unfold mSet
  by_cases h : st = 0
  · rw [if_neg (fun z => z.1 h), if_neg (by omega), am_pi_row (by omega)]
  · rw [if_pos ⟨h, hx⟩]
    by_cases e : st = j + 1
    · rw [if_pos e, show j = st - 1 by omega, am_pi_at]
    · rw [if_neg e, am_pi_ne (Or.inr (by omega)), am_pi_row (by omega)]
theorem mSet_n {m : am_M} {p st : Nat} : mSet m p (-1) st = am_pi m 14 p (nI st) := by unfold mSet; rw [if_neg (fun z => z.2 rfl)]
theorem am_fw.st {p st : Nat} {w w' : am_M} {x : Int32} (h : am_fw p w w') (hs : st < 3) : am_fw p w (mSet w' p x st) := by
  unfold mSet
  split
  · rename_i z
    exact (h.p1 (by omega) (by omega)).p2 (Or.inr rfl) (by have := z.1; omega)
  · exact h.p1 (by omega) (by omega)
set_option maxHeartbeats 2000000 in
theorem m_walks {d p s W : Nat} {V : Wd} {P : Pr} {q : Qs} {wet : Nat → Bool} {w : am_M} (hd : 3 ≤ d) (hV : mV w V W) (hW : mW w wet) (hP : mPr w p P) (hPb : Pok P) (hQ : mQ w p q) (hq : qok V P q s) (hz : q.2.1 = 0) (hs : s < 30) (hp : p < 8) : ∃ o : am_O, wkO w p s (goS V P s (wet s) q).1 (goS V P s (wet s) q).2 o ∧ am_D shM d mi_X12_walks [.ref 0, .int (nI p), .int (nI s)] w o := by
  obtain ⟨c, st, wt, g0, g1⟩ := q
  obtain ⟨c0, lf, rt, so, ow⟩ := P
  dsimp only at hz
  subst hz
  obtain ⟨hq1, hq2, hq3, hq4, hq5⟩ := hq
  dsimp only at hq1 hq2 hq3 hq4 hq5
  obtain ⟨hc, hcs⟩ := hq2 (by omega)
  obtain ⟨p1, p2, p3, p4, p5⟩ := hP
  obtain ⟨o1, o2, o3, o4, o5⟩ := hPb
  dsimp only at p1 p2 p3 p4 p5 o1 o2 o3 o4 o5
  obtain ⟨q1, q2, q3, q4, q5⟩ := hQ
  dsimp only at q1 q2 q3 q4 q5
  have q1 : w.1 13 p = nI c := q1
  obtain ⟨pw1, pw2, pw3, _⟩ := pow_bd so o4
  have hVok : Vok V := hV.2.2.2.2.2.1
  have hn36 := hVok.1
  have hKc1 : V.2.1 c ≠ 1 := fun z => by rw [z] at hcs; cases hcs
  have hm8 := hVok.2.2.2.1
  have hs1 : ¬ nI s = -1 := nI_m1 (by omega)
  obtain ⟨ll, hll⟩ : ∃ ll, ll = (if s % 2 = 0 then lf else rt) := ⟨_, rfl⟩
  obtain ⟨gg, hgg⟩ : ∃ gg, gg = (if s % 2 = 0 then g0 else g1) := ⟨_, rfl⟩
  obtain ⟨w1, hw1⟩ : ∃ w1, w1 = (if wet s = true then 0 else wt + 2 ^ so) := ⟨_, rfl⟩
  have hll8 : ll < 8 := by rw [hll]; split <;> assumption
  have hgg3 : gg < 30 := by rw [hgg]; split <;> omega
  have hw1b : w1 < 1000 := by rw [hw1]; split <;> omega
  have hgo : goS V (c0, lf, rt, so, ow) s (wet s) (c, 0, wt, g0, g1) = (if w1 < 3 ^ so then ((V.2.2.1 c ow, stOf (V.2.1 (V.2.2.1 c ow)), w1, g0, g1), none) else if ll < V.2.2.2.1 then ((V.2.2.1 c (wayS (V.2.2.2.2.1 ll) (V.2.2.2.2.2.1 ll) (V.2.2.2.2.2.2 ll) gg), stOf (V.2.1 (V.2.2.1 c (wayS (V.2.2.2.2.1 ll) (V.2.2.2.2.2.1 ll) (V.2.2.2.2.2.2 ll) gg))), w1 - 3 ^ so, g0 + (if s % 2 = 0 then 1 else 0), g1 + (if s % 2 = 0 then 0 else 1)), some ll) else ((V.2.2.1 c ow, stOf (V.2.1 (V.2.2.1 c ow)), w1 - 3 ^ so, g0, g1), none)) := by
    rw [hll, hgg, hw1]
    unfold goS
    rw [if_neg (fun z => z rfl)]
  generalize hG : goS V (c0, lf, rt, so, ow) s (wet s) (c, 0, wt, g0, g1) = G at hgo ⊢
  have tail : ∀ (v : am_M) (a wt' g0' g1' : Nat) (b : Option Nat), am_fw p w v → a < 4 → v.1 13 p = nI c → v.1 15 p = nI wt' → v.1 17 (2 * p) = nI g0' → v.1 17 (2 * p + 1) = nI g1' → v.1 16 p = wbI b → (∀ j, j < 2 → v.1 19 (2 * p + j) = w.1 19 (2 * p + j)) → (∀ l, l < 8 → v.1 20 l = w.1 20 l + wnT b l) → G = ((V.2.2.1 c a, stOf (V.2.1 (V.2.2.1 c a)), wt', g0', g1'), b) → am_R shM mi_X12_walks (am_D shM (d - 1)) (fun o => wkO w p s G.1 G.2 o) 137 [(0, .ref 0), (1, .int (nI p)), (2, .int (nI s)), (6, .int (nI a))] [] v := by
    intro v a wt' g0' g1' b hf ha v13 v15 v17 v17' v16 v19 v20 hGe
    have hVv := hf.V hV
    have hnx := hVok.2.2.1 c hc a ha
    have hK4 := hVok.2.1 _ hnx.1
    have hK1 := hnx.2 hKc1
    have hst3 := stOf_3' hK4 hK1
    obtain ⟨o', ⟨x, rfl, hx⟩, hD⟩ := m_beside (d := d - 1) (by omega) hVv hc ha
    rw [hGe]
    obtain ⟨n', hn'⟩ : ∃ n', n' = V.2.2.1 c a := ⟨_, rfl⟩
    rw [← hn'] at hx hnx hK4 hK1 hst3 ⊢
    have fin : am_R shM mi_X12_walks (am_D shM (d - 1)) (fun o => wkO w p s (n', stOf (V.2.1 n'), wt', g0', g1') b o) 173 [(0, .ref 0), (1, .int (nI p)), (2, .int (nI s))] [.int (nI n'), .int (nI p), .ref 13] v := by
      refine am_gsN (n := 8) (k := p) rfl rfl (by omega) (by decide) ?_
      refine am_to (lv' := [(0, .ref 0), (1, .int (nI p)), (2, .int (nI s))]) (st' := []) (w' := am_pi v 13 p (nI n')) rfl rfl rfl ?_
      have f1 : am_fw p w (am_pi v 13 p (nI n')) := hf.p1 (by omega) (by omega)
      iterate 4 refine am_g0 rfl rfl ?_
      refine ⟨(none, mSet (am_pi v 13 p (nI n')) p (nI s) (stOf (V.2.1 n'))), m_settles (d := d - 1) (by omega) (f1.V hV).1 hn36 hnx.1 hK4 hK1 hp (am_pi_at _ _ _ _), ?_⟩
      refine am_to (lv' := [(0, .ref 0), (1, .int (nI p)), (2, .int (nI s))]) (st' := []) (w' := mSet (am_pi v 13 p (nI n')) p (nI s) (stOf (V.2.1 n'))) rfl rfl rfl ?_
      refine am_g0 rfl rfl ?_
      refine ⟨rfl, rfl, f1.st hst3, ⟨?_, mSet_14, ?_, ?_, ?_⟩, ?_, fun j hj => ?_, fun l hl => ?_⟩
      · rw [mSet_o (by omega) (by omega), am_pi_at]
        show nI n' = plc (n', stOf (V.2.1 n'), wt', g0', g1')
        unfold plc
        rw [if_neg (show ¬ stOf (V.2.1 n') = 3 by omega)]
      · rw [mSet_o (by omega) (by omega), am_pi_row (by omega)]; exact v15
      · rw [mSet_o (by omega) (by omega), am_pi_row (by omega)]; exact v17
      · rw [mSet_o (by omega) (by omega), am_pi_row (by omega)]; exact v17'
      · rw [mSet_o (by omega) (by omega), am_pi_row (by omega)]; exact v16
      · rw [mSet_19 hs1, am_pi_row (by omega), v19 j hj]
      · rw [mSet_o (by omega) (by omega), am_pi_row (by omega)]; exact v20 l hl
    refine am_go rfl ?_
    iterate 3 refine am_g0 rfl rfl ?_
    refine am_glN (n := 8) (k := p) rfl rfl (by omega) (by decide) ?_
    refine am_top (y := nI c) (v13) ?_
    iterate 2 refine am_g0 rfl rfl ?_
    refine ⟨(some (.int x), v), hD, ?_⟩
    refine am_to (lv' := [(0, .ref 0), (1, .int (nI p)), (2, .int (nI s)), (6, .int (nI a))]) (st' := [.int x]) (w' := v) rfl rfl rfl ?_
    iterate 7 refine am_g0 rfl rfl ?_
    by_cases hx1 : x = -1
    · refine am_tt (show (x : Int32) = (-1) from hx1) ?_
      have hnc : n' = c := by
        rcases hx with ⟨_, z⟩ | z
        · exact z
        · exact absurd (z.symm.trans hx1) (nI_m1 (by omega))
      iterate 3 refine am_g0 rfl rfl ?_
      refine am_glN (n := 8) (k := p) rfl rfl (by omega) (by decide) ?_
      refine am_top (y := nI n') (by rw [hnc]; exact v13) ?_
      refine am_g0 rfl rfl ?_
      exact am_kl fin rfl
    · refine am_ff (show ¬ (x : Int32) = (-1) from hx1) ?_
      refine am_go rfl ?_
      refine am_top (y := nI n') (hx.elim (fun z => absurd z.1 hx1) id) ?_
      exact am_kl fin rfl
  have at60 : am_R shM mi_X12_walks (am_D shM (d - 1)) (fun o => wkO w p s G.1 G.2 o) 60 [(0, .ref 0), (1, .int (nI p)), (2, .int (nI s)), (3, .int (nI (s % 2))), (4, .int (nI so)), (5, .int (nI ll))] [.int (nI w1), .int (nI p), .ref 15] w := by
    refine am_gsN (n := 8) (k := p) rfl rfl (by omega) (by decide) ?_
    refine am_to (lv' := [(0, .ref 0), (1, .int (nI p)), (2, .int (nI s)), (3, .int (nI (s % 2))), (4, .int (nI so)), (5, .int (nI ll))]) (st' := []) (w' := am_pi w 15 p (nI w1)) rfl rfl rfl ?_
    iterate 7 refine am_g0 rfl rfl ?_
    refine am_glE (n := 40) (k := 5 * p + 4) rfl rfl (ix5 p 4) (by omega) (by decide) ?_
    refine am_top (y := nI ow) (by rw [am_pi_row (by omega)]; exact p5) ?_
    iterate 5 refine am_g0 rfl rfl ?_
    refine am_gsN (n := 8) (k := p) rfl rfl (by omega) (by decide) ?_
    refine am_to (lv' := [(0, .ref 0), (1, .int (nI p)), (2, .int (nI s)), (3, .int (nI (s % 2))), (4, .int (nI so)), (5, .int (nI ll)), (6, .int (nI ow))]) (st' := []) (w' := am_pi (am_pi w 15 p (nI w1)) 16 p (-1)) rfl rfl rfl ?_
    refine am_to (lv' := [(0, .ref 0), (1, .int (nI p)), (2, .int (nI s)), (3, .int (nI (s % 2))), (4, .int (nI so)), (5, .int (nI ll)), (6, .int (nI ow))]) (st' := []) (w' := am_pi (am_pi w 15 p (nI w1)) 16 p (-1)) rfl rfl rfl ?_
    generalize hv : am_pi (am_pi w 15 p (nI w1)) 16 p (-1) = v
    have fv : am_fw p w v := by rw [← hv]; exact (am_fw.rf.p1 (by omega) (by omega)).p1 (by omega) (by omega)
    have v15 : v.1 15 p = nI w1 := by rw [← hv, am_pi_row (by omega), am_pi_at]
    have v16 : v.1 16 p = -1 := by rw [← hv, am_pi_at]
    have ve : ∀ a, a ≠ 15 → a ≠ 16 → v.1 a = w.1 a := fun a h1 h2 => by rw [← hv, am_pi_row h2, am_pi_row h1]
    iterate 3 refine am_g0 rfl rfl ?_
    refine am_glN (n := 8) (k := p) rfl rfl (by omega) (by decide) ?_
    refine am_top (y := nI w1) (v15) ?_
    iterate 3 refine am_g0 rfl rfl ?_
    refine ⟨(some (.int (nI (3 ^ so))), v), m_power (b := 3) (by omega) o4, ?_⟩
    refine am_to (lv' := [(0, .ref 0), (1, .int (nI p)), (2, .int (nI s)), (3, .int (nI (s % 2))), (4, .int (nI so)), (5, .int (nI ll)), (6, .int (nI ow))]) (st' := [.int (nI (3 ^ so)), .int (nI w1)]) (w' := v) rfl rfl rfl ?_
    refine am_g0 rfl rfl ?_
    by_cases hlt : w1 < 3 ^ so
    · refine am_tt (show (nI w1 : Int32) < (nI (3 ^ so)) from nI_lt hlt (by omega)) ?_
      rw [if_pos hlt] at hgo
      exact am_kl (tail v ow w1 g0 g1 none fv o5 (by rw [ve 13 (by omega) (by omega)]; exact q1) v15 (by rw [ve 17 (by omega) (by omega)]; exact q4) (by rw [ve 17 (by omega) (by omega)]; exact q5) v16 (fun j hj => by rw [ve 19 (by omega) (by omega)]) (fun l hl => by rw [ve 20 (by omega) (by omega)]; exact (Int32.add_zero _).symm) hgo) rfl
    · rw [if_neg hlt] at hgo
      refine am_ff (show ¬ (nI w1 : Int32) < (nI (3 ^ so)) from nI_nlt (by omega) (by omega)) ?_
      iterate 4 refine am_g0 rfl rfl ?_
      refine am_glN (n := 8) (k := p) rfl rfl (by omega) (by decide) ?_
      refine am_top (y := nI w1) (v15) ?_
      iterate 3 refine am_g0 rfl rfl ?_
      refine ⟨(some (.int (nI (3 ^ so))), v), m_power (b := 3) (by omega) o4, ?_⟩
      refine am_to (lv' := [(0, .ref 0), (1, .int (nI p)), (2, .int (nI s)), (3, .int (nI (s % 2))), (4, .int (nI so)), (5, .int (nI ll)), (6, .int (nI ow))]) (st' := [.int (nI (3 ^ so)), .int (nI w1), .int (nI p), .ref 15]) (w' := v) rfl rfl rfl ?_
      refine am_g0 rfl rfl ?_
      refine am_top (y := nI (w1 - 3 ^ so)) (pk_sub (by omega)) ?_
      refine am_gsN (n := 8) (k := p) rfl rfl (by omega) (by decide) ?_
      refine am_to (lv' := [(0, .ref 0), (1, .int (nI p)), (2, .int (nI s)), (3, .int (nI (s % 2))), (4, .int (nI so)), (5, .int (nI ll)), (6, .int (nI ow))]) (st' := []) (w' := am_pi v 15 p (nI (w1 - 3 ^ so))) rfl rfl rfl ?_
      have fu : am_fw p w (am_pi v 15 p (nI (w1 - 3 ^ so))) := fv.p1 (by omega) (by omega)
      have ue : ∀ a, a ≠ 15 → a ≠ 16 → (am_pi v 15 p (nI (w1 - 3 ^ so))).1 a = w.1 a := fun a h1 h2 => by rw [am_pi_row h1]; exact ve a h1 h2
      have u15 : (am_pi v 15 p (nI (w1 - 3 ^ so))).1 15 p = nI (w1 - 3 ^ so) := am_pi_at _ _ _ _
      have u16 : (am_pi v 15 p (nI (w1 - 3 ^ so))).1 16 p = -1 := by rw [am_pi_row (by omega)]; exact v16
      generalize hu : am_pi v 15 p (nI (w1 - 3 ^ so)) = u
      rw [hu] at fu u15 u16
      have ue : ∀ a, a ≠ 15 → a ≠ 16 → u.1 a = w.1 a := by rw [← hu]; exact ue
      have hVu := fu.V hV
      iterate 3 refine am_g0 rfl rfl ?_
      by_cases hl : ll < V.2.2.2.1
      · rw [if_pos hl] at hgo
        refine ⟨(some (.int 1), u), m_isLast_s (by omega) hm8 hVu.2.2.2.2.2.2.1 hl, ?_⟩
        refine am_to (lv' := [(0, .ref 0), (1, .int (nI p)), (2, .int (nI s)), (3, .int (nI (s % 2))), (4, .int (nI so)), (5, .int (nI ll)), (6, .int (nI ow))]) (st' := [.int 1]) (w' := u) rfl rfl rfl ?_
        iterate 6 refine am_g0 rfl rfl ?_
        have hg17 : u.1 17 (2 * p + s % 2) = nI gg := by
          rw [ue 17 (by omega) (by omega), hgg]
          by_cases e : s % 2 = 0
          · rw [e, if_pos rfl]; exact q4
          · rw [show s % 2 = 1 by omega, if_neg (by omega)]; exact q5
        refine ⟨(some (.int (nI (wayS (V.2.2.2.2.1 ll) (V.2.2.2.2.2.1 ll) (V.2.2.2.2.2.2 ll) gg))), am_pi (am_pi u 17 (2 * p + s % 2) (nI (gg + 1))) 20 ll (u.1 20 ll + 1)), m_wayBy (d := d - 1) (k := p) (f := s % 2) (l := ll) (g := gg) (by omega) hVu hp (by omega) hl hg17 (by omega), ?_⟩
        refine am_to (lv' := [(0, .ref 0), (1, .int (nI p)), (2, .int (nI s)), (3, .int (nI (s % 2))), (4, .int (nI so)), (5, .int (nI ll)), (6, .int (nI ow))]) (st' := [.int (nI (wayS (V.2.2.2.2.1 ll) (V.2.2.2.2.2.1 ll) (V.2.2.2.2.2.2 ll) gg))]) (w' := am_pi (am_pi u 17 (2 * p + s % 2) (nI (gg + 1))) 20 ll (u.1 20 ll + 1)) rfl rfl rfl ?_
        iterate 5 refine am_g0 rfl rfl ?_
        refine am_gsN (n := 8) (k := p) rfl rfl (by omega) (by decide) ?_
        refine am_to (lv' := [(0, .ref 0), (1, .int (nI p)), (2, .int (nI s)), (3, .int (nI (s % 2))), (4, .int (nI so)), (5, .int (nI ll)), (6, .int (nI (wayS (V.2.2.2.2.1 ll) (V.2.2.2.2.2.1 ll) (V.2.2.2.2.2.2 ll) gg)))]) (st' := []) (w' := am_pi (am_pi (am_pi u 17 (2 * p + s % 2) (nI (gg + 1))) 20 ll (u.1 20 ll + 1)) 16 p (nI ll)) rfl rfl rfl ?_
        refine am_to (lv' := [(0, .ref 0), (1, .int (nI p)), (2, .int (nI s)), (3, .int (nI (s % 2))), (4, .int (nI so)), (5, .int (nI ll)), (6, .int (nI (wayS (V.2.2.2.2.1 ll) (V.2.2.2.2.2.1 ll) (V.2.2.2.2.2.2 ll) gg)))]) (st' := []) (w' := am_pi (am_pi (am_pi u 17 (2 * p + s % 2) (nI (gg + 1))) 20 ll (u.1 20 ll + 1)) 16 p (nI ll)) rfl rfl rfl ?_
        generalize hx9 : am_pi (am_pi (am_pi u 17 (2 * p + s % 2) (nI (gg + 1))) 20 ll (u.1 20 ll + 1)) 16 p (nI ll) = x
        have fx : am_fw p w x := by rw [← hx9]; exact ((fu.p2 (Or.inl rfl) (by omega)).p3).p1 (by omega) (by omega)
        have xe : ∀ a, a ≠ 15 → a ≠ 16 → a ≠ 17 → a ≠ 20 → x.1 a = w.1 a := fun a h1 h2 h3 h4 => by rw [← hx9, am_pi_row h2, am_pi_row h4, am_pi_row h3]; exact ue a h1 h2
        have x15 : x.1 15 p = nI (w1 - 3 ^ so) := by rw [← hx9, am_pi_row (by omega), am_pi_row (by omega), am_pi_row (by omega)]; exact u15
        have x16 : x.1 16 p = wbI (some ll) := by rw [← hx9, am_pi_at]; rfl
        have x17 : ∀ j, j < 2 → x.1 17 (2 * p + j) = if j = s % 2 then nI (gg + 1) else u.1 17 (2 * p + j) := fun j hj => by
          rw [← hx9, am_pi_row (by omega), am_pi_row (by omega)]
          by_cases e : j = s % 2
          · rw [if_pos e, e, am_pi_at]
          · rw [if_neg e, am_pi_ne (Or.inr (by omega))]
        have x20 : ∀ l, l < 8 → x.1 20 l = w.1 20 l + wnT (some ll) l := fun l hl => by
          rw [← hx9, am_pi_row (by omega)]
          show _ = w.1 20 l + (if l = ll then 1 else 0)
          by_cases e : l = ll
          · rw [if_pos e, e, am_pi_at, ue 20 (by omega) (by omega)]
          · rw [if_neg e, am_pi_ne (Or.inr e), am_pi_row (by omega), ue 20 (by omega) (by omega)]; exact (Int32.add_zero _).symm
        have hway : wayS (V.2.2.2.2.1 ll) (V.2.2.2.2.2.1 ll) (V.2.2.2.2.2.2 ll) gg < 4 := wayS_lt ((hVok.2.2.2.2 ll hl).2.2.2 _ (Nat.mod_lt _ (hVok.2.2.2.2 ll hl).2.1))
        refine am_kl (tail x _ (w1 - 3 ^ so) (g0 + (if s % 2 = 0 then 1 else 0)) (g1 + (if s % 2 = 0 then 0 else 1)) (some ll) fx hway (by rw [xe 13 (by omega) (by omega) (by omega) (by omega)]; exact q1) x15 ?_ ?_ x16 (fun j hj => by rw [xe 19 (by omega) (by omega) (by omega) (by omega)]) x20 hgo) rfl
        · have := x17 0 (by omega)
          rw [Nat.add_zero] at this
          rw [this]
          by_cases e : s % 2 = 0
          · rw [if_pos e.symm, if_pos e, hgg, if_pos e]
          · rw [if_neg (fun z => e z.symm), if_neg e, ue 17 (by omega) (by omega)]; exact q4
        · rw [x17 1 (by omega)]
          by_cases e : s % 2 = 0
          · rw [if_neg (by omega), if_pos e, ue 17 (by omega) (by omega)]; exact q5
          · rw [if_pos (by omega), if_neg e, hgg, if_neg e]
      · rw [if_neg hl] at hgo
        refine ⟨(some (.int 0), u), m_isLast_n (by omega) hm8 hVu.2.2.2.2.2.2.1 (dI_f (Or.inr (nI_le (by omega) (by omega)))), ?_⟩
        refine am_to (lv' := [(0, .ref 0), (1, .int (nI p)), (2, .int (nI s)), (3, .int (nI (s % 2))), (4, .int (nI so)), (5, .int (nI ll)), (6, .int (nI ow))]) (st' := [.int 0]) (w' := u) rfl rfl rfl ?_
        refine am_g0 rfl rfl ?_
        exact am_kl (tail u ow (w1 - 3 ^ so) g0 g1 none fu o5 (by rw [ue 13 (by omega) (by omega)]; exact q1) u15 (by rw [ue 17 (by omega) (by omega)]; exact q4) (by rw [ue 17 (by omega) (by omega)]; exact q5) u16 (fun j hj => by rw [ue 19 (by omega) (by omega)]) (fun l hl => by rw [ue 20 (by omega) (by omega)]; exact (Int32.add_zero _).symm) hgo) rfl
  refine am_dex (by omega) rfl rfl ?_
  iterate 3 refine am_g0 rfl rfl ?_
  refine am_top (y := nI (s % 2)) (pk_rem (d := 2) (by omega) (by omega) (by omega)) ?_
  iterate 8 refine am_g0 rfl rfl ?_
  refine am_glE (n := 40) (k := 5 * p + 3) rfl rfl (ix5 p 3) (by omega) (by decide) ?_
  refine am_top (y := nI so) (p4) ?_
  iterate 10 refine am_g0 rfl rfl ?_
  refine am_glE (n := 40) (k := 5 * p + 1 + s % 2) rfl rfl (by rw [show (5 : Int32) * nI p + 1 = nI (5 * p + 1) from ix5 p 1, nI_add]) (by omega) (by decide) ?_
  refine am_top (y := nI ll) (by rw [hll]; by_cases e : s % 2 = 0; (· rw [e, if_pos rfl]; exact p2); (· rw [show s % 2 = 1 by omega, if_neg (by omega)]; exact p3)) ?_
  iterate 7 refine am_g0 rfl rfl ?_
  refine ⟨(some (.int (b01 (wet s))), w), m_isRain (by omega) hW hs, ?_⟩
  refine am_to (lv' := [(0, .ref 0), (1, .int (nI p)), (2, .int (nI s)), (3, .int (nI (s % 2))), (4, .int (nI so)), (5, .int (nI ll))]) (st' := [.int (b01 (wet s)), .int (nI p), .ref 15]) (w' := w) rfl rfl rfl ?_
  refine am_g0 rfl rfl ?_
  cases hr : wet s with
  | true =>
    rw [hr, if_pos rfl] at hw1
    iterate 2 refine am_g0 rfl rfl ?_
    rw [hw1] at at60
    exact am_kl at60 rfl
  | false =>
    rw [hr, if_neg (by decide)] at hw1
    refine am_go rfl ?_
    iterate 2 refine am_g0 rfl rfl ?_
    refine am_glN (n := 8) (k := p) rfl rfl (by omega) (by decide) ?_
    refine am_top (y := nI wt) (q3) ?_
    iterate 3 refine am_g0 rfl rfl ?_
    refine ⟨(some (.int (nI (2 ^ so))), w), m_power (b := 2) (by omega) o4, ?_⟩
    refine am_to (lv' := [(0, .ref 0), (1, .int (nI p)), (2, .int (nI s)), (3, .int (nI (s % 2))), (4, .int (nI so)), (5, .int (nI ll))]) (st' := [.int (nI (2 ^ so)), .int (nI wt), .int (nI p), .ref 15]) (w' := w) rfl rfl rfl ?_
    refine am_g0 rfl rfl ?_
    refine am_top (y := nI w1) (by rw [hw1, nI_add]) ?_
    exact am_kl at60 rfl
