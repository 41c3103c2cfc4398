/-! the class walks: a whole walk, all traces, what a trace tells -/
theorem d_ttold {d T R s j : Nat} {V : Wd} {P : Pr} {wet : Nat → Bool} {w : am_M} (hd : 1 ≤ d) (hT : am_isb shC T 9 = true) (hR : am_tg shC T 0 = some R) (hL : am_ln shC R = some 120) (hs : s < 30) (hj : j < 4) : am_D shC d mi_X9_told [.ref T, .int (nI s), .int (nI j)] w (some (.int (w.1 R (j * 30 + s))), w) := by
  refine am_def hd rfl rfl ?_
  iterate 2 refine am_g0 rfl rfl ?_
  refine am_ys hT (am_oi hR ?_)
  iterate 5 refine am_g0 rfl rfl ?_
  refine am_top (y := nI (j * 30 + s)) (by rw [show (30 : Int32) = nI 30 from rfl, pk_mul, nI_add]) ?_
  refine am_glN rfl hL (by omega) (by decide) ?_
  refine am_g0 rfl rfl ?_
  exact ⟨rfl, rfl⟩
/-- the traces' cells -/
theorem sh_Tr (p : Nat) (hp : p < 8) : am_isb shC (34 + p) 9 = true ∧ am_tg shC (34 + p) 0 = some (42 + p) ∧ am_ln shC (42 + p) = some 120 ∧ ([34, 35, 36, 37, 38, 39, 40, 41] : List Nat)[p]? = some (34 + p) := by
  match p, hp with
  | 0, _ => exact ⟨rfl, rfl, rfl, rfl⟩
  | 1, _ => exact ⟨rfl, rfl, rfl, rfl⟩
  | 2, _ => exact ⟨rfl, rfl, rfl, rfl⟩
  | 3, _ => exact ⟨rfl, rfl, rfl, rfl⟩
  | 4, _ => exact ⟨rfl, rfl, rfl, rfl⟩
  | 5, _ => exact ⟨rfl, rfl, rfl, rfl⟩
  | 6, _ => exact ⟨rfl, rfl, rfl, rfl⟩
  | 7, _ => exact ⟨rfl, rfl, rfl, rfl⟩
/-- how often a last is gone by in the first n steps -/
def timesS (f : Nat → Int32) (l : Int32) : Nat → Nat
  | 0 => 0
  | n + 1 => if f n = l then timesS f l n + 1 else timesS f l n
theorem timesS_le (f : Nat → Int32) (l : Int32) : ∀ n, timesS f l n ≤ n
  | 0 => Nat.le_refl _
  | n + 1 => by unfold timesS; have := timesS_le f l n; split <;> omega
theorem d_timesBy {d T R : Nat} {l : Int32} {w : am_M} (hd : 2 ≤ d) (hT : am_isb shC T 9 = true) (hR : am_tg shC T 0 = some R) (hL : am_ln shC R = some 120) : am_D shC d mi_X9_timesBy [.ref T, .int l] w (some (.int (nI (timesS (fun s => w.1 R (90 + s)) l 30))), w) := by
  refine am_def (by omega) rfl rfl ?_
  iterate 4 refine am_g0 rfl rfl ?_
  have key : ∀ j s : Nat, s + j = 30 → am_R shC mi_X9_timesBy (am_D shC (d - 1)) (fun r => r = (some (.int (nI (timesS (fun s => w.1 R (90 + s)) l 30))), w)) 4 [(0, .ref T), (1, .int l), (2, .int (nI (timesS (fun s => w.1 R (90 + s)) l s))), (3, .int (nI s))] [] w := by
    intro j
    induction j with
    | zero =>
      intro s hs
      have e : s = 30 := by omega
      refine am_go rfl ?_
      iterate 2 refine am_g0 rfl rfl ?_
      refine am_tt (show nI 30 ≤ nI s from nI_le (by omega) (by omega)) ?_
      refine am_go rfl ?_
      refine am_g0 rfl rfl ?_
      exact ⟨rfl, by rw [e]⟩
    | succ j ih =>
      intro s hs
      refine am_go rfl ?_
      iterate 2 refine am_g0 rfl rfl ?_
      refine am_ff (show ¬ nI 30 ≤ nI s from nI_ge (by omega) (by omega)) ?_
      iterate 4 refine am_g0 rfl rfl ?_
      refine am_ys (show (true && (true && am_isb shC T 9)) = true by rw [hT]; rfl) ?_
      refine ⟨(some (.int (w.1 R (90 + s))), w), (by
        have := d_ttold (d := d - 1) (V := (0, fun _ => 0, fun _ _ => 0, 0, fun _ => 0, fun _ => 0, fun _ _ => 0)) (P := (0, 0, 0, 0, 0)) (wet := fun _ => false) (w := w) (s := s) (j := 3) (by omega) hT hR hL (by omega) (by omega)
        exact this), ?_⟩
      refine am_to (lv' := [(0, .ref T), (1, .int l), (2, .int (nI (timesS (fun s => w.1 R (90 + s)) l s))), (3, .int (nI s))]) (st' := [.int (w.1 R (90 + s))]) (w' := w) rfl rfl rfl ?_
      iterate 2 refine am_g0 rfl rfl ?_
      have := ih (s + 1) (by omega)
      by_cases h : w.1 R (90 + s) = l
      · refine am_tt h ?_
        refine am_g0 rfl rfl ?_
        refine am_go rfl ?_
        refine am_g0 rfl rfl ?_
        have e9 : timesS (fun s => w.1 R (90 + s)) l (s + 1) = timesS (fun s => w.1 R (90 + s)) l s + 1 := by rw [timesS, if_pos h]
        rw [e9, ← nI_1, ← nI_1] at this
        exact this
      · refine am_ff h ?_
        refine am_go rfl ?_
        refine am_g0 rfl rfl ?_
        have e9 : timesS (fun s => w.1 R (90 + s)) l (s + 1) = timesS (fun s => w.1 R (90 + s)) l s := by rw [timesS, if_neg h]
        rw [e9, ← nI_1] at this
        exact this
  exact key 30 0 (by omega)
/-- the people as walkers see them -/
def prS (pf : Nat → Nat → Nat) (p : Nat) : Pr := (pf p 0, pf p 1, pf p 2, pf p 3, pf p 4)
theorem cPeople.ok {w : am_M} {q : Nat} {pf : Nat → Nat → Nat} (h : cPeople w q pf) {p : Nat} (hp : p < q) : Pok (prS pf p) := (h.2.2 p hp).2
def isWr (a : Nat) : Prop := a = 52 ∨ (34 ≤ a ∧ a < 50)
-- all the lives are traced
set_option maxHeartbeats 4000000 in
theorem d_retrace_t {d n q : Nat} {V : Wd} {pf : Nat → Nat → Nat} {w : am_M} (hd : 4 ≤ d) (hst : w.1 0 17 ≠ 0) (hV : cV w V) (hP : cPeople w q pf) (hn : w.1 18 1 = nI n) (hn8 : n ≤ 8) : ∃ o : am_O, (o.1 = none ∧ (∀ a, ¬ isWr a → ∀ b, ¬ (a = 0 ∧ b = 17) → o.2.1 a b = w.1 a b) ∧ o.2.1 0 17 = 0 ∧ o.2.2 = w.2 ∧ ∀ p, p < q → trOK o.2 (34 + p) (42 + p) V (prS pf p) (wetB (wetF (w.1 19) (-1) (-1) n))) ∧ am_D shC d mi_X11_retrace [.ref 0] w o := by
  refine am_dex (by omega) rfl rfl ?_
  iterate 3 refine am_g0 rfl rfl ?_
  refine am_ff hst ?_
  refine am_go rfl ?_
  iterate 4 refine am_g0 rfl rfl ?_
  refine ⟨(some (.int (wetF (w.1 19) (-1) (-1) n)), w), d_wetSteps (by omega) hn8 hn, ?_⟩
  generalize wetF (w.1 19) (-1) (-1) n = x
  refine am_to (lv' := [(0, .ref 0)]) (st' := [.int x]) (w' := w) rfl rfl rfl ?_
  iterate 3 refine am_g0 rfl rfl ?_
  have key : ∀ j p : Nat, p + j = q → ∀ m : am_M, (∀ a, ¬ isWr a → m.1 a = w.1 a) → m.2 = w.2 → (∀ k, k < p → trOK m (34 + k) (42 + k) V (prS pf k) (wetB x)) → am_R shC mi_X11_retrace (am_D shC (d - 1)) (fun o => o.1 = none ∧ (∀ a, ¬ isWr a → ∀ b, ¬ (a = 0 ∧ b = 17) → o.2.1 a b = w.1 a b) ∧ o.2.1 0 17 = 0 ∧ o.2.2 = w.2 ∧ ∀ p, p < q → trOK o.2 (34 + p) (42 + p) V (prS pf p) (wetB x)) 20 [(0, .ref 0), (1, .int x), (2, .int (nI p))] [] m := by
    intro j
    have hq8 : q ≤ 8 := hP.2.1
    induction j with
    | zero =>
      intro p hp m hm hm2 hk
      have e : p = q := by omega
      have hsz : m.1 16 1 = nI q := by rw [hm 16 (by unfold isWr; omega)]; exact hP.1
      refine am_go rfl ?_
      iterate 4 refine am_g0 rfl rfl ?_
      refine am_tt (show m.1 16 1 ≤ nI p by rw [hsz]; exact nI_le (by omega) (by omega)) ?_
      refine am_go rfl ?_
      iterate 2 refine am_g0 rfl rfl ?_
      refine ⟨Or.inl rfl, ?_⟩
      refine am_g0 rfl rfl ?_
      refine ⟨rfl, rfl, fun a ha b hb => ?_, am_pi_at _ _ _ _, hm2, fun k hk2 => ?_⟩
      · show (am_pi m 0 17 0).1 a b = _
        rw [am_pi_ne (by omega), hm a ha]
      · exact (hk k (by omega)).fr (am_pi_row (by omega)) (am_pi_row (by omega))
    | succ j ih =>
      intro p hp m hm hm2 hk
      have hsz : m.1 16 1 = nI q := by rw [hm 16 (by unfold isWr; omega)]; exact hP.1
      have hlow : ∀ a, a < 18 → m.1 a = w.1 a := fun a ha => hm a (by unfold isWr; omega)
      obtain ⟨t1, t2, t3, t4⟩ := sh_Tr p (by omega)
      refine am_go rfl ?_
      iterate 4 refine am_g0 rfl rfl ?_
      refine am_ff (show ¬ m.1 16 1 ≤ nI p by rw [hsz]; exact nI_ge (by omega) (by omega)) ?_
      iterate 6 refine am_g0 rfl rfl ?_
      obtain ⟨⟨r1, w1⟩, ⟨e1, f1, g1⟩, hD⟩ := d_wear_52 (d := d - 1) (by omega) (hP.fr hlow) (show p < q by omega)
      dsimp only at e1 f1 g1
      subst e1
      refine ⟨(none, w1), hD, ?_⟩
      refine am_to (lv' := [(0, .ref 0), (1, .int x), (2, .int (nI p))]) (st' := []) (w' := w1) rfl rfl rfl ?_
      iterate 4 refine am_g0 rfl rfl ?_
      refine am_ff (show ¬ nI p < 0 from nI_pos (by omega)) (am_oi (a := 34 + p) (by rw [nI_clamp (by omega)]; exact t4) ?_)
      iterate 4 refine am_g0 rfl rfl ?_
      refine am_ys (show (true && (true && am_isb shC (34 + p) 9)) = true by rw [t1]; rfl) ?_
      have hV1 : cV w1 V := hV.fr (fun a ha => by rw [f1.1 a (by omega)]; exact hlow a (by omega))
      obtain ⟨⟨r2, w2⟩, ⟨e2, f2, g2⟩, hD2⟩ := d_follow (d := d - 1) (T := 34 + p) (R := 42 + p) (x := x) (by omega) t1 t2 t3 (by omega) (by omega) (by omega) (by omega) (by omega) hV1 g1 (hP.ok (show p < q by omega))
      dsimp only at e2 f2 g2
      subst e2
      refine ⟨(none, w2), hD2, ?_⟩
      refine am_to (lv' := [(0, .ref 0), (1, .int x), (2, .int (nI p))]) (st' := []) (w' := w2) rfl rfl rfl ?_
      iterate 2 refine am_g0 rfl rfl ?_
      have := ih (p + 1) (by omega) w2 (fun a ha => ?_) ?_ (fun k hk2 => ?_)
      · rw [← nI_1] at this
        exact this
      · rw [f2.1 a (by unfold isWr at ha; omega) (by unfold isWr at ha; omega) (by unfold isWr at ha; omega), f1.1 a (by unfold isWr at ha; omega)]
        exact hm a ha
      · exact f2.2.trans (f1.2.trans hm2)
      · by_cases hkp : k = p
        · subst hkp; exact g2
        · exact (hk k (by omega)).fr (by rw [f2.1 _ (by omega) (by omega) (by omega), f1.1 _ (by omega)]) (by rw [f2.1 _ (by omega) (by omega) (by omega), f1.1 _ (by omega)])
  exact am_kl (key q 0 (by omega) w (fun _ _ => rfl) rfl (fun k hk => absurd hk (Nat.not_lt_zero k))) rfl
theorem d_retrace_f {d : Nat} {w : am_M} (hd : 1 ≤ d) (hst : w.1 0 17 = 0) : am_D shC d mi_X11_retrace [.ref 0] w (none, w) := by
  refine am_def hd rfl rfl ?_
  iterate 3 refine am_g0 rfl rfl ?_
  refine am_tt hst ?_
  refine am_g0 rfl rfl ?_
  exact ⟨rfl, rfl⟩
