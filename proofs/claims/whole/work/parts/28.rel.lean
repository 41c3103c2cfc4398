/-! the class and what both sides hold -/
def pairB (f : Nat → Nat) : Nat → Option Nat × Nat
  | 0 => (none, 31)
  | n + 1 => if f n < (pairB f n).2 then (some n, f n) else pairB f n
def prW (P : Pr) (l r : Nat) : Pr := (P.1, l, r, P.2.2.2.1, P.2.2.2.2)
def pairS (S : Sp) (p : Nat) : Option Nat × Nat := pairB (fun c => comS S.V (prW (prS S.pf p) (c / S.m) (c % S.m)) (wet0 S)) (S.m * S.m)
def pairA (S : Sp) (p k : Nat) : Int32 := match (pairS S p).1 with
  | none => -1
  | some c => if k = 0 then nI (c / S.m) else if k = 1 then nI (c % S.m) else nI (pairS S p).2 - 1
/-- nobody drowns, had some rains not been -/
def dryB (S : Sp) (ex : Nat → Bool) : Bool := allB (fun p => !decide (fin S.V (prS S.pf p) (wetN S.rs ex S.rn) = 2)) S.q
def ex1 (a : Nat) : Nat → Bool := fun i => decide (i = a)
def ex2 (a b : Nat) : Nat → Bool := fun i => decide (i = a) || decide (i = b)
def dry2 (S : Sp) (a : Nat) : Option Nat := firstN (fun b => decide (a < b) && dryB S (ex2 a b)) S.rn
def dryS (S : Sp) : Option (List Nat) :=
  if dryB S (fun _ => false) then some [] else match firstN (fun a => dryB S (ex1 a)) S.rn with
  | some a => some [a]
  | none => match firstN (fun a => (dry2 S a).isSome) S.rn with
    | some a => (match dry2 S a with
      | some b => some [a, b]
      | none => none)
    | none => none
def dryC (S : Sp) : Int32 := match dryS S with
  | none => -1
  | some l => nI l.length
def dryA (S : Sp) (i : Nat) : Int32 := match dryS S with
  | none => -1
  | some l => opI (l[i]?)
/-- dry to the end -/
def endF (V : Wd) (P : Pr) : Nat → Nat → Qs → Qs
  | 0, _, q => q
  | k + 1, s, q => endF V P k (s + 1) (goS V P s false q).1
/-- of so many parts ahead of a step, with k steps of storm left: those that come -/
def stormF (V : Wd) (P : Pr) (c : Nat) : Nat → Nat → Qs → Nat → Nat
  | 0, s, q, n => if n = 0 then 0 else if q.2.1 ≠ 0 then (if q.2.1 = 1 then n else 0) else if (endF V P (30 - s) s q).2.1 = 1 then n else 0
  | k + 1, s, q, n => if n = 0 then 0 else if q.2.1 ≠ 0 then (if q.2.1 = 1 then n * 16 ^ (k + 1) else 0) else stormF V P c k (s + 1) (goS V P s true q).1 (n * c) + stormF V P c k (s + 1) (goS V P s false q).1 (n * (16 - c))
def stormS (S : Sp) (p c l : Nat) : Nat := stormF S.V (prS S.pf p) c (l + 1) 0 (beginS S.V (prS S.pf p)) 1
/-! what the class' memory holds -/
def tnOK (w : am_M) (b : Nat → Nat) (n : Nat) : Prop := cTown w (townR b n).2.1 (townR b n).2.2.2 (nxS (townR b n).2.1 (townR b n).2.2.1 (townR b n).2.2.2) ∧ w.1 8 0 = opI (townR b n).1
def lsOK (w : am_M) (b : Nat → Nat) (n : Nat) : Prop := cLasts w (lastsR b n).2.1 (lastsR b n).2.2.1 (lastsR b n).2.2.2.1 (lastsR b n).2.2.2.2 ∧ w.1 8 1 = opI (lastsR b n).1
def ppOK (w : am_M) (b : Nat → Nat) (n : Nat) : Prop := cPeople w (peopleR b n).2.1 (peopleR b n).2.2 ∧ w.1 8 2 = opI (peopleR b n).1
def RCt (w : am_M) (S : Sp) : Prop := ∀ t, t < 3 → cText w t (S.tl t) (S.tb t) ∧ w.1 (2 + t) 1 = nI (mxT t)
def RCr (w : am_M) (S : Sp) : Prop := w.1 18 1 = nI S.rn ∧ ∀ i, i < S.rn → w.1 19 i = nI (S.rs i)
def RCh (w : am_M) (S : Sp) : Prop := ∀ s, s < 4 → w.1 (25 + s) 2 = opI (S.sz s) ∧ ∀ n, S.sz s = some n → w.1 (25 + s) 1 = nI (S.fm s) ∧ ∀ i, i < n → w.1 (29 + s) i = S.it s i
def cTr (w : am_M) (S : Sp) : Prop := w.1 0 17 = 0 → ∀ p, p < S.q → trOK w (34 + p) (42 + p) S.V (prS S.pf p) (wet0 S)
def cPr (w : am_M) (S : Sp) : Prop := w.1 0 18 = -1 ∨ ∃ p, p < S.q ∧ w.1 0 18 = nI p ∧ ∀ k, k < 3 → w.1 69 k = pairA S p k
def cDr (w : am_M) (S : Sp) : Prop := w.1 0 19 = -2 ∨ (w.1 0 19 = dryC S ∧ ∀ l, dryS S = some l → ∀ i a, l[i]? = some a → w.1 70 i = nI a)
def cSt (w : am_M) (S : Sp) : Prop := w.1 53 3 = -1 ∨ ∃ p c l, p < S.q ∧ c ≤ 16 ∧ l ≤ 9 ∧ w.1 53 3 = nI p ∧ w.1 53 1 = nI c ∧ w.1 53 2 = nI (l + 1) ∧ w.2 53 = lN (stormS S p c l)
def RCb (w : am_M) (S : Sp) : Prop := sok S ∧ RCt w S ∧ tnOK w (S.tb 0) (S.tl 0) ∧ lsOK w (S.tb 1) (S.tl 1) ∧ ppOK w (S.tb 2) (S.tl 2) ∧ RCr w S ∧ cSeen w S.sn S.st S.pe S.ce ∧ RCh w S ∧ w.1 0 16 = S.fn
def RC (w : am_M) (S : Sp) : Prop := RCb w S ∧ cTr w S ∧ cPr w S ∧ cDr w S ∧ cSt w S
theorem RCb.V {w : am_M} {S : Sp} (h : RCb w S) : cV w S.V := ⟨h.2.2.1.1, h.2.2.2.1.1⟩
theorem RCb.P {w : am_M} {S : Sp} (h : RCb w S) : cPeople w S.q S.pf := h.2.2.2.2.1.1
theorem RCb.M {w : am_M} {S : Sp} (h : RCb w S) : w.1 12 3 = nI S.m ∧ S.m ≤ 8 := ⟨h.2.2.2.1.1.1, h.2.2.2.1.1.2.1⟩
theorem tnOK.fr {w w' : am_M} {b : Nat → Nat} {n : Nat} (h : tnOK w b n) (e : ∀ a, 8 ≤ a → a < 12 → w'.1 a = w.1 a) : tnOK w' b n := by
  obtain ⟨⟨h1, h2, h3, h4⟩, h5⟩ := h
  exact ⟨⟨by rw [e 9 (by omega) (by omega)]; exact h1, h2, fun c hc => by rw [e 10 (by omega) (by omega)]; exact h3 c hc, fun c hc a ha => by rw [e 11 (by omega) (by omega)]; exact h4 c hc a ha⟩, by rw [e 8 (by omega) (by omega)]; exact h5⟩
theorem lsOK.fr {w w' : am_M} {b : Nat → Nat} {n : Nat} (h : lsOK w b n) (e : ∀ a, 12 ≤ a → a < 16 → w'.1 a = w.1 a) (e8 : w'.1 8 1 = w.1 8 1) : lsOK w' b n := by
  obtain ⟨⟨h1, h2, h3⟩, h5⟩ := h
  exact ⟨⟨by rw [e 12 (by omega) (by omega)]; exact h1, h2, fun l hl => by rw [e 13 (by omega) (by omega), e 14 (by omega) (by omega), e 15 (by omega) (by omega)]; exact h3 l hl⟩, by rw [e8]; exact h5⟩
theorem ppOK.fr {w w' : am_M} {b : Nat → Nat} {n : Nat} (h : ppOK w b n) (e : ∀ a, 16 ≤ a → a < 18 → w'.1 a = w.1 a) (e8 : w'.1 8 2 = w.1 8 2) : ppOK w' b n := by
  obtain ⟨⟨h1, h2, h3⟩, h5⟩ := h
  exact ⟨⟨by rw [e 16 (by omega) (by omega)]; exact h1, h2, fun p hp => by rw [e 17 (by omega) (by omega)]; exact h3 p hp⟩, by rw [e8]; exact h5⟩
theorem RCt.fr {w w' : am_M} {S : Sp} (h : RCt w S) (e : ∀ a, 2 ≤ a → a < 8 → w'.1 a = w.1 a) : RCt w' S := fun t ht => ⟨(h t ht).1.fr (e _ (by omega) (by omega)) (e _ (by omega) (by omega)), by rw [e _ (by omega) (by omega)]; exact (h t ht).2⟩
theorem RCr.fr {w w' : am_M} {S : Sp} (h : RCr w S) (e : ∀ a, 18 ≤ a → a < 20 → w'.1 a = w.1 a) : RCr w' S := ⟨by rw [e 18 (by omega) (by omega)]; exact h.1, fun i hi => by rw [e 19 (by omega) (by omega)]; exact h.2 i hi⟩
theorem RCh.fr {w w' : am_M} {S : Sp} (h : RCh w S) (e : ∀ a, 25 ≤ a → a < 33 → w'.1 a = w.1 a) : RCh w' S := fun s hs => by
  rw [e (25 + s) (by omega) (by omega), e (29 + s) (by omega) (by omega)]
  exact h s hs
/-- the base stays, if but workings change -/
theorem RCb.fr {w w' : am_M} {S : Sp} (h : RCb w S) (e : ∀ a, 0 < a → a < 34 → w'.1 a = w.1 a) (e0 : w'.1 0 16 = w.1 0 16) : RCb w' S := by
  obtain ⟨h1, h2, h3, h4, h5, h6, h7, h8, h9⟩ := h
  exact ⟨h1, h2.fr (fun a _ _ => e a (by omega) (by omega)), h3.fr (fun a _ _ => e a (by omega) (by omega)), h4.fr (fun a _ _ => e a (by omega) (by omega)) (by rw [e 8 (by omega) (by omega)]), h5.fr (fun a _ _ => e a (by omega) (by omega)) (by rw [e 8 (by omega) (by omega)]), h6.fr (fun a _ _ => e a (by omega) (by omega)), h7.fr (fun a _ _ => e a (by omega) (by omega)), h8.fr (fun a _ _ => e a (by omega) (by omega)), by rw [e0]; exact h9⟩
theorem cTr.fr {w w' : am_M} {S : Sp} (h : cTr w S) (hq : S.q ≤ 8) (e : ∀ a, 34 ≤ a → a < 50 → w'.1 a = w.1 a) (e0 : w'.1 0 17 = w.1 0 17) : cTr w' S := fun z p hp => by
  rw [e0] at z
  exact (h z p hp).fr (e _ (by omega) (by omega)) (e _ (by omega) (by omega))
theorem cPr.fr {w w' : am_M} {S : Sp} (h : cPr w S) (e : w'.1 69 = w.1 69) (e0 : w'.1 0 18 = w.1 0 18) : cPr w' S := by unfold cPr; rw [e, e0]; exact h
theorem cDr.fr {w w' : am_M} {S : Sp} (h : cDr w S) (e : w'.1 70 = w.1 70) (e0 : w'.1 0 19 = w.1 0 19) : cDr w' S := by unfold cDr; rw [e, e0]; exact h
theorem cSt.fr {w w' : am_M} {S : Sp} (h : cSt w S) (e : w'.1 53 = w.1 53) (e0 : w'.2 53 = w.2 53) : cSt w' S := by unfold cSt; rw [e, e0]; exact h
/-- cells that hold nothing between the calls -/
def scr (a : Nat) : Prop := (50 ≤ a ∧ a ≤ 52) ∨ (55 ≤ a ∧ a ≤ 68) ∨ a = 71
def am_sc (w w' : am_M) : Prop := (∀ a, ¬ scr a → w'.1 a = w.1 a) ∧ w'.2 = w.2
theorem am_sc.rf {w : am_M} : am_sc w w := ⟨fun _ _ => rfl, rfl⟩
theorem am_sc.tr {w w' w'' : am_M} (h : am_sc w w') (h' : am_sc w' w'') : am_sc w w'' := ⟨fun a ha => (h'.1 a ha).trans (h.1 a ha), h'.2.trans h.2⟩
theorem am_sc.of {b : Nat} {w w' : am_M} (h : am_fr b w w') (hb : scr b) : am_sc w w' := ⟨fun a ha => h.1 a (fun z => ha (by rw [z]; exact hb)), h.2⟩
theorem am_sc.pi {w w' : am_M} {b j : Nat} {x : Int32} (h : am_sc w w') (hb : scr b) : am_sc w (am_pi w' b j x) := ⟨fun a ha => (am_pi_row (fun z => ha (by rw [z]; exact hb))).trans (h.1 a ha), h.2⟩
theorem scr52 : scr 52 := Or.inl (by omega)
theorem RC.sc {w w' : am_M} {S : Sp} (h : RC w S) (e : am_sc w w') : RC w' S := by
  obtain ⟨h1, h2, h3, h4, h5⟩ := h
  have g : ∀ a, ¬ scr a → w'.1 a = w.1 a := e.1
  exact ⟨h1.fr (fun a _ _ => g a (by unfold scr; omega)) (by rw [g 0 (by unfold scr; omega)]), h2.fr h1.P.2.1 (fun a _ _ => g a (by unfold scr; omega)) (by rw [g 0 (by unfold scr; omega)]), h3.fr (g _ (by unfold scr; omega)) (by rw [g 0 (by unfold scr; omega)]), h4.fr (g _ (by unfold scr; omega)) (by rw [g 0 (by unfold scr; omega)]), h5.fr (g _ (by unfold scr; omega)) (by rw [e.2])⟩
/-- nothing is kept any more -/
theorem RC.out {w : am_M} {S : Sp} (h : RCb w S) : RC (cOut w) S := by
  refine ⟨h.fr (fun a h1 h2 => ?_) ?_, ?_, Or.inl ?_, Or.inl ?_, Or.inl ?_⟩
  · unfold cOut; rw [am_pi_row (by omega), am_pi_row (by omega), am_pi_row (by omega), am_pi_row (by omega)]
  · unfold cOut; rw [am_pi_ne (by omega), am_pi_ne (by omega), am_pi_ne (by omega), am_pi_ne (by omega)]
  · intro z
    exact absurd z (by show ¬ (1 : Int32) = 0; decide)
  · rfl
  · rfl
  · rfl
/-! a text is read anew -/
def RCx (w : am_M) (S : Sp) (t : Nat) : Prop := sok S ∧ RCt w S ∧ (t ≠ 0 → tnOK w (S.tb 0) (S.tl 0)) ∧ (t ≠ 1 → lsOK w (S.tb 1) (S.tl 1)) ∧ (t ≠ 2 → ppOK w (S.tb 2) (S.tl 2)) ∧ RCr w S ∧ cSeen w S.sn S.st S.pe S.ce ∧ RCh w S ∧ w.1 0 16 = S.fn
theorem d_reload {d t : Nat} {w : am_M} {S : Sp} (hd : 7 ≤ d) (ht : t < 3) (h : RCx w S t) : ∃ o : am_O, (o.1 = none ∧ RC o.2 S ∧ ∀ a, a < 8 → 0 < a → o.2.1 a = w.1 a) ∧ am_D shC d mi_X11_reload [.ref 0, .int (nI t)] w o := by
  obtain ⟨h1, h2, h3, h4, h5, h6, h7, h8, h9⟩ := h
  have out : ∀ w1 : am_M, RCb w1 S → (∀ a, a < 8 → 0 < a → w1.1 a = w.1 a) → am_R shC mi_X11_reload (am_D shC (d - 1)) (fun o => o.1 = none ∧ RC o.2 S ∧ ∀ a, a < 8 → 0 < a → o.2.1 a = w.1 a) 72 [(0, .ref 0)] [] w1 := by
    intro w1 hb hlow
    refine am_go rfl ?_
    refine am_g0 rfl rfl ?_
    refine ⟨(none, cOut w1), d_outdate (by omega), ?_⟩
    refine am_to (lv' := [(0, .ref 0)]) (st' := []) (w' := cOut w1) rfl rfl rfl ?_
    refine am_g0 rfl rfl ?_
    refine ⟨rfl, rfl, RC.out hb, fun a ha h0 => ?_⟩
    show (cOut w1).1 a = w.1 a
    unfold cOut
    rw [am_pi_row (by omega), am_pi_row (by omega), am_pi_row (by omega), am_pi_row (by omega)]
    exact hlow a ha h0
  refine am_dex (by omega) rfl rfl ?_
  iterate 2 refine am_g0 rfl rfl ?_
  by_cases t0 : t = 0
  · refine am_tt (show (nI t : Int32) = 0 from by rw [t0]; rfl) ?_
    iterate 10 refine am_g0 rfl rfl ?_
    obtain ⟨⟨r1, w1⟩, ⟨e1, f1, g1, g2⟩, hD1⟩ := d_tload (d := d - 1) (by omega) (h2 0 (by omega)).1
    dsimp only at e1 f1 g1 g2
    subst e1
    refine ⟨(some (.int (opI (townR (S.tb 0) (S.tl 0)).1)), w1), hD1, ?_⟩
    refine am_to (lv' := [(0, .ref 0), (1, .int (nI t))]) (st' := [.int (opI (townR (S.tb 0) (S.tl 0)).1), .int 0, .ref 8]) (w' := w1) rfl rfl rfl ?_
    refine am_gsN (n := 3) (k := 0) rfl rfl (by omega) (by decide) ?_
    refine am_to (lv' := [(0, .ref 0), (1, .int (nI t))]) (st' := []) (w' := am_pi w1 8 0 (opI (townR (S.tb 0) (S.tl 0)).1)) rfl rfl rfl ?_
    have e8 : ∀ j, j ≠ 0 → (am_pi w1 8 0 (opI (townR (S.tb 0) (S.tl 0)).1)).1 8 j = w.1 8 j := fun j hj => by rw [am_pi_ne (Or.inr hj), f1.1 8 (by omega) (by omega) (by omega)]
    have e : ∀ a, a < 8 ∨ 12 ≤ a → (am_pi w1 8 0 (opI (townR (S.tb 0) (S.tl 0)).1)).1 a = w.1 a := fun a ha => by rw [am_pi_row (by omega), f1.1 a (by omega) (by omega) (by omega)]
    refine am_g0 rfl rfl ?_
    refine am_kl (out _ ⟨h1, h2.fr (fun a _ _ => e a (by omega)), ⟨⟨?_, g2.2.1, fun c hc => ?_, fun c hc a ha => ?_⟩, am_pi_at _ _ _ _⟩, (h4 (by omega)).fr (fun a _ _ => e a (by omega)) (e8 1 (by omega)), (h5 (by omega)).fr (fun a _ _ => e a (by omega)) (e8 2 (by omega)), h6.fr (fun a _ _ => e a (by omega)), h7.fr (fun a _ _ => e a (by omega)), h8.fr (fun a _ _ => e a (by omega)), by rw [e 0 (by omega)]; exact h9⟩ (fun a ha _ => e a (by omega))) rfl
    · rw [am_pi_row (by omega)]; exact g2.1
    · rw [am_pi_row (by omega)]; exact g2.2.2.1 c hc
    · rw [am_pi_row (by omega)]; exact g2.2.2.2 c hc a ha
  · refine am_ff (show ¬ (nI t : Int32) = 0 from nne (b := 0) t0 (by omega) (by omega)) ?_
    refine am_go rfl ?_
    iterate 2 refine am_g0 rfl rfl ?_
    by_cases t1 : t = 1
    · refine am_tt (show (nI t : Int32) = 1 from by rw [t1]; rfl) ?_
      iterate 10 refine am_g0 rfl rfl ?_
      obtain ⟨⟨r1, w1⟩, ⟨e1, f1, g2⟩, hD1⟩ := d_lload (d := d - 1) (by omega) (h2 1 (by omega)).1
      dsimp only at e1 f1 g2
      subst e1
      refine ⟨(some (.int (opI (lastsR (S.tb 1) (S.tl 1)).1)), w1), hD1, ?_⟩
      refine am_to (lv' := [(0, .ref 0), (1, .int (nI t))]) (st' := [.int (opI (lastsR (S.tb 1) (S.tl 1)).1), .int 1, .ref 8]) (w' := w1) rfl rfl rfl ?_
      refine am_gsN (n := 3) (k := 1) rfl rfl (by omega) (by decide) ?_
      refine am_to (lv' := [(0, .ref 0), (1, .int (nI t))]) (st' := []) (w' := am_pi w1 8 1 (opI (lastsR (S.tb 1) (S.tl 1)).1)) rfl rfl rfl ?_
      have e8 : ∀ j, j ≠ 1 → (am_pi w1 8 1 (opI (lastsR (S.tb 1) (S.tl 1)).1)).1 8 j = w.1 8 j := fun j hj => by rw [am_pi_ne (Or.inr hj), f1.1 8 (by omega)]
      have e : ∀ a, a ≠ 8 → a < 12 ∨ 16 ≤ a → (am_pi w1 8 1 (opI (lastsR (S.tb 1) (S.tl 1)).1)).1 a = w.1 a := fun a h8 ha => by rw [am_pi_row (by omega), f1.1 a (by omega)]
      refine am_g0 rfl rfl ?_
      refine am_kl (out _ ⟨h1, h2.fr (fun a _ _ => e a (by omega) (by omega)), ⟨⟨?_, (h3 t0).1.2.1, fun c hc => ?_, fun c hc a ha => ?_⟩, ?_⟩, ⟨⟨?_, g2.2.1, fun l hl => ?_⟩, am_pi_at _ _ _ _⟩, (h5 (by omega)).fr (fun a _ _ => e a (by omega) (by omega)) (e8 2 (by omega)), h6.fr (fun a _ _ => e a (by omega) (by omega)), h7.fr (fun a _ _ => e a (by omega) (by omega)), h8.fr (fun a _ _ => e a (by omega) (by omega)), by rw [e 0 (by omega) (by omega)]; exact h9⟩ (fun a ha _ => e a (by omega) (by omega))) rfl
      · rw [e 9 (by omega) (by omega)]; exact (h3 t0).1.1
      · rw [e 10 (by omega) (by omega)]; exact (h3 t0).1.2.2.1 c hc
      · rw [e 11 (by omega) (by omega)]; exact (h3 t0).1.2.2.2 c hc a ha
      · rw [e8 0 (by omega)]; exact (h3 t0).2
      · rw [am_pi_row (by omega)]; exact g2.1
      · rw [am_pi_row (by omega), am_pi_row (by omega), am_pi_row (by omega)]; exact g2.2.2 l hl
    · refine am_ff (show ¬ (nI t : Int32) = 1 from nne (b := 1) t1 (by omega) (by omega)) ?_
      refine am_go rfl ?_
      iterate 9 refine am_g0 rfl rfl ?_
      obtain ⟨⟨r1, w1⟩, ⟨e1, f1, g2⟩, hD1⟩ := d_pload (d := d - 1) (by omega) (h2 2 (by omega)).1
      dsimp only at e1 f1 g2
      subst e1
      refine ⟨(some (.int (opI (peopleR (S.tb 2) (S.tl 2)).1)), w1), hD1, ?_⟩
      refine am_to (lv' := [(0, .ref 0)]) (st' := [.int (opI (peopleR (S.tb 2) (S.tl 2)).1), .int 2, .ref 8]) (w' := w1) rfl rfl rfl ?_
      refine am_gsN (n := 3) (k := 2) rfl rfl (by omega) (by decide) ?_
      refine am_to (lv' := [(0, .ref 0)]) (st' := []) (w' := am_pi w1 8 2 (opI (peopleR (S.tb 2) (S.tl 2)).1)) rfl rfl rfl ?_
      have e8 : ∀ j, j ≠ 2 → (am_pi w1 8 2 (opI (peopleR (S.tb 2) (S.tl 2)).1)).1 8 j = w.1 8 j := fun j hj => by rw [am_pi_ne (Or.inr hj), f1.1 8 (by omega) (by omega) (by omega)]
      have e : ∀ a, a ≠ 8 → a < 16 ∨ 18 ≤ a → (am_pi w1 8 2 (opI (peopleR (S.tb 2) (S.tl 2)).1)).1 a = w.1 a := fun a h8 ha => by rw [am_pi_row (by omega), f1.1 a (by omega) (by omega) (by omega)]
      refine am_kl (out _ ⟨h1, h2.fr (fun a _ _ => e a (by omega) (by omega)), ⟨⟨?_, (h3 t0).1.2.1, fun c hc => ?_, fun c hc a ha => ?_⟩, ?_⟩, (h4 t1).fr (fun a _ _ => e a (by omega) (by omega)) (e8 1 (by omega)), ⟨⟨?_, g2.2.1, fun l hl => ?_⟩, am_pi_at _ _ _ _⟩, h6.fr (fun a _ _ => e a (by omega) (by omega)), h7.fr (fun a _ _ => e a (by omega) (by omega)), h8.fr (fun a _ _ => e a (by omega) (by omega)), by rw [e 0 (by omega) (by omega)]; exact h9⟩ (fun a ha _ => e a (by omega) (by omega))) rfl
      · rw [e 9 (by omega) (by omega)]; exact (h3 t0).1.1
      · rw [e 10 (by omega) (by omega)]; exact (h3 t0).1.2.2.1 c hc
      · rw [e 11 (by omega) (by omega)]; exact (h3 t0).1.2.2.2 c hc a ha
      · rw [e8 0 (by omega)]; exact (h3 t0).2
      · rw [am_pi_row (by omega)]; exact g2.1
      · rw [am_pi_row (by omega)]; exact g2.2.2 l hl
