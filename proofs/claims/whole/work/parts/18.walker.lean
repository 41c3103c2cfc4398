/-! one that walks -/
/-- the town and the lasts: n, K, nx, m, kd, ln, lt -/
abbrev Wd : Type := Nat × (Nat → Nat) × (Nat → Nat → Nat) × Nat × (Nat → Nat) × (Nat → Nat) × (Nat → Nat → Nat)
/-- start, left, right, soled, own -/
abbrev Pr : Type := Nat × Nat × Nat × Nat × Nat
/-- place, state, weight, times left, times right -/
abbrev Qs : Type := Nat × Nat × Nat × Nat × Nat
def cV (w : am_M) (V : Wd) : Prop := cTown w V.1 V.2.1 V.2.2.1 ∧ cLasts w V.2.2.2.1 V.2.2.2.2.1 V.2.2.2.2.2.1 V.2.2.2.2.2.2
def plc (q : Qs) : Int32 := if q.2.1 = 3 then -1 else nI q.1
def wbI : Option Nat → Int32
  | none => -1
  | some l => nI l
def wkP (F : Nat → Int32) (P : Pr) : Prop := F 2 = nI P.1 ∧ F 3 = nI P.2.1 ∧ F 4 = nI P.2.2.1 ∧ F 5 = nI P.2.2.2.1 ∧ F 6 = nI P.2.2.2.2
def wkQ (F : Nat → Int32) (q : Qs) (b : Option Nat) : Prop := F 7 = plc q ∧ F 8 = nI q.2.1 ∧ F 9 = nI q.2.2.1 ∧ F 10 = nI q.2.2.2.1 ∧ F 11 = nI q.2.2.2.2 ∧ F 12 = wbI b
/-- nothing but cell b has changed -/
def am_fr (b : Nat) (w w' : am_M) : Prop := (∀ a, a ≠ b → w'.1 a = w.1 a) ∧ w'.2 = w.2
theorem am_fr.rf {b : Nat} {w : am_M} : am_fr b w w := ⟨fun _ _ => rfl, rfl⟩
theorem am_fr.pi {b j : Nat} {w w' : am_M} {x : Int32} (h : am_fr b w w') : am_fr b w (am_pi w' b j x) := ⟨fun a ha => (funext fun i => by simp [am_pi, ha]).trans (h.1 a ha), h.2⟩
theorem am_fr.tr {b : Nat} {w w' w'' : am_M} (h : am_fr b w w') (h' : am_fr b w' w'') : am_fr b w w'' := ⟨fun a ha => (h'.1 a ha).trans (h.1 a ha), h'.2.trans h.2⟩
theorem am_pi_row {w : am_M} {k j a : Nat} {x : Int32} (h : a ≠ k) : (am_pi w k j x).1 a = w.1 a := funext fun i => by simp [am_pi, h]
theorem cTown.fr {w w' : am_M} {n : Nat} {K : Nat → Nat} {nx : Nat → Nat → Nat} (h : cTown w n K nx) (e : ∀ a, a < 12 → w'.1 a = w.1 a) : cTown w' n K nx := by
  obtain ⟨h1, h2, h3, h4⟩ := h
  exact ⟨by rw [e 9 (by omega)]; exact h1, h2, fun c hc => by rw [e 10 (by omega)]; exact h3 c hc, fun c hc a ha => by rw [e 11 (by omega)]; exact h4 c hc a ha⟩
theorem cLasts.fr {w w' : am_M} {m : Nat} {kd ln : Nat → Nat} {lt : Nat → Nat → Nat} (h : cLasts w m kd ln lt) (e : ∀ a, a < 16 → w'.1 a = w.1 a) : cLasts w' m kd ln lt := by
  obtain ⟨h1, h2, h3⟩ := h
  exact ⟨by rw [e 12 (by omega)]; exact h1, h2, fun l hl => by rw [e 13 (by omega), e 14 (by omega), e 15 (by omega)]; exact h3 l hl⟩
theorem cV.fr {w w' : am_M} {V : Wd} (h : cV w V) (e : ∀ a, a < 16 → w'.1 a = w.1 a) : cV w' V := ⟨h.1.fr (fun a ha => e a (by omega)), h.2.fr e⟩
theorem cPeople.fr {w w' : am_M} {q : Nat} {pf : Nat → Nat → Nat} (h : cPeople w q pf) (e : ∀ a, a < 18 → w'.1 a = w.1 a) : cPeople w' q pf := by
  obtain ⟨h1, h2, h3⟩ := h
  exact ⟨by rw [e 16 (by omega)]; exact h1, h2, fun p hp => by rw [e 17 (by omega)]; exact h3 p hp⟩
/-- ahead of step 0 -/
def beginS (V : Wd) (P : Pr) : Qs := if P.1 < V.1 then (P.1, stOf (V.2.1 P.1), 0, 0, 0) else (P.1, 3, 0, 0, 0)
/-- a step -/
def goS (V : Wd) (P : Pr) (s : Nat) (r : Bool) (q : Qs) : Qs × Option Nat :=
  if q.2.1 ≠ 0 then (q, none) else
  if (if r then 0 else q.2.2.1 + 2 ^ P.2.2.2.1) < 3 ^ P.2.2.2.1 then
    ((V.2.2.1 q.1 P.2.2.2.2, stOf (V.2.1 (V.2.2.1 q.1 P.2.2.2.2)), (if r then 0 else q.2.2.1 + 2 ^ P.2.2.2.1), q.2.2.2.1, q.2.2.2.2), none)
  else
    if (if s % 2 = 0 then P.2.1 else P.2.2.1) < V.2.2.2.1 then
      ((V.2.2.1 q.1 (wayS (V.2.2.2.2.1 (if s % 2 = 0 then P.2.1 else P.2.2.1)) (V.2.2.2.2.2.1 (if s % 2 = 0 then P.2.1 else P.2.2.1)) (V.2.2.2.2.2.2 (if s % 2 = 0 then P.2.1 else P.2.2.1)) (if s % 2 = 0 then q.2.2.2.1 else q.2.2.2.2)),
        stOf (V.2.1 (V.2.2.1 q.1 (wayS (V.2.2.2.2.1 (if s % 2 = 0 then P.2.1 else P.2.2.1)) (V.2.2.2.2.2.1 (if s % 2 = 0 then P.2.1 else P.2.2.1)) (V.2.2.2.2.2.2 (if s % 2 = 0 then P.2.1 else P.2.2.1)) (if s % 2 = 0 then q.2.2.2.1 else q.2.2.2.2)))),
        (if r then 0 else q.2.2.1 + 2 ^ P.2.2.2.1) - 3 ^ P.2.2.2.1, q.2.2.2.1 + (if s % 2 = 0 then 1 else 0), q.2.2.2.2 + (if s % 2 = 0 then 0 else 1)), some (if s % 2 = 0 then P.2.1 else P.2.2.1))
    else
      ((V.2.2.1 q.1 P.2.2.2.2, stOf (V.2.1 (V.2.2.1 q.1 P.2.2.2.2)), (if r then 0 else q.2.2.1 + 2 ^ P.2.2.2.1) - 3 ^ P.2.2.2.1, q.2.2.2.1, q.2.2.2.2), none)
def Pok (P : Pr) : Prop := P.1 < 40 ∧ P.2.1 < 8 ∧ P.2.2.1 < 8 ∧ P.2.2.2.1 < 6 ∧ P.2.2.2.2 < 4
def qok (V : Wd) (P : Pr) (q : Qs) (k : Nat) : Prop := q.2.1 < 4 ∧ (q.2.1 ≠ 3 → q.1 < V.1 ∧ q.2.1 = stOf (V.2.1 q.1)) ∧ q.2.2.1 < 3 ^ P.2.2.2.1 ∧ q.2.2.2.1 ≤ k ∧ q.2.2.2.2 ≤ k
theorem stOf_lt (k : Nat) : stOf k < 4 := by unfold stOf; split; omega; split; omega; split; omega; omega
theorem pow_bd (s : Nat) (h : s < 6) : 2 ^ s ≤ 32 ∧ 2 ^ s ≤ 3 ^ s ∧ 3 ^ s ≤ 243 ∧ ([1, 3, 9, 27, 81, 243] : List Int32)[s]? = some (nI (3 ^ s)) := by
  match s, h with
  | 0, _ => exact ⟨by decide, by decide, by decide, rfl⟩
  | 1, _ => exact ⟨by decide, by decide, by decide, rfl⟩
  | 2, _ => exact ⟨by decide, by decide, by decide, rfl⟩
  | 3, _ => exact ⟨by decide, by decide, by decide, rfl⟩
  | 4, _ => exact ⟨by decide, by decide, by decide, rfl⟩
  | 5, _ => exact ⟨by decide, by decide, by decide, rfl⟩
theorem stOf_3 {k : Nat} (h : k < 4) (h1 : k ≠ 1) : ¬ stOf k = 3 := by
  rcases (show k = 0 ∨ k = 2 ∨ k = 3 by omega) with e | e | e <;> rw [e] <;> decide
theorem shl_one {s : Nat} (h : s < 6) : (1 : Int32) <<< (nI s &&& 31) = nI (2 ^ s) := by
  rcases (show s = 0 ∨ s = 1 ∨ s = 2 ∨ s = 3 ∨ s = 4 ∨ s = 5 by omega) with e | e | e | e | e | e <;> rw [e] <;> decide
/-- no way leads onto a wall -/
theorem plc_free {w : am_M} {V : Wd} (hV : cV w V) {c a x y z : Nat} (hc : c < V.1) (ha : a < 4) (hk : V.2.1 c ≠ 1) : nI (V.2.2.1 c a) = plc (V.2.2.1 c a, stOf (V.2.1 (V.2.2.1 c a)), x, y, z) := by
  obtain ⟨-, h2, h3⟩ := hV.1.2.2.2 c hc a ha
  unfold plc
  rw [if_neg]
  exact stOf_3 (hV.1.2.2.1 _ h2).2 (h3 hk)
theorem d_wear_52 {d q p : Nat} {pf : Nat → Nat → Nat} {w : am_M} (hd : 2 ≤ d) (hP : cPeople w q pf) (hp : p < q) : ∃ o : am_O, (o.1 = none ∧ am_fr 52 w o.2 ∧ wkP (o.2.1 52) (pf p 0, pf p 1, pf p 2, pf p 3, pf p 4)) ∧ am_D shC d mi_X10_wear [.ref 52, .ref 16, .int (nI p)] w o := by
  refine am_dex (by omega) rfl rfl ?_
  iterate 5 (first | refine am_g0 rfl rfl ?_ | refine am_go rfl ?_)
  refine ⟨(some (.int (nI (pf p 0))), w), d_ptold (j := 0) (by omega) hP hp (by omega), ?_⟩
  iterate 6 (first | refine am_g0 rfl rfl ?_ | refine am_go rfl ?_)
  refine ⟨(some (.int (nI (pf p 1))), _), d_ptold (j := 1) (by omega) (hP.fr (fun a ha => am_pi_row (by omega))) hp (by omega), ?_⟩
  iterate 6 (first | refine am_g0 rfl rfl ?_ | refine am_go rfl ?_)
  refine ⟨(some (.int (nI (pf p 2))), _), d_ptold (j := 2) (by omega) (hP.fr (fun a ha => (am_pi_row (by omega)).trans (am_pi_row (by omega)))) hp (by omega), ?_⟩
  iterate 6 (first | refine am_g0 rfl rfl ?_ | refine am_go rfl ?_)
  refine ⟨(some (.int (nI (pf p 3))), _), d_ptold (j := 3) (by omega) (hP.fr (fun a ha => (am_pi_row (by omega)).trans ((am_pi_row (by omega)).trans (am_pi_row (by omega))))) hp (by omega), ?_⟩
  iterate 6 (first | refine am_g0 rfl rfl ?_ | refine am_go rfl ?_)
  refine ⟨(some (.int (nI (pf p 4))), _), d_ptold (j := 4) (by omega) (hP.fr (fun a ha => (am_pi_row (by omega)).trans ((am_pi_row (by omega)).trans ((am_pi_row (by omega)).trans (am_pi_row (by omega)))))) hp (by omega), ?_⟩
  iterate 2 (first | refine am_g0 rfl rfl ?_ | refine am_go rfl ?_)
  exact ⟨rfl, rfl, ((((am_fr.rf.pi).pi).pi).pi).pi, rfl, rfl, rfl, rfl, rfl⟩
theorem d_begin_52 {d : Nat} {V : Wd} {P : Pr} {w : am_M} (hd : 2 ≤ d) (hV : cV w V) (hP : wkP (w.1 52) P) (hk : P.1 < 40) : ∃ o : am_O, (o.1 = none ∧ am_fr 52 w o.2 ∧ wkP (o.2.1 52) P ∧ wkQ (o.2.1 52) (beginS V P) none) ∧ am_D shC d mi_X10_begin [.ref 52] w o := by
  have hT := hV.1
  refine am_dex (by omega) rfl rfl ?_
  iterate 6 (first | refine am_g0 rfl rfl ?_ | refine am_go rfl ?_)
  obtain ⟨p1, p2, p3, p4, p5⟩ := hP
  rw [p1]
  by_cases hc : P.1 < V.1
  · refine ⟨(some (.int (nI (stOf (V.2.1 P.1)))), w), d_stateOn_t (by omega) hT hc, ?_⟩
    iterate 6 (first | refine am_g0 rfl rfl ?_ | refine am_go rfl ?_)
    have hst : stOf (V.2.1 P.1) < 4 := by unfold stOf; split; omega; split; omega; split; omega; omega
    by_cases h3 : stOf (V.2.1 P.1) = 3
    · refine am_tt (show nI (stOf (V.2.1 P.1)) = 3 by rw [h3]; rfl) ?_
      iterate 16 (first | refine am_g0 rfl rfl ?_ | refine am_go rfl ?_)
      have hb : beginS V P = (P.1, 3, 0, 0, 0) := by unfold beginS; rw [if_pos hc, h3]
      refine ⟨rfl, rfl, ((((((am_fr.rf.pi).pi).pi).pi).pi).pi), ⟨p1, p2, p3, p4, p5⟩, ?_⟩
      rw [hb]
      refine ⟨rfl, ?_, rfl, rfl, rfl, rfl⟩
      show nI (stOf (V.2.1 P.1)) = nI 3
      rw [h3]
    · refine am_ff (show ¬ nI (stOf (V.2.1 P.1)) = 3 from fun z => h3 ((nI_eq (b := 3) (by omega) (by omega)).mp z)) ?_
      iterate 16 (first | refine am_g0 rfl rfl ?_ | refine am_go rfl ?_)
      have hb : beginS V P = (P.1, stOf (V.2.1 P.1), 0, 0, 0) := by unfold beginS; rw [if_pos hc]
      refine ⟨rfl, rfl, ((((((am_fr.rf.pi).pi).pi).pi).pi).pi), ⟨p1, p2, p3, p4, p5⟩, ?_⟩
      rw [hb]
      refine ⟨?_, rfl, rfl, rfl, rfl, rfl⟩
      show w.1 52 2 = plc (P.1, stOf (V.2.1 P.1), 0, 0, 0)
      rw [p1]
      unfold plc
      rw [if_neg h3]
  · refine ⟨(some (.int 3), w), d_stateOn_f (by omega) hT (Or.inr (nI_le (by omega) (by omega))), ?_⟩
    iterate 22 (first | refine am_g0 rfl rfl ?_ | refine am_go rfl ?_)
    have hb : beginS V P = (P.1, 3, 0, 0, 0) := by unfold beginS; rw [if_neg hc]
    refine ⟨rfl, rfl, ((((((am_fr.rf.pi).pi).pi).pi).pi).pi), ⟨p1, p2, p3, p4, p5⟩, ?_⟩
    rw [hb]
    exact ⟨rfl, rfl, rfl, rfl, rfl, rfl⟩
theorem d_gotail_52 {d : Nat} {V : Wd} {w : am_M} {c a : Nat} {x : Int32} {Φ : am_O → Prop} (hd : 1 ≤ d) (hV : cV w V) (hc : w.1 52 7 = nI c) (hcn : c < V.1) (hx : x = nI a) (ha : a < 4) (hΦ : Φ (none, am_pi (am_pi w 52 7 (nI (V.2.2.1 c a))) 52 8 (nI (stOf (V.2.1 (V.2.2.1 c a)))))) : am_R shC mi_X10_go (am_D shC d) Φ 186 [(0, .ref 52), (3, .int x)] [] w := by
  have hT := hV.1
  subst hx
  iterate 7 (first | refine am_g0 rfl rfl ?_ | refine am_go rfl ?_)
  rw [hc]
  refine ⟨(some (.int (nI (V.2.2.1 c a))), w), d_nextOf hd hT hcn ha, ?_⟩
  iterate 7 (first | refine am_g0 rfl rfl ?_ | refine am_go rfl ?_)
  refine ⟨(some (.int (nI (stOf (V.2.1 (V.2.2.1 c a))))), _), d_stateOn_t hd (hT.fr (fun b hb => am_pi_row (by omega))) ((hT.2.2.2 c hcn a ha).2.1), ?_⟩
  iterate 2 (first | refine am_g0 rfl rfl ?_ | refine am_go rfl ?_)
  exact ⟨rfl, hΦ⟩
set_option maxHeartbeats 8000000 in
theorem d_go_52 {d : Nat} {V : Wd} {P : Pr} {q : Qs} {b0 : Option Nat} {s : Nat} {r : Bool} {w : am_M} (hd : 2 ≤ d) (hV : cV w V) (hP : wkP (w.1 52) P) (hPb : Pok P) (hQ : wkQ (w.1 52) q b0) (hq : qok V P q s) (hs : s < 30) : ∃ o : am_O, (o.1 = none ∧ am_fr 52 w o.2 ∧ wkP (o.2.1 52) P ∧ wkQ (o.2.1 52) (goS V P s r q).1 (goS V P s r q).2) ∧ am_D shC d mi_X10_go [.ref 52, .int (nI s), .int (if r then 1 else 0)] w o := by
  obtain ⟨p1, p2, p3, p4, p5⟩ := hP
  obtain ⟨q1, q2, q3, q4, q5, q6⟩ := hQ
  obtain ⟨b1, b2, b3, b4, b5⟩ := hPb
  obtain ⟨qa, qb, qc, qd, qe⟩ := hq
  have hsol := pow_bd P.2.2.2.1 b4
  refine am_dex (by omega) rfl rfl ?_
  iterate 6 (first | refine am_g0 rfl rfl ?_ | refine am_go rfl ?_)
  by_cases h0 : q.2.1 = 0
  · refine am_tt (show w.1 52 8 = 0 by rw [q2, h0]; rfl) ?_
    have hpl : w.1 52 7 = nI q.1 := by rw [q1]; unfold plc; rw [if_neg (by omega)]
    have hcn : q.1 < V.1 := (qb (by omega)).1
    have hk1 : V.2.1 q.1 ≠ 1 := fun z => by
      have := (qb (by omega)).2
      rw [z, h0] at this
      exact absurd this (by decide)
    have h3 : ([1, 3, 9, 27, 81, 243] : List Int32).getD (w.1 52 5).toNatClampNeg 0 = nI (3 ^ P.2.2.2.1) := by rw [p4, nI_clamp (by omega), List.getD_eq_getElem?_getD, hsol.2.2.2]; rfl
    have h3b : ¬ (w.1 52 5 < 0 ∨ 6 ≤ (w.1 52 5).toNatClampNeg) := by rw [p4]; exact nI_in b4 (by decide)
    -- the weight that is put on
    have key : ∀ W0 : Nat, W0 = (if r then 0 else q.2.2.1 + 2 ^ P.2.2.2.1) → am_R shC mi_X10_go (am_D shC (d - 1)) (fun o => o.1 = none ∧ am_fr 52 w o.2 ∧ wkP (o.2.1 52) P ∧ wkQ (o.2.1 52) (goS V P s r q).1 (goS V P s r q).2) 38 [(0, .ref 52), (1, .int (nI s)), (3, .int (w.1 52 6))] [.int (nI W0), .ref 52] (am_pi w 52 12 (-1)) := by
      intro W0 hW0
      have hW1 : W0 < 1000 := by rw [hW0]; split <;> omega
      iterate 7 (first | refine am_g0 rfl rfl ?_ | refine am_go rfl ?_)
      refine am_ff h3b ?_
      refine am_top h3 ?_
      iterate 1 (first | refine am_g0 rfl rfl ?_ | refine am_go rfl ?_)
      by_cases hw : W0 < 3 ^ P.2.2.2.1
      · refine am_tt (show nI W0 < nI (3 ^ P.2.2.2.1) from nI_lt hw (by omega)) ?_
        have hg : goS V P s r q = ((V.2.2.1 q.1 P.2.2.2.2, stOf (V.2.1 (V.2.2.1 q.1 P.2.2.2.2)), W0, q.2.2.2.1, q.2.2.2.2), none) := by unfold goS; rw [if_neg (by omega), ← hW0, if_pos hw]
        rw [hg]
        refine am_kl (d_gotail_52 (by omega) (hV.fr (fun a ha => ?_)) (c := q.1) hpl hcn p5 b5 ?_) rfl
        · exact ((am_fr.rf.pi).pi (b := 52)).1 a (by omega)
        · exact ⟨rfl, ((((am_fr.rf.pi).pi).pi).pi), ⟨p1, p2, p3, p4, p5⟩, plc_free hV hcn b5 hk1, rfl, rfl, q4, q5, rfl⟩
      · refine am_ff (show ¬ nI W0 < nI (3 ^ P.2.2.2.1) from nI_nlt (by omega) (by omega)) ?_
        iterate 7 (first | refine am_g0 rfl rfl ?_ | refine am_go rfl ?_)
        refine am_ff h3b ?_
        refine am_top h3 ?_
        iterate 1 (first | refine am_g0 rfl rfl ?_ | refine am_go rfl ?_)
        refine am_top (y := nI (W0 - 3 ^ P.2.2.2.1)) (pk_sub (by omega)) ?_
        -- which foot
        have foot : ∀ (ev : Bool) (l t : Nat), (ev = true ↔ s % 2 = 0) → l = (if s % 2 = 0 then P.2.1 else P.2.2.1) → t = (if s % 2 = 0 then q.2.2.2.1 else q.2.2.2.2) → am_R shC mi_X10_go (am_D shC (d - 1)) (fun o => o.1 = none ∧ am_fr 52 w o.2 ∧ wkP (o.2.1 52) P ∧ wkQ (o.2.1 52) (goS V P s r q).1 (goS V P s r q).2) 84 [(0, .ref 52), (3, .int (w.1 52 6))] [.int (if ev then 1 else 0)] (am_pi (am_pi (am_pi w 52 12 (-1)) 52 9 (nI W0)) 52 9 (nI (W0 - 3 ^ P.2.2.2.1))) := by
          intro ev l t hev hl ht
          have hl8 : l < 8 := by rw [hl]; split <;> omega
          have ht30 : t ≤ s := by rw [ht]; split <;> omega
          have hlm : V.2.2.2.1 ≤ 8 := hV.2.2.1
          by_cases hm : l < V.2.2.2.1
          · have hlet := (hV.2.2.2 l hm).2.2.2.2.2 (t % V.2.2.2.2.2.1 l) (Nat.mod_lt _ (by have := (hV.2.2.2 l hm).2.2.2.1; omega))
            obtain ⟨A, hA⟩ : ∃ A, A = wayS (V.2.2.2.2.1 l) (V.2.2.2.2.2.1 l) (V.2.2.2.2.2.2 l) t := ⟨_, rfl⟩
            have hway : A < 4 := by rw [hA]; exact wayS_lt hlet.2
            have hg : goS V P s r q = ((V.2.2.1 q.1 A, stOf (V.2.1 (V.2.2.1 q.1 A)), W0 - 3 ^ P.2.2.2.1, q.2.2.2.1 + (if s % 2 = 0 then 1 else 0), q.2.2.2.2 + (if s % 2 = 0 then 0 else 1)), some l) := by unfold goS; rw [if_neg (by omega), ← hW0, if_neg hw, ← hl, ← ht, if_pos hm, ← hA]
            have call : ∀ w1 : am_M, (∀ a, a < 16 → w1.1 a = w.1 a) → am_D shC (d - 1) mi_X0_wayOf [.ref 12, .int (nI l), .int (nI t)] w1 (some (.int (nI A)), w1) := fun w1 h1 => by rw [hA]; exact d_wayOf (by omega) (hV.2.fr h1) hm (by omega)
            have hw1 : ∀ a, a < 16 → (am_pi (am_pi (am_pi w 52 12 (-1)) 52 9 (nI W0)) 52 9 (nI (W0 - 3 ^ P.2.2.2.1))).1 a = w.1 a := fun a ha => (((am_fr.rf.pi).pi).pi (b := 52)).1 a (by omega)
            cases ev with
            | true =>
              have he : s % 2 = 0 := hev.mp rfl
              rw [if_pos he] at hl ht
              refine am_top (y := 1) rfl ?_
              iterate 12 (first | refine am_g0 rfl rfl ?_ | refine am_go rfl ?_)
              refine am_ff (show ¬ w.1 12 3 ≤ w.1 52 3 by rw [hV.2.1, p2, ← hl]; exact nI_ge hm (by omega)) ?_
              iterate 9 (first | refine am_g0 rfl rfl ?_ | refine am_go rfl ?_)
              refine ⟨(some (.int (nI A)), am_pi (am_pi (am_pi w 52 12 (-1)) 52 9 (nI W0)) 52 9 (nI (W0 - 3 ^ P.2.2.2.1))), (show am_D shC (d - 1) mi_X0_wayOf [.ref 12, .int (w.1 52 3), .int (w.1 52 10)] _ _ by rw [p2, q4, ← hl, ← ht]; exact call _ hw1), ?_⟩
              refine am_to (lv' := [(0, .ref 52), (4, .int 1), (5, .int (w.1 52 3))]) (st' := [.int (nI A)]) (w' := am_pi (am_pi (am_pi w 52 12 (-1)) 52 9 (nI W0)) 52 9 (nI (W0 - 3 ^ P.2.2.2.1))) rfl rfl rfl ?_
              iterate 22 (first | refine am_g0 rfl rfl ?_ | refine am_go rfl ?_)
              rw [hg, if_pos he, if_pos he]
              refine am_kl (d_gotail_52 (by omega) (hV.fr (fun a ha => ?_)) (c := q.1) hpl hcn rfl hway ?_) rfl
              · exact ((((((am_fr.rf.pi).pi).pi).pi).pi).pi (b := 52)).1 a (by omega)
              · refine ⟨rfl, ((((((((am_fr.rf.pi).pi).pi).pi).pi).pi).pi).pi), ⟨p1, p2, p3, p4, p5⟩, plc_free hV hcn hway hk1, rfl, rfl, ?_, ?_, ?_⟩
                · show w.1 52 10 + 1 = _
                  rw [q4, nI_1]
                · show w.1 52 11 + 0 = _
                  rw [q5]; exact Int32.add_zero _
                · show w.1 52 3 = _
                  rw [p2, ← hl]; rfl
            | false =>
              have he : ¬ s % 2 = 0 := fun z => by have := hev.mpr z; cases this
              rw [if_neg he] at hl ht
              refine am_top (y := 0) rfl ?_
              iterate 11 (first | refine am_g0 rfl rfl ?_ | refine am_go rfl ?_)
              refine am_ff (show ¬ w.1 12 3 ≤ w.1 52 4 by rw [hV.2.1, p3, ← hl]; exact nI_ge hm (by omega)) ?_
              iterate 8 (first | refine am_g0 rfl rfl ?_ | refine am_go rfl ?_)
              refine ⟨(some (.int (nI A)), am_pi (am_pi (am_pi w 52 12 (-1)) 52 9 (nI W0)) 52 9 (nI (W0 - 3 ^ P.2.2.2.1))), (show am_D shC (d - 1) mi_X0_wayOf [.ref 12, .int (w.1 52 4), .int (w.1 52 11)] _ _ by rw [p3, q5, ← hl, ← ht]; exact call _ hw1), ?_⟩
              refine am_to (lv' := [(0, .ref 52), (4, .int 0), (5, .int (w.1 52 4))]) (st' := [.int (nI A)]) (w' := am_pi (am_pi (am_pi w 52 12 (-1)) 52 9 (nI W0)) 52 9 (nI (W0 - 3 ^ P.2.2.2.1))) rfl rfl rfl ?_
              iterate 20 (first | refine am_g0 rfl rfl ?_ | refine am_go rfl ?_)
              rw [hg, if_neg he, if_neg he]
              refine am_kl (d_gotail_52 (by omega) (hV.fr (fun a ha => ?_)) (c := q.1) hpl hcn rfl hway ?_) rfl
              · exact ((((((am_fr.rf.pi).pi).pi).pi).pi).pi (b := 52)).1 a (by omega)
              · refine ⟨rfl, ((((((((am_fr.rf.pi).pi).pi).pi).pi).pi).pi).pi), ⟨p1, p2, p3, p4, p5⟩, plc_free hV hcn hway hk1, rfl, rfl, ?_, ?_, ?_⟩
                · show w.1 52 10 + 0 = _
                  rw [q4]; exact Int32.add_zero _
                · show w.1 52 11 + 1 = _
                  rw [q5, nI_1]
                · show w.1 52 4 = _
                  rw [p3, ← hl]; rfl
          · have hg : goS V P s r q = ((V.2.2.1 q.1 P.2.2.2.2, stOf (V.2.1 (V.2.2.1 q.1 P.2.2.2.2)), W0 - 3 ^ P.2.2.2.1, q.2.2.2.1, q.2.2.2.2), none) := by unfold goS; rw [if_neg (by omega), ← hW0, if_neg hw, ← hl, if_neg hm]
            have fin : ∀ lv, am_kill mi_X10_go 186 lv = [(0, .ref 52), (3, .int (w.1 52 6))] → am_R shC mi_X10_go (am_D shC (d - 1)) (fun o => o.1 = none ∧ am_fr 52 w o.2 ∧ wkP (o.2.1 52) P ∧ wkQ (o.2.1 52) (goS V P s r q).1 (goS V P s r q).2) 186 lv [] (am_pi (am_pi (am_pi w 52 12 (-1)) 52 9 (nI W0)) 52 9 (nI (W0 - 3 ^ P.2.2.2.1))) := by
              intro lv hlv
              rw [hg]
              refine am_kl (d_gotail_52 (by omega) (hV.fr (fun a ha => ?_)) (c := q.1) hpl hcn p5 b5 ?_) hlv
              · exact (((am_fr.rf.pi).pi).pi (b := 52)).1 a (by omega)
              · exact ⟨rfl, (((((am_fr.rf.pi).pi).pi).pi).pi), ⟨p1, p2, p3, p4, p5⟩, plc_free hV hcn b5 hk1, rfl, rfl, q4, q5, rfl⟩
            cases ev with
            | true =>
              have he : s % 2 = 0 := hev.mp rfl
              rw [if_pos he] at hl
              refine am_top (y := 1) rfl ?_
              iterate 12 (first | refine am_g0 rfl rfl ?_ | refine am_go rfl ?_)
              refine am_tt (show w.1 12 3 ≤ w.1 52 3 by rw [hV.2.1, p2, ← hl]; exact nI_le (by omega) (by omega)) ?_
              exact fin _ rfl
            | false =>
              have he : ¬ s % 2 = 0 := fun z => by have := hev.mpr z; cases this
              rw [if_neg he] at hl
              refine am_top (y := 0) rfl ?_
              iterate 11 (first | refine am_g0 rfl rfl ?_ | refine am_go rfl ?_)
              refine am_tt (show w.1 12 3 ≤ w.1 52 4 by rw [hV.2.1, p3, ← hl]; exact nI_le (by omega) (by omega)) ?_
              exact fin _ rfl
        iterate 4 (first | refine am_g0 rfl rfl ?_ | refine am_go rfl ?_)
        refine am_top (y := nI (s % 2)) (pk_rem (d := 2) (by omega) (by omega) (by omega)) ?_
        iterate 1 (first | refine am_g0 rfl rfl ?_ | refine am_go rfl ?_)
        by_cases he : s % 2 = 0
        · refine am_tt (show nI (s % 2) = 0 by rw [he]; rfl) ?_
          iterate 2 (first | refine am_g0 rfl rfl ?_ | refine am_go rfl ?_)
          exact am_kl (foot true _ _ ⟨fun _ => he, fun _ => rfl⟩ rfl rfl) rfl
        · refine am_ff (show ¬ nI (s % 2) = 0 from nI_ne0 (by omega) (by omega)) ?_
          iterate 1 (first | refine am_g0 rfl rfl ?_ | refine am_go rfl ?_)
          exact am_kl (foot false _ _ ⟨fun z => (Bool.false_ne_true z).elim, fun z => absurd z he⟩ rfl rfl) rfl
    cases r with
    | true =>
      iterate 8 (first | refine am_g0 rfl rfl ?_ | refine am_go rfl ?_)
      exact am_kl (key 0 rfl) rfl
    | false =>
      iterate 13 (first | refine am_g0 rfl rfl ?_ | refine am_go rfl ?_)
      refine am_top (y := nI (q.2.2.1 + 2 ^ P.2.2.2.1)) (show w.1 52 9 + (1 : Int32) <<< (w.1 52 5 &&& 31) = _ by rw [q3, p4, shl_one b4, nI_add]) ?_
      exact am_kl (key _ rfl) rfl
  · refine am_ff (show ¬ w.1 52 8 = 0 by rw [q2]; exact nI_ne0 (by omega) (by omega)) ?_
    iterate 1 (first | refine am_g0 rfl rfl ?_ | refine am_go rfl ?_)
    have hg : goS V P s r q = (q, none) := by unfold goS; rw [if_pos h0]
    rw [hg]
    exact ⟨rfl, rfl, am_fr.rf.pi, ⟨p1, p2, p3, p4, p5⟩, q1, q2, q3, q4, q5, rfl⟩
